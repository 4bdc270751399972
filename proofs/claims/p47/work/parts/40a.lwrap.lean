/-! the law's own methods: they call and catch -/
abbrev wV (g : Gg) (v0 : Nat) (ν : Nat → Int32) : va_W := [(v0, .inl (g.2.1 0, 34, .inl ν))]
abbrev wZ (g : Gg) (z0 : Nat) (ζ : Nat → Int64) : va_W := [(z0, .inl (g.2.1 2, 24, .inr (.inl ζ)))]
abbrev wP (g : Gg) (p0 : Nat) (ψ : Nat → Int32) : va_W := [(p0, .inl (g.2.1 0, 61, .inl ψ))]
/-! counts: a row made is one, 3 cells and 61 slots of the room -/
theorem k3 {n cap : Nat} (h : n ≤ cap) : 3 * n ≤ 3 * cap := Nat.mul_le_mul_left 3 h
theorem k61 {n cap : Nat} (h : n ≤ cap) : 61 * n ≤ 61 * cap := Nat.mul_le_mul_left 61 h
theorem ka3 {n cap : Nat} (h : n + 1 ≤ cap) : 3 * n + 1 ≤ 3 * cap := by omega
theorem ka61 {n cap : Nat} (h : n + 1 ≤ cap) : 61 * n + 61 ≤ 61 * cap := by omega
theorem kt3 {n cap : Nat} (h : n + 1 ≤ cap) : 3 * n + 3 ≤ 3 * cap := by omega
theorem kt61 {n cap : Nat} (h : n + 1 ≤ cap) : 61 * n + 18 ≤ 61 * cap := by omega
theorem kc3 {n e cap : Nat} (h : n + e ≤ cap) : 3 * n + 3 * e ≤ 3 * cap := by omega
theorem kc61 {n e cap : Nat} (h : n + e ≤ cap) : 61 * n + 61 * e ≤ 61 * cap := by omega
/-- how many other lines have a label -/
def uFr (ν : Nat → Int32) (x : Int32) : Nat → Nat → Nat
  | 0, _ => 0
  | m + 1, i => (if Int32.ofNat i = x ∨ ν (4 * i + 3) < 0 then 0 else 1) + uFr ν x m (i + 1)
def uF (ν : Nat → Int32) (x : Int32) : Nat := uFr ν x (ν 32).toNatClampNeg 0
def uSt (ν : Nat → Int32) (x : Int32) : Nat := (ν (4 * x.toNatClampNeg + 2)).toNatClampNeg
def uA (ν : Nat → Int32) (x p : Int32) : Nat := if p < ν (4 * x.toNatClampNeg + 2) then uF ν x else 0
def uB (ν : Nat → Int32) (x : Int32) : Nat := 1 + 2 * (uSt ν x * uF ν x)
def uI (ν : Nat → Int32) (x : Int32) : Nat := 25 + 3 * (uSt ν x * uF ν x)
def uL (ν : Nat → Int32) (x : Int32) : Nat := 3 + 2 * (uSt ν x * uF ν x)
/-- all steps of all lines -/
def uSr (ν : Nat → Int32) : Nat → Nat → Nat
  | 0, _ => 0
  | m + 1, i => (ν (4 * i + 2)).toNatClampNeg + uSr ν m (i + 1)
def uS (ν : Nat → Int32) : Nat := uSr ν (ν 32).toNatClampNeg 0
def uU (ν : Nat → Int32) : Nat := 6 * uS ν + 1208
def uK (ν : Nat → Int32) (c : Int32) : Nat := if ν 32 = 0 ∨ irm (c &&& 2147483647) 20 < 4 ∨ 13 < irm (c &&& 2147483647) 20 then 138 else uU ν
def xokv {α β : Type} (x : Option (Except String α)) (k : α → Option β) : Option β := match x with
  | some (.ok v) => k v
  | _ => none
theorem xov {α β : Type} {x : Option (Except String α)} {k : α → Option β} {o : β} (hf : xokv x k = some o) : ∃ v, x = some (.ok v) ∧ k v = some o := by
  match x, hf with
  | some (.ok v), hf => exact ⟨v, rfl, hf⟩
def xcase {ε α β : Type} (r : Except ε α) (h : ε → β) (k : α → β) : β := match r with
  | .error e => h e
  | .ok v => k v
theorem xe {ε α β : Type} {r : Except ε α} {h : ε → β} {k : α → β} {E : ε} {o : β} (hr : r = .error E) (hf : xcase r h k = o) : h E = o := by rw [hr] at hf; exact hf
theorem xo {ε α β : Type} {r : Except ε α} {h : ε → β} {k : α → β} {v : α} {o : β} (hr : r = .ok v) (hf : xcase r h k = o) : k v = o := by rw [hr] at hf; exact hf
section WR
variable {p : Program} {l : Launch} {e : Env} {R : Room} {s : State} {m : MethodId} {args : Array Value} {below : List Frame} {meth : Method} {c : Code} {H : Heap} {locs : List Loc} {cells slots : Nat} {Q : State → Prop}
variable {cc bytes : ByteArray} {pc index maxL nL mc ms n mcT msT : Nat} {ls : Array Slot} {rest st0 As : List Value} {y : MethodName} {ret : Option FieldType} {ws Ts : List Cond} {rm : Room} {own C : String} {b : Nat} {g : Gg} {A : Nat → Prop} {W0 Wc Wr W3 : va_W} {XC : String → State → State → Prop}
theorem w_iret {v r : Int32} (hx : p.tables.exec = Jvm.exec) (hb : c.code = cc) (hr : meth.sig.returnType = some .int) (hlocks : meth.locks = false) (hP : va_P g.1 vwCl W3 H) (hD : va_D A W3) (hS : va_S A s.heap H locs) (hcm : cells ≤ mcT ∧ slots ≤ msT) (hv : v = r) (hd : decode cc pc = .ok (.ireturn, 1)) :
    W p l e R s m args below meth c H locs cells slots (vx_MQ below (va_Qi (fun r' (_ : Unit) => r' = r) (fun _ t => PQ g W3 A t) A) XC args s mcT msT A) (F0 m pc ls [.int v]) :=
  W.widen hcm.1 hcm.2 (vx_ret (W.iret (v := v) hx hb hr (fun t ht _ => ⟨⟨v, (), rfl, hv, by rw [ht]; exact hP, hD⟩, hS.F ht⟩) hS.2.2 hd hlocks))
/-- behind a call that changed nothing of its cells: the whole world is as it was -/
theorem va_back {D : va_G} {cl : List vw_C} {A0 : Nat → Prop} {ws wc wr : va_W} {H H1 : Heap} (hP : va_P D cl ws H) (hD : va_D A0 ws) (isC isR : List Nat) (hC : isC.map (fun i => ws[i]?) = wc.map some) (hR : isR.map (fun i => ws[i]?) = wr.map some) (hnC : va_nd isC = true) (hnR : va_nd isR = true) (hdis : ∀ i ∈ isR, i ∉ isC)
    (hk : ∀ q : Nat, q < H.size → ¬ va_A wc H.size q → H1[q]? = H[q]?) (hF : ∀ q, va_A wc H.size q → A0 q) (hP1 : va_P D cl wc H1) (hD1 : va_D (va_A wc H.size) wc) : va_P D cl ws H1 ∧ va_D A0 ws := by
  refine ⟨fun k q hq => ?_, hD⟩
  by_cases h : ∃ j : Nat, wc[j]? = some q
  · obtain ⟨j, hj⟩ := h
    exact hP1 j q hj
  · refine (hP k q hq).kept (hk q.1 (hP k q hq).lt (fun hA => ?_))
    rcases hA with ⟨j, e, hj⟩ | hge
    · -- the same address lies in the callee's cells: then it is the same cell
      have h1 : (isC.map (fun i => ws[i]?))[j]? = some (some (q.1, e)) := by rw [hC, List.getElem?_map, hj]; rfl
      rw [List.getElem?_map] at h1
      obtain ⟨i, hi, hwi⟩ := Option.map_eq_some_iff.mp h1
      have hki : k = i := hD.1 k i q (q.1, e) hq hwi rfl
      subst hki
      rw [hq] at hwi
      exact h ⟨j, by rw [hj, ← Option.some.inj hwi]⟩
    · exact absurd (hP k q hq).lt (Nat.not_lt.mpr hge)
theorem wcallVi {o : Except String Int32} (isC isR isN : List Nat) (ci q0 : Nat) {fs : List Value} {q : vw_C} (K : CallFix p m c cc nL s args Ts own) (hP : va_P g.1 vwCl W0 H) (hD : va_D A W0) (hE : EV g s) (hZ : SZ g A s s.heap) (hS : va_S A s.heap H locs) (hA : ∀ q, s.heap.size ≤ q → A q)
    (hM : vx_Met l y ws rm (va_Pc (.ref b :: As) (PM g Wc H.size)) (QXi g Wc (va_A Wc H.size) o) (XE g Wc (va_A Wc H.size) o) mc ms (va_A Wc H.size)) (cw : CallW R s args own C index y bytes maxL ret ws rm mc ms n)
    (hC : isC.map (fun i => W0[i]?) = Wc.map some) (hR : isR.map (fun i => W0[i]?) = Wr.map some) (hN : isN.map (fun i => (Wr ++ Wc)[i]?) = W0.map some) (hnC : va_nd isC = true) (hnR : va_nd isR = true) (hdis : ∀ i ∈ isR, i ∉ isC) (hnN : va_nd isN = true)
    (hc : vwCl[ci]? = some q) (he : Wc[q0]? = some (b, .inr (ci, fs))) (hqC : q.1 = C) (hn : As.length = n) (hsize : ls.size = nL) (hst : st0 = As.reverse ++ .ref b :: rest) (hW : (rest.map fun v => v.category).sum ≤ 8) (hcl : cells + mc ≤ R.cells ∧ slots + ms ≤ R.slots)
    (hdg : decode cc pc = .ok (.invokevirtual index, 3))
    (kx : ∀ (E : String) (ce : Cell) (q9 : Addr) (H1 : Heap) (locs1 : List Loc), o = .error E → va_P g.1 vwCl W0 H1 → va_D A W0 → va_S A s.heap H1 locs1 → H1[q9]? = some ce → ce.vm = .none → s.vm.findClass E = some ce.cls → vx_W p l e R s m args below meth c H1 locs1 (cells + mc) (slots + ms) Q (F0 m pc ls rest) q9)
    (kk : ∀ (v : Int32) (H1 : Heap) (locs1 : List Loc), o = .ok v → va_P g.1 vwCl (W0) H1 → va_D A (W0) → va_S A s.heap H1 locs1 → W p l e R s m args below meth c H1 locs1 (cells + mc) (slots + ms) Q (F0 m (pc + 3) ls (.int v :: rest))) : W p l e R s m args below meth c H locs cells slots Q (F0 m pc ls st0) := by
  have hPc := hP.sub (ws' := Wc) isC (map_fm hC)
  have hFc := va_free hD hS hA isC hC
  obtain ⟨cell, h1, h2, h3⟩ := va_recv hE.1 hPc hc he
  refine vx_calli (vx_runV (As := As) (rest := rest) K hM cw ⟨fbM, ⟨cell, h1, h2, hqC ▸ h3⟩, fun U hU hW => ⟨rfl, mPre hP hD hE hZ hS hA isC hC hnC U hU hW⟩⟩ rfl hn hsize hst (lv_room hW) hdg hcl) hS (fun q _ h => hFc q h) hFc (fun q _ h => hFc q h) (fun E ce q9 u t H1 locs1 ht hvm hpx hB hz1 hk1 hS1 hcell hcv hcls => ?_) (fun r' u t H1 locs1 ht hvm hw hB hz1 hk1 hS1 => ?_)
  · obtain ⟨ho, hP1, hD1⟩ := hB
    rw [ht] at hP1
    obtain ⟨hP2, hD2⟩ := va_join hP hD isC isR hC hR hnR hdis hk1 hFc hP1 hD1
    exact kx E ce q9 H1 locs1 ho (hP2.sub isN (map_fm hN)) (hD2.sub isN hnN hN) hS1 hcell hcv hcls
  · obtain ⟨hP1, hD1⟩ := hB
    rw [ht] at hP1
    obtain ⟨hP2, hD2⟩ := va_join hP hD isC isR hC hR hnR hdis hk1 hFc hP1 hD1
    exact kk r' H1 locs1 hw (hP2.sub isN (map_fm hN)) (hD2.sub isN hnN hN) hS1

theorem wcallVb {o : Except String Bool} (isC isR isN : List Nat) (ci q0 : Nat) {fs : List Value} {q : vw_C} (K : CallFix p m c cc nL s args Ts own) (hP : va_P g.1 vwCl W0 H) (hD : va_D A W0) (hE : EV g s) (hZ : SZ g A s s.heap) (hS : va_S A s.heap H locs) (hA : ∀ q, s.heap.size ≤ q → A q)
    (hM : vx_Met l y ws rm (va_Pc (.ref b :: As) (PM g Wc H.size)) (QXb g Wc (va_A Wc H.size) o) (XE g Wc (va_A Wc H.size) o) mc ms (va_A Wc H.size)) (cw : CallW R s args own C index y bytes maxL ret ws rm mc ms n)
    (hC : isC.map (fun i => W0[i]?) = Wc.map some) (hR : isR.map (fun i => W0[i]?) = Wr.map some) (hN : isN.map (fun i => (Wr ++ Wc)[i]?) = W0.map some) (hnC : va_nd isC = true) (hnR : va_nd isR = true) (hdis : ∀ i ∈ isR, i ∉ isC) (hnN : va_nd isN = true)
    (hc : vwCl[ci]? = some q) (he : Wc[q0]? = some (b, .inr (ci, fs))) (hqC : q.1 = C) (hn : As.length = n) (hsize : ls.size = nL) (hst : st0 = As.reverse ++ .ref b :: rest) (hW : (rest.map fun v => v.category).sum ≤ 8) (hcl : cells + mc ≤ R.cells ∧ slots + ms ≤ R.slots)
    (hdg : decode cc pc = .ok (.invokevirtual index, 3))
    (kx : ∀ (E : String) (ce : Cell) (q9 : Addr) (H1 : Heap) (locs1 : List Loc), o = .error E → va_P g.1 vwCl W0 H1 → va_D A W0 → va_S A s.heap H1 locs1 → H1[q9]? = some ce → ce.vm = .none → s.vm.findClass E = some ce.cls → vx_W p l e R s m args below meth c H1 locs1 (cells + mc) (slots + ms) Q (F0 m pc ls rest) q9)
    (kk : ∀ (v : Bool) (H1 : Heap) (locs1 : List Loc), o = .ok v → va_P g.1 vwCl (W0) H1 → va_D A (W0) → va_S A s.heap H1 locs1 → W p l e R s m args below meth c H1 locs1 (cells + mc) (slots + ms) Q (F0 m (pc + 3) ls (.int (b2i v) :: rest))) : W p l e R s m args below meth c H locs cells slots Q (F0 m pc ls st0) := by
  have hPc := hP.sub (ws' := Wc) isC (map_fm hC)
  have hFc := va_free hD hS hA isC hC
  obtain ⟨cell, h1, h2, h3⟩ := va_recv hE.1 hPc hc he
  refine vx_calli (vx_runV (As := As) (rest := rest) K hM cw ⟨fbM, ⟨cell, h1, h2, hqC ▸ h3⟩, fun U hU hW => ⟨rfl, mPre hP hD hE hZ hS hA isC hC hnC U hU hW⟩⟩ rfl hn hsize hst (lv_room hW) hdg hcl) hS (fun q _ h => hFc q h) hFc (fun q _ h => hFc q h) (fun E ce q9 u t H1 locs1 ht hvm hpx hB hz1 hk1 hS1 hcell hcv hcls => ?_) (fun r' u t H1 locs1 ht hvm hw hB hz1 hk1 hS1 => ?_)
  · obtain ⟨ho, hP1, hD1⟩ := hB
    rw [ht] at hP1
    obtain ⟨hP2, hD2⟩ := va_join hP hD isC isR hC hR hnR hdis hk1 hFc hP1 hD1
    exact kx E ce q9 H1 locs1 ho (hP2.sub isN (map_fm hN)) (hD2.sub isN hnN hN) hS1 hcell hcv hcls
  · obtain ⟨hP1, hD1⟩ := hB
    rw [ht] at hP1
    obtain ⟨hP2, hD2⟩ := va_join hP hD isC isR hC hR hnR hdis hk1 hFc hP1 hD1
    obtain ⟨ho, hv⟩ := hw
    rw [hv]
    exact kk u H1 locs1 ho (hP2.sub isN (map_fm hN)) (hD2.sub isN hnN hN) hS1

theorem wcallVd {o : Except String UInt64} (isC isR isN : List Nat) (ci q0 : Nat) {fs : List Value} {q : vw_C} (K : CallFix p m c cc nL s args Ts own) (hP : va_P g.1 vwCl W0 H) (hD : va_D A W0) (hE : EV g s) (hZ : SZ g A s s.heap) (hS : va_S A s.heap H locs) (hA : ∀ q, s.heap.size ≤ q → A q)
    (hM : vx_Met l y ws rm (va_Pc (.ref b :: As) (PM g Wc H.size)) (QXd g Wc (va_A Wc H.size) o) (XE g Wc (va_A Wc H.size) o) mc ms (va_A Wc H.size)) (cw : CallW R s args own C index y bytes maxL ret ws rm mc ms n)
    (hC : isC.map (fun i => W0[i]?) = Wc.map some) (hR : isR.map (fun i => W0[i]?) = Wr.map some) (hN : isN.map (fun i => (Wr ++ Wc)[i]?) = W0.map some) (hnC : va_nd isC = true) (hnR : va_nd isR = true) (hdis : ∀ i ∈ isR, i ∉ isC) (hnN : va_nd isN = true)
    (hc : vwCl[ci]? = some q) (he : Wc[q0]? = some (b, .inr (ci, fs))) (hqC : q.1 = C) (hn : As.length = n) (hsize : ls.size = nL) (hst : st0 = As.reverse ++ .ref b :: rest) (hW : (rest.map fun v => v.category).sum ≤ 8) (hcl : cells + mc ≤ R.cells ∧ slots + ms ≤ R.slots)
    (hdg : decode cc pc = .ok (.invokevirtual index, 3))
    (kx : ∀ (E : String) (ce : Cell) (q9 : Addr) (H1 : Heap) (locs1 : List Loc), o = .error E → va_P g.1 vwCl W0 H1 → va_D A W0 → va_S A s.heap H1 locs1 → H1[q9]? = some ce → ce.vm = .none → s.vm.findClass E = some ce.cls → vx_W p l e R s m args below meth c H1 locs1 (cells + mc) (slots + ms) Q (F0 m pc ls rest) q9)
    (kk : ∀ (v : UInt64) (H1 : Heap) (locs1 : List Loc), o = .ok v → va_P g.1 vwCl (W0) H1 → va_D A (W0) → va_S A s.heap H1 locs1 → W p l e R s m args below meth c H1 locs1 (cells + mc) (slots + ms) Q (F0 m (pc + 3) ls (.double v :: rest))) : W p l e R s m args below meth c H locs cells slots Q (F0 m pc ls st0) := by
  have hPc := hP.sub (ws' := Wc) isC (map_fm hC)
  have hFc := va_free hD hS hA isC hC
  obtain ⟨cell, h1, h2, h3⟩ := va_recv hE.1 hPc hc he
  refine vx_calld (vx_runV (As := As) (rest := rest) K hM cw ⟨fbM, ⟨cell, h1, h2, hqC ▸ h3⟩, fun U hU hW => ⟨rfl, mPre hP hD hE hZ hS hA isC hC hnC U hU hW⟩⟩ rfl hn hsize hst (lv_room hW) hdg hcl) hS (fun q _ h => hFc q h) hFc (fun q _ h => hFc q h) (fun E ce q9 u t H1 locs1 ht hvm hpx hB hz1 hk1 hS1 hcell hcv hcls => ?_) (fun r' u t H1 locs1 ht hvm hw hB hz1 hk1 hS1 => ?_)
  · obtain ⟨ho, hP1, hD1⟩ := hB
    rw [ht] at hP1
    obtain ⟨hP2, hD2⟩ := va_join hP hD isC isR hC hR hnR hdis hk1 hFc hP1 hD1
    exact kx E ce q9 H1 locs1 ho (hP2.sub isN (map_fm hN)) (hD2.sub isN hnN hN) hS1 hcell hcv hcls
  · obtain ⟨hP1, hD1⟩ := hB
    rw [ht] at hP1
    obtain ⟨hP2, hD2⟩ := va_join hP hD isC isR hC hR hnR hdis hk1 hFc hP1 hD1
    exact kk r' H1 locs1 hw (hP2.sub isN (map_fm hN)) (hD2.sub isN hnN hN) hS1

theorem wcallVmi {S : Type} {W1 W2 : S → va_W} {o : Except String (Int32 × S)} (isC isR isN : List Nat) (ci q0 : Nat) {fs : List Value} {q : vw_C} (K : CallFix p m c cc nL s args Ts own) (hP : va_P g.1 vwCl W0 H) (hD : va_D A W0) (hE : EV g s) (hZ : SZ g A s s.heap) (hS : va_S A s.heap H locs) (hA : ∀ q, s.heap.size ≤ q → A q)
    (hM : vx_Met l y ws rm (va_Pc (.ref b :: As) (PM g Wc H.size)) (QXmi g W1 (va_A Wc H.size) o) (XE g Wc (va_A Wc H.size) o) mc ms (va_A Wc H.size)) (cw : CallW R s args own C index y bytes maxL ret ws rm mc ms n)
    (hC : isC.map (fun i => W0[i]?) = Wc.map some) (hR : isR.map (fun i => W0[i]?) = Wr.map some) (hN : ∀ u, isN.map (fun i => (Wr ++ W1 u)[i]?) = (W2 u).map some) (hnC : va_nd isC = true) (hnR : va_nd isR = true) (hdis : ∀ i ∈ isR, i ∉ isC) (hnN : va_nd isN = true)
    (hc : vwCl[ci]? = some q) (he : Wc[q0]? = some (b, .inr (ci, fs))) (hqC : q.1 = C) (hn : As.length = n) (hsize : ls.size = nL) (hst : st0 = As.reverse ++ .ref b :: rest) (hW : (rest.map fun v => v.category).sum ≤ 8) (hcl : cells + mc ≤ R.cells ∧ slots + ms ≤ R.slots)
    (hdg : decode cc pc = .ok (.invokevirtual index, 3))
    (kx : ∀ (E : String) (ce : Cell) (q9 : Addr) (H1 : Heap) (locs1 : List Loc), o = .error E → va_P g.1 vwCl W0 H1 → va_D A W0 → va_S A s.heap H1 locs1 → H1[q9]? = some ce → ce.vm = .none → s.vm.findClass E = some ce.cls → vx_W p l e R s m args below meth c H1 locs1 (cells + mc) (slots + ms) Q (F0 m pc ls rest) q9)
    (kk : ∀ (v : Int32 × S) (H1 : Heap) (locs1 : List Loc), o = .ok v → va_P g.1 vwCl (W2 v.2) H1 → va_D A (W2 v.2) → va_S A s.heap H1 locs1 → W p l e R s m args below meth c H1 locs1 (cells + mc) (slots + ms) Q (F0 m (pc + 3) ls (.int v.1 :: rest))) : W p l e R s m args below meth c H locs cells slots Q (F0 m pc ls st0) := by
  have hPc := hP.sub (ws' := Wc) isC (map_fm hC)
  have hFc := va_free hD hS hA isC hC
  obtain ⟨cell, h1, h2, h3⟩ := va_recv hE.1 hPc hc he
  refine vx_calli (vx_runV (As := As) (rest := rest) K hM cw ⟨fbM, ⟨cell, h1, h2, hqC ▸ h3⟩, fun U hU hW => ⟨rfl, mPre hP hD hE hZ hS hA isC hC hnC U hU hW⟩⟩ rfl hn hsize hst (lv_room hW) hdg hcl) hS (fun q _ h => hFc q h) hFc (fun q _ h => hFc q h) (fun E ce q9 u t H1 locs1 ht hvm hpx hB hz1 hk1 hS1 hcell hcv hcls => ?_) (fun r' u t H1 locs1 ht hvm hw hB hz1 hk1 hS1 => ?_)
  · obtain ⟨ho, hP1, hD1⟩ := hB
    rw [ht] at hP1
    obtain ⟨hP2, hD2⟩ := va_back hP hD isC isR hC hR hnC hnR hdis hk1 hFc hP1 hD1
    exact kx E ce q9 H1 locs1 ho hP2 hD hS1 hcell hcv hcls
  · obtain ⟨hP1, hD1⟩ := hB
    rw [ht] at hP1
    obtain ⟨hP2, hD2⟩ := va_join hP hD isC isR hC hR hnR hdis hk1 hFc hP1 hD1
    exact kk (r', u) H1 locs1 hw (hP2.sub isN (map_fm (hN u))) (hD2.sub isN hnN (hN u)) hS1

theorem wcallVei {S : Type} {W1 W2 : S → va_W} {o : Except (String × S) (Int32 × S)} (isC isR isN : List Nat) (ci q0 : Nat) {fs : List Value} {q : vw_C} (K : CallFix p m c cc nL s args Ts own) (hP : va_P g.1 vwCl W0 H) (hD : va_D A W0) (hE : EV g s) (hZ : SZ g A s s.heap) (hS : va_S A s.heap H locs) (hA : ∀ q, s.heap.size ≤ q → A q)
    (hM : vx_Met l y ws rm (va_Pc (.ref b :: As) (PM g Wc H.size)) (QXmi g W1 (va_A Wc H.size) o) (XEs g W1 (va_A Wc H.size) o) mc ms (va_A Wc H.size)) (cw : CallW R s args own C index y bytes maxL ret ws rm mc ms n)
    (hC : isC.map (fun i => W0[i]?) = Wc.map some) (hR : isR.map (fun i => W0[i]?) = Wr.map some) (hN : ∀ u, isN.map (fun i => (Wr ++ W1 u)[i]?) = (W2 u).map some) (hnC : va_nd isC = true) (hnR : va_nd isR = true) (hdis : ∀ i ∈ isR, i ∉ isC) (hnN : va_nd isN = true)
    (hc : vwCl[ci]? = some q) (he : Wc[q0]? = some (b, .inr (ci, fs))) (hqC : q.1 = C) (hn : As.length = n) (hsize : ls.size = nL) (hst : st0 = As.reverse ++ .ref b :: rest) (hW : (rest.map fun v => v.category).sum ≤ 8) (hcl : cells + mc ≤ R.cells ∧ slots + ms ≤ R.slots)
    (hdg : decode cc pc = .ok (.invokevirtual index, 3))
    (kx : ∀ (E : String) (u : S) (ce : Cell) (q9 : Addr) (H1 : Heap) (locs1 : List Loc), o = .error (E, u) → va_P g.1 vwCl (W2 u) H1 → va_D A (W2 u) → va_S A s.heap H1 locs1 → H1[q9]? = some ce → ce.vm = .none → s.vm.findClass E = some ce.cls → vx_W p l e R s m args below meth c H1 locs1 (cells + mc) (slots + ms) Q (F0 m pc ls rest) q9)
    (kk : ∀ (v : Int32 × S) (H1 : Heap) (locs1 : List Loc), o = .ok v → va_P g.1 vwCl (W2 v.2) H1 → va_D A (W2 v.2) → va_S A s.heap H1 locs1 → W p l e R s m args below meth c H1 locs1 (cells + mc) (slots + ms) Q (F0 m (pc + 3) ls (.int v.1 :: rest))) : W p l e R s m args below meth c H locs cells slots Q (F0 m pc ls st0) := by
  have hPc := hP.sub (ws' := Wc) isC (map_fm hC)
  have hFc := va_free hD hS hA isC hC
  obtain ⟨cell, h1, h2, h3⟩ := va_recv hE.1 hPc hc he
  refine vx_calli (vx_runV (As := As) (rest := rest) K hM cw ⟨fbM, ⟨cell, h1, h2, hqC ▸ h3⟩, fun U hU hW => ⟨rfl, mPre hP hD hE hZ hS hA isC hC hnC U hU hW⟩⟩ rfl hn hsize hst (lv_room hW) hdg hcl) hS (fun q _ h => hFc q h) hFc (fun q _ h => hFc q h) (fun E ce q9 u t H1 locs1 ht hvm hpx hB hz1 hk1 hS1 hcell hcv hcls => ?_) (fun r' u t H1 locs1 ht hvm hw hB hz1 hk1 hS1 => ?_)
  · obtain ⟨ho, hP1, hD1⟩ := hB
    rw [ht] at hP1
    obtain ⟨hP2, hD2⟩ := va_join hP hD isC isR hC hR hnR hdis hk1 hFc hP1 hD1
    exact kx E u ce q9 H1 locs1 ho (hP2.sub isN (map_fm (hN u))) (hD2.sub isN hnN (hN u)) hS1 hcell hcv hcls
  · obtain ⟨hP1, hD1⟩ := hB
    rw [ht] at hP1
    obtain ⟨hP2, hD2⟩ := va_join hP hD isC isR hC hR hnR hdis hk1 hFc hP1 hD1
    exact kk (r', u) H1 locs1 hw (hP2.sub isN (map_fm (hN u))) (hD2.sub isN hnN (hN u)) hS1

theorem wcallVmb {S : Type} {W1 W2 : S → va_W} {o : Except String (Bool × S)} (isC isR isN : List Nat) (ci q0 : Nat) {fs : List Value} {q : vw_C} (K : CallFix p m c cc nL s args Ts own) (hP : va_P g.1 vwCl W0 H) (hD : va_D A W0) (hE : EV g s) (hZ : SZ g A s s.heap) (hS : va_S A s.heap H locs) (hA : ∀ q, s.heap.size ≤ q → A q)
    (hM : vx_Met l y ws rm (va_Pc (.ref b :: As) (PM g Wc H.size)) (QXmb g W1 (va_A Wc H.size) o) (XE g Wc (va_A Wc H.size) o) mc ms (va_A Wc H.size)) (cw : CallW R s args own C index y bytes maxL ret ws rm mc ms n)
    (hC : isC.map (fun i => W0[i]?) = Wc.map some) (hR : isR.map (fun i => W0[i]?) = Wr.map some) (hN : ∀ u, isN.map (fun i => (Wr ++ W1 u)[i]?) = (W2 u).map some) (hnC : va_nd isC = true) (hnR : va_nd isR = true) (hdis : ∀ i ∈ isR, i ∉ isC) (hnN : va_nd isN = true)
    (hc : vwCl[ci]? = some q) (he : Wc[q0]? = some (b, .inr (ci, fs))) (hqC : q.1 = C) (hn : As.length = n) (hsize : ls.size = nL) (hst : st0 = As.reverse ++ .ref b :: rest) (hW : (rest.map fun v => v.category).sum ≤ 8) (hcl : cells + mc ≤ R.cells ∧ slots + ms ≤ R.slots)
    (hdg : decode cc pc = .ok (.invokevirtual index, 3))
    (kx : ∀ (E : String) (ce : Cell) (q9 : Addr) (H1 : Heap) (locs1 : List Loc), o = .error E → va_P g.1 vwCl W0 H1 → va_D A W0 → va_S A s.heap H1 locs1 → H1[q9]? = some ce → ce.vm = .none → s.vm.findClass E = some ce.cls → vx_W p l e R s m args below meth c H1 locs1 (cells + mc) (slots + ms) Q (F0 m pc ls rest) q9)
    (kk : ∀ (v : Bool × S) (H1 : Heap) (locs1 : List Loc), o = .ok v → va_P g.1 vwCl (W2 v.2) H1 → va_D A (W2 v.2) → va_S A s.heap H1 locs1 → W p l e R s m args below meth c H1 locs1 (cells + mc) (slots + ms) Q (F0 m (pc + 3) ls (.int (b2i v.1) :: rest))) : W p l e R s m args below meth c H locs cells slots Q (F0 m pc ls st0) := by
  have hPc := hP.sub (ws' := Wc) isC (map_fm hC)
  have hFc := va_free hD hS hA isC hC
  obtain ⟨cell, h1, h2, h3⟩ := va_recv hE.1 hPc hc he
  refine vx_calli (vx_runV (As := As) (rest := rest) K hM cw ⟨fbM, ⟨cell, h1, h2, hqC ▸ h3⟩, fun U hU hW => ⟨rfl, mPre hP hD hE hZ hS hA isC hC hnC U hU hW⟩⟩ rfl hn hsize hst (lv_room hW) hdg hcl) hS (fun q _ h => hFc q h) hFc (fun q _ h => hFc q h) (fun E ce q9 u t H1 locs1 ht hvm hpx hB hz1 hk1 hS1 hcell hcv hcls => ?_) (fun r' u t H1 locs1 ht hvm hw hB hz1 hk1 hS1 => ?_)
  · obtain ⟨ho, hP1, hD1⟩ := hB
    rw [ht] at hP1
    obtain ⟨hP2, hD2⟩ := va_back hP hD isC isR hC hR hnC hnR hdis hk1 hFc hP1 hD1
    exact kx E ce q9 H1 locs1 ho hP2 hD hS1 hcell hcv hcls
  · obtain ⟨hP1, hD1⟩ := hB
    rw [ht] at hP1
    obtain ⟨hP2, hD2⟩ := va_join hP hD isC isR hC hR hnR hdis hk1 hFc hP1 hD1
    obtain ⟨ho, hv⟩ := hw
    rw [hv]
    exact kk u H1 locs1 ho (hP2.sub isN (map_fm (hN u.2))) (hD2.sub isN hnN (hN u.2)) hS1

end WR
/-! the law's loop -/
section LL
variable {p : Program} {l : Launch} {e : Env} {R : Room} {s : State} {m : MethodId} {args : Array Value} {below : List Frame} {meth : Method} {c : Code} {H : Heap} {locs : List Loc} {cells slots : Nat} {Q : State → Prop}
variable {cc bytes : ByteArray} {pc index maxL nL mc ms n : Nat} {ls : Array Slot} {rest st0 As : List Value} {y : MethodName} {ret : Option FieldType} {ws Ts : List Cond} {rm : Room} {own : String} {g : Gg} {A : Nat → Prop} {W0 Wc W1 W2 Wr : va_W} {r : Int32} {hh : List (Nat × Nat × Nat × Nat)}
theorem lcallS (isC isR isN : List Nat) (S : CallFix p m c cc nL s args Ts own) (hP : va_P g.1 vwCl W0 H) (hD : va_D A W0) (hE : EV g s) (hZ : SZ g A s s.heap) (hS : va_S A s.heap H locs) (hA : ∀ q, s.heap.size ≤ q → A q)
    (hM : vx_Met l y ws rm (va_Pc As (PM g Wc H.size)) (va_Qi (fun r' (_ : Unit) => r' = r) (fun _ t => PQ g W1 (va_A Wc H.size) t) (va_A Wc H.size)) (vx_X (fun _ : Unit => False) (fun _ _ _ => True) (va_A Wc H.size)) mc ms (va_A Wc H.size)) (cw : vx_CSW R s args own index y bytes maxL ret hh ws rm mc ms n)
    (hC : isC.map (fun i => W0[i]?) = Wc.map some) (hR : isR.map (fun i => W0[i]?) = Wr.map some) (hN : isN.map (fun i => (Wr ++ W1)[i]?) = W2.map some) (hnC : va_nd isC = true) (hnR : va_nd isR = true) (hdis : ∀ i ∈ isR, i ∉ isC) (hnN : va_nd isN = true)
    (hn : As.length = n) (hsize : ls.size = nL) (hst : st0 = As.reverse ++ rest) (hW : (rest.map fun v => v.category).sum ≤ 8) (hcl : cells + mc ≤ R.cells ∧ slots + ms ≤ R.slots)
    (hdg : decode cc pc = .ok (.invokestatic index, 3)) (kk : ∀ (H1 : Heap) (locs1 : List Loc), va_P g.1 vwCl W2 H1 → va_D A W2 → va_S A s.heap H1 locs1 → W p l e R s m args below meth c H1 locs1 (cells + mc) (slots + ms) Q (F0 m (pc + 3) ls (.int r :: rest))) : W p l e R s m args below meth c H locs cells slots Q (F0 m pc ls st0) := by
  have hFc := va_free hD hS hA isC hC
  refine vx_calli (vx_runSX (As := As) (rest := rest) S hM cw ⟨fbM, fun U hU hW => ⟨rfl, mPre hP hD hE hZ hS hA isC hC hnC U hU hW⟩⟩ rfl hn hsize hst (lv_room hW) hdg hcl) hS (fun q _ h => hFc q h) hFc (fun q _ h => hFc q h) (fun E ce q9 u t H1 locs1 ht hvm hpx hB hz1 hk1 hS1 hcell hcv hcls => hpx.elim) (fun r' u t H1 locs1 ht hvm hw hB hz1 hk1 hS1 => ?_)
  obtain ⟨hP1, hD1⟩ := hB
  rw [ht] at hP1
  obtain ⟨hP2, hD2⟩ := va_join hP hD isC isR hC hR hnR hdis hk1 hFc hP1 hD1
  rw [hw]
  exact kk H1 locs1 (hP2.sub isN (map_fm hN)) (hD2.sub isN hnN hN) hS1
theorem mcallSi (isC isR isN : List Nat) (S : CallFix p m c cc nL s args Ts own) (hP : va_P g.1 vwCl W0 H) (hD : va_D A W0) (hE : EV g s) (hZ : SZ g A s s.heap) (hS : va_S A s.heap H locs) (hA : ∀ q, s.heap.size ≤ q → A q)
    (hM : Met l y ws rm (va_Pc As (PM g Wc H.size)) (va_Qi (fun r' (_ : Unit) => r' = r) (fun _ t => PQ g W1 (va_A Wc H.size) t) (va_A Wc H.size)) mc ms (va_A Wc H.size)) (cw : CallB R s args own index y bytes maxL ret ws rm mc ms n ∧ (Cond.static y).before args s = true)
    (hC : isC.map (fun i => W0[i]?) = Wc.map some) (hR : isR.map (fun i => W0[i]?) = Wr.map some) (hN : isN.map (fun i => (Wr ++ W1)[i]?) = W2.map some) (hnC : va_nd isC = true) (hnR : va_nd isR = true) (hdis : ∀ i ∈ isR, i ∉ isC) (hnN : va_nd isN = true)
    (hn : As.length = n) (hsize : ls.size = nL) (hst : st0 = As.reverse ++ rest) (hW : (rest.map fun v => v.category).sum ≤ 8) (hcl : cells + mc ≤ R.cells ∧ slots + ms ≤ R.slots)
    (hdg : decode cc pc = .ok (.invokestatic index, 3)) (kk : ∀ (H1 : Heap) (locs1 : List Loc), va_P g.1 vwCl W2 H1 → va_D A W2 → va_S A s.heap H1 locs1 → W p l e R s m args below meth c H1 locs1 (cells + mc) (slots + ms) Q (F0 m (pc + 3) ls (.int r :: rest))) : W p l e R s m args below meth c H locs cells slots Q (F0 m pc ls st0) := by
  have hFc := va_free hD hS hA isC hC
  refine va_calli (va_runS (As := As) (rest := rest) S hM cw ⟨fbM, fun U hU hW => ⟨rfl, mPre hP hD hE hZ hS hA isC hC hnC U hU hW⟩⟩ rfl hn hsize hst (lv_room hW) hdg hcl) hS (fun q _ h => hFc q h) hFc (fun r' u t H1 locs1 ht hvm hw hB hz1 hk1 hS1 => ?_)
  obtain ⟨hP1, hD1⟩ := hB
  rw [ht] at hP1
  obtain ⟨hP2, hD2⟩ := va_join hP hD isC isR hC hR hnR hdis hk1 hFc hP1 hD1
  rw [hw]
  exact kk H1 locs1 (hP2.sub isN (map_fm hN)) (hD2.sub isN hnN hN) hS1
end LL
