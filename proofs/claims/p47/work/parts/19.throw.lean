/-! methods that answer or throw: the function's answer is an Except -/
abbrev nms : List String := ["java/lang/RuntimeException", "java/lang/Exception"]
abbrev XE {α : Type} (g : Gg) (W0 : va_W) (A : Nat → Prop) (o : Except String α) : String → State → State → Prop := vx_X (fun _ : Unit => True) (fun E _ t => o = .error E ∧ PQ g W0 A t) A
abbrev QXv (g : Gg) (W0 : va_W) (A : Nat → Prop) (o : Except String Unit) := va_Qv (fun _ : Unit => o = .ok ()) (fun _ t => PQ g W0 A t) A
abbrev QXi (g : Gg) (W0 : va_W) (A : Nat → Prop) (o : Except String Int32) := va_Qi (fun r' (_ : Unit) => o = .ok r') (fun _ t => PQ g W0 A t) A
abbrev QXb (g : Gg) (W0 : va_W) (A : Nat → Prop) (o : Except String Bool) := va_Qi (fun r' (b : Bool) => o = .ok b ∧ r' = b2i b) (fun _ t => PQ g W0 A t) A
abbrev QXd (g : Gg) (W0 : va_W) (A : Nat → Prop) (o : Except String UInt64) := va_Qd (fun r' (_ : Unit) => o = .ok r') (fun _ t => PQ g W0 A t) A
abbrev QXmi {ε S : Type} (g : Gg) (W1 : S → va_W) (A : Nat → Prop) (o : Except ε (Int32 × S)) := va_Qi (fun r' (u : S) => o = .ok (r', u)) (fun u t => PQ g (W1 u) A t) A
abbrev QXmb {S : Type} (g : Gg) (W1 : S → va_W) (A : Nat → Prop) (o : Except String (Bool × S)) := va_Qi (fun r' (u : Bool × S) => o = .ok u ∧ r' = b2i u.1) (fun u t => PQ g (W1 u.2) A t) A
abbrev XEs {α S : Type} (g : Gg) (W1 : S → va_W) (A : Nat → Prop) (o : Except (String × S) α) : String → State → State → Prop := vx_X (fun _ : S => True) (fun E u t => o = .error (E, u) ∧ PQ g (W1 u) A t) A
def xthen {α β : Type} (x : Option (Except String α)) (k : α → Option (Except String β)) : Option (Except String β) := match x with
  | none => none
  | some (.error e) => some (.error e)
  | some (.ok v) => k v
theorem xt {α β : Type} {x : Option (Except String α)} {k : α → Option (Except String β)} {o : Except String β} (hf : xthen x k = some o) : ∃ a, x = some a ∧ (∀ e, a = .error e → o = .error e) ∧ (∀ v, a = .ok v → k v = some o) := by
  match x, hf with
  | some (.error e), hf => exact ⟨_, rfl, (fun e' h => by cases h; exact (Option.some.inj hf).symm), (fun v h => by cases h)⟩
  | some (.ok v), hf => exact ⟨_, rfl, (fun e' h => by cases h), (fun w h => by cases h; exact hf)⟩
def TF (cls : String) (ik ic : Nat) : Prop := Bundle.fit cls = true ∧ (∀ n ∈ nms, Bundle.fit n = true) ∧ (∀ w ∈ Cond.classLink RX6 ik cls :: Cond.initialized cls :: vx_atS RX6 ic cls nms, vx_ot w = true) ∧ ∀ w ∈ vx_atS RX6 ic cls nms, goodWord w = true ∨ w ∈ nwl
theorem nwl_ot : ∀ w ∈ nwl, w.onTables = true := by decide +kernel
theorem tfI : TF "java/lang/IndexOutOfBoundsException" 205 209 := ⟨by decide +kernel, by decide +kernel, by decide +kernel, by decide +kernel⟩
theorem tfA : TF "java/lang/IllegalArgumentException" 129 133 := ⟨by decide +kernel, by decide +kernel, by decide +kernel, by decide +kernel⟩
theorem tfS : TF "java/lang/IllegalStateException" 48 52 := ⟨by decide +kernel, by decide +kernel, by decide +kernel, by decide +kernel⟩
section TH
variable {p : Program} {l : Launch} {e : Env} {R : Room} {s : State} {m : MethodId} {args : Array Value} {below : List Frame} {meth : Method} {c : Code} {H : Heap} {locs : List Loc} {cells slots : Nat} {Q : State → Prop}
variable {cc bytes : ByteArray} {pc index maxL nL mc ms n mcT msT : Nat} {ls : Array Slot} {rest st0 As : List Value} {y : MethodName} {ret : Option FieldType} {ws Ts : List Cond} {rm : Room} {own C : String} {b : Nat} {g : Gg} {A : Nat → Prop} {W0 Wc W1 W2 Wr : va_W} {r x z : Int32}
variable {Qc : Array Value → State → Outcome → State → Prop} {XC : String → State → State → Prop}
theorem thAt {cls : String} {ik ic : Nat} (hT : TF cls ik ic) (hts : ∀ w ∈ Ts, w.before args s = true) (hin : ∀ w ∈ (vx_atS RX6 ic cls nms).filter goodWord, w ∈ Ts) (hN : NW s) : ∀ w ∈ vx_atS RX6 ic cls nms, w.before args s = true := fun w hw => by
  rcases hT.2.2.2 w hw with h | h
  · exact hts w (hin w (List.mem_filter.mpr ⟨hw, h⟩))
  · exact va_Nw.use (nwl_ot w h) (hN w h)
theorem thX {α : Type} {oc : Except String α} {E : String} (hP : va_P g.1 vwCl W0 H) (hD : va_D A W0) (hS : va_S A s.heap H locs) (ho : oc = .error E) (t : State) (h1 : H.size ≤ t.heap.size) (h2 : ∀ q : Nat, q < H.size → t.heap[q]? = H[q]?) : XE g W0 A oc E s t :=
  ⟨(), trivial, ⟨ho, hP.kept (fun k q hk => h2 _ (hP k q hk).lt), hD⟩, Nat.le_trans hS.1 h1, fun q hq hA => by rw [h2 q (Nat.lt_of_lt_of_le hq hS.1)]; exact hS.2.1 q hq hA⟩
theorem xthrow {α : Type} {oc : Except String α} {cls text : String} {ik ic is : Nat} (hl : l.stackTraces = false) (hT : TF cls ik ic) (hx : p.tables.exec = Jvm.exec) (hb : c.code = cc) (hown : s.vm.findClass RX6 = some m.cls) (hlocks : meth.locks = false) (hts : ∀ w ∈ Ts, w.before args s = true) (hk : .classLink RX6 ik cls ∈ Ts) (hini : .initialized cls ∈ Ts) (hin : ∀ w ∈ (vx_atS RX6 ic cls nms).filter goodWord, w ∈ Ts) (hE : EV g s) (hst : (is, text) ∈ stl) (hZ : SZ g A s s.heap)
    (hP : va_P g.1 vwCl W0 H) (hD : va_D A W0) (hS : va_S A s.heap H locs) (hsize : ls.size = c.maxLocals) (hnt : ∀ x ∈ c.exceptionTable.toList, False)
    (d0 : decode cc pc = .ok (.new ik, 3)) (d3 : decode cc (pc + 3) = .ok (.dup, 1)) (d4 : decode cc (pc + 4) = .ok (.ldc is, 2)) (d6 : decode cc (pc + 6) = .ok (.invokespecial ic, 3)) (d9 : decode cc (pc + 9) = .ok (.athrow, 1))
    (hR : 5 < R.frames ∧ 90 ≤ R.locals) (hW : (rest.map fun v => v.category).sum ≤ 8) (hc : cells + 1 ≤ R.cells ∧ slots + 6 ≤ R.slots) (hcm : cells + 1 ≤ mcT ∧ slots + 6 ≤ msT) (ho : oc = .error cls) :
    W p l e R s m args below meth c H locs cells slots (vx_MQ below Qc (XE g W0 A oc) args s mcT msT A) (F0 m pc ls rest) :=
  vx_throwS hx hb hl hown hT.1 hT.2.1 (hts _ hk) (hts _ hini) (hE.2.2.1 (is, text) hst) (thAt hT hts hin hE.2.1) hT.2.2.1 hZ.2.2.2.2.1 hZ.2.2.2.2.2 hS hsize d0 d3 d4 d6 d9 (fun x hx => (hnt x hx).elim) hR.1 (Nat.le_trans (Nat.add_le_add_right hW 82) hR.2) hc.1 hc.2 hlocks (fun t _ h1 h2 => thX hP hD hS ho t h1 h2) hS.2.2 hcm.1 hcm.2
theorem xthrowE {α S : Type} {Wf : S → va_W} (u : S) {oc : Except (String × S) α} {cls text : String} {ik ic is : Nat} (hl : l.stackTraces = false) (hT : TF cls ik ic) (hx : p.tables.exec = Jvm.exec) (hb : c.code = cc) (hown : s.vm.findClass RX6 = some m.cls) (hlocks : meth.locks = false) (hts : ∀ w ∈ Ts, w.before args s = true) (hk : .classLink RX6 ik cls ∈ Ts) (hini : .initialized cls ∈ Ts) (hin : ∀ w ∈ (vx_atS RX6 ic cls nms).filter goodWord, w ∈ Ts) (hE : EV g s) (hst : (is, text) ∈ stl) (hZ : SZ g A s s.heap)
    (hP : va_P g.1 vwCl (Wf u) H) (hD : va_D A (Wf u)) (hS : va_S A s.heap H locs) (hsize : ls.size = c.maxLocals) (hnt : ∀ x ∈ c.exceptionTable.toList, False)
    (d0 : decode cc pc = .ok (.new ik, 3)) (d3 : decode cc (pc + 3) = .ok (.dup, 1)) (d4 : decode cc (pc + 4) = .ok (.ldc is, 2)) (d6 : decode cc (pc + 6) = .ok (.invokespecial ic, 3)) (d9 : decode cc (pc + 9) = .ok (.athrow, 1))
    (hR : 5 < R.frames ∧ 90 ≤ R.locals) (hW : (rest.map fun v => v.category).sum ≤ 8) (hc : cells + 1 ≤ R.cells ∧ slots + 6 ≤ R.slots) (hcm : cells + 1 ≤ mcT ∧ slots + 6 ≤ msT) (ho : oc = .error (cls, u)) :
    W p l e R s m args below meth c H locs cells slots (vx_MQ below Qc (XEs g Wf A oc) args s mcT msT A) (F0 m pc ls rest) :=
  vx_throwS hx hb hl hown hT.1 hT.2.1 (hts _ hk) (hts _ hini) (hE.2.2.1 (is, text) hst) (thAt hT hts hin hE.2.1) hT.2.2.1 hZ.2.2.2.2.1 hZ.2.2.2.2.2 hS hsize d0 d3 d4 d6 d9 (fun x hx => (hnt x hx).elim) hR.1 (Nat.le_trans (Nat.add_le_add_right hW 82) hR.2) hc.1 hc.2 hlocks (fun t _ h1 h2 => ⟨u, trivial, ⟨ho, hP.kept (fun k q hk => h2 _ (hP k q hk).lt), hD⟩, Nat.le_trans hS.1 h1, fun q hq hA => by rw [h2 q (Nat.lt_of_lt_of_le hq hS.1)]; exact hS.2.1 q hq hA⟩) hS.2.2 hcm.1 hcm.2
theorem xthrowW {α : Type} {oc : Except String α} {cls text : String} {ik ic is : Nat} (hl : l.stackTraces = false) (hT : TF cls ik ic) (hx : p.tables.exec = Jvm.exec) (hb : c.code = cc) (hown : s.vm.findClass RX6 = some m.cls) (hlocks : meth.locks = false) (hts : ∀ w ∈ Ts, w.before args s = true) (hk : .classLink RX6 ik cls ∈ Ts) (hini : .initialized cls ∈ Ts) (hin : ∀ w ∈ (vx_atS RX6 ic cls nms).filter goodWord, w ∈ Ts) (hE : EV g s) (hst : (is, text) ∈ stl) (hZ : SZ g A s s.heap)
    (hP : va_P g.1 vwCl W0 H) (hD : va_D A W0) (hS : va_S A s.heap H locs) (hsize : ls.size = c.maxLocals) (hnt : ∀ x ∈ c.exceptionTable.toList, False)
    (d0 : decode cc pc = .ok (.new ik, 3)) (d3 : decode cc (pc + 3) = .ok (.dup, 1)) (d4 : decode cc (pc + 4) = .ok (.ldc_w is, 3)) (d7 : decode cc (pc + 7) = .ok (.invokespecial ic, 3)) (d10 : decode cc (pc + 10) = .ok (.athrow, 1))
    (hR : 5 < R.frames ∧ 90 ≤ R.locals) (hW : (rest.map fun v => v.category).sum ≤ 8) (hc : cells + 1 ≤ R.cells ∧ slots + 6 ≤ R.slots) (hcm : cells + 1 ≤ mcT ∧ slots + 6 ≤ msT) (ho : oc = .error cls) :
    W p l e R s m args below meth c H locs cells slots (vx_MQ below Qc (XE g W0 A oc) args s mcT msT A) (F0 m pc ls rest) :=
  vx_throwSW hx hb hl hown hT.1 hT.2.1 (hts _ hk) (hts _ hini) (hE.2.2.1 (is, text) hst) (thAt hT hts hin hE.2.1) hT.2.2.1 hZ.2.2.2.2.1 hZ.2.2.2.2.2 hS hsize d0 d3 d4 d7 d10 (fun x hx => (hnt x hx).elim) hR.1 (Nat.le_trans (Nat.add_le_add_right hW 82) hR.2) hc.1 hc.2 hlocks (fun t _ h1 h2 => thX hP hD hS ho t h1 h2) hS.2.2 hcm.1 hcm.2
/-- ends -/
theorem x_iret {v : Int32} {oc : Except String Int32} (hx : p.tables.exec = Jvm.exec) (hb : c.code = cc) (hr : meth.sig.returnType = some .int) (hlocks : meth.locks = false) (hP : va_P g.1 vwCl W0 H) (hD : va_D A W0) (hS : va_S A s.heap H locs) (hcm : cells ≤ mcT ∧ slots ≤ msT) (hv : oc = .ok v) (hd : decode cc pc = .ok (.ireturn, 1)) :
    W p l e R s m args below meth c H locs cells slots (vx_MQ below (QXi g W0 A oc) XC args s mcT msT A) (F0 m pc ls [.int v]) :=
  W.widen hcm.1 hcm.2 (vx_ret (W.iret (v := v) hx hb hr (fun t ht _ => ⟨⟨v, (), rfl, hv, by rw [ht]; exact hP, hD⟩, hS.F ht⟩) hS.2.2 hd hlocks))
theorem x_zret {v : Bool} {oc : Except String Bool} (hx : p.tables.exec = Jvm.exec) (hb : c.code = cc) (hr : meth.sig.returnType = some .boolean) (hlocks : meth.locks = false) (hP : va_P g.1 vwCl W0 H) (hD : va_D A W0) (hS : va_S A s.heap H locs) (hcm : cells ≤ mcT ∧ slots ≤ msT) (hv : oc = .ok v) (hd : decode cc pc = .ok (.ireturn, 1)) :
    W p l e R s m args below meth c H locs cells slots (vx_MQ below (QXb g W0 A oc) XC args s mcT msT A) (F0 m pc ls [.int (b2i v)]) :=
  W.widen hcm.1 hcm.2 (vx_ret (W.zret (v := b2i v) hx hb hr (nb2i v) (fun t ht _ => ⟨⟨b2i v, v, rfl, ⟨hv, rfl⟩, by rw [ht]; exact hP, hD⟩, hS.F ht⟩) hS.2.2 hd hlocks))
theorem x_dret {v : UInt64} {oc : Except String UInt64} (hx : p.tables.exec = Jvm.exec) (hb : c.code = cc) (hr : meth.sig.returnType = some .double) (hlocks : meth.locks = false) (hP : va_P g.1 vwCl W0 H) (hD : va_D A W0) (hS : va_S A s.heap H locs) (hcm : cells ≤ mcT ∧ slots ≤ msT) (hv : oc = .ok v) (hd : decode cc pc = .ok (.dreturn, 1)) :
    W p l e R s m args below meth c H locs cells slots (vx_MQ below (QXd g W0 A oc) XC args s mcT msT A) (F0 m pc ls [.double v]) :=
  W.widen hcm.1 hcm.2 (vx_ret (W.dret (v := v) hx hb hr (fun t ht _ => ⟨⟨v, (), rfl, hv, by rw [ht]; exact hP, hD⟩, hS.F ht⟩) hS.2.2 hd hlocks))
theorem x_vret {oc : Except String Unit} (hx : p.tables.exec = Jvm.exec) (hb : c.code = cc) (hr : meth.sig.returnType = none) (hlocks : meth.locks = false) (hP : va_P g.1 vwCl W0 H) (hD : va_D A W0) (hS : va_S A s.heap H locs) (hcm : cells ≤ mcT ∧ slots ≤ msT) (hv : oc = .ok ()) (hd : decode cc pc = .ok (.return_, 1)) :
    W p l e R s m args below meth c H locs cells slots (vx_MQ below (QXv g W0 A oc) XC args s mcT msT A) (F0 m pc ls []) :=
  W.widen hcm.1 hcm.2 (vx_ret (W.vret hx hb hr (fun t ht _ => ⟨⟨(), rfl, hv, by rw [ht]; exact hP, hD⟩, hS.F ht⟩) hS.2.2 hd hlocks))
theorem xm_iret {ε S : Type} {Wf : S → va_W} (u : S) {v : Int32} {oc : Except ε (Int32 × S)} (hx : p.tables.exec = Jvm.exec) (hb : c.code = cc) (hr : meth.sig.returnType = some .int) (hlocks : meth.locks = false) (hP : va_P g.1 vwCl (Wf u) H) (hD : va_D A (Wf u)) (hS : va_S A s.heap H locs) (hcm : cells ≤ mcT ∧ slots ≤ msT) (hv : oc = .ok (v, u)) (hd : decode cc pc = .ok (.ireturn, 1)) :
    W p l e R s m args below meth c H locs cells slots (vx_MQ below (QXmi g Wf A oc) XC args s mcT msT A) (F0 m pc ls [.int v]) :=
  W.widen hcm.1 hcm.2 (vx_ret (W.iret (v := v) hx hb hr (fun t ht _ => ⟨⟨v, u, rfl, hv, by rw [ht]; exact hP, hD⟩, hS.F ht⟩) hS.2.2 hd hlocks))
theorem xm_zret {S : Type} {Wf : S → va_W} (u : S) {v : Bool} {oc : Except String (Bool × S)} (hx : p.tables.exec = Jvm.exec) (hb : c.code = cc) (hr : meth.sig.returnType = some .boolean) (hlocks : meth.locks = false) (hP : va_P g.1 vwCl (Wf u) H) (hD : va_D A (Wf u)) (hS : va_S A s.heap H locs) (hcm : cells ≤ mcT ∧ slots ≤ msT) (hv : oc = .ok (v, u)) (hd : decode cc pc = .ok (.ireturn, 1)) :
    W p l e R s m args below meth c H locs cells slots (vx_MQ below (QXmb g Wf A oc) XC args s mcT msT A) (F0 m pc ls [.int (b2i v)]) :=
  W.widen hcm.1 hcm.2 (vx_ret (W.zret (v := b2i v) hx hb hr (nb2i v) (fun t ht _ => ⟨⟨b2i v, (v, u), rfl, ⟨hv, rfl⟩, by rw [ht]; exact hP, hD⟩, hS.F ht⟩) hS.2.2 hd hlocks))
/-- a call of a method that answers nothing or throws, where the exception goes on -/
theorem xcallVv {α : Type} {o : Except String Unit} {oc : Except String α} (isC isR isN : List Nat) (ci q0 : Nat) {fs : List Value} {q : vw_C} (S : CallFix p m c cc nL s args Ts own) (hP : va_P g.1 vwCl W0 H) (hD : va_D A W0) (hE : EV g s) (hZ : SZ g A s s.heap) (hS : va_S A s.heap H locs) (hA : ∀ q, s.heap.size ≤ q → A q)
    (hM : vx_Met l y ws rm (va_Pc (.ref b :: As) (PM g Wc H.size)) (QXv g Wc (va_A Wc H.size) o) (XE g Wc (va_A Wc H.size) o) mc ms (va_A Wc H.size)) (cw : CallW R s args own C index y bytes maxL ret ws rm mc ms n)
    (hC : isC.map (fun i => W0[i]?) = Wc.map some) (hR : isR.map (fun i => W0[i]?) = Wr.map some) (hN : isN.map (fun i => (Wr ++ Wc)[i]?) = W0.map some) (hnC : va_nd isC = true) (hnR : va_nd isR = true) (hdis : ∀ i ∈ isR, i ∉ isC) (hnN : va_nd isN = true)
    (hc : vwCl[ci]? = some q) (he : Wc[q0]? = some (b, .inr (ci, fs))) (hqC : q.1 = C) (hn : As.length = n) (hsize : ls.size = nL) (hst : st0 = As.reverse ++ .ref b :: rest) (hW : (rest.map fun v => v.category).sum ≤ 8) (hcl : cells + mc ≤ R.cells ∧ slots + ms ≤ R.slots)
    (hdg : decode cc pc = .ok (.invokevirtual index, 3)) (hnt : ∀ x ∈ c.exceptionTable.toList, False) (hlocks : meth.locks = false) (hcm : cells + mc ≤ mcT ∧ slots + ms ≤ msT) (kx : ∀ E, o = .error E → oc = .error E)
    (kk : o = .ok () → ∀ (H1 : Heap) (locs1 : List Loc), va_P g.1 vwCl W0 H1 → va_D A W0 → va_S A s.heap H1 locs1 → W p l e R s m args below meth c H1 locs1 (cells + mc) (slots + ms) (vx_MQ below Qc (XE g W0 A oc) args s mcT msT A) (F0 m (pc + 3) ls rest)) : W p l e R s m args below meth c H locs cells slots (vx_MQ below Qc (XE g W0 A oc) args s mcT msT A) (F0 m pc ls st0) := by
  have hPc := hP.sub (ws' := Wc) isC (map_fm hC)
  have hFc := va_free hD hS hA isC hC
  obtain ⟨cell, h1, h2, h3⟩ := va_recv hE.1 hPc hc he
  refine vx_callv (vx_runV (As := As) (rest := rest) S hM cw ⟨fbM, ⟨cell, h1, h2, hqC ▸ h3⟩, fun U hU hW => ⟨rfl, mPre hP hD hE hZ hS hA isC hC hnC U hU hW⟩⟩ rfl hn hsize hst (lv_room hW) hdg hcl) hS (fun q _ h => hFc q h) hFc (fun q _ h => hFc q h) (fun E ce q9 u t H1 locs1 ht hvm hpx hB hz1 hk1 hS1 hcell hcv hcls => ?_) (fun u t H1 locs1 ht hvm hw hB hz1 hk1 hS1 => ?_)
  · obtain ⟨ho, hP1, hD1⟩ := hB
    rw [ht] at hP1
    obtain ⟨hP2, hD2⟩ := va_join hP hD isC isR hC hR hnR hdis hk1 hFc hP1 hD1
    exact vx_out (fun x hx => (hnt x hx).elim) hlocks hcell hcv hcls (fun t2 ht2 _ => thX (hP2.sub isN (map_fm hN)) (hD2.sub isN hnN hN) hS1 (kx E ho) t2 (by rw [ht2]; exact Nat.le_refl _) (fun q _ => by rw [ht2])) hS1.2.2 hcm.1 hcm.2
  · obtain ⟨hP1, hD1⟩ := hB
    rw [ht] at hP1
    obtain ⟨hP2, hD2⟩ := va_join hP hD isC isR hC hR hnR hdis hk1 hFc hP1 hD1
    exact kk hw H1 locs1 (hP2.sub isN (map_fm hN)) (hD2.sub isN hnN hN) hS1
theorem xcallSv {α : Type} {o : Except String Unit} {oc : Except String α} (isC isR isN : List Nat) (S : CallFix p m c cc nL s args Ts own) (hP : va_P g.1 vwCl W0 H) (hD : va_D A W0) (hE : EV g s) (hZ : SZ g A s s.heap) (hS : va_S A s.heap H locs) (hA : ∀ q, s.heap.size ≤ q → A q)
    (hM : vx_Met l y ws rm (va_Pc As (PM g Wc H.size)) (QXv g Wc (va_A Wc H.size) o) (XE g Wc (va_A Wc H.size) o) mc ms (va_A Wc H.size)) (cw : CallB R s args own index y bytes maxL ret ws rm mc ms n ∧ (Cond.static y).before args s = true)
    (hC : isC.map (fun i => W0[i]?) = Wc.map some) (hR : isR.map (fun i => W0[i]?) = Wr.map some) (hN : isN.map (fun i => (Wr ++ Wc)[i]?) = W0.map some) (hnC : va_nd isC = true) (hnR : va_nd isR = true) (hdis : ∀ i ∈ isR, i ∉ isC) (hnN : va_nd isN = true)
    (hn : As.length = n) (hsize : ls.size = nL) (hst : st0 = As.reverse ++ rest) (hW : (rest.map fun v => v.category).sum ≤ 8) (hcl : cells + mc ≤ R.cells ∧ slots + ms ≤ R.slots)
    (hdg : decode cc pc = .ok (.invokestatic index, 3)) (hnt : ∀ x ∈ c.exceptionTable.toList, False) (hlocks : meth.locks = false) (hcm : cells + mc ≤ mcT ∧ slots + ms ≤ msT) (kx : ∀ E, o = .error E → oc = .error E)
    (kk : o = .ok () → ∀ (H1 : Heap) (locs1 : List Loc), va_P g.1 vwCl W0 H1 → va_D A W0 → va_S A s.heap H1 locs1 → W p l e R s m args below meth c H1 locs1 (cells + mc) (slots + ms) (vx_MQ below Qc (XE g W0 A oc) args s mcT msT A) (F0 m (pc + 3) ls rest)) : W p l e R s m args below meth c H locs cells slots (vx_MQ below Qc (XE g W0 A oc) args s mcT msT A) (F0 m pc ls st0) := by
  have hFc := va_free hD hS hA isC hC
  refine vx_callv (vx_runS (As := As) (rest := rest) S hM cw ⟨fbM, fun U hU hW => ⟨rfl, mPre hP hD hE hZ hS hA isC hC hnC U hU hW⟩⟩ rfl hn hsize hst (lv_room hW) hdg hcl) hS (fun q _ h => hFc q h) hFc (fun q _ h => hFc q h) (fun E ce q9 u t H1 locs1 ht hvm hpx hB hz1 hk1 hS1 hcell hcv hcls => ?_) (fun u t H1 locs1 ht hvm hw hB hz1 hk1 hS1 => ?_)
  · obtain ⟨ho, hP1, hD1⟩ := hB
    rw [ht] at hP1
    obtain ⟨hP2, hD2⟩ := va_join hP hD isC isR hC hR hnR hdis hk1 hFc hP1 hD1
    exact vx_out (fun x hx => (hnt x hx).elim) hlocks hcell hcv hcls (fun t2 ht2 _ => thX (hP2.sub isN (map_fm hN)) (hD2.sub isN hnN hN) hS1 (kx E ho) t2 (by rw [ht2]; exact Nat.le_refl _) (fun q _ => by rw [ht2])) hS1.2.2 hcm.1 hcm.2
  · obtain ⟨hP1, hD1⟩ := hB
    rw [ht] at hP1
    obtain ⟨hP2, hD2⟩ := va_join hP hD isC isR hC hR hnR hdis hk1 hFc hP1 hD1
    exact kk hw H1 locs1 (hP2.sub isN (map_fm hN)) (hD2.sub isN hnN hN) hS1
end TH
