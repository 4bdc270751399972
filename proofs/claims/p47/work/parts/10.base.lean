/-! WHAT HOLDS AROUND A WALK: classes, links of nest mates, strings, the two static arrays; and calls that carry it over -/
abbrev Gg : Type := va_G × (Nat → ClassId) × (Nat → Nat)
abbrev tz (g : Gg) : List (ClassId × FieldType) := [(g.2.1 0, .int), (g.2.1 1, .object "ContourLabels$Sheet"), (g.2.1 2, .long)]
def xI : String := "java/lang/IndexOutOfBoundsException"
def xA : String := "java/lang/IllegalArgumentException"
def xS : String := "java/lang/IllegalStateException"
def ncl : List (String × String) := [(xI, xS), (xA, xS)]
def nwl : List Cond := [.methodLinkNest RX2 46 yX6_rowOf RX6, .methodLinkNest RX2 43 yX6_columnOf RX6, .methodLinkNest RX2 83 yX6_distance RX6, .methodLinkNest RX4 55 yX6_pointBeside RX6, .methodLinkNest RX4 72 yX6_isDirection RX6, .methodLinkNest RX4 75 yX6_isSlanting RX6, .methodLinkNest RX5 25 yX6_rowOf RX6, .methodLinkNest RX5 29 yX6_columnOf RX6, .methodLinkNest RX0 16 yX6_rowOf RX6, .methodLinkNest RX0 22 yX6_columnOf RX6, .methodLinkNest RX0 44 yX6_isDirection RX6, .fieldLinkNest RX4 78 "ContourLabels" "ACROSS" "[I" RX6, .fieldLinkNest RX4 81 "ContourLabels" "DOWN" "[I" RX6, .fieldLinkNest RX0 48 "ContourLabels" "DOWN" "[I" RX6, .fieldLinkNest RX0 51 "ContourLabels" "ACROSS" "[I" RX6, .castable xI xI, .castable xA xA, .castable xS xS, .declares (Bundle.initS "java/lang/RuntimeException"), .declares (Bundle.initS "java/lang/Exception"), .declares (Bundle.initS "java/lang/Throwable")]
def NW (U : State) : Prop := ∀ w ∈ nwl, va_Nw w U
def stl : List (Nat × String) := [(50, "there are 8 lines, or a line has this point"), (72, "the step cannot be added"), (107, "the label cannot be set at this place"), (115, "the line has no label"), (121, "the line has no place for its label"), (131, "gap is out of range"), (207, "there is no such place"), (297, "there is no such line"), (299, "there is no such line or point of the line"), (304, "there is no such point of the map"), (306, "level is out of range"), (311, "direction is out of range")]
def SG (g : Gg) (U : State) : Prop := ∀ q ∈ stl, vk_R RX6 q.1 q.2 (g.2.2 (100 + q.1)) U
def tAC : Nat → Value := fun k => .int (([1, 1, 0, -1, -1, -1, 0, 1] : List Int32).getD k 0)
def tDN : Nat → Value := fun k => .int (([0, 1, 1, 1, 0, -1, -1, -1] : List Int32).getD k 0)
def SZ (g : Gg) (A : Nat → Prop) (U : State) (H : Heap) : Prop :=
  va_Z "ContourLabels" "ACROSS" "[I" (.ref (g.2.2 0)) A U H ∧ va_T .int (g.2.2 0) 8 tAC A U H ∧ va_Z "ContourLabels" "DOWN" "[I" (.ref (g.2.2 1)) A U H ∧ va_T .int (g.2.2 1) 8 tDN A U H ∧
  vx_Zq Bundle.tN "UNASSIGNED_STACK" Bundle.steD A U H ∧ vx_Zq Bundle.tN "SUPPRESSED_SENTINEL" Bundle.listD A U H
def EV (g : Gg) (U : State) : Prop := va_K g.1 vwCl (tz g) U ∧ NW U ∧ SG g U ∧ (∀ q ∈ ncl, va_Nc q.1 q.2 U) ∧ va_AO "ContourLabels$Sheet" U
theorem NW.to {s U : State} (hW : s.WarmedH U.vm) (h : NW s) : NW U := by
  intro w hw
  have h1 := h w hw
  simp only [nwl, List.mem_cons, List.not_mem_nil, or_false] at hw
  rcases hw with rfl | rfl | rfl | rfl | rfl | rfl | rfl | rfl | rfl | rfl | rfl | rfl | rfl | rfl | rfl | rfl | rfl | rfl | rfl | rfl | rfl <;> first | exact va_Nw.warmM hW h1 | exact va_Nw.warmF hW h1 | exact va_Nw.warmC hW h1 | exact va_Nw.warmD hW h1
theorem NW.same {u U : State} (h : u.vm = U.vm) (hN : NW u) : NW U := by
  intro w hw
  have h1 := hN w hw
  simp only [nwl, List.mem_cons, List.not_mem_nil, or_false] at hw
  rcases hw with rfl | rfl | rfl | rfl | rfl | rfl | rfl | rfl | rfl | rfl | rfl | rfl | rfl | rfl | rfl | rfl | rfl | rfl | rfl | rfl | rfl <;> exact va_Nw.same rfl h h1
theorem EV.to {g : Gg} {s U : State} (hW : s.WarmedH U.vm) (h : EV g s) : EV g U := ⟨va_K.moved hW.alike h.1, NW.to hW h.2.1, fun q hq => vk_R.warm hW (h.2.2.1 q hq), fun q hq => va_Nc.moved hW.alike (h.2.2.2.1 q hq), va_AO.moved hW.alike h.2.2.2.2⟩
theorem EV.same {g : Gg} {u U : State} (hv : u.vm = U.vm) (h : EV g u) : EV g U := ⟨va_K.moved (hv ▸ Vm.Alike.refl u.vm) h.1, NW.same hv h.2.1, fun q hq => vk_R.same hv.symm (h.2.2.1 q hq), fun q hq => va_Nc.moved (hv ▸ Vm.Alike.refl u.vm) (h.2.2.2.1 q hq), va_AO.moved (hv ▸ Vm.Alike.refl u.vm) h.2.2.2.2⟩
theorem SZ.to {g : Gg} {A B : Nat → Prop} {s U : State} {H H1 : Heap} (hvm : s.vm.Alike U.vm) (h : SZ g A s H) (hk : ∀ a : Nat, a < H.size → ¬ A a → H1[a]? = H[a]?) (hAB : ∀ q, B q → A q) : SZ g B U H1 :=
  ⟨((h.1.kept hk).narrow hAB).moved hvm, ((h.2.1.kept hk).narrow hAB).moved hvm, ((h.2.2.1.kept hk).narrow hAB).moved hvm, ((h.2.2.2.1.kept hk).narrow hAB).moved hvm, ((h.2.2.2.2.1.kept hk).narrow hAB).moved hvm, ((h.2.2.2.2.2.kept hk).narrow hAB).moved hvm⟩
/-- a method's start: reads alone / may write -/
def PP (g : Gg) (W0 : va_W) (U : State) : Prop := va_P g.1 vwCl W0 U.heap ∧ EV g U ∧ SZ g (fun _ => False) U U.heap
def PM (g : Gg) (W0 : va_W) (sz : Nat) (U : State) : Prop := U.heap.size = sz ∧ va_P g.1 vwCl W0 U.heap ∧ va_D (fun _ => True) W0 ∧ EV g U ∧ SZ g (va_A W0 sz) U U.heap
def PQ (g : Gg) (W1 : va_W) (A : Nat → Prop) (t : State) : Prop := va_P g.1 vwCl W1 t.heap ∧ va_D A W1
theorem fbP {g : Gg} {av : List Value} {W0 : va_W} : FrameBlind (va_Pc av (PP g W0)) := fun a U f mk q => by
  obtain ⟨q0, qP, qE, qZ⟩ := q
  exact ⟨q0, qP, EV.same (u := U) (U := U.calling f mk a) rfl qE, SZ.to (s := U) (U := U.calling f mk a) (Vm.Alike.refl U.vm) qZ (fun _ _ _ => rfl) (fun _ h => h)⟩
theorem fbM {g : Gg} {av : List Value} {W0 : va_W} {sz : Nat} : FrameBlind (va_Pc av (PM g W0 sz)) := fun a U f mk q => by
  obtain ⟨q0, qs, qP, qD, qE, qZ⟩ := q
  exact ⟨q0, qs, qP, qD, EV.same (u := U) (U := U.calling f mk a) rfl qE, SZ.to (s := U) (U := U.calling f mk a) (Vm.Alike.refl U.vm) qZ (fun _ _ _ => rfl) (fun _ h => h)⟩
def b2i : Bool → Int32 | true => 1 | false => 0
theorem nb2i (b : Bool) : narrow .boolean (.int (b2i b)) = .int (b2i b) := by cases b <;> rfl
theorem fb2i (b : Bool) : fits .boolean (.int (b2i b)) = true := by cases b <;> rfl
def irm (x y : Int32) : Int32 := x - x / y * y
def imax (x y : Int32) : Int32 := if x < y then y else x
def imin (x y : Int32) : Int32 := if y < x then y else x
def iabs (x : Int32) : Int32 := if 0 ≤ x then x else 0 - x
abbrev nN (r : UInt64) : Prop := r &&& 0x7fffffffffffffff ≤ 0x7ff0000000000000
abbrev inR (i : Int32) (n : Nat) : Prop := ¬ (i < 0 ∨ n ≤ i.toNatClampNeg)
theorem vin {i : Int32} {n : Nat} (h : inR i n) : vp_in i n := h
def tac (i : Int32) : Int32 := ([1, 1, 0, -1, -1, -1, 0, 1] : List Int32).getD i.toNatClampNeg 0
def tdn (i : Int32) : Int32 := ([0, 1, 1, 1, 0, -1, -1, -1] : List Int32).getD i.toNatClampNeg 0
/-- walking down a function's text -/
theorem ip {α : Type} {c : Prop} [Decidable c] {A B : α} {o : α} (h : c) (hf : (if c then A else B) = o) : A = o := (if_pos h).symm.trans hf
theorem iq {α : Type} {c : Prop} [Decidable c] {A B : α} {o : α} (h : ¬ c) (hf : (if c then A else B) = o) : B = o := (if_neg h).symm.trans hf
theorem ck {α : Type} {c : Prop} [Decidable c] {A : Option α} {o : α} (hf : (if c then A else none) = some o) : c ∧ A = some o := by
  by_cases h : c
  · exact ⟨h, (if_pos h).symm.trans hf⟩
  · rw [if_neg h] at hf; cases hf
theorem bo {α β : Type} {x : Option α} {f : α → Option β} {o : β} (hf : x.bind f = some o) : ∃ a, x = some a ∧ f a = some o := by
  cases x with
  | none => cases hf
  | some a => exact ⟨a, rfl, hf⟩
theorem map_fm {α β : Type} {f : α → Option β} {l : List α} {r : List β} (h : l.map f = r.map some) : l.filterMap f = r := by
  rw [show l.filterMap f = (l.map f).filterMap id from by rw [List.filterMap_map]; rfl, h]
  induction r with
  | nil => rfl
  | cons a r ih => simp
section BC
variable {p : Program} {l : Launch} {e : Env} {R : Room} {s : State} {m : MethodId} {args : Array Value} {below : List Frame} {meth : Method} {c : Code} {H : Heap} {locs : List Loc} {cells slots : Nat} {Q : State → Prop}
variable {cc bytes : ByteArray} {pc index maxL nL mc ms n : Nat} {ls : Array Slot} {rest st0 As : List Value} {y : MethodName} {ret : Option FieldType} {ws Ts : List Cond} {rm : Room} {own C : String} {b : Nat} {g : Gg} {A : Nat → Prop} {W0 Wc W1 W2 Wr : va_W} {r x z : Int32}
theorem lv_irm (hx : p.tables.exec = Jvm.exec) (hb : c.code = cc) (hdg : decode cc pc = .ok (.irem, 1)) (hne : ¬ z = 0) (k : W p l e R s m args below meth c H locs cells slots Q (F0 m (pc + 1) ls (.int (irm x z) :: rest))) : W p l e R s m args below meth c H locs cells slots Q (F0 m pc ls (.int z :: .int x :: rest)) := lv_irem hx hb hdg hne k
theorem lv_beq {v : Bool} (hx : p.tables.exec = Jvm.exec) (hb : c.code = cc) {off : Int} {tgt : Nat} (hdg : decode cc pc = .ok (.ifCond .eq off, 3)) (ht : (pc : Int) + off = (tgt : Int))
    (kt : ¬ v = true → W p l e R s m args below meth c H locs cells slots Q (F0 m tgt ls rest)) (kf : v = true → W p l e R s m args below meth c H locs cells slots Q (F0 m (pc + 3) ls rest)) : W p l e R s m args below meth c H locs cells slots Q (F0 m pc ls (.int (b2i v) :: rest)) :=
  lv_if_eq hx hb hdg ht (fun h => kt (fun q => by rw [q] at h; exact absurd h (by decide))) (fun h => kf (by cases v; exact absurd rfl h; rfl))
theorem lv_bne {v : Bool} (hx : p.tables.exec = Jvm.exec) (hb : c.code = cc) {off : Int} {tgt : Nat} (hdg : decode cc pc = .ok (.ifCond .ne off, 3)) (ht : (pc : Int) + off = (tgt : Int))
    (kt : v = true → W p l e R s m args below meth c H locs cells slots Q (F0 m tgt ls rest)) (kf : ¬ v = true → W p l e R s m args below meth c H locs cells slots Q (F0 m (pc + 3) ls rest)) : W p l e R s m args below meth c H locs cells slots Q (F0 m pc ls (.int (b2i v) :: rest)) :=
  lv_if_ne hx hb hdg ht (fun h => kt (by cases v; exact absurd rfl h; rfl)) (fun h => kf (fun q => by rw [q] at h; exact absurd h (by decide)))
/-- a switch by a table: no case of it -/
theorem lv_tabD (hx : p.tables.exec = Jvm.exec) (hb : c.code = cc) {dflt lo hi : Int} {offs : Array Int} {len tgt : Nat} (hdg : decode cc pc = .ok (.tableswitch dflt lo hi offs, len)) (cs : List Int) (hlen : lo + offs.size = hi + 1) (hd : (List.range offs.size).all (fun k => decide (offs[k]? = some dflt) || decide (lo + (k : Int) ∈ cs)) = true) (hne : ∀ v ∈ cs, ¬ x.toInt = v) (ht : (pc : Int) + dflt = (tgt : Int))
    (k : W p l e R s m args below meth c H locs cells slots Q (F0 m tgt ls rest)) : W p l e R s m args below meth c H locs cells slots Q (F0 m pc ls (.int x :: rest)) := by
  by_cases h1 : x.toInt < lo
  · exact lv_tableOut hx hb hdg (Or.inl h1) ht k
  by_cases h2 : hi < x.toInt
  · exact lv_tableOut hx hb hdg (Or.inr h2) ht k
  obtain ⟨j, hj⟩ : ∃ j : Nat, x.toInt = lo + j := ⟨(x.toInt - lo).toNat, by omega⟩
  have hlt : j < offs.size := by omega
  have h3 := List.all_eq_true.mp hd j (List.mem_range.mpr hlt)
  simp only [Bool.or_eq_true, decide_eq_true_eq] at h3
  rcases h3 with h3 | h3
  · refine lv_tableIn hx hb hdg h1 h2 (off := dflt) ?_ ht k
    rw [hj, show (lo + (j : Int) - lo).toNat = j by omega]
    exact h3
  · exact absurd hj (hne _ h3)
/-- reads alone: nothing has changed -/
theorem p_iret {v : Int32} (hx : p.tables.exec = Jvm.exec) (hb : c.code = cc) (hr : meth.sig.returnType = some .int) (hlocks : meth.locks = false) (hv : v = r) (hd : decode cc pc = .ok (.ireturn, 1)) :
    W p l e R s m args below meth c s.heap [] 0 0 (MQ below (vp_Si (fun r' => r' = r)) args s 0 0 (fun _ => False)) (F0 m pc ls [.int v]) :=
  W.iret (v := v) hx hb hr (fun _ ht _ => ⟨v, rfl, hv, ht⟩) (fun _ h => absurd h List.not_mem_nil) hd hlocks
theorem p_zret {v w : Bool} (hx : p.tables.exec = Jvm.exec) (hb : c.code = cc) (hr : meth.sig.returnType = some .boolean) (hlocks : meth.locks = false) (hv : v = w) (hd : decode cc pc = .ok (.ireturn, 1)) :
    W p l e R s m args below meth c s.heap [] 0 0 (MQ below (vp_Si (fun r' => r' = b2i w)) args s 0 0 (fun _ => False)) (F0 m pc ls [.int (b2i v)]) :=
  W.zret (v := b2i v) hx hb hr (nb2i v) (fun _ ht _ => ⟨b2i v, rfl, by rw [hv], ht⟩) (fun _ h => absurd h List.not_mem_nil) hd hlocks
theorem pcallV (is : List Nat) (ci q0 : Nat) {fs : List Value} {q : vw_C} (S : CallFix p m c cc nL s args Ts own) (hP : va_P g.1 vwCl W0 H) (hE : EV g s) (hZ : SZ g A s s.heap) (hS : va_S A s.heap H locs)
    (hM : Met l y ws rm (va_Pc (.ref b :: As) (PP g Wc)) (vp_Si (fun r' => r' = r)) 0 0 (fun _ => False)) (cw : CallW R s args own C index y bytes maxL ret ws rm 0 0 n)
    (hs : is.map (fun i => W0[i]?) = Wc.map some) (hc : vwCl[ci]? = some q) (he : Wc[q0]? = some (b, .inr (ci, fs))) (hC : q.1 = C) (hn : As.length = n) (hsize : ls.size = nL) (hst : st0 = As.reverse ++ .ref b :: rest) (hW : (rest.map fun v => v.category).sum ≤ 8) (hcl : cells ≤ R.cells ∧ slots ≤ R.slots)
    (hdg : decode cc pc = .ok (.invokevirtual index, 3)) (kk : W p l e R s m args below meth c H locs cells slots Q (F0 m (pc + 3) ls (.int r :: rest))) : W p l e R s m args below meth c H locs cells slots Q (F0 m pc ls st0) := by
  have hPc := hP.sub (ws' := Wc) is (map_fm hs)
  obtain ⟨cell, h1, h2, h3⟩ := va_recv hE.1 hPc hc he
  refine vp_callSi (W.runV (As := As) (rest := rest) S hM cw ⟨fbP, ⟨cell, h1, h2, hC ▸ h3⟩, fun U hU hW => ⟨rfl, by rw [hU]; exact hPc, EV.to hW hE, by rw [hU]; exact SZ.to hW.alike hZ hS.2.1 (fun _ h => h.elim)⟩⟩ rfl hn hsize hst (lv_room hW) hdg hcl) (fun r' h => by rw [h]; exact kk)
theorem pcallS (is : List Nat) (S : CallFix p m c cc nL s args Ts own) (hP : va_P g.1 vwCl W0 H) (hE : EV g s) (hZ : SZ g A s s.heap) (hS : va_S A s.heap H locs)
    (hM : Met l y ws rm (va_Pc As (PP g Wc)) (vp_Si (fun r' => r' = r)) 0 0 (fun _ => False)) (cw : CallB R s args own index y bytes maxL ret ws rm 0 0 n ∧ (Cond.static y).before args s = true)
    (hs : is.map (fun i => W0[i]?) = Wc.map some) (hn : As.length = n) (hsize : ls.size = nL) (hst : st0 = As.reverse ++ rest) (hW : (rest.map fun v => v.category).sum ≤ 8) (hcl : cells ≤ R.cells ∧ slots ≤ R.slots)
    (hdg : decode cc pc = .ok (.invokestatic index, 3)) (kk : W p l e R s m args below meth c H locs cells slots Q (F0 m (pc + 3) ls (.int r :: rest))) : W p l e R s m args below meth c H locs cells slots Q (F0 m pc ls st0) := by
  have hPc := hP.sub (ws' := Wc) is (map_fm hs)
  refine vp_callSi (W.runS (As := As) (rest := rest) S hM cw ⟨fbP, fun U hU hW => ⟨rfl, by rw [hU]; exact hPc, EV.to hW hE, by rw [hU]; exact SZ.to hW.alike hZ hS.2.1 (fun _ h => h.elim)⟩⟩ rfl hn hsize hst (lv_room hW) hdg hcl) (fun r' h => by rw [h]; exact kk)
theorem callSiN {post : Int32 → Prop} {a : Array Value} (hr : va_Run p l e R s m args below meth c H locs cells slots 0 0 (F0 m pc ls st0) rest (vp_Si post a) (fun _ => False))
    (kk : ∀ r : Int32, post r → W p l e R s m args below meth c H locs cells slots Q (F0 m (pc + 3) ls (.int r :: rest))) : W p l e R s m args below meth c H locs cells slots Q (F0 m pc ls st0) := by
  intro T hT X
  obtain ⟨v, st₀, t, T', L, h0, X', hL, e1, -, ⟨r, hv, hp, hh⟩, st⟩ := hr T hT X
  cases hv
  obtain ⟨t2, a1, b1⟩ := kk r hp T' (by rw [e1, hh, h0]) (Stand.forget X' (fun q h => (hL q h).elim))
  exact ⟨t2, st t2 a1, b1⟩
theorem pcallN {host : String} (is : List Nat) (S : CallFix p m c cc nL s args Ts own) (hP : va_P g.1 vwCl W0 H) (hE : EV g s) (hZ : SZ g A s s.heap) (hS : va_S A s.heap H locs)
    (hM : Met l y ws rm (va_Pc As (PP g Wc)) (vp_Si (fun r' => r' = r)) 0 0 (fun _ => False)) (cw : va_CN R s args own index y host bytes maxL ret ws rm 0 0 n ∧ (Cond.static y).before args s = true ∧ True)
    (hs : is.map (fun i => W0[i]?) = Wc.map some) (hn : As.length = n) (hsize : ls.size = nL) (hst : st0 = As.reverse ++ rest) (hW : (rest.map fun v => v.category).sum ≤ 8) (hcl : cells ≤ R.cells ∧ slots ≤ R.slots)
    (hdg : decode cc pc = .ok (.invokestatic index, 3)) (kk : W p l e R s m args below meth c H locs cells slots Q (F0 m (pc + 3) ls (.int r :: rest))) : W p l e R s m args below meth c H locs cells slots Q (F0 m pc ls st0) := by
  have hPc := hP.sub (ws' := Wc) is (map_fm hs)
  refine callSiN (va_runSN (As := As) (rest := rest) S hM cw ⟨fbP, fun U hU hW => ⟨rfl, by rw [hU]; exact hPc, EV.to hW hE, by rw [hU]; exact SZ.to hW.alike hZ hS.2.1 (fun _ h => h.elim)⟩⟩ rfl hn hsize hst (lv_room hW) hdg hcl) (fun r' h => by rw [h]; exact kk)
/-- may write -/
theorem m_iret {v : Int32} (hx : p.tables.exec = Jvm.exec) (hb : c.code = cc) (hr : meth.sig.returnType = some .int) (hlocks : meth.locks = false) (hP : va_P g.1 vwCl W1 H) (hD : va_D A W1) (hS : va_S A s.heap H locs) (hv : v = r) (hd : decode cc pc = .ok (.ireturn, 1)) :
    W p l e R s m args below meth c H locs cells slots (MQ below (va_Qi (fun r' (_ : Unit) => r' = r) (fun _ t => PQ g W1 A t) A) args s cells slots A) (F0 m pc ls [.int v]) :=
  W.iret (v := v) hx hb hr (fun t ht _ => ⟨⟨v, (), rfl, hv, by rw [ht]; exact hP, hD⟩, hS.F ht⟩) hS.2.2 hd hlocks
theorem m_zret {v w : Bool} (hx : p.tables.exec = Jvm.exec) (hb : c.code = cc) (hr : meth.sig.returnType = some .boolean) (hlocks : meth.locks = false) (hP : va_P g.1 vwCl W1 H) (hD : va_D A W1) (hS : va_S A s.heap H locs) (hv : v = w) (hd : decode cc pc = .ok (.ireturn, 1)) :
    W p l e R s m args below meth c H locs cells slots (MQ below (va_Qi (fun r' (_ : Unit) => r' = b2i w) (fun _ t => PQ g W1 A t) A) args s cells slots A) (F0 m pc ls [.int (b2i v)]) :=
  W.zret (v := b2i v) hx hb hr (nb2i v) (fun t ht _ => ⟨⟨b2i v, (), rfl, by rw [hv], by rw [ht]; exact hP, hD⟩, hS.F ht⟩) hS.2.2 hd hlocks
theorem m_vret (hx : p.tables.exec = Jvm.exec) (hb : c.code = cc) (hr : meth.sig.returnType = none) (hlocks : meth.locks = false) (hP : va_P g.1 vwCl W1 H) (hD : va_D A W1) (hS : va_S A s.heap H locs) (hd : decode cc pc = .ok (.return_, 1)) :
    W p l e R s m args below meth c H locs cells slots (MQ below (va_Qv (fun _ : Unit => True) (fun _ t => PQ g W1 A t) A) args s cells slots A) (F0 m pc ls []) :=
  W.vret hx hb hr (fun t ht _ => ⟨⟨(), rfl, trivial, by rw [ht]; exact hP, hD⟩, hS.F ht⟩) hS.2.2 hd hlocks
theorem mPre (hP : va_P g.1 vwCl W0 H) (hD : va_D A W0) (hE : EV g s) (hZ : SZ g A s s.heap) (hS : va_S A s.heap H locs) (hA : ∀ q, s.heap.size ≤ q → A q) (isC : List Nat) (hC : isC.map (fun i => W0[i]?) = Wc.map some) (hn : va_nd isC = true) (U : State) (hU : U.heap = H) (hW : s.WarmedH U.vm) : PM g Wc H.size U :=
  ⟨by rw [hU], by rw [hU]; exact hP.sub isC (map_fm hC), (hD.sub isC hn hC).weaken (fun _ _ _ _ => trivial), EV.to hW hE, by rw [hU]; exact SZ.to hW.alike hZ hS.2.1 (va_free hD hS hA isC hC)⟩
theorem mcallVi (isC isR isN : List Nat) (ci q0 : Nat) {fs : List Value} {q : vw_C} (S : CallFix p m c cc nL s args Ts own) (hP : va_P g.1 vwCl W0 H) (hD : va_D A W0) (hE : EV g s) (hZ : SZ g A s s.heap) (hS : va_S A s.heap H locs) (hA : ∀ q, s.heap.size ≤ q → A q)
    (hM : Met l y ws rm (va_Pc (.ref b :: As) (PM g Wc H.size)) (va_Qi (fun r' (_ : Unit) => r' = r) (fun _ t => PQ g W1 (va_A Wc H.size) t) (va_A Wc H.size)) mc ms (va_A Wc H.size)) (cw : CallW R s args own C index y bytes maxL ret ws rm mc ms n)
    (hC : isC.map (fun i => W0[i]?) = Wc.map some) (hR : isR.map (fun i => W0[i]?) = Wr.map some) (hN : isN.map (fun i => (Wr ++ W1)[i]?) = W2.map some) (hnC : va_nd isC = true) (hnR : va_nd isR = true) (hdis : ∀ i ∈ isR, i ∉ isC) (hnN : va_nd isN = true)
    (hc : vwCl[ci]? = some q) (he : Wc[q0]? = some (b, .inr (ci, fs))) (hqC : q.1 = C) (hn : As.length = n) (hsize : ls.size = nL) (hst : st0 = As.reverse ++ .ref b :: rest) (hW : (rest.map fun v => v.category).sum ≤ 8) (hcl : cells + mc ≤ R.cells ∧ slots + ms ≤ R.slots)
    (hdg : decode cc pc = .ok (.invokevirtual index, 3)) (kk : ∀ (H1 : Heap) (locs1 : List Loc), va_P g.1 vwCl W2 H1 → va_D A W2 → va_S A s.heap H1 locs1 → W p l e R s m args below meth c H1 locs1 (cells + mc) (slots + ms) Q (F0 m (pc + 3) ls (.int r :: rest))) : W p l e R s m args below meth c H locs cells slots Q (F0 m pc ls st0) := by
  have hPc := hP.sub (ws' := Wc) isC (map_fm hC)
  have hFc := va_free hD hS hA isC hC
  obtain ⟨cell, h1, h2, h3⟩ := va_recv hE.1 hPc hc he
  refine va_calli (va_runV (As := As) (rest := rest) S hM cw ⟨fbM, ⟨cell, h1, h2, hqC ▸ h3⟩, fun U hU hW => ⟨rfl, mPre hP hD hE hZ hS hA isC hC hnC U hU hW⟩⟩ rfl hn hsize hst (lv_room hW) hdg hcl) hS (fun q _ h => hFc q h) hFc (fun r' u t H1 locs1 ht hvm hw hB hz1 hk1 hS1 => ?_)
  obtain ⟨hP1, hD1⟩ := hB
  rw [ht] at hP1
  obtain ⟨hP2, hD2⟩ := va_join hP hD isC isR hC hR hnR hdis hk1 hFc hP1 hD1
  rw [hw]
  exact kk H1 locs1 (hP2.sub isN (map_fm hN)) (hD2.sub isN hnN hN) hS1
theorem mcallVv (isC isR isN : List Nat) (ci q0 : Nat) {fs : List Value} {q : vw_C} (S : CallFix p m c cc nL s args Ts own) (hP : va_P g.1 vwCl W0 H) (hD : va_D A W0) (hE : EV g s) (hZ : SZ g A s s.heap) (hS : va_S A s.heap H locs) (hA : ∀ q, s.heap.size ≤ q → A q)
    (hM : Met l y ws rm (va_Pc (.ref b :: As) (PM g Wc H.size)) (va_Qv (fun _ : Unit => True) (fun _ t => PQ g W1 (va_A Wc H.size) t) (va_A Wc H.size)) mc ms (va_A Wc H.size)) (cw : CallW R s args own C index y bytes maxL ret ws rm mc ms n)
    (hC : isC.map (fun i => W0[i]?) = Wc.map some) (hR : isR.map (fun i => W0[i]?) = Wr.map some) (hN : isN.map (fun i => (Wr ++ W1)[i]?) = W2.map some) (hnC : va_nd isC = true) (hnR : va_nd isR = true) (hdis : ∀ i ∈ isR, i ∉ isC) (hnN : va_nd isN = true)
    (hc : vwCl[ci]? = some q) (he : Wc[q0]? = some (b, .inr (ci, fs))) (hqC : q.1 = C) (hn : As.length = n) (hsize : ls.size = nL) (hst : st0 = As.reverse ++ .ref b :: rest) (hW : (rest.map fun v => v.category).sum ≤ 8) (hcl : cells + mc ≤ R.cells ∧ slots + ms ≤ R.slots)
    (hdg : decode cc pc = .ok (.invokevirtual index, 3)) (kk : ∀ (H1 : Heap) (locs1 : List Loc), va_P g.1 vwCl W2 H1 → va_D A W2 → va_S A s.heap H1 locs1 → W p l e R s m args below meth c H1 locs1 (cells + mc) (slots + ms) Q (F0 m (pc + 3) ls rest)) : W p l e R s m args below meth c H locs cells slots Q (F0 m pc ls st0) := by
  have hPc := hP.sub (ws' := Wc) isC (map_fm hC)
  have hFc := va_free hD hS hA isC hC
  obtain ⟨cell, h1, h2, h3⟩ := va_recv hE.1 hPc hc he
  refine va_callv (va_runV (As := As) (rest := rest) S hM cw ⟨fbM, ⟨cell, h1, h2, hqC ▸ h3⟩, fun U hU hW => ⟨rfl, mPre hP hD hE hZ hS hA isC hC hnC U hU hW⟩⟩ rfl hn hsize hst (lv_room hW) hdg hcl) hS (fun q _ h => hFc q h) hFc (fun u t H1 locs1 ht hvm hw hB hz1 hk1 hS1 => ?_)
  obtain ⟨hP1, hD1⟩ := hB
  rw [ht] at hP1
  obtain ⟨hP2, hD2⟩ := va_join hP hD isC isR hC hR hnR hdis hk1 hFc hP1 hD1
  exact kk H1 locs1 (hP2.sub isN (map_fm hN)) (hD2.sub isN hnN hN) hS1
theorem mcallSv (isC isR isN : List Nat) (S : CallFix p m c cc nL s args Ts own) (hP : va_P g.1 vwCl W0 H) (hD : va_D A W0) (hE : EV g s) (hZ : SZ g A s s.heap) (hS : va_S A s.heap H locs) (hA : ∀ q, s.heap.size ≤ q → A q)
    (hM : Met l y ws rm (va_Pc As (PM g Wc H.size)) (va_Qv (fun _ : Unit => True) (fun _ t => PQ g W1 (va_A Wc H.size) t) (va_A Wc H.size)) mc ms (va_A Wc H.size)) (cw : CallB R s args own index y bytes maxL ret ws rm mc ms n ∧ (Cond.static y).before args s = true)
    (hC : isC.map (fun i => W0[i]?) = Wc.map some) (hR : isR.map (fun i => W0[i]?) = Wr.map some) (hN : isN.map (fun i => (Wr ++ W1)[i]?) = W2.map some) (hnC : va_nd isC = true) (hnR : va_nd isR = true) (hdis : ∀ i ∈ isR, i ∉ isC) (hnN : va_nd isN = true)
    (hn : As.length = n) (hsize : ls.size = nL) (hst : st0 = As.reverse ++ rest) (hW : (rest.map fun v => v.category).sum ≤ 8) (hcl : cells + mc ≤ R.cells ∧ slots + ms ≤ R.slots)
    (hdg : decode cc pc = .ok (.invokestatic index, 3)) (kk : ∀ (H1 : Heap) (locs1 : List Loc), va_P g.1 vwCl W2 H1 → va_D A W2 → va_S A s.heap H1 locs1 → W p l e R s m args below meth c H1 locs1 (cells + mc) (slots + ms) Q (F0 m (pc + 3) ls rest)) : W p l e R s m args below meth c H locs cells slots Q (F0 m pc ls st0) := by
  have hFc := va_free hD hS hA isC hC
  refine va_callv (va_runS (As := As) (rest := rest) S hM cw ⟨fbM, fun U hU hW => ⟨rfl, mPre hP hD hE hZ hS hA isC hC hnC U hU hW⟩⟩ rfl hn hsize hst (lv_room hW) hdg hcl) hS (fun q _ h => hFc q h) hFc (fun u t H1 locs1 ht hvm hw hB hz1 hk1 hS1 => ?_)
  obtain ⟨hP1, hD1⟩ := hB
  rw [ht] at hP1
  obtain ⟨hP2, hD2⟩ := va_join hP hD isC isR hC hR hnR hdis hk1 hFc hP1 hD1
  exact kk H1 locs1 (hP2.sub isN (map_fm hN)) (hD2.sub isN hnN hN) hS1
theorem p_dret {v r : UInt64} (hx : p.tables.exec = Jvm.exec) (hb : c.code = cc) (hr : meth.sig.returnType = some .double) (hlocks : meth.locks = false) (hv : v = r) (hd : decode cc pc = .ok (.dreturn, 1)) :
    W p l e R s m args below meth c s.heap [] 0 0 (MQ below (vp_Sd (fun r' => r' = r)) args s 0 0 (fun _ => False)) (F0 m pc ls [.double v]) :=
  W.dret (v := v) hx hb hr (fun _ ht _ => ⟨v, rfl, hv, ht⟩) (fun _ h => absurd h List.not_mem_nil) hd hlocks
theorem m_dret {v r : UInt64} (hx : p.tables.exec = Jvm.exec) (hb : c.code = cc) (hr : meth.sig.returnType = some .double) (hlocks : meth.locks = false) (hP : va_P g.1 vwCl W1 H) (hD : va_D A W1) (hS : va_S A s.heap H locs) (hv : v = r) (hd : decode cc pc = .ok (.dreturn, 1)) :
    W p l e R s m args below meth c H locs cells slots (MQ below (va_Qd (fun r' (_ : Unit) => r' = r) (fun _ t => PQ g W1 A t) A) args s cells slots A) (F0 m pc ls [.double v]) :=
  W.dret (v := v) hx hb hr (fun t ht _ => ⟨⟨v, (), rfl, hv, by rw [ht]; exact hP, hD⟩, hS.F ht⟩) hS.2.2 hd hlocks
theorem pcallVd (is : List Nat) (ci q0 : Nat) {fs : List Value} {q : vw_C} {rd : UInt64} (S : CallFix p m c cc nL s args Ts own) (hP : va_P g.1 vwCl W0 H) (hE : EV g s) (hZ : SZ g A s s.heap) (hS : va_S A s.heap H locs)
    (hM : Met l y ws rm (va_Pc (.ref b :: As) (PP g Wc)) (vp_Sd (fun r' => r' = rd)) 0 0 (fun _ => False)) (cw : CallW R s args own C index y bytes maxL ret ws rm 0 0 n)
    (hs : is.map (fun i => W0[i]?) = Wc.map some) (hc : vwCl[ci]? = some q) (he : Wc[q0]? = some (b, .inr (ci, fs))) (hC : q.1 = C) (hn : As.length = n) (hsize : ls.size = nL) (hst : st0 = As.reverse ++ .ref b :: rest) (hW : (rest.map fun v => v.category).sum ≤ 8) (hcl : cells ≤ R.cells ∧ slots ≤ R.slots)
    (hdg : decode cc pc = .ok (.invokevirtual index, 3)) (kk : W p l e R s m args below meth c H locs cells slots Q (F0 m (pc + 3) ls (.double rd :: rest))) : W p l e R s m args below meth c H locs cells slots Q (F0 m pc ls st0) := by
  have hPc := hP.sub (ws' := Wc) is (map_fm hs)
  obtain ⟨cell, h1, h2, h3⟩ := va_recv hE.1 hPc hc he
  refine vp_callSd (W.runV (As := As) (rest := rest) S hM cw ⟨fbP, ⟨cell, h1, h2, hC ▸ h3⟩, fun U hU hW => ⟨rfl, by rw [hU]; exact hPc, EV.to hW hE, by rw [hU]; exact SZ.to hW.alike hZ hS.2.1 (fun _ h => h.elim)⟩⟩ rfl hn hsize hst (lv_room hW) hdg hcl) (fun r' h => by rw [h]; exact kk)
theorem pcallSd {rd : UInt64} (is : List Nat) (S : CallFix p m c cc nL s args Ts own) (hP : va_P g.1 vwCl W0 H) (hE : EV g s) (hZ : SZ g A s s.heap) (hS : va_S A s.heap H locs)
    (hM : Met l y ws rm (va_Pc As (PP g Wc)) (vp_Sd (fun r' => r' = rd)) 0 0 (fun _ => False)) (cw : CallB R s args own index y bytes maxL ret ws rm 0 0 n ∧ (Cond.static y).before args s = true)
    (hs : is.map (fun i => W0[i]?) = Wc.map some) (hn : As.length = n) (hsize : ls.size = nL) (hst : st0 = As.reverse ++ rest) (hW : (rest.map fun v => v.category).sum ≤ 8) (hcl : cells ≤ R.cells ∧ slots ≤ R.slots)
    (hdg : decode cc pc = .ok (.invokestatic index, 3)) (kk : W p l e R s m args below meth c H locs cells slots Q (F0 m (pc + 3) ls (.double rd :: rest))) : W p l e R s m args below meth c H locs cells slots Q (F0 m pc ls st0) := by
  have hPc := hP.sub (ws' := Wc) is (map_fm hs)
  refine vp_callSd (W.runS (As := As) (rest := rest) S hM cw ⟨fbP, fun U hU hW => ⟨rfl, by rw [hU]; exact hPc, EV.to hW hE, by rw [hU]; exact SZ.to hW.alike hZ hS.2.1 (fun _ h => h.elim)⟩⟩ rfl hn hsize hst (lv_room hW) hdg hcl) (fun r' h => by rw [h]; exact kk)
theorem mcallVd (isC isR isN : List Nat) (ci q0 : Nat) {fs : List Value} {q : vw_C} {rd : UInt64} (S : CallFix p m c cc nL s args Ts own) (hP : va_P g.1 vwCl W0 H) (hD : va_D A W0) (hE : EV g s) (hZ : SZ g A s s.heap) (hS : va_S A s.heap H locs) (hA : ∀ q, s.heap.size ≤ q → A q)
    (hM : Met l y ws rm (va_Pc (.ref b :: As) (PM g Wc H.size)) (va_Qd (fun r' (_ : Unit) => r' = rd) (fun _ t => PQ g W1 (va_A Wc H.size) t) (va_A Wc H.size)) mc ms (va_A Wc H.size)) (cw : CallW R s args own C index y bytes maxL ret ws rm mc ms n)
    (hC : isC.map (fun i => W0[i]?) = Wc.map some) (hR : isR.map (fun i => W0[i]?) = Wr.map some) (hN : isN.map (fun i => (Wr ++ W1)[i]?) = W2.map some) (hnC : va_nd isC = true) (hnR : va_nd isR = true) (hdis : ∀ i ∈ isR, i ∉ isC) (hnN : va_nd isN = true)
    (hc : vwCl[ci]? = some q) (he : Wc[q0]? = some (b, .inr (ci, fs))) (hqC : q.1 = C) (hn : As.length = n) (hsize : ls.size = nL) (hst : st0 = As.reverse ++ .ref b :: rest) (hW : (rest.map fun v => v.category).sum ≤ 8) (hcl : cells + mc ≤ R.cells ∧ slots + ms ≤ R.slots)
    (hdg : decode cc pc = .ok (.invokevirtual index, 3)) (kk : ∀ (H1 : Heap) (locs1 : List Loc), va_P g.1 vwCl W2 H1 → va_D A W2 → va_S A s.heap H1 locs1 → W p l e R s m args below meth c H1 locs1 (cells + mc) (slots + ms) Q (F0 m (pc + 3) ls (.double rd :: rest))) : W p l e R s m args below meth c H locs cells slots Q (F0 m pc ls st0) := by
  have hPc := hP.sub (ws' := Wc) isC (map_fm hC)
  have hFc := va_free hD hS hA isC hC
  obtain ⟨cell, h1, h2, h3⟩ := va_recv hE.1 hPc hc he
  refine va_calld (va_runV (As := As) (rest := rest) S hM cw ⟨fbM, ⟨cell, h1, h2, hqC ▸ h3⟩, fun U hU hW => ⟨rfl, mPre hP hD hE hZ hS hA isC hC hnC U hU hW⟩⟩ rfl hn hsize hst (lv_room hW) hdg hcl) hS (fun q _ h => hFc q h) hFc (fun r' u t H1 locs1 ht hvm hw hB hz1 hk1 hS1 => ?_)
  obtain ⟨hP1, hD1⟩ := hB
  rw [ht] at hP1
  obtain ⟨hP2, hD2⟩ := va_join hP hD isC isR hC hR hnR hdis hk1 hFc hP1 hD1
  rw [hw]
  exact kk H1 locs1 (hP2.sub isN (map_fm hN)) (hD2.sub isN hnN hN) hS1
theorem p_aret {k r : Nat} {C9 : String} {ad : Nat → Value} (hx : p.tables.exec = Jvm.exec) (hb : c.code = cc) (hr : meth.sig.returnType = some (.object C9)) (hlocks : meth.locks = false) (ha : ∀ j, ∃ a, ad j = .ref a) (hv : k = r) (hd : decode cc pc = .ok (.areturn, 1)) :
    W p l e R s m args below meth c s.heap [] 0 0 (MQ below (va_Sr (fun k' => k' = r) ad) args s 0 0 (fun _ => False)) (F0 m pc ls [ad k]) :=
  W.aret (v := ad k) hx hb hr (Or.inl ⟨_, rfl⟩) (Or.inr (ha k)) (fun _ ht _ => ⟨k, rfl, hv, ht⟩) (fun _ h => absurd h List.not_mem_nil) hd hlocks
theorem pcallVr (is : List Nat) (ci q0 : Nat) {fs : List Value} {q : vw_C} {rk : Nat} {ad : Nat → Value} (S : CallFix p m c cc nL s args Ts own) (hP : va_P g.1 vwCl W0 H) (hE : EV g s) (hZ : SZ g A s s.heap) (hS : va_S A s.heap H locs)
    (hM : Met l y ws rm (va_Pc (.ref b :: As) (PP g Wc)) (va_Sr (fun k' => k' = rk) ad) 0 0 (fun _ => False)) (cw : CallW R s args own C index y bytes maxL ret ws rm 0 0 n)
    (hs : is.map (fun i => W0[i]?) = Wc.map some) (hc : vwCl[ci]? = some q) (he : Wc[q0]? = some (b, .inr (ci, fs))) (hC : q.1 = C) (hn : As.length = n) (hsize : ls.size = nL) (hst : st0 = As.reverse ++ .ref b :: rest) (hW : (rest.map fun v => v.category).sum ≤ 8) (hcl : cells ≤ R.cells ∧ slots ≤ R.slots)
    (hdg : decode cc pc = .ok (.invokevirtual index, 3)) (kk : W p l e R s m args below meth c H locs cells slots Q (F0 m (pc + 3) ls (ad rk :: rest))) : W p l e R s m args below meth c H locs cells slots Q (F0 m pc ls st0) := by
  have hPc := hP.sub (ws' := Wc) is (map_fm hs)
  obtain ⟨cell, h1, h2, h3⟩ := va_recv hE.1 hPc hc he
  refine va_csr (W.runV (As := As) (rest := rest) S hM cw ⟨fbP, ⟨cell, h1, h2, hC ▸ h3⟩, fun U hU hW => ⟨rfl, by rw [hU]; exact hPc, EV.to hW hE, by rw [hU]; exact SZ.to hW.alike hZ hS.2.1 (fun _ h => h.elim)⟩⟩ rfl hn hsize hst (lv_room hW) hdg hcl) (fun r' h => by rw [h]; exact kk)
end BC
/-! the worlds of the classes, each over one value -/
abbrev Sh : Type := Int32 × Int32 × (Nat → Int32) × (Nat → Int32) × (Nat → Int32) × (Nat → Int32)
abbrev S_n (σ : Sh) : Int32 := σ.1
abbrev S_gap (σ : Sh) : Int32 := σ.2.1
abbrev S_lv (σ : Sh) : Nat → Int32 := σ.2.2.1
abbrev S_sc (σ : Sh) : Nat → Int32 := σ.2.2.2.1
abbrev S_lb (σ : Sh) : Nat → Int32 := σ.2.2.2.2.1
abbrev S_pt (σ : Sh) : Nat → Int32 := σ.2.2.2.2.2
abbrev S_n' (σ : Sh) (v : Int32) : Sh := (v, σ.2)
abbrev S_gap' (σ : Sh) (v : Int32) : Sh := (σ.1, v, σ.2.2)
abbrev S_lv' (σ : Sh) (v : Nat → Int32) : Sh := (σ.1, σ.2.1, v, σ.2.2.2)
abbrev S_sc' (σ : Sh) (v : Nat → Int32) : Sh := (σ.1, σ.2.1, σ.2.2.1, v, σ.2.2.2.2)
abbrev S_lb' (σ : Sh) (v : Nat → Int32) : Sh := (σ.1, σ.2.1, σ.2.2.1, σ.2.2.2.1, v, σ.2.2.2.2.2)
abbrev S_pt' (σ : Sh) (v : Nat → Int32) : Sh := (σ.1, σ.2.1, σ.2.2.1, σ.2.2.2.1, σ.2.2.2.2.1, v)
abbrev wS (g : Gg) (h a1 a2 a3 a4 : Nat) (σ : Sh) : va_W := [(h, .inr (3, [.int (S_n σ), .int (S_gap σ), .ref a1, .ref a2, .ref a3, .ref a4])), (a1, .inl (g.2.1 0, 8, .inl (S_lv σ))), (a2, .inl (g.2.1 0, 8, .inl (S_sc σ))), (a3, .inl (g.2.1 0, 8, .inl (S_lb σ))), (a4, .inl (g.2.1 0, 488, .inl (S_pt σ)))]
abbrev Tx : Type := (Nat → Int32) × Int32 × Int32 × Int32 × Int32 × Int32 × Int32 × Int32
abbrev X_sg (τ : Tx) : Nat → Int32 := τ.1
abbrev X_len (τ : Tx) : Int32 := τ.2.1
abbrev X_cur (τ : Tx) : Int32 := τ.2.2.1
abbrev X_kind (τ : Tx) : Int32 := τ.2.2.2.1
abbrev X_fst (τ : Tx) : Int32 := τ.2.2.2.2.1
abbrev X_snd (τ : Tx) : Int32 := τ.2.2.2.2.2.1
abbrev X_df (τ : Tx) : Int32 := τ.2.2.2.2.2.2.1
abbrev X_dc (τ : Tx) : Int32 := τ.2.2.2.2.2.2.2
abbrev X_sg' (τ : Tx) (v : Nat → Int32) : Tx := (v, τ.2)
abbrev X_len' (τ : Tx) (v : Int32) : Tx := (τ.1, v, τ.2.2)
abbrev X_cur' (τ : Tx) (v : Int32) : Tx := (τ.1, τ.2.1, v, τ.2.2.2)
abbrev X_kind' (τ : Tx) (v : Int32) : Tx := (τ.1, τ.2.1, τ.2.2.1, v, τ.2.2.2.2)
abbrev X_fst' (τ : Tx) (v : Int32) : Tx := (τ.1, τ.2.1, τ.2.2.1, τ.2.2.2.1, v, τ.2.2.2.2.2)
abbrev X_snd' (τ : Tx) (v : Int32) : Tx := (τ.1, τ.2.1, τ.2.2.1, τ.2.2.2.1, τ.2.2.2.2.1, v, τ.2.2.2.2.2.2)
abbrev X_df' (τ : Tx) (v : Int32) : Tx := (τ.1, τ.2.1, τ.2.2.1, τ.2.2.2.1, τ.2.2.2.2.1, τ.2.2.2.2.2.1, v, τ.2.2.2.2.2.2.2)
abbrev X_dc' (τ : Tx) (v : Int32) : Tx := (τ.1, τ.2.1, τ.2.2.1, τ.2.2.2.1, τ.2.2.2.2.1, τ.2.2.2.2.2.1, τ.2.2.2.2.2.2.1, v)
abbrev wX (g : Gg) (x0 x1 : Nat) (τ : Tx) : va_W := [(x0, .inr (2, [.ref x1, .int (X_len τ), .int (X_cur τ), .int (X_kind τ), .int (X_fst τ), .int (X_snd τ), .int (X_df τ), .int (X_dc τ)])), (x1, .inl (g.2.1 0, 60, .inl (X_sg τ)))]
abbrev Dr : Type := (Nat → Int32) × (Nat → Int32) × Int32
abbrev D_dots (δ : Dr) : Nat → Int32 := δ.1
abbrev D_wt (δ : Dr) : Nat → Int32 := δ.2.1
abbrev D_wc (δ : Dr) : Int32 := δ.2.2
abbrev D_dots' (δ : Dr) (v : Nat → Int32) : Dr := (v, δ.2)
abbrev D_wt' (δ : Dr) (v : Nat → Int32) : Dr := (δ.1, v, δ.2.2)
abbrev D_wc' (δ : Dr) (v : Int32) : Dr := (δ.1, δ.2.1, v)
abbrev wD (g : Gg) (d0 d1 d2 : Nat) (δ : Dr) : va_W := [(d0, .inr (0, [.ref d1, .ref d2, .int (D_wc δ)])), (d1, .inl (g.2.1 0, 3456, .inl (D_dots δ))), (d2, .inl (g.2.1 0, 3456, .inl (D_wt δ)))]
abbrev wC (c0 h k0 x0 d0 : Nat) : va_W := [(c0, .inr (4, [.ref h, .ref k0, .ref x0, .ref d0]))]
abbrev Hi : Type := Int32 × Int32 × Bool × (Nat → Sh) × Sh
abbrev H_old (η : Hi) : Int32 := η.1
abbrev H_cnt (η : Hi) : Int32 := η.2.1
abbrev H_tk (η : Hi) : Bool := η.2.2.1
abbrev H_sv (η : Hi) : Nat → Sh := η.2.2.2.1
abbrev H_sn (η : Hi) : Sh := η.2.2.2.2
abbrev H_old' (η : Hi) (v : Int32) : Hi := (v, η.2)
abbrev H_cnt' (η : Hi) (v : Int32) : Hi := (η.1, v, η.2.2)
abbrev H_tk' (η : Hi) (v : Bool) : Hi := (η.1, η.2.1, v, η.2.2.2)
abbrev H_sv' (η : Hi) (v : Nat → Sh) : Hi := (η.1, η.2.1, η.2.2.1, v, η.2.2.2.2)
abbrev H_sn' (η : Hi) (v : Sh) : Hi := (η.1, η.2.1, η.2.2.1, η.2.2.2.1, v)
def updS (f : Nat → Sh) (k : Nat) (x : Sh) : Nat → Sh := fun j => if j = k then x else f j
abbrev wG (g : Gg) (γ : Nat → Nat → Nat) (k : Nat) (σ : Sh) : va_W := wS g (γ k 0) (γ k 1) (γ k 2) (γ k 3) (γ k 4) σ
abbrev wH (g : Gg) (k0 k1 : Nat) (γ : Nat → Nat → Nat) (η : Hi) : va_W := (k0, .inr (1, [.ref k1, .int (H_old η), .int (H_cnt η), .ref (γ 5 0), .int (b2i (H_tk η))])) :: (k1, .inl (g.2.1 1, 5, .inr (.inr (.inr (.inr (fun k => some (γ k 0))))))) :: (wG g γ 0 (H_sv η 0) ++ wG g γ 1 (H_sv η 1) ++ wG g γ 2 (H_sv η 2) ++ wG g γ 3 (H_sv η 3) ++ wG g γ 4 (H_sv η 4) ++ wG g γ 5 (H_sn η))
def FU : Nat := 10000
