/-! constructors -/
abbrev S00 : Sh := (0, 2, fun _ => 0, fun _ => 0, fun _ => 0, fun _ => 0)
abbrev X00 : Tx := (fun _ => 0, 0, 0, 0, 0, 0, 0, 0)
abbrev D00 : Dr := (fun _ => 0, fun _ => 0, 0)
abbrev H00 : Hi := (0, 0, false, fun _ => S00, S00)
theorem arrV_congr {cI : ClassId} {N : Nat} {f g : Nat → Value} (h : ∀ j, j < N → f j = g j) : arrV cI N f = arrV cI N g := by
  unfold arrV
  rw [show (fun j : Fin N => f j.val) = (fun j : Fin N => g j.val) from funext fun j => h j.val j.isLt]
section CT
variable {p : Program} {l : Launch} {e : Env} {R : Room} {s : State} {m : MethodId} {args : Array Value} {below : List Frame} {meth : Method} {c : Code} {H : Heap} {locs : List Loc} {cells slots : Nat} {Q : State → Prop}
variable {cc bytes : ByteArray} {pc index maxL nL mc ms n : Nat} {ls : Array Slot} {rest st0 As : List Value} {y : MethodName} {ret : Option FieldType} {ws Ts : List Cond} {rm : Room} {own C : String} {b : Nat} {g : Gg} {A : Nat → Prop} {W0 Wc Wr : va_W}
theorem newaI {k : Int32} {N' : Nat} (hx : p.tables.exec = Jvm.exec) (hb : c.code = cc) (harr : (Cond.arrayClass .int).before args s = true) (hE : EV g s) (hP : va_P g.1 vwCl W0 H) (hD : va_D A W0) (hS : va_S A s.heap H locs) (hA : ∀ q, s.heap.size ≤ q → A q) (hn : ¬ k < 0) (hN : k.toNatClampNeg = N') (hbytes : N' * componentBytes .int ≤ 536870912) (hcells : cells + 1 ≤ R.cells) (hslots : slots + N' ≤ R.slots) (hdg : decode cc pc = .ok (.newarray .int, 2))
    (kk : ∀ (q : Nat) (H1 : Heap), va_P g.1 vwCl (W0 ++ [(q, .inl (g.2.1 0, N', .inl (fun _ => 0)))]) H1 → va_D A (W0 ++ [(q, .inl (g.2.1 0, N', .inl (fun _ => 0)))]) → va_S A s.heap H1 locs → W p l e R s m args below meth c H1 locs (cells + 1) (slots + N') Q (F0 m (pc + 2) ls (.ref q :: rest))) : W p l e R s m args below meth c H locs cells slots Q (F0 m pc ls (.int k :: rest)) :=
  va_newa (atype := .int) (ty := .int) (a0 := (N', .inl (fun _ => 0))) hx hb harr rfl hE.1 hP hD hS hA (fun _ => rfl) hn hN hbytes hcells hslots hdg (fun q cA H1 hK1 hP1 hD1 hS1 => by
    have e1 : cA = g.2.1 0 := Option.some.inj ((show _ = some cA from (hK1.2 3 (cA, .int) rfl).2).symm.trans (show _ = some (g.2.1 0) from (hK1.2 0 (g.2.1 0, .int) rfl).2))
    rw [e1] at hP1 hD1
    exact kk q H1 hP1 hD1 hS1)
theorem newaQ {k : Int32} {N' : Nat} (hx : p.tables.exec = Jvm.exec) (hb : c.code = cc) (hown : s.vm.findClass own = some m.cls) (hcl : (Cond.classLink own index "ContourLabels$Sheet").before args s = true) (hE : EV g s) (hP : va_P g.1 vwCl W0 H) (hD : va_D A W0) (hS : va_S A s.heap H locs) (hA : ∀ q, s.heap.size ≤ q → A q) (hn : ¬ k < 0) (hN : k.toNatClampNeg = N') (hbytes : N' * 4 ≤ 536870912) (hcells : cells + 1 ≤ R.cells) (hslots : slots + N' ≤ R.slots) (hdg : decode cc pc = .ok (.anewarray index, 3))
    (kk : ∀ (q : Nat) (H1 : Heap), va_P g.1 vwCl (W0 ++ [(q, .inl (g.2.1 1, N', .inr (.inr (.inr (.inr (fun _ => none))))))]) H1 → va_D A (W0 ++ [(q, .inl (g.2.1 1, N', .inr (.inr (.inr (.inr (fun _ => none))))))]) → va_S A s.heap H1 locs → W p l e R s m args below meth c H1 locs (cells + 1) (slots + N') Q (F0 m (pc + 3) ls (.ref q :: rest))) : W p l e R s m args below meth c H locs cells slots Q (F0 m pc ls (.int k :: rest)) :=
  va_newq hx hb hown hcl hE.2.2.2.2 hE.1 hP hD hS hA hn hN hbytes hcells hslots hdg (fun q cA H1 hK1 hP1 hD1 hS1 => by
    obtain ⟨-, -, -, -, -, e1⟩ := (hK1.2 3 (cA, .object "ContourLabels$Sheet") rfl).2
    obtain ⟨-, -, -, -, -, e2⟩ := (hK1.2 1 (g.2.1 1, .object "ContourLabels$Sheet") rfl).2
    have e3 : cA = g.2.1 1 := Option.some.inj (e1.symm.trans e2)
    rw [e3] at hP1 hD1
    exact kk q H1 hP1 hD1 hS1)
theorem vaQ_congr {k a N : Nat} {cA : ClassId} {f f2 : Nat → Option Nat} {W0 : va_W} (hP : va_P g.1 vwCl W0 H) (hk : W0[k]? = some (a, .inl (cA, N, .inr (.inr (.inr (.inr f)))))) (hf : ∀ j, j < N → f j = f2 j) : va_P g.1 vwCl (W0.set k (a, .inl (cA, N, .inr (.inr (.inr (.inr f2)))))) H := by
  intro j q hj
  rw [List.getElem?_set] at hj
  by_cases h : k = j
  · rw [if_pos h] at hj
    by_cases h2 : k < W0.length
    · rw [if_pos h2] at hj
      cases hj
      have h3 := hP k _ hk
      have e1 : vp_cell cA (N, .inr (.inr (.inr (.inr f)))) = vp_cell cA (N, .inr (.inr (.inr (.inr f2)))) := by
        simp only [vp_cell]
        exact arrV_congr (fun j hj => by rw [hf j hj])
      exact (show H[a]? = _ from h3).trans (congrArg some e1)
    · rw [if_neg h2] at hj; cases hj
  · rw [if_neg h] at hj
    exact hP j q hj
theorem vdQ_congr {k a N : Nat} {cA : ClassId} {f f2 : Nat → Option Nat} {W0 : va_W} (hD : va_D A W0) (hk : W0[k]? = some (a, .inl (cA, N, .inr (.inr (.inr (.inr f)))))) : va_D A (W0.set k (a, .inl (cA, N, .inr (.inr (.inr (.inr f2)))))) := hD.set hk
theorem mcallIv {S : Type} {W1 W2 : S → va_W} (isC isR isN : List Nat) (K : CallFix p m c cc nL s args Ts own) (hP : va_P g.1 vwCl W0 H) (hD : va_D A W0) (hE : EV g s) (hZ : SZ g A s s.heap) (hS : va_S A s.heap H locs) (hA : ∀ q, s.heap.size ≤ q → A q)
    (hM : Met l y ws rm (va_Pc (.ref b :: As) (PM g Wc H.size)) (va_Qv (fun _ : S => True) (fun u t => PQ g (W1 u) (va_A Wc H.size) t) (va_A Wc H.size)) mc ms (va_A Wc H.size)) (cw : CallB R s args own index y bytes maxL none ws rm mc ms n ∧ y.name = "<init>" ∧ (Cond.instanceMethod y).before args s = true)
    (hC : isC.map (fun i => W0[i]?) = Wc.map some) (hR : isR.map (fun i => W0[i]?) = Wr.map some) (hN : ∀ u, isN.map (fun i => (Wr ++ W1 u)[i]?) = (W2 u).map some) (hnC : va_nd isC = true) (hnR : va_nd isR = true) (hdis : ∀ i ∈ isR, i ∉ isC) (hnN : va_nd isN = true)
    (hn : As.length = n) (hsize : ls.size = nL) (hst : st0 = As.reverse ++ .ref b :: rest) (hW : (rest.map fun v => v.category).sum ≤ 8) (hcl : cells + mc ≤ R.cells ∧ slots + ms ≤ R.slots)
    (hdg : decode cc pc = .ok (.invokespecial index, 3)) (kk : ∀ (u : S) (H1 : Heap) (locs1 : List Loc), va_P g.1 vwCl (W2 u) H1 → va_D A (W2 u) → va_S A s.heap H1 locs1 → W p l e R s m args below meth c H1 locs1 (cells + mc) (slots + ms) Q (F0 m (pc + 3) ls rest)) : W p l e R s m args below meth c H locs cells slots Q (F0 m pc ls st0) := by
  have hFc := va_free hD hS hA isC hC
  refine va_callv (va_runI (As := As) (rest := rest) K hM cw ⟨fbM, fun U hU hW => ⟨rfl, mPre hP hD hE hZ hS hA isC hC hnC U hU hW⟩⟩ rfl hn hsize hst (lv_room hW) hdg hcl) hS (fun q _ h => hFc q h) hFc (fun u t H1 locs1 ht hvm hw hB hz1 hk1 hS1 => ?_)
  obtain ⟨hP1, hD1⟩ := hB
  rw [ht] at hP1
  obtain ⟨hP2, hD2⟩ := va_join hP hD isC isR hC hR hnR hdis hk1 hFc hP1 hD1
  exact kk u H1 locs1 (hP2.sub isN (map_fm (hN u))) (hD2.sub isN hnN (hN u)) hS1
theorem n_vret {S : Type} {Wf : S → va_W} (u : S) (hx : p.tables.exec = Jvm.exec) (hb : c.code = cc) (hr : meth.sig.returnType = none) (hlocks : meth.locks = false) (hP : va_P g.1 vwCl (Wf u) H) (hD : va_D A (Wf u)) (hS : va_S A s.heap H locs) (hd : decode cc pc = .ok (.return_, 1)) :
    W p l e R s m args below meth c H locs cells slots (MQ below (va_Qv (fun _ : S => True) (fun u t => PQ g (Wf u) A t) A) args s cells slots A) (F0 m pc ls []) :=
  W.vret hx hb hr (fun t ht _ => ⟨⟨u, rfl, trivial, by rw [ht]; exact hP, hD⟩, hS.F ht⟩) hS.2.2 hd hlocks
end CT
theorem olX4_init : (.methodLink RX4 3 objectInit : Cond) ∈ wsX4_init := by decide +kernel
theorem oiX4_init : (.instanceMethod objectInit : Cond) ∈ wsX4_init := by decide +kernel
theorem ocX4_init : (.code objectInit ⟨#[0xb1]⟩ 1 none : Cond) ∈ wsX4_init := by decide +kernel
theorem fiX4_init_X4 : ∀ w ∈ wsX40, w ∈ wsX4_init := by decide +kernel
theorem flX4_init_9 : (.fieldLink RX4 9 "ContourLabels$Sheet" "gap" "I" : Cond) ∈ wsX4_init := by decide +kernel
theorem naX4_init : (.arrayClass .int : Cond) ∈ wsX4_init := by decide +kernel
theorem flX4_init_15 : (.fieldLink RX4 15 "ContourLabels$Sheet" "levels" "[I" : Cond) ∈ wsX4_init := by decide +kernel
theorem flX4_init_19 : (.fieldLink RX4 19 "ContourLabels$Sheet" "stepCounts" "[I" : Cond) ∈ wsX4_init := by decide +kernel
theorem flX4_init_22 : (.fieldLink RX4 22 "ContourLabels$Sheet" "labelPlaces" "[I" : Cond) ∈ wsX4_init := by decide +kernel
theorem flX4_init_25 : (.fieldLink RX4 25 "ContourLabels$Sheet" "points" "[I" : Cond) ∈ wsX4_init := by decide +kernel
abbrev rmX4_init : Room := { frames := 1, cells := 4, slots := 512, locals := 12 }
set_option maxHeartbeats 4000000 in
set_option maxRecDepth 100000 in
theorem cX4_init_ok (l : Launch) (g : Gg) (h : Nat) (sz : Nat) : Met l yX4_init wsX4_init rmX4_init (va_Pc [.ref h] (PM g ([(h, .inr (3, [.int 0, .int 0, .null, .null, .null, .null]))] : va_W) sz)) (va_Qv (fun _ : Nat × Nat × Nat × Nat => True) (fun u t => PQ g (wS g h u.1 u.2.1 u.2.2.1 u.2.2.2 S00) (va_A ([(h, .inr (3, [.int 0, .int 0, .null, .null, .null, .null]))] : va_W) sz) t) (va_A ([(h, .inr (3, [.int 0, .int 0, .null, .null, .null, .null]))] : va_W) sz)) 4 512 (va_A ([(h, .inr (3, [.int 0, .int 0, .null, .null, .null, .null]))] : va_W) sz) := by
  refine Met.ofW (cc := cX4_init) (maxL := 1) (ret := none) (by decide) rfl ?_
  intro p e s m args below meth c s₁ B hml hv
  obtain ⟨rfl, rfl, hP, hD0, hE, hZ⟩ := hv
  have hx := B.exec
  have hb := B.bytes
  have hr := B.returns
  have hts := atoms_spec (ws := wsX4_init) B.pre
  have hown : s.vm.findClass RX4 = some m.cls := findClass_of_methodNamed B.named
  have hlocks := B.notSynchronized
  have hin : meth.name = "<init>" := (name_of_methodNamed B.named B.method).1
  have hD := hD0.self (sz := s.heap.size)
  generalize hAe : (va_A ([(h, .inr (3, [.int 0, .int 0, .null, .null, .null, .null]))] : va_W) s.heap.size) = A at hD hZ ⊢
  have hA : ∀ q : Nat, s.heap.size ≤ q → A q := fun q h => by rw [← hAe]; exact Or.inr h
  have hS : va_S A s.heap s.heap [] := va_S.rf
  have hP : va_P g.1 vwCl ([(h, .inr (3, [.int 0, .int 0, .null, .null, .null, .null]))] : va_W) s.heap := hP
  have hl := lv_entry ([.ref h]) (n := 1) (Nat.le_of_ble_eq_true rfl)
  rw [lg_entry_eq]
  generalize (lg_sl ([.ref h]) ++ List.replicate (1 - (lg_sl ([.ref h])).length) Slot.unset).toArray = ls at hl ⊢
  have hl : lv_has ls 1 [(0, .ref h)] := hl
  refine lv_aload_n hx hb dX4_init_0 rfl (lv_at hl 0 rfl) ?_
  refine W.objInit hx hb hown (hts _ olX4_init) (hts _ oiX4_init) (hts _ ocX4_init) rfl (by rw [hml]; exact hl.1) rfl dX4_init_1 (Nat.le_of_ble_eq_true rfl) (Nat.le_of_ble_eq_true rfl) ?_
  refine W.eq (g2 := F0 m 4 ls []) rfl ?_
  refine lv_aload_n hx hb dX4_init_4 rfl (lv_at hl 0 rfl) ?_
  refine lv_iconst (v := (2 : Int32)) hx hb dX4_init_5 (by decide) ?_
  refine va_put (v := .int (2 : Int32)) (ty := .int) (C := RX4) (T := TX4) (N := 6) hx hb hts fiX4_init_X4 tyX4 tyX4_ok nmX4 hown hE.1 hP hD hS 0 rfl rfl 1 (by decide) (hts _ flX4_init_9) (fun _ h9 => h9) rfl (by decide +kernel) rfl rfl (Nat.le_of_ble_eq_true rfl) dX4_init_6 (fun H locs hP hD hS => ?_)
  have hP : va_P g.1 vwCl (([(h, .inr (3, [.int 0, .int (2 : Int32), .null, .null, .null, .null]))] : va_W)) H := hP
  have hD : va_D A (([(h, .inr (3, [.int 0, .int (2 : Int32), .null, .null, .null, .null]))] : va_W)) := hD
  refine lv_aload_n hx hb dX4_init_9 rfl (lv_at hl 0 rfl) ?_
  refine lv_bipush (v := (8 : Int32)) hx hb dX4_init_10 (by decide) ?_
  refine newaI (N' := 8) (W0 := (([(h, .inr (3, [.int 0, .int (2 : Int32), .null, .null, .null, .null]))] : va_W))) hx hb (hts _ naX4_init) hE hP hD hS hA (by decide) (by decide) (Nat.le_of_ble_eq_true rfl) (Nat.le_of_ble_eq_true rfl) (Nat.le_of_ble_eq_true rfl) dX4_init_12 (fun q1 H hP hD hS => ?_)
  have hP : va_P g.1 vwCl (([(h, .inr (3, [.int 0, .int (2 : Int32), .null, .null, .null, .null])), (q1, .inl (g.2.1 0, 8, .inl (fun _ => 0)))] : va_W)) H := hP
  have hD : va_D A (([(h, .inr (3, [.int 0, .int (2 : Int32), .null, .null, .null, .null])), (q1, .inl (g.2.1 0, 8, .inl (fun _ => 0)))] : va_W)) := hD
  refine va_putF (v := .ref q1) (ty := .array .int) (C := RX4) (T := TX4) (N := 6) hx hb hts fiX4_init_X4 tyX4 tyX4_ok nmX4 hown hE.1 hP hD hS 0 rfl rfl 2 (by decide) (hts _ flX4_init_15) (fun _ h9 => h9) rfl hin rfl (by decide +kernel) rfl rfl (Nat.le_of_ble_eq_true rfl) dX4_init_14 (fun H locs hP hD hS => ?_)
  have hP : va_P g.1 vwCl (([(h, .inr (3, [.int 0, .int (2 : Int32), .ref q1, .null, .null, .null])), (q1, .inl (g.2.1 0, 8, .inl (fun _ => 0)))] : va_W)) H := hP
  have hD : va_D A (([(h, .inr (3, [.int 0, .int (2 : Int32), .ref q1, .null, .null, .null])), (q1, .inl (g.2.1 0, 8, .inl (fun _ => 0)))] : va_W)) := hD
  refine lv_aload_n hx hb dX4_init_17 rfl (lv_at hl 0 rfl) ?_
  refine lv_bipush (v := (8 : Int32)) hx hb dX4_init_18 (by decide) ?_
  refine newaI (N' := 8) (W0 := (([(h, .inr (3, [.int 0, .int (2 : Int32), .ref q1, .null, .null, .null])), (q1, .inl (g.2.1 0, 8, .inl (fun _ => 0)))] : va_W))) hx hb (hts _ naX4_init) hE hP hD hS hA (by decide) (by decide) (Nat.le_of_ble_eq_true rfl) (Nat.le_of_ble_eq_true rfl) (Nat.le_of_ble_eq_true rfl) dX4_init_20 (fun q2 H hP hD hS => ?_)
  have hP : va_P g.1 vwCl (([(h, .inr (3, [.int 0, .int (2 : Int32), .ref q1, .null, .null, .null])), (q1, .inl (g.2.1 0, 8, .inl (fun _ => 0))), (q2, .inl (g.2.1 0, 8, .inl (fun _ => 0)))] : va_W)) H := hP
  have hD : va_D A (([(h, .inr (3, [.int 0, .int (2 : Int32), .ref q1, .null, .null, .null])), (q1, .inl (g.2.1 0, 8, .inl (fun _ => 0))), (q2, .inl (g.2.1 0, 8, .inl (fun _ => 0)))] : va_W)) := hD
  refine va_putF (v := .ref q2) (ty := .array .int) (C := RX4) (T := TX4) (N := 6) hx hb hts fiX4_init_X4 tyX4 tyX4_ok nmX4 hown hE.1 hP hD hS 0 rfl rfl 3 (by decide) (hts _ flX4_init_19) (fun _ h9 => h9) rfl hin rfl (by decide +kernel) rfl rfl (Nat.le_of_ble_eq_true rfl) dX4_init_22 (fun H locs hP hD hS => ?_)
  have hP : va_P g.1 vwCl (([(h, .inr (3, [.int 0, .int (2 : Int32), .ref q1, .ref q2, .null, .null])), (q1, .inl (g.2.1 0, 8, .inl (fun _ => 0))), (q2, .inl (g.2.1 0, 8, .inl (fun _ => 0)))] : va_W)) H := hP
  have hD : va_D A (([(h, .inr (3, [.int 0, .int (2 : Int32), .ref q1, .ref q2, .null, .null])), (q1, .inl (g.2.1 0, 8, .inl (fun _ => 0))), (q2, .inl (g.2.1 0, 8, .inl (fun _ => 0)))] : va_W)) := hD
  refine lv_aload_n hx hb dX4_init_25 rfl (lv_at hl 0 rfl) ?_
  refine lv_bipush (v := (8 : Int32)) hx hb dX4_init_26 (by decide) ?_
  refine newaI (N' := 8) (W0 := (([(h, .inr (3, [.int 0, .int (2 : Int32), .ref q1, .ref q2, .null, .null])), (q1, .inl (g.2.1 0, 8, .inl (fun _ => 0))), (q2, .inl (g.2.1 0, 8, .inl (fun _ => 0)))] : va_W))) hx hb (hts _ naX4_init) hE hP hD hS hA (by decide) (by decide) (Nat.le_of_ble_eq_true rfl) (Nat.le_of_ble_eq_true rfl) (Nat.le_of_ble_eq_true rfl) dX4_init_28 (fun q3 H hP hD hS => ?_)
  have hP : va_P g.1 vwCl (([(h, .inr (3, [.int 0, .int (2 : Int32), .ref q1, .ref q2, .null, .null])), (q1, .inl (g.2.1 0, 8, .inl (fun _ => 0))), (q2, .inl (g.2.1 0, 8, .inl (fun _ => 0))), (q3, .inl (g.2.1 0, 8, .inl (fun _ => 0)))] : va_W)) H := hP
  have hD : va_D A (([(h, .inr (3, [.int 0, .int (2 : Int32), .ref q1, .ref q2, .null, .null])), (q1, .inl (g.2.1 0, 8, .inl (fun _ => 0))), (q2, .inl (g.2.1 0, 8, .inl (fun _ => 0))), (q3, .inl (g.2.1 0, 8, .inl (fun _ => 0)))] : va_W)) := hD
  refine va_putF (v := .ref q3) (ty := .array .int) (C := RX4) (T := TX4) (N := 6) hx hb hts fiX4_init_X4 tyX4 tyX4_ok nmX4 hown hE.1 hP hD hS 0 rfl rfl 4 (by decide) (hts _ flX4_init_22) (fun _ h9 => h9) rfl hin rfl (by decide +kernel) rfl rfl (Nat.le_of_ble_eq_true rfl) dX4_init_30 (fun H locs hP hD hS => ?_)
  have hP : va_P g.1 vwCl (([(h, .inr (3, [.int 0, .int (2 : Int32), .ref q1, .ref q2, .ref q3, .null])), (q1, .inl (g.2.1 0, 8, .inl (fun _ => 0))), (q2, .inl (g.2.1 0, 8, .inl (fun _ => 0))), (q3, .inl (g.2.1 0, 8, .inl (fun _ => 0)))] : va_W)) H := hP
  have hD : va_D A (([(h, .inr (3, [.int 0, .int (2 : Int32), .ref q1, .ref q2, .ref q3, .null])), (q1, .inl (g.2.1 0, 8, .inl (fun _ => 0))), (q2, .inl (g.2.1 0, 8, .inl (fun _ => 0))), (q3, .inl (g.2.1 0, 8, .inl (fun _ => 0)))] : va_W)) := hD
  refine lv_aload_n hx hb dX4_init_33 rfl (lv_at hl 0 rfl) ?_
  refine lv_sipush (v := (488 : Int32)) hx hb dX4_init_34 (by decide) ?_
  refine newaI (N' := 488) (W0 := (([(h, .inr (3, [.int 0, .int (2 : Int32), .ref q1, .ref q2, .ref q3, .null])), (q1, .inl (g.2.1 0, 8, .inl (fun _ => 0))), (q2, .inl (g.2.1 0, 8, .inl (fun _ => 0))), (q3, .inl (g.2.1 0, 8, .inl (fun _ => 0)))] : va_W))) hx hb (hts _ naX4_init) hE hP hD hS hA (by decide) (by decide) (Nat.le_of_ble_eq_true rfl) (Nat.le_of_ble_eq_true rfl) (Nat.le_of_ble_eq_true rfl) dX4_init_37 (fun q4 H hP hD hS => ?_)
  have hP : va_P g.1 vwCl (([(h, .inr (3, [.int 0, .int (2 : Int32), .ref q1, .ref q2, .ref q3, .null])), (q1, .inl (g.2.1 0, 8, .inl (fun _ => 0))), (q2, .inl (g.2.1 0, 8, .inl (fun _ => 0))), (q3, .inl (g.2.1 0, 8, .inl (fun _ => 0))), (q4, .inl (g.2.1 0, 488, .inl (fun _ => 0)))] : va_W)) H := hP
  have hD : va_D A (([(h, .inr (3, [.int 0, .int (2 : Int32), .ref q1, .ref q2, .ref q3, .null])), (q1, .inl (g.2.1 0, 8, .inl (fun _ => 0))), (q2, .inl (g.2.1 0, 8, .inl (fun _ => 0))), (q3, .inl (g.2.1 0, 8, .inl (fun _ => 0))), (q4, .inl (g.2.1 0, 488, .inl (fun _ => 0)))] : va_W)) := hD
  refine va_putF (v := .ref q4) (ty := .array .int) (C := RX4) (T := TX4) (N := 6) hx hb hts fiX4_init_X4 tyX4 tyX4_ok nmX4 hown hE.1 hP hD hS 0 rfl rfl 5 (by decide) (hts _ flX4_init_25) (fun _ h9 => h9) rfl hin rfl (by decide +kernel) rfl rfl (Nat.le_of_ble_eq_true rfl) dX4_init_39 (fun H locs hP hD hS => ?_)
  have hP : va_P g.1 vwCl (([(h, .inr (3, [.int 0, .int (2 : Int32), .ref q1, .ref q2, .ref q3, .ref q4])), (q1, .inl (g.2.1 0, 8, .inl (fun _ => 0))), (q2, .inl (g.2.1 0, 8, .inl (fun _ => 0))), (q3, .inl (g.2.1 0, 8, .inl (fun _ => 0))), (q4, .inl (g.2.1 0, 488, .inl (fun _ => 0)))] : va_W)) H := hP
  have hD : va_D A (([(h, .inr (3, [.int 0, .int (2 : Int32), .ref q1, .ref q2, .ref q3, .ref q4])), (q1, .inl (g.2.1 0, 8, .inl (fun _ => 0))), (q2, .inl (g.2.1 0, 8, .inl (fun _ => 0))), (q3, .inl (g.2.1 0, 8, .inl (fun _ => 0))), (q4, .inl (g.2.1 0, 488, .inl (fun _ => 0)))] : va_W)) := hD
  refine W.widen (k := 4) (n := 512) (Nat.le_of_ble_eq_true rfl) (Nat.le_of_ble_eq_true rfl) ?_
  exact n_vret (Wf := fun u : Nat × Nat × Nat × Nat => wS g h u.1 u.2.1 u.2.2.1 u.2.2.2 S00) (q1, q2, q3, q4) hx hb hr hlocks hP hD hS dX4_init_42

theorem olX3_init : (.methodLink RX3 3 objectInit : Cond) ∈ wsX3_init := by decide +kernel
theorem oiX3_init : (.instanceMethod objectInit : Cond) ∈ wsX3_init := by decide +kernel
theorem ocX3_init : (.code objectInit ⟨#[0xb1]⟩ 1 none : Cond) ∈ wsX3_init := by decide +kernel
theorem naX3_init : (.arrayClass .int : Cond) ∈ wsX3_init := by decide +kernel
theorem fiX3_init_X3 : ∀ w ∈ wsX30, w ∈ wsX3_init := by decide +kernel
theorem flX3_init_11 : (.fieldLink RX3 11 "ContourLabels$OrderText" "signs" "[I" : Cond) ∈ wsX3_init := by decide +kernel
abbrev rmX3_init : Room := { frames := 1, cells := 1, slots := 60, locals := 12 }
set_option maxHeartbeats 4000000 in
set_option maxRecDepth 100000 in
theorem cX3_init_ok (l : Launch) (g : Gg) (x0 : Nat) (sz : Nat) : Met l yX3_init wsX3_init rmX3_init (va_Pc [.ref x0] (PM g ([(x0, .inr (2, [.null, .int 0, .int 0, .int 0, .int 0, .int 0, .int 0, .int 0]))] : va_W) sz)) (va_Qv (fun _ : Nat => True) (fun u t => PQ g (wX g x0 u X00) (va_A ([(x0, .inr (2, [.null, .int 0, .int 0, .int 0, .int 0, .int 0, .int 0, .int 0]))] : va_W) sz) t) (va_A ([(x0, .inr (2, [.null, .int 0, .int 0, .int 0, .int 0, .int 0, .int 0, .int 0]))] : va_W) sz)) 1 60 (va_A ([(x0, .inr (2, [.null, .int 0, .int 0, .int 0, .int 0, .int 0, .int 0, .int 0]))] : va_W) sz) := by
  refine Met.ofW (cc := cX3_init) (maxL := 1) (ret := none) (by decide) rfl ?_
  intro p e s m args below meth c s₁ B hml hv
  obtain ⟨rfl, rfl, hP, hD0, hE, hZ⟩ := hv
  have hx := B.exec
  have hb := B.bytes
  have hr := B.returns
  have hts := atoms_spec (ws := wsX3_init) B.pre
  have hown : s.vm.findClass RX3 = some m.cls := findClass_of_methodNamed B.named
  have hlocks := B.notSynchronized
  have hin : meth.name = "<init>" := (name_of_methodNamed B.named B.method).1
  have hD := hD0.self (sz := s.heap.size)
  generalize hAe : (va_A ([(x0, .inr (2, [.null, .int 0, .int 0, .int 0, .int 0, .int 0, .int 0, .int 0]))] : va_W) s.heap.size) = A at hD hZ ⊢
  have hA : ∀ q : Nat, s.heap.size ≤ q → A q := fun q h => by rw [← hAe]; exact Or.inr h
  have hS : va_S A s.heap s.heap [] := va_S.rf
  have hP : va_P g.1 vwCl ([(x0, .inr (2, [.null, .int 0, .int 0, .int 0, .int 0, .int 0, .int 0, .int 0]))] : va_W) s.heap := hP
  have hl := lv_entry ([.ref x0]) (n := 1) (Nat.le_of_ble_eq_true rfl)
  rw [lg_entry_eq]
  generalize (lg_sl ([.ref x0]) ++ List.replicate (1 - (lg_sl ([.ref x0])).length) Slot.unset).toArray = ls at hl ⊢
  have hl : lv_has ls 1 [(0, .ref x0)] := hl
  refine lv_aload_n hx hb dX3_init_0 rfl (lv_at hl 0 rfl) ?_
  refine W.objInit hx hb hown (hts _ olX3_init) (hts _ oiX3_init) (hts _ ocX3_init) rfl (by rw [hml]; exact hl.1) rfl dX3_init_1 (Nat.le_of_ble_eq_true rfl) (Nat.le_of_ble_eq_true rfl) ?_
  refine W.eq (g2 := F0 m 4 ls []) rfl ?_
  refine lv_aload_n hx hb dX3_init_4 rfl (lv_at hl 0 rfl) ?_
  refine lv_bipush (v := (60 : Int32)) hx hb dX3_init_5 (by decide) ?_
  refine newaI (N' := 60) (W0 := (([(x0, .inr (2, [.null, .int 0, .int 0, .int 0, .int 0, .int 0, .int 0, .int 0]))] : va_W))) hx hb (hts _ naX3_init) hE hP hD hS hA (by decide) (by decide) (Nat.le_of_ble_eq_true rfl) (Nat.le_of_ble_eq_true rfl) (Nat.le_of_ble_eq_true rfl) dX3_init_7 (fun q1 H hP hD hS => ?_)
  have hP : va_P g.1 vwCl (([(x0, .inr (2, [.null, .int 0, .int 0, .int 0, .int 0, .int 0, .int 0, .int 0])), (q1, .inl (g.2.1 0, 60, .inl (fun _ => 0)))] : va_W)) H := hP
  have hD : va_D A (([(x0, .inr (2, [.null, .int 0, .int 0, .int 0, .int 0, .int 0, .int 0, .int 0])), (q1, .inl (g.2.1 0, 60, .inl (fun _ => 0)))] : va_W)) := hD
  refine va_putF (v := .ref q1) (ty := .array .int) (C := RX3) (T := TX3) (N := 8) hx hb hts fiX3_init_X3 tyX3 tyX3_ok nmX3 hown hE.1 hP hD hS 0 rfl rfl 0 (by decide) (hts _ flX3_init_11) (fun _ h9 => h9) rfl hin rfl (by decide +kernel) rfl rfl (Nat.le_of_ble_eq_true rfl) dX3_init_9 (fun H locs hP hD hS => ?_)
  have hP : va_P g.1 vwCl (([(x0, .inr (2, [.ref q1, .int 0, .int 0, .int 0, .int 0, .int 0, .int 0, .int 0])), (q1, .inl (g.2.1 0, 60, .inl (fun _ => 0)))] : va_W)) H := hP
  have hD : va_D A (([(x0, .inr (2, [.ref q1, .int 0, .int 0, .int 0, .int 0, .int 0, .int 0, .int 0])), (q1, .inl (g.2.1 0, 60, .inl (fun _ => 0)))] : va_W)) := hD
  refine W.widen (k := 1) (n := 60) (Nat.le_of_ble_eq_true rfl) (Nat.le_of_ble_eq_true rfl) ?_
  exact n_vret (Wf := fun u : Nat => wX g x0 u X00) q1 hx hb hr hlocks hP hD hS dX3_init_12

theorem olX0_init : (.methodLink RX0 3 objectInit : Cond) ∈ wsX0_init := by decide +kernel
theorem oiX0_init : (.instanceMethod objectInit : Cond) ∈ wsX0_init := by decide +kernel
theorem ocX0_init : (.code objectInit ⟨#[0xb1]⟩ 1 none : Cond) ∈ wsX0_init := by decide +kernel
theorem naX0_init : (.arrayClass .int : Cond) ∈ wsX0_init := by decide +kernel
theorem fiX0_init_X0 : ∀ w ∈ wsX00, w ∈ wsX0_init := by decide +kernel
theorem flX0_init_9 : (.fieldLink RX0 9 "ContourLabels$Drawing" "dots" "[I" : Cond) ∈ wsX0_init := by decide +kernel
theorem flX0_init_13 : (.fieldLink RX0 13 "ContourLabels$Drawing" "waiting" "[I" : Cond) ∈ wsX0_init := by decide +kernel
abbrev rmX0_init : Room := { frames := 1, cells := 2, slots := 6912, locals := 12 }
set_option maxHeartbeats 4000000 in
set_option maxRecDepth 100000 in
theorem cX0_init_ok (l : Launch) (g : Gg) (d0 : Nat) (sz : Nat) : Met l yX0_init wsX0_init rmX0_init (va_Pc [.ref d0] (PM g ([(d0, .inr (0, [.null, .null, .int 0]))] : va_W) sz)) (va_Qv (fun _ : Nat × Nat => True) (fun u t => PQ g (wD g d0 u.1 u.2 D00) (va_A ([(d0, .inr (0, [.null, .null, .int 0]))] : va_W) sz) t) (va_A ([(d0, .inr (0, [.null, .null, .int 0]))] : va_W) sz)) 2 6912 (va_A ([(d0, .inr (0, [.null, .null, .int 0]))] : va_W) sz) := by
  refine Met.ofW (cc := cX0_init) (maxL := 1) (ret := none) (by decide) rfl ?_
  intro p e s m args below meth c s₁ B hml hv
  obtain ⟨rfl, rfl, hP, hD0, hE, hZ⟩ := hv
  have hx := B.exec
  have hb := B.bytes
  have hr := B.returns
  have hts := atoms_spec (ws := wsX0_init) B.pre
  have hown : s.vm.findClass RX0 = some m.cls := findClass_of_methodNamed B.named
  have hlocks := B.notSynchronized
  have hin : meth.name = "<init>" := (name_of_methodNamed B.named B.method).1
  have hD := hD0.self (sz := s.heap.size)
  generalize hAe : (va_A ([(d0, .inr (0, [.null, .null, .int 0]))] : va_W) s.heap.size) = A at hD hZ ⊢
  have hA : ∀ q : Nat, s.heap.size ≤ q → A q := fun q h => by rw [← hAe]; exact Or.inr h
  have hS : va_S A s.heap s.heap [] := va_S.rf
  have hP : va_P g.1 vwCl ([(d0, .inr (0, [.null, .null, .int 0]))] : va_W) s.heap := hP
  have hl := lv_entry ([.ref d0]) (n := 1) (Nat.le_of_ble_eq_true rfl)
  rw [lg_entry_eq]
  generalize (lg_sl ([.ref d0]) ++ List.replicate (1 - (lg_sl ([.ref d0])).length) Slot.unset).toArray = ls at hl ⊢
  have hl : lv_has ls 1 [(0, .ref d0)] := hl
  refine lv_aload_n hx hb dX0_init_0 rfl (lv_at hl 0 rfl) ?_
  refine W.objInit hx hb hown (hts _ olX0_init) (hts _ oiX0_init) (hts _ ocX0_init) rfl (by rw [hml]; exact hl.1) rfl dX0_init_1 (Nat.le_of_ble_eq_true rfl) (Nat.le_of_ble_eq_true rfl) ?_
  refine W.eq (g2 := F0 m 4 ls []) rfl ?_
  refine lv_aload_n hx hb dX0_init_4 rfl (lv_at hl 0 rfl) ?_
  refine lv_sipush (v := (3456 : Int32)) hx hb dX0_init_5 (by decide) ?_
  refine newaI (N' := 3456) (W0 := (([(d0, .inr (0, [.null, .null, .int 0]))] : va_W))) hx hb (hts _ naX0_init) hE hP hD hS hA (by decide) (by decide) (Nat.le_of_ble_eq_true rfl) (Nat.le_of_ble_eq_true rfl) (Nat.le_of_ble_eq_true rfl) dX0_init_8 (fun q1 H hP hD hS => ?_)
  have hP : va_P g.1 vwCl (([(d0, .inr (0, [.null, .null, .int 0])), (q1, .inl (g.2.1 0, 3456, .inl (fun _ => 0)))] : va_W)) H := hP
  have hD : va_D A (([(d0, .inr (0, [.null, .null, .int 0])), (q1, .inl (g.2.1 0, 3456, .inl (fun _ => 0)))] : va_W)) := hD
  refine va_putF (v := .ref q1) (ty := .array .int) (C := RX0) (T := TX0) (N := 3) hx hb hts fiX0_init_X0 tyX0 tyX0_ok nmX0 hown hE.1 hP hD hS 0 rfl rfl 0 (by decide) (hts _ flX0_init_9) (fun _ h9 => h9) rfl hin rfl (by decide +kernel) rfl rfl (Nat.le_of_ble_eq_true rfl) dX0_init_10 (fun H locs hP hD hS => ?_)
  have hP : va_P g.1 vwCl (([(d0, .inr (0, [.ref q1, .null, .int 0])), (q1, .inl (g.2.1 0, 3456, .inl (fun _ => 0)))] : va_W)) H := hP
  have hD : va_D A (([(d0, .inr (0, [.ref q1, .null, .int 0])), (q1, .inl (g.2.1 0, 3456, .inl (fun _ => 0)))] : va_W)) := hD
  refine lv_aload_n hx hb dX0_init_13 rfl (lv_at hl 0 rfl) ?_
  refine lv_sipush (v := (3456 : Int32)) hx hb dX0_init_14 (by decide) ?_
  refine newaI (N' := 3456) (W0 := (([(d0, .inr (0, [.ref q1, .null, .int 0])), (q1, .inl (g.2.1 0, 3456, .inl (fun _ => 0)))] : va_W))) hx hb (hts _ naX0_init) hE hP hD hS hA (by decide) (by decide) (Nat.le_of_ble_eq_true rfl) (Nat.le_of_ble_eq_true rfl) (Nat.le_of_ble_eq_true rfl) dX0_init_17 (fun q2 H hP hD hS => ?_)
  have hP : va_P g.1 vwCl (([(d0, .inr (0, [.ref q1, .null, .int 0])), (q1, .inl (g.2.1 0, 3456, .inl (fun _ => 0))), (q2, .inl (g.2.1 0, 3456, .inl (fun _ => 0)))] : va_W)) H := hP
  have hD : va_D A (([(d0, .inr (0, [.ref q1, .null, .int 0])), (q1, .inl (g.2.1 0, 3456, .inl (fun _ => 0))), (q2, .inl (g.2.1 0, 3456, .inl (fun _ => 0)))] : va_W)) := hD
  refine va_putF (v := .ref q2) (ty := .array .int) (C := RX0) (T := TX0) (N := 3) hx hb hts fiX0_init_X0 tyX0 tyX0_ok nmX0 hown hE.1 hP hD hS 0 rfl rfl 1 (by decide) (hts _ flX0_init_13) (fun _ h9 => h9) rfl hin rfl (by decide +kernel) rfl rfl (Nat.le_of_ble_eq_true rfl) dX0_init_19 (fun H locs hP hD hS => ?_)
  have hP : va_P g.1 vwCl (([(d0, .inr (0, [.ref q1, .ref q2, .int 0])), (q1, .inl (g.2.1 0, 3456, .inl (fun _ => 0))), (q2, .inl (g.2.1 0, 3456, .inl (fun _ => 0)))] : va_W)) H := hP
  have hD : va_D A (([(d0, .inr (0, [.ref q1, .ref q2, .int 0])), (q1, .inl (g.2.1 0, 3456, .inl (fun _ => 0))), (q2, .inl (g.2.1 0, 3456, .inl (fun _ => 0)))] : va_W)) := hD
  refine W.widen (k := 2) (n := 6912) (Nat.le_of_ble_eq_true rfl) (Nat.le_of_ble_eq_true rfl) ?_
  exact n_vret (Wf := fun u : Nat × Nat => wD g d0 u.1 u.2 D00) (q1, q2) hx hb hr hlocks hP hD hS dX0_init_22

theorem olX1_init : (.methodLink RX1 1 objectInit : Cond) ∈ wsX1_init := by decide +kernel
theorem oiX1_init : (.instanceMethod objectInit : Cond) ∈ wsX1_init := by decide +kernel
theorem ocX1_init : (.code objectInit ⟨#[0xb1]⟩ 1 none : Cond) ∈ wsX1_init := by decide +kernel
theorem nqX1_init : (.classLink RX1 9 RX4 : Cond) ∈ wsX1_init := by decide +kernel
theorem fiX1_init_X1 : ∀ w ∈ wsX10, w ∈ wsX1_init := by decide +kernel
theorem flX1_init_11 : (.fieldLink RX1 11 "ContourLabels$History" "saved" "[LContourLabels$Sheet;" : Cond) ∈ wsX1_init := by decide +kernel
theorem fiX1_init_X4 : ∀ w ∈ wsX40, w ∈ wsX1_init := by decide +kernel
theorem ncX1_init_9 : (.classLink RX1 9 RX4 : Cond) ∈ wsX1_init := by decide +kernel
theorem niX1_init_X4 : (.instantiable RX4 6 : Cond) ∈ wsX1_init := by decide +kernel
theorem nzX1_init_X4 : (.initialized RX4 : Cond) ∈ wsX1_init := by decide +kernel
theorem nlX1_init_15 : (.methodLink RX1 15 yX4_init : Cond) ∈ wsX1_init := by decide +kernel
theorem nmX1_init_X4 : (.instanceMethod yX4_init : Cond) ∈ wsX1_init := by decide +kernel
theorem flX1_init_16 : (.fieldLink RX1 16 "ContourLabels$History" "snapshot" "LContourLabels$Sheet;" : Cond) ∈ wsX1_init := by decide +kernel
abbrev rmX1_init : Room := { frames := 2, cells := 31, slots := 3113, locals := 32 }
set_option maxHeartbeats 4000000 in
set_option maxRecDepth 100000 in
theorem cX1_init_ok (l : Launch) (g : Gg) (k0 : Nat) (sz : Nat) : Met l yX1_init wsX1_init rmX1_init (va_Pc [.ref k0] (PM g ([(k0, .inr (1, [.null, .int 0, .int 0, .null, .int 0]))] : va_W) sz)) (va_Qv (fun _ : Nat × (Nat → Nat → Nat) => True) (fun u t => PQ g (wH g k0 u.1 u.2 H00) (va_A ([(k0, .inr (1, [.null, .int 0, .int 0, .null, .int 0]))] : va_W) sz) t) (va_A ([(k0, .inr (1, [.null, .int 0, .int 0, .null, .int 0]))] : va_W) sz)) 31 3113 (va_A ([(k0, .inr (1, [.null, .int 0, .int 0, .null, .int 0]))] : va_W) sz) := by
  refine Met.ofW (cc := cX1_init) (maxL := 2) (ret := none) (by decide) rfl ?_
  intro p e s m args below meth c s₁ B hml hv
  obtain ⟨rfl, rfl, hP, hD0, hE, hZ⟩ := hv
  have hx := B.exec
  have hb := B.bytes
  have hr := B.returns
  have hts := atoms_spec (ws := wsX1_init) B.pre
  have hown : s.vm.findClass RX1 = some m.cls := findClass_of_methodNamed B.named
  have hlocks := B.notSynchronized
  have hin : meth.name = "<init>" := (name_of_methodNamed B.named B.method).1
  have hD := hD0.self (sz := s.heap.size)
  generalize hAe : (va_A ([(k0, .inr (1, [.null, .int 0, .int 0, .null, .int 0]))] : va_W) s.heap.size) = A at hD hZ ⊢
  have hA : ∀ q : Nat, s.heap.size ≤ q → A q := fun q h => by rw [← hAe]; exact Or.inr h
  have hS : va_S A s.heap s.heap [] := va_S.rf
  have hP : va_P g.1 vwCl ([(k0, .inr (1, [.null, .int 0, .int 0, .null, .int 0]))] : va_W) s.heap := hP
  have hl := lv_entry ([.ref k0]) (n := 2) (Nat.le_of_ble_eq_true rfl)
  rw [lg_entry_eq]
  generalize (lg_sl ([.ref k0]) ++ List.replicate (2 - (lg_sl ([.ref k0])).length) Slot.unset).toArray = ls at hl ⊢
  have hl : lv_has ls 2 [(0, .ref k0)] := hl
  refine lv_aload_n hx hb dX1_init_0 rfl (lv_at hl 0 rfl) ?_
  refine W.objInit hx hb hown (hts _ olX1_init) (hts _ oiX1_init) (hts _ ocX1_init) rfl (by rw [hml]; exact hl.1) rfl dX1_init_1 (Nat.le_of_ble_eq_true rfl) (Nat.le_of_ble_eq_true rfl) ?_
  refine W.eq (g2 := F0 m 4 ls []) rfl ?_
  refine lv_aload_n hx hb dX1_init_4 rfl (lv_at hl 0 rfl) ?_
  refine lv_iconst (v := (5 : Int32)) hx hb dX1_init_5 (by decide) ?_
  refine newaQ (N' := 5) (W0 := (([(k0, .inr (1, [.null, .int 0, .int 0, .null, .int 0]))] : va_W))) hx hb hown (hts _ nqX1_init) hE hP hD hS hA (by decide) (by decide) (Nat.le_of_ble_eq_true rfl) (Nat.le_of_ble_eq_true rfl) (Nat.le_of_ble_eq_true rfl) dX1_init_6 (fun q1 H hP hD hS => ?_)
  have hP : va_P g.1 vwCl (([(k0, .inr (1, [.null, .int 0, .int 0, .null, .int 0])), (q1, .inl (g.2.1 1, 5, .inr (.inr (.inr (.inr (fun _ => none))))))] : va_W)) H := hP
  have hD : va_D A (([(k0, .inr (1, [.null, .int 0, .int 0, .null, .int 0])), (q1, .inl (g.2.1 1, 5, .inr (.inr (.inr (.inr (fun _ => none))))))] : va_W)) := hD
  refine va_putF (v := .ref q1) (ty := .array (.object "ContourLabels$Sheet")) (C := RX1) (T := TX1) (N := 5) hx hb hts fiX1_init_X1 tyX1 tyX1_ok nmX1 hown hE.1 hP hD hS 0 rfl rfl 0 (by decide) (hts _ flX1_init_11) (fun _ h9 => h9) rfl hin rfl (by decide +kernel) rfl rfl (Nat.le_of_ble_eq_true rfl) dX1_init_9 (fun H locs hP hD hS => ?_)
  have hP : va_P g.1 vwCl (([(k0, .inr (1, [.ref q1, .int 0, .int 0, .null, .int 0])), (q1, .inl (g.2.1 1, 5, .inr (.inr (.inr (.inr (fun _ => none))))))] : va_W)) H := hP
  have hD : va_D A (([(k0, .inr (1, [.ref q1, .int 0, .int 0, .null, .int 0])), (q1, .inl (g.2.1 1, 5, .inr (.inr (.inr (.inr (fun _ => none))))))] : va_W)) := hD
  refine lv_iconst (v := (0 : Int32)) hx hb dX1_init_12 (by decide) ?_
  refine lv_istore_n (lv' := [(1, .int (0 : Int32)), (0, .ref k0)]) hx hb dX1_init_13 rfl hl (by decide) rfl (fun ls hl => ?_)
  refine lv_iload_n hx hb dX1_init_14 rfl (lv_at hl 0 rfl) ?_
  refine lv_iconst (v := (5 : Int32)) hx hb dX1_init_15 (by decide) ?_
  refine lv_icmp_ge (tgt := 38) hx hb dX1_init_16 (by decide) (fun c => absurd c (by decide)) (fun _ => ?_)
  refine lv_aload_n hx hb dX1_init_19 rfl (lv_at hl 1 rfl) ?_
  refine va_get (v := .ref q1) (C := RX1) (T := TX1) (N := 5) hx hb hts fiX1_init_X1 hown hE.1 hP 0 rfl rfl 0 (by decide) (hts _ flX1_init_11) (fun _ h9 => h9) rfl dX1_init_20 ?_
  refine lv_iload_n hx hb dX1_init_23 rfl (lv_at hl 0 rfl) ?_
  refine va_new (ci := 3) (fs := [.int 0, .int 0, .null, .null, .null, .null]) (C := RX4) (T := TX4) (N := 6) hx hb hts fiX1_init_X4 tyX4 tyX4_ok hown (hts _ ncX1_init_9) (hts _ niX1_init_X4) (hts _ nzX1_init_X4) hE.1 hP hD hS hA rfl (fun j hj => by rcases (show j = 0 ∨ j = 1 ∨ j = 2 ∨ j = 3 ∨ j = 4 ∨ j = 5 by omega) with rfl | rfl | rfl | rfl | rfl | rfl <;> rfl) (Nat.le_of_ble_eq_true rfl) (Nat.le_of_ble_eq_true rfl) dX1_init_24 (fun q2 H hP hD hS => ?_)
  have hP : va_P g.1 vwCl (([(k0, .inr (1, [.ref q1, .int 0, .int 0, .null, .int 0])), (q1, .inl (g.2.1 1, 5, .inr (.inr (.inr (.inr (fun _ => none)))))), (q2, .inr (3, [.int 0, .int 0, .null, .null, .null, .null]))] : va_W)) H := hP
  have hD : va_D A (([(k0, .inr (1, [.ref q1, .int 0, .int 0, .null, .int 0])), (q1, .inl (g.2.1 1, 5, .inr (.inr (.inr (.inr (fun _ => none)))))), (q2, .inr (3, [.int 0, .int 0, .null, .null, .null, .null]))] : va_W)) := hD
  refine lv_dup hx hb dX1_init_27 rfl ?_
  refine mcallIv (W0 := (([(k0, .inr (1, [.ref q1, .int 0, .int 0, .null, .int 0])), (q1, .inl (g.2.1 1, 5, .inr (.inr (.inr (.inr (fun _ => none)))))), (q2, .inr (3, [.int 0, .int 0, .null, .null, .null, .null]))] : va_W))) (Wc := ([(q2, .inr (3, [.int 0, .int 0, .null, .null, .null, .null]))] : va_W)) (Wr := (([(k0, .inr (1, [.ref q1, .int 0, .int 0, .null, .int 0])), (q1, .inl (g.2.1 1, 5, .inr (.inr (.inr (.inr (fun _ => none))))))] : va_W))) (W1 := fun u3 : Nat × Nat × Nat × Nat => wS g q2 u3.1 u3.2.1 u3.2.2.1 u3.2.2.2 S00) (W2 := fun u3 : Nat × Nat × Nat × Nat => (([(k0, .inr (1, [.ref q1, .int 0, .int 0, .null, .int 0])), (q1, .inl (g.2.1 1, 5, .inr (.inr (.inr (.inr (fun _ => none))))))] : va_W) ++ ((wS g q2 u3.1 u3.2.1 u3.2.2.1 u3.2.2.2 S00)))) (As := []) (rest := [.ref q2, .int (0 : Int32), .ref q1]) [2] [0, 1] [0, 1, 2, 3, 4, 5, 6] ⟨hx, hb, hml, hown, hts⟩ hP hD hE hZ hS hA (cX4_init_ok l g q2 _) (cwI 0 hts gX1_init_X4_init rfl rfl rfl (hts _ nzX1_init_X4) (hts _ nlX1_init_15) (hts _ nmX1_init_X4) rfl (by decide +kernel) ⟨(Nat.le_of_ble_eq_true rfl), (Nat.le_of_ble_eq_true rfl)⟩) rfl rfl (fun _ => rfl) (by decide) (by decide) (by decide) (by decide) rfl hl.1 rfl (Nat.le_of_ble_eq_true rfl) ⟨(Nat.le_of_ble_eq_true rfl), (Nat.le_of_ble_eq_true rfl)⟩ dX1_init_28 (fun u3 H locs hP hD hS => ?_)
  refine va_astq (r := (RX4, TX4, 6)) hx hb hE.1 hP hD hS 1 1 2 3 rfl rfl rfl rfl (vin (by decide)) dX1_init_31 (fun H locs hP hD hS => ?_)
  have hP : va_P g.1 vwCl (([(k0, .inr (1, [.ref q1, .int 0, .int 0, .null, .int 0])), (q1, .inl (g.2.1 1, 5, .inr (.inr (.inr (.inr (va_up (fun _ => none) (Int32.toNatClampNeg (0 : Int32)) (some q2)))))))] : va_W) ++ ((wS g q2 u3.1 u3.2.1 u3.2.2.1 u3.2.2.2 S00))) H := hP
  have hD : va_D A (([(k0, .inr (1, [.ref q1, .int 0, .int 0, .null, .int 0])), (q1, .inl (g.2.1 1, 5, .inr (.inr (.inr (.inr (va_up (fun _ => none) (Int32.toNatClampNeg (0 : Int32)) (some q2)))))))] : va_W) ++ ((wS g q2 u3.1 u3.2.1 u3.2.2.1 u3.2.2.2 S00))) := hD
  refine lv_iinc (v := (1 : Int32)) (lv' := [(1, .int (1 : Int32)), (0, .ref k0)]) hx hb dX1_init_32 hl (k := 0) rfl (by decide) (by decide) rfl (fun ls hl => ?_)
  refine lv_goto (tgt := 14) hx hb dX1_init_35 (by decide) ?_
  refine lv_iload_n hx hb dX1_init_14 rfl (lv_at hl 0 rfl) ?_
  refine lv_iconst (v := (5 : Int32)) hx hb dX1_init_15 (by decide) ?_
  refine lv_icmp_ge (tgt := 38) hx hb dX1_init_16 (by decide) (fun c => absurd c (by decide)) (fun _ => ?_)
  refine lv_aload_n hx hb dX1_init_19 rfl (lv_at hl 1 rfl) ?_
  refine va_get (v := .ref q1) (C := RX1) (T := TX1) (N := 5) hx hb hts fiX1_init_X1 hown hE.1 hP 0 rfl rfl 0 (by decide) (hts _ flX1_init_11) (fun _ h9 => h9) rfl dX1_init_20 ?_
  refine lv_iload_n hx hb dX1_init_23 rfl (lv_at hl 0 rfl) ?_
  refine va_new (ci := 3) (fs := [.int 0, .int 0, .null, .null, .null, .null]) (C := RX4) (T := TX4) (N := 6) hx hb hts fiX1_init_X4 tyX4 tyX4_ok hown (hts _ ncX1_init_9) (hts _ niX1_init_X4) (hts _ nzX1_init_X4) hE.1 hP hD hS hA rfl (fun j hj => by rcases (show j = 0 ∨ j = 1 ∨ j = 2 ∨ j = 3 ∨ j = 4 ∨ j = 5 by omega) with rfl | rfl | rfl | rfl | rfl | rfl <;> rfl) (Nat.le_of_ble_eq_true rfl) (Nat.le_of_ble_eq_true rfl) dX1_init_24 (fun q4 H hP hD hS => ?_)
  have hP : va_P g.1 vwCl (([(k0, .inr (1, [.ref q1, .int 0, .int 0, .null, .int 0])), (q1, .inl (g.2.1 1, 5, .inr (.inr (.inr (.inr (va_up (fun _ => none) (Int32.toNatClampNeg (0 : Int32)) (some q2)))))))] : va_W) ++ ((wS g q2 u3.1 u3.2.1 u3.2.2.1 u3.2.2.2 S00) ++ (([(q4, .inr (3, [.int 0, .int 0, .null, .null, .null, .null]))] : va_W)))) H := hP
  have hD : va_D A (([(k0, .inr (1, [.ref q1, .int 0, .int 0, .null, .int 0])), (q1, .inl (g.2.1 1, 5, .inr (.inr (.inr (.inr (va_up (fun _ => none) (Int32.toNatClampNeg (0 : Int32)) (some q2)))))))] : va_W) ++ ((wS g q2 u3.1 u3.2.1 u3.2.2.1 u3.2.2.2 S00) ++ (([(q4, .inr (3, [.int 0, .int 0, .null, .null, .null, .null]))] : va_W)))) := hD
  refine lv_dup hx hb dX1_init_27 rfl ?_
  refine mcallIv (W0 := (([(k0, .inr (1, [.ref q1, .int 0, .int 0, .null, .int 0])), (q1, .inl (g.2.1 1, 5, .inr (.inr (.inr (.inr (va_up (fun _ => none) (Int32.toNatClampNeg (0 : Int32)) (some q2)))))))] : va_W) ++ ((wS g q2 u3.1 u3.2.1 u3.2.2.1 u3.2.2.2 S00) ++ (([(q4, .inr (3, [.int 0, .int 0, .null, .null, .null, .null]))] : va_W))))) (Wc := ([(q4, .inr (3, [.int 0, .int 0, .null, .null, .null, .null]))] : va_W)) (Wr := (([(k0, .inr (1, [.ref q1, .int 0, .int 0, .null, .int 0])), (q1, .inl (g.2.1 1, 5, .inr (.inr (.inr (.inr (va_up (fun _ => none) (Int32.toNatClampNeg (0 : Int32)) (some q2)))))))] : va_W) ++ ((wS g q2 u3.1 u3.2.1 u3.2.2.1 u3.2.2.2 S00)))) (W1 := fun u5 : Nat × Nat × Nat × Nat => wS g q4 u5.1 u5.2.1 u5.2.2.1 u5.2.2.2 S00) (W2 := fun u5 : Nat × Nat × Nat × Nat => (([(k0, .inr (1, [.ref q1, .int 0, .int 0, .null, .int 0])), (q1, .inl (g.2.1 1, 5, .inr (.inr (.inr (.inr (va_up (fun _ => none) (Int32.toNatClampNeg (0 : Int32)) (some q2)))))))] : va_W) ++ ((wS g q2 u3.1 u3.2.1 u3.2.2.1 u3.2.2.2 S00) ++ ((wS g q4 u5.1 u5.2.1 u5.2.2.1 u5.2.2.2 S00))))) (As := []) (rest := [.ref q4, .int (1 : Int32), .ref q1]) [7] [0, 1, 2, 3, 4, 5, 6] [0, 1, 2, 3, 4, 5, 6, 7, 8, 9, 10, 11] ⟨hx, hb, hml, hown, hts⟩ hP hD hE hZ hS hA (cX4_init_ok l g q4 _) (cwI 0 hts gX1_init_X4_init rfl rfl rfl (hts _ nzX1_init_X4) (hts _ nlX1_init_15) (hts _ nmX1_init_X4) rfl (by decide +kernel) ⟨(Nat.le_of_ble_eq_true rfl), (Nat.le_of_ble_eq_true rfl)⟩) rfl rfl (fun _ => rfl) (by decide) (by decide) (by decide) (by decide) rfl hl.1 rfl (Nat.le_of_ble_eq_true rfl) ⟨(Nat.le_of_ble_eq_true rfl), (Nat.le_of_ble_eq_true rfl)⟩ dX1_init_28 (fun u5 H locs hP hD hS => ?_)
  refine va_astq (r := (RX4, TX4, 6)) hx hb hE.1 hP hD hS 1 1 7 3 rfl rfl rfl rfl (vin (by decide)) dX1_init_31 (fun H locs hP hD hS => ?_)
  have hP : va_P g.1 vwCl (([(k0, .inr (1, [.ref q1, .int 0, .int 0, .null, .int 0])), (q1, .inl (g.2.1 1, 5, .inr (.inr (.inr (.inr (va_up (va_up (fun _ => none) (Int32.toNatClampNeg (0 : Int32)) (some q2)) (Int32.toNatClampNeg (1 : Int32)) (some q4)))))))] : va_W) ++ ((wS g q2 u3.1 u3.2.1 u3.2.2.1 u3.2.2.2 S00) ++ ((wS g q4 u5.1 u5.2.1 u5.2.2.1 u5.2.2.2 S00)))) H := hP
  have hD : va_D A (([(k0, .inr (1, [.ref q1, .int 0, .int 0, .null, .int 0])), (q1, .inl (g.2.1 1, 5, .inr (.inr (.inr (.inr (va_up (va_up (fun _ => none) (Int32.toNatClampNeg (0 : Int32)) (some q2)) (Int32.toNatClampNeg (1 : Int32)) (some q4)))))))] : va_W) ++ ((wS g q2 u3.1 u3.2.1 u3.2.2.1 u3.2.2.2 S00) ++ ((wS g q4 u5.1 u5.2.1 u5.2.2.1 u5.2.2.2 S00)))) := hD
  refine lv_iinc (v := (2 : Int32)) (lv' := [(1, .int (2 : Int32)), (0, .ref k0)]) hx hb dX1_init_32 hl (k := 0) rfl (by decide) (by decide) rfl (fun ls hl => ?_)
  refine lv_goto (tgt := 14) hx hb dX1_init_35 (by decide) ?_
  refine lv_iload_n hx hb dX1_init_14 rfl (lv_at hl 0 rfl) ?_
  refine lv_iconst (v := (5 : Int32)) hx hb dX1_init_15 (by decide) ?_
  refine lv_icmp_ge (tgt := 38) hx hb dX1_init_16 (by decide) (fun c => absurd c (by decide)) (fun _ => ?_)
  refine lv_aload_n hx hb dX1_init_19 rfl (lv_at hl 1 rfl) ?_
  refine va_get (v := .ref q1) (C := RX1) (T := TX1) (N := 5) hx hb hts fiX1_init_X1 hown hE.1 hP 0 rfl rfl 0 (by decide) (hts _ flX1_init_11) (fun _ h9 => h9) rfl dX1_init_20 ?_
  refine lv_iload_n hx hb dX1_init_23 rfl (lv_at hl 0 rfl) ?_
  refine va_new (ci := 3) (fs := [.int 0, .int 0, .null, .null, .null, .null]) (C := RX4) (T := TX4) (N := 6) hx hb hts fiX1_init_X4 tyX4 tyX4_ok hown (hts _ ncX1_init_9) (hts _ niX1_init_X4) (hts _ nzX1_init_X4) hE.1 hP hD hS hA rfl (fun j hj => by rcases (show j = 0 ∨ j = 1 ∨ j = 2 ∨ j = 3 ∨ j = 4 ∨ j = 5 by omega) with rfl | rfl | rfl | rfl | rfl | rfl <;> rfl) (Nat.le_of_ble_eq_true rfl) (Nat.le_of_ble_eq_true rfl) dX1_init_24 (fun q6 H hP hD hS => ?_)
  have hP : va_P g.1 vwCl (([(k0, .inr (1, [.ref q1, .int 0, .int 0, .null, .int 0])), (q1, .inl (g.2.1 1, 5, .inr (.inr (.inr (.inr (va_up (va_up (fun _ => none) (Int32.toNatClampNeg (0 : Int32)) (some q2)) (Int32.toNatClampNeg (1 : Int32)) (some q4)))))))] : va_W) ++ ((wS g q2 u3.1 u3.2.1 u3.2.2.1 u3.2.2.2 S00) ++ ((wS g q4 u5.1 u5.2.1 u5.2.2.1 u5.2.2.2 S00) ++ (([(q6, .inr (3, [.int 0, .int 0, .null, .null, .null, .null]))] : va_W))))) H := hP
  have hD : va_D A (([(k0, .inr (1, [.ref q1, .int 0, .int 0, .null, .int 0])), (q1, .inl (g.2.1 1, 5, .inr (.inr (.inr (.inr (va_up (va_up (fun _ => none) (Int32.toNatClampNeg (0 : Int32)) (some q2)) (Int32.toNatClampNeg (1 : Int32)) (some q4)))))))] : va_W) ++ ((wS g q2 u3.1 u3.2.1 u3.2.2.1 u3.2.2.2 S00) ++ ((wS g q4 u5.1 u5.2.1 u5.2.2.1 u5.2.2.2 S00) ++ (([(q6, .inr (3, [.int 0, .int 0, .null, .null, .null, .null]))] : va_W))))) := hD
  refine lv_dup hx hb dX1_init_27 rfl ?_
  refine mcallIv (W0 := (([(k0, .inr (1, [.ref q1, .int 0, .int 0, .null, .int 0])), (q1, .inl (g.2.1 1, 5, .inr (.inr (.inr (.inr (va_up (va_up (fun _ => none) (Int32.toNatClampNeg (0 : Int32)) (some q2)) (Int32.toNatClampNeg (1 : Int32)) (some q4)))))))] : va_W) ++ ((wS g q2 u3.1 u3.2.1 u3.2.2.1 u3.2.2.2 S00) ++ ((wS g q4 u5.1 u5.2.1 u5.2.2.1 u5.2.2.2 S00) ++ (([(q6, .inr (3, [.int 0, .int 0, .null, .null, .null, .null]))] : va_W)))))) (Wc := ([(q6, .inr (3, [.int 0, .int 0, .null, .null, .null, .null]))] : va_W)) (Wr := (([(k0, .inr (1, [.ref q1, .int 0, .int 0, .null, .int 0])), (q1, .inl (g.2.1 1, 5, .inr (.inr (.inr (.inr (va_up (va_up (fun _ => none) (Int32.toNatClampNeg (0 : Int32)) (some q2)) (Int32.toNatClampNeg (1 : Int32)) (some q4)))))))] : va_W) ++ ((wS g q2 u3.1 u3.2.1 u3.2.2.1 u3.2.2.2 S00) ++ ((wS g q4 u5.1 u5.2.1 u5.2.2.1 u5.2.2.2 S00))))) (W1 := fun u7 : Nat × Nat × Nat × Nat => wS g q6 u7.1 u7.2.1 u7.2.2.1 u7.2.2.2 S00) (W2 := fun u7 : Nat × Nat × Nat × Nat => (([(k0, .inr (1, [.ref q1, .int 0, .int 0, .null, .int 0])), (q1, .inl (g.2.1 1, 5, .inr (.inr (.inr (.inr (va_up (va_up (fun _ => none) (Int32.toNatClampNeg (0 : Int32)) (some q2)) (Int32.toNatClampNeg (1 : Int32)) (some q4)))))))] : va_W) ++ ((wS g q2 u3.1 u3.2.1 u3.2.2.1 u3.2.2.2 S00) ++ ((wS g q4 u5.1 u5.2.1 u5.2.2.1 u5.2.2.2 S00) ++ ((wS g q6 u7.1 u7.2.1 u7.2.2.1 u7.2.2.2 S00)))))) (As := []) (rest := [.ref q6, .int (2 : Int32), .ref q1]) [12] [0, 1, 2, 3, 4, 5, 6, 7, 8, 9, 10, 11] [0, 1, 2, 3, 4, 5, 6, 7, 8, 9, 10, 11, 12, 13, 14, 15, 16] ⟨hx, hb, hml, hown, hts⟩ hP hD hE hZ hS hA (cX4_init_ok l g q6 _) (cwI 0 hts gX1_init_X4_init rfl rfl rfl (hts _ nzX1_init_X4) (hts _ nlX1_init_15) (hts _ nmX1_init_X4) rfl (by decide +kernel) ⟨(Nat.le_of_ble_eq_true rfl), (Nat.le_of_ble_eq_true rfl)⟩) rfl rfl (fun _ => rfl) (by decide) (by decide) (by decide) (by decide) rfl hl.1 rfl (Nat.le_of_ble_eq_true rfl) ⟨(Nat.le_of_ble_eq_true rfl), (Nat.le_of_ble_eq_true rfl)⟩ dX1_init_28 (fun u7 H locs hP hD hS => ?_)
  refine va_astq (r := (RX4, TX4, 6)) hx hb hE.1 hP hD hS 1 1 12 3 rfl rfl rfl rfl (vin (by decide)) dX1_init_31 (fun H locs hP hD hS => ?_)
  have hP : va_P g.1 vwCl (([(k0, .inr (1, [.ref q1, .int 0, .int 0, .null, .int 0])), (q1, .inl (g.2.1 1, 5, .inr (.inr (.inr (.inr (va_up (va_up (va_up (fun _ => none) (Int32.toNatClampNeg (0 : Int32)) (some q2)) (Int32.toNatClampNeg (1 : Int32)) (some q4)) (Int32.toNatClampNeg (2 : Int32)) (some q6)))))))] : va_W) ++ ((wS g q2 u3.1 u3.2.1 u3.2.2.1 u3.2.2.2 S00) ++ ((wS g q4 u5.1 u5.2.1 u5.2.2.1 u5.2.2.2 S00) ++ ((wS g q6 u7.1 u7.2.1 u7.2.2.1 u7.2.2.2 S00))))) H := hP
  have hD : va_D A (([(k0, .inr (1, [.ref q1, .int 0, .int 0, .null, .int 0])), (q1, .inl (g.2.1 1, 5, .inr (.inr (.inr (.inr (va_up (va_up (va_up (fun _ => none) (Int32.toNatClampNeg (0 : Int32)) (some q2)) (Int32.toNatClampNeg (1 : Int32)) (some q4)) (Int32.toNatClampNeg (2 : Int32)) (some q6)))))))] : va_W) ++ ((wS g q2 u3.1 u3.2.1 u3.2.2.1 u3.2.2.2 S00) ++ ((wS g q4 u5.1 u5.2.1 u5.2.2.1 u5.2.2.2 S00) ++ ((wS g q6 u7.1 u7.2.1 u7.2.2.1 u7.2.2.2 S00))))) := hD
  refine lv_iinc (v := (3 : Int32)) (lv' := [(1, .int (3 : Int32)), (0, .ref k0)]) hx hb dX1_init_32 hl (k := 0) rfl (by decide) (by decide) rfl (fun ls hl => ?_)
  refine lv_goto (tgt := 14) hx hb dX1_init_35 (by decide) ?_
  refine lv_iload_n hx hb dX1_init_14 rfl (lv_at hl 0 rfl) ?_
  refine lv_iconst (v := (5 : Int32)) hx hb dX1_init_15 (by decide) ?_
  refine lv_icmp_ge (tgt := 38) hx hb dX1_init_16 (by decide) (fun c => absurd c (by decide)) (fun _ => ?_)
  refine lv_aload_n hx hb dX1_init_19 rfl (lv_at hl 1 rfl) ?_
  refine va_get (v := .ref q1) (C := RX1) (T := TX1) (N := 5) hx hb hts fiX1_init_X1 hown hE.1 hP 0 rfl rfl 0 (by decide) (hts _ flX1_init_11) (fun _ h9 => h9) rfl dX1_init_20 ?_
  refine lv_iload_n hx hb dX1_init_23 rfl (lv_at hl 0 rfl) ?_
  refine va_new (ci := 3) (fs := [.int 0, .int 0, .null, .null, .null, .null]) (C := RX4) (T := TX4) (N := 6) hx hb hts fiX1_init_X4 tyX4 tyX4_ok hown (hts _ ncX1_init_9) (hts _ niX1_init_X4) (hts _ nzX1_init_X4) hE.1 hP hD hS hA rfl (fun j hj => by rcases (show j = 0 ∨ j = 1 ∨ j = 2 ∨ j = 3 ∨ j = 4 ∨ j = 5 by omega) with rfl | rfl | rfl | rfl | rfl | rfl <;> rfl) (Nat.le_of_ble_eq_true rfl) (Nat.le_of_ble_eq_true rfl) dX1_init_24 (fun q8 H hP hD hS => ?_)
  have hP : va_P g.1 vwCl (([(k0, .inr (1, [.ref q1, .int 0, .int 0, .null, .int 0])), (q1, .inl (g.2.1 1, 5, .inr (.inr (.inr (.inr (va_up (va_up (va_up (fun _ => none) (Int32.toNatClampNeg (0 : Int32)) (some q2)) (Int32.toNatClampNeg (1 : Int32)) (some q4)) (Int32.toNatClampNeg (2 : Int32)) (some q6)))))))] : va_W) ++ ((wS g q2 u3.1 u3.2.1 u3.2.2.1 u3.2.2.2 S00) ++ ((wS g q4 u5.1 u5.2.1 u5.2.2.1 u5.2.2.2 S00) ++ ((wS g q6 u7.1 u7.2.1 u7.2.2.1 u7.2.2.2 S00) ++ (([(q8, .inr (3, [.int 0, .int 0, .null, .null, .null, .null]))] : va_W)))))) H := hP
  have hD : va_D A (([(k0, .inr (1, [.ref q1, .int 0, .int 0, .null, .int 0])), (q1, .inl (g.2.1 1, 5, .inr (.inr (.inr (.inr (va_up (va_up (va_up (fun _ => none) (Int32.toNatClampNeg (0 : Int32)) (some q2)) (Int32.toNatClampNeg (1 : Int32)) (some q4)) (Int32.toNatClampNeg (2 : Int32)) (some q6)))))))] : va_W) ++ ((wS g q2 u3.1 u3.2.1 u3.2.2.1 u3.2.2.2 S00) ++ ((wS g q4 u5.1 u5.2.1 u5.2.2.1 u5.2.2.2 S00) ++ ((wS g q6 u7.1 u7.2.1 u7.2.2.1 u7.2.2.2 S00) ++ (([(q8, .inr (3, [.int 0, .int 0, .null, .null, .null, .null]))] : va_W)))))) := hD
  refine lv_dup hx hb dX1_init_27 rfl ?_
  refine mcallIv (W0 := (([(k0, .inr (1, [.ref q1, .int 0, .int 0, .null, .int 0])), (q1, .inl (g.2.1 1, 5, .inr (.inr (.inr (.inr (va_up (va_up (va_up (fun _ => none) (Int32.toNatClampNeg (0 : Int32)) (some q2)) (Int32.toNatClampNeg (1 : Int32)) (some q4)) (Int32.toNatClampNeg (2 : Int32)) (some q6)))))))] : va_W) ++ ((wS g q2 u3.1 u3.2.1 u3.2.2.1 u3.2.2.2 S00) ++ ((wS g q4 u5.1 u5.2.1 u5.2.2.1 u5.2.2.2 S00) ++ ((wS g q6 u7.1 u7.2.1 u7.2.2.1 u7.2.2.2 S00) ++ (([(q8, .inr (3, [.int 0, .int 0, .null, .null, .null, .null]))] : va_W))))))) (Wc := ([(q8, .inr (3, [.int 0, .int 0, .null, .null, .null, .null]))] : va_W)) (Wr := (([(k0, .inr (1, [.ref q1, .int 0, .int 0, .null, .int 0])), (q1, .inl (g.2.1 1, 5, .inr (.inr (.inr (.inr (va_up (va_up (va_up (fun _ => none) (Int32.toNatClampNeg (0 : Int32)) (some q2)) (Int32.toNatClampNeg (1 : Int32)) (some q4)) (Int32.toNatClampNeg (2 : Int32)) (some q6)))))))] : va_W) ++ ((wS g q2 u3.1 u3.2.1 u3.2.2.1 u3.2.2.2 S00) ++ ((wS g q4 u5.1 u5.2.1 u5.2.2.1 u5.2.2.2 S00) ++ ((wS g q6 u7.1 u7.2.1 u7.2.2.1 u7.2.2.2 S00)))))) (W1 := fun u9 : Nat × Nat × Nat × Nat => wS g q8 u9.1 u9.2.1 u9.2.2.1 u9.2.2.2 S00) (W2 := fun u9 : Nat × Nat × Nat × Nat => (([(k0, .inr (1, [.ref q1, .int 0, .int 0, .null, .int 0])), (q1, .inl (g.2.1 1, 5, .inr (.inr (.inr (.inr (va_up (va_up (va_up (fun _ => none) (Int32.toNatClampNeg (0 : Int32)) (some q2)) (Int32.toNatClampNeg (1 : Int32)) (some q4)) (Int32.toNatClampNeg (2 : Int32)) (some q6)))))))] : va_W) ++ ((wS g q2 u3.1 u3.2.1 u3.2.2.1 u3.2.2.2 S00) ++ ((wS g q4 u5.1 u5.2.1 u5.2.2.1 u5.2.2.2 S00) ++ ((wS g q6 u7.1 u7.2.1 u7.2.2.1 u7.2.2.2 S00) ++ ((wS g q8 u9.1 u9.2.1 u9.2.2.1 u9.2.2.2 S00))))))) (As := []) (rest := [.ref q8, .int (3 : Int32), .ref q1]) [17] [0, 1, 2, 3, 4, 5, 6, 7, 8, 9, 10, 11, 12, 13, 14, 15, 16] [0, 1, 2, 3, 4, 5, 6, 7, 8, 9, 10, 11, 12, 13, 14, 15, 16, 17, 18, 19, 20, 21] ⟨hx, hb, hml, hown, hts⟩ hP hD hE hZ hS hA (cX4_init_ok l g q8 _) (cwI 0 hts gX1_init_X4_init rfl rfl rfl (hts _ nzX1_init_X4) (hts _ nlX1_init_15) (hts _ nmX1_init_X4) rfl (by decide +kernel) ⟨(Nat.le_of_ble_eq_true rfl), (Nat.le_of_ble_eq_true rfl)⟩) rfl rfl (fun _ => rfl) (by decide) (by decide) (by decide) (by decide) rfl hl.1 rfl (Nat.le_of_ble_eq_true rfl) ⟨(Nat.le_of_ble_eq_true rfl), (Nat.le_of_ble_eq_true rfl)⟩ dX1_init_28 (fun u9 H locs hP hD hS => ?_)
  refine va_astq (r := (RX4, TX4, 6)) hx hb hE.1 hP hD hS 1 1 17 3 rfl rfl rfl rfl (vin (by decide)) dX1_init_31 (fun H locs hP hD hS => ?_)
  have hP : va_P g.1 vwCl (([(k0, .inr (1, [.ref q1, .int 0, .int 0, .null, .int 0])), (q1, .inl (g.2.1 1, 5, .inr (.inr (.inr (.inr (va_up (va_up (va_up (va_up (fun _ => none) (Int32.toNatClampNeg (0 : Int32)) (some q2)) (Int32.toNatClampNeg (1 : Int32)) (some q4)) (Int32.toNatClampNeg (2 : Int32)) (some q6)) (Int32.toNatClampNeg (3 : Int32)) (some q8)))))))] : va_W) ++ ((wS g q2 u3.1 u3.2.1 u3.2.2.1 u3.2.2.2 S00) ++ ((wS g q4 u5.1 u5.2.1 u5.2.2.1 u5.2.2.2 S00) ++ ((wS g q6 u7.1 u7.2.1 u7.2.2.1 u7.2.2.2 S00) ++ ((wS g q8 u9.1 u9.2.1 u9.2.2.1 u9.2.2.2 S00)))))) H := hP
  have hD : va_D A (([(k0, .inr (1, [.ref q1, .int 0, .int 0, .null, .int 0])), (q1, .inl (g.2.1 1, 5, .inr (.inr (.inr (.inr (va_up (va_up (va_up (va_up (fun _ => none) (Int32.toNatClampNeg (0 : Int32)) (some q2)) (Int32.toNatClampNeg (1 : Int32)) (some q4)) (Int32.toNatClampNeg (2 : Int32)) (some q6)) (Int32.toNatClampNeg (3 : Int32)) (some q8)))))))] : va_W) ++ ((wS g q2 u3.1 u3.2.1 u3.2.2.1 u3.2.2.2 S00) ++ ((wS g q4 u5.1 u5.2.1 u5.2.2.1 u5.2.2.2 S00) ++ ((wS g q6 u7.1 u7.2.1 u7.2.2.1 u7.2.2.2 S00) ++ ((wS g q8 u9.1 u9.2.1 u9.2.2.1 u9.2.2.2 S00)))))) := hD
  refine lv_iinc (v := (4 : Int32)) (lv' := [(1, .int (4 : Int32)), (0, .ref k0)]) hx hb dX1_init_32 hl (k := 0) rfl (by decide) (by decide) rfl (fun ls hl => ?_)
  refine lv_goto (tgt := 14) hx hb dX1_init_35 (by decide) ?_
  refine lv_iload_n hx hb dX1_init_14 rfl (lv_at hl 0 rfl) ?_
  refine lv_iconst (v := (5 : Int32)) hx hb dX1_init_15 (by decide) ?_
  refine lv_icmp_ge (tgt := 38) hx hb dX1_init_16 (by decide) (fun c => absurd c (by decide)) (fun _ => ?_)
  refine lv_aload_n hx hb dX1_init_19 rfl (lv_at hl 1 rfl) ?_
  refine va_get (v := .ref q1) (C := RX1) (T := TX1) (N := 5) hx hb hts fiX1_init_X1 hown hE.1 hP 0 rfl rfl 0 (by decide) (hts _ flX1_init_11) (fun _ h9 => h9) rfl dX1_init_20 ?_
  refine lv_iload_n hx hb dX1_init_23 rfl (lv_at hl 0 rfl) ?_
  refine va_new (ci := 3) (fs := [.int 0, .int 0, .null, .null, .null, .null]) (C := RX4) (T := TX4) (N := 6) hx hb hts fiX1_init_X4 tyX4 tyX4_ok hown (hts _ ncX1_init_9) (hts _ niX1_init_X4) (hts _ nzX1_init_X4) hE.1 hP hD hS hA rfl (fun j hj => by rcases (show j = 0 ∨ j = 1 ∨ j = 2 ∨ j = 3 ∨ j = 4 ∨ j = 5 by omega) with rfl | rfl | rfl | rfl | rfl | rfl <;> rfl) (Nat.le_of_ble_eq_true rfl) (Nat.le_of_ble_eq_true rfl) dX1_init_24 (fun q10 H hP hD hS => ?_)
  have hP : va_P g.1 vwCl (([(k0, .inr (1, [.ref q1, .int 0, .int 0, .null, .int 0])), (q1, .inl (g.2.1 1, 5, .inr (.inr (.inr (.inr (va_up (va_up (va_up (va_up (fun _ => none) (Int32.toNatClampNeg (0 : Int32)) (some q2)) (Int32.toNatClampNeg (1 : Int32)) (some q4)) (Int32.toNatClampNeg (2 : Int32)) (some q6)) (Int32.toNatClampNeg (3 : Int32)) (some q8)))))))] : va_W) ++ ((wS g q2 u3.1 u3.2.1 u3.2.2.1 u3.2.2.2 S00) ++ ((wS g q4 u5.1 u5.2.1 u5.2.2.1 u5.2.2.2 S00) ++ ((wS g q6 u7.1 u7.2.1 u7.2.2.1 u7.2.2.2 S00) ++ ((wS g q8 u9.1 u9.2.1 u9.2.2.1 u9.2.2.2 S00) ++ (([(q10, .inr (3, [.int 0, .int 0, .null, .null, .null, .null]))] : va_W))))))) H := hP
  have hD : va_D A (([(k0, .inr (1, [.ref q1, .int 0, .int 0, .null, .int 0])), (q1, .inl (g.2.1 1, 5, .inr (.inr (.inr (.inr (va_up (va_up (va_up (va_up (fun _ => none) (Int32.toNatClampNeg (0 : Int32)) (some q2)) (Int32.toNatClampNeg (1 : Int32)) (some q4)) (Int32.toNatClampNeg (2 : Int32)) (some q6)) (Int32.toNatClampNeg (3 : Int32)) (some q8)))))))] : va_W) ++ ((wS g q2 u3.1 u3.2.1 u3.2.2.1 u3.2.2.2 S00) ++ ((wS g q4 u5.1 u5.2.1 u5.2.2.1 u5.2.2.2 S00) ++ ((wS g q6 u7.1 u7.2.1 u7.2.2.1 u7.2.2.2 S00) ++ ((wS g q8 u9.1 u9.2.1 u9.2.2.1 u9.2.2.2 S00) ++ (([(q10, .inr (3, [.int 0, .int 0, .null, .null, .null, .null]))] : va_W))))))) := hD
  refine lv_dup hx hb dX1_init_27 rfl ?_
  refine mcallIv (W0 := (([(k0, .inr (1, [.ref q1, .int 0, .int 0, .null, .int 0])), (q1, .inl (g.2.1 1, 5, .inr (.inr (.inr (.inr (va_up (va_up (va_up (va_up (fun _ => none) (Int32.toNatClampNeg (0 : Int32)) (some q2)) (Int32.toNatClampNeg (1 : Int32)) (some q4)) (Int32.toNatClampNeg (2 : Int32)) (some q6)) (Int32.toNatClampNeg (3 : Int32)) (some q8)))))))] : va_W) ++ ((wS g q2 u3.1 u3.2.1 u3.2.2.1 u3.2.2.2 S00) ++ ((wS g q4 u5.1 u5.2.1 u5.2.2.1 u5.2.2.2 S00) ++ ((wS g q6 u7.1 u7.2.1 u7.2.2.1 u7.2.2.2 S00) ++ ((wS g q8 u9.1 u9.2.1 u9.2.2.1 u9.2.2.2 S00) ++ (([(q10, .inr (3, [.int 0, .int 0, .null, .null, .null, .null]))] : va_W)))))))) (Wc := ([(q10, .inr (3, [.int 0, .int 0, .null, .null, .null, .null]))] : va_W)) (Wr := (([(k0, .inr (1, [.ref q1, .int 0, .int 0, .null, .int 0])), (q1, .inl (g.2.1 1, 5, .inr (.inr (.inr (.inr (va_up (va_up (va_up (va_up (fun _ => none) (Int32.toNatClampNeg (0 : Int32)) (some q2)) (Int32.toNatClampNeg (1 : Int32)) (some q4)) (Int32.toNatClampNeg (2 : Int32)) (some q6)) (Int32.toNatClampNeg (3 : Int32)) (some q8)))))))] : va_W) ++ ((wS g q2 u3.1 u3.2.1 u3.2.2.1 u3.2.2.2 S00) ++ ((wS g q4 u5.1 u5.2.1 u5.2.2.1 u5.2.2.2 S00) ++ ((wS g q6 u7.1 u7.2.1 u7.2.2.1 u7.2.2.2 S00) ++ ((wS g q8 u9.1 u9.2.1 u9.2.2.1 u9.2.2.2 S00))))))) (W1 := fun u11 : Nat × Nat × Nat × Nat => wS g q10 u11.1 u11.2.1 u11.2.2.1 u11.2.2.2 S00) (W2 := fun u11 : Nat × Nat × Nat × Nat => (([(k0, .inr (1, [.ref q1, .int 0, .int 0, .null, .int 0])), (q1, .inl (g.2.1 1, 5, .inr (.inr (.inr (.inr (va_up (va_up (va_up (va_up (fun _ => none) (Int32.toNatClampNeg (0 : Int32)) (some q2)) (Int32.toNatClampNeg (1 : Int32)) (some q4)) (Int32.toNatClampNeg (2 : Int32)) (some q6)) (Int32.toNatClampNeg (3 : Int32)) (some q8)))))))] : va_W) ++ ((wS g q2 u3.1 u3.2.1 u3.2.2.1 u3.2.2.2 S00) ++ ((wS g q4 u5.1 u5.2.1 u5.2.2.1 u5.2.2.2 S00) ++ ((wS g q6 u7.1 u7.2.1 u7.2.2.1 u7.2.2.2 S00) ++ ((wS g q8 u9.1 u9.2.1 u9.2.2.1 u9.2.2.2 S00) ++ ((wS g q10 u11.1 u11.2.1 u11.2.2.1 u11.2.2.2 S00)))))))) (As := []) (rest := [.ref q10, .int (4 : Int32), .ref q1]) [22] [0, 1, 2, 3, 4, 5, 6, 7, 8, 9, 10, 11, 12, 13, 14, 15, 16, 17, 18, 19, 20, 21] [0, 1, 2, 3, 4, 5, 6, 7, 8, 9, 10, 11, 12, 13, 14, 15, 16, 17, 18, 19, 20, 21, 22, 23, 24, 25, 26] ⟨hx, hb, hml, hown, hts⟩ hP hD hE hZ hS hA (cX4_init_ok l g q10 _) (cwI 0 hts gX1_init_X4_init rfl rfl rfl (hts _ nzX1_init_X4) (hts _ nlX1_init_15) (hts _ nmX1_init_X4) rfl (by decide +kernel) ⟨(Nat.le_of_ble_eq_true rfl), (Nat.le_of_ble_eq_true rfl)⟩) rfl rfl (fun _ => rfl) (by decide) (by decide) (by decide) (by decide) rfl hl.1 rfl (Nat.le_of_ble_eq_true rfl) ⟨(Nat.le_of_ble_eq_true rfl), (Nat.le_of_ble_eq_true rfl)⟩ dX1_init_28 (fun u11 H locs hP hD hS => ?_)
  refine va_astq (r := (RX4, TX4, 6)) hx hb hE.1 hP hD hS 1 1 22 3 rfl rfl rfl rfl (vin (by decide)) dX1_init_31 (fun H locs hP hD hS => ?_)
  have hP : va_P g.1 vwCl (([(k0, .inr (1, [.ref q1, .int 0, .int 0, .null, .int 0])), (q1, .inl (g.2.1 1, 5, .inr (.inr (.inr (.inr (va_up (va_up (va_up (va_up (va_up (fun _ => none) (Int32.toNatClampNeg (0 : Int32)) (some q2)) (Int32.toNatClampNeg (1 : Int32)) (some q4)) (Int32.toNatClampNeg (2 : Int32)) (some q6)) (Int32.toNatClampNeg (3 : Int32)) (some q8)) (Int32.toNatClampNeg (4 : Int32)) (some q10)))))))] : va_W) ++ ((wS g q2 u3.1 u3.2.1 u3.2.2.1 u3.2.2.2 S00) ++ ((wS g q4 u5.1 u5.2.1 u5.2.2.1 u5.2.2.2 S00) ++ ((wS g q6 u7.1 u7.2.1 u7.2.2.1 u7.2.2.2 S00) ++ ((wS g q8 u9.1 u9.2.1 u9.2.2.1 u9.2.2.2 S00) ++ ((wS g q10 u11.1 u11.2.1 u11.2.2.1 u11.2.2.2 S00))))))) H := hP
  have hD : va_D A (([(k0, .inr (1, [.ref q1, .int 0, .int 0, .null, .int 0])), (q1, .inl (g.2.1 1, 5, .inr (.inr (.inr (.inr (va_up (va_up (va_up (va_up (va_up (fun _ => none) (Int32.toNatClampNeg (0 : Int32)) (some q2)) (Int32.toNatClampNeg (1 : Int32)) (some q4)) (Int32.toNatClampNeg (2 : Int32)) (some q6)) (Int32.toNatClampNeg (3 : Int32)) (some q8)) (Int32.toNatClampNeg (4 : Int32)) (some q10)))))))] : va_W) ++ ((wS g q2 u3.1 u3.2.1 u3.2.2.1 u3.2.2.2 S00) ++ ((wS g q4 u5.1 u5.2.1 u5.2.2.1 u5.2.2.2 S00) ++ ((wS g q6 u7.1 u7.2.1 u7.2.2.1 u7.2.2.2 S00) ++ ((wS g q8 u9.1 u9.2.1 u9.2.2.1 u9.2.2.2 S00) ++ ((wS g q10 u11.1 u11.2.1 u11.2.2.1 u11.2.2.2 S00))))))) := hD
  refine lv_iinc (v := (5 : Int32)) (lv' := [(1, .int (5 : Int32)), (0, .ref k0)]) hx hb dX1_init_32 hl (k := 0) rfl (by decide) (by decide) rfl (fun ls hl => ?_)
  refine lv_goto (tgt := 14) hx hb dX1_init_35 (by decide) ?_
  refine lv_iload_n hx hb dX1_init_14 rfl (lv_at hl 0 rfl) ?_
  refine lv_iconst (v := (5 : Int32)) hx hb dX1_init_15 (by decide) ?_
  refine lv_icmp_ge (tgt := 38) hx hb dX1_init_16 (by decide) (fun _ => ?_) (fun c => absurd (by decide) c)
  refine lv_aload_n hx hb dX1_init_38 rfl (lv_at hl 1 rfl) ?_
  refine va_new (ci := 3) (fs := [.int 0, .int 0, .null, .null, .null, .null]) (C := RX4) (T := TX4) (N := 6) hx hb hts fiX1_init_X4 tyX4 tyX4_ok hown (hts _ ncX1_init_9) (hts _ niX1_init_X4) (hts _ nzX1_init_X4) hE.1 hP hD hS hA rfl (fun j hj => by rcases (show j = 0 ∨ j = 1 ∨ j = 2 ∨ j = 3 ∨ j = 4 ∨ j = 5 by omega) with rfl | rfl | rfl | rfl | rfl | rfl <;> rfl) (Nat.le_of_ble_eq_true rfl) (Nat.le_of_ble_eq_true rfl) dX1_init_39 (fun q12 H hP hD hS => ?_)
  have hP : va_P g.1 vwCl (([(k0, .inr (1, [.ref q1, .int 0, .int 0, .null, .int 0])), (q1, .inl (g.2.1 1, 5, .inr (.inr (.inr (.inr (va_up (va_up (va_up (va_up (va_up (fun _ => none) (Int32.toNatClampNeg (0 : Int32)) (some q2)) (Int32.toNatClampNeg (1 : Int32)) (some q4)) (Int32.toNatClampNeg (2 : Int32)) (some q6)) (Int32.toNatClampNeg (3 : Int32)) (some q8)) (Int32.toNatClampNeg (4 : Int32)) (some q10)))))))] : va_W) ++ ((wS g q2 u3.1 u3.2.1 u3.2.2.1 u3.2.2.2 S00) ++ ((wS g q4 u5.1 u5.2.1 u5.2.2.1 u5.2.2.2 S00) ++ ((wS g q6 u7.1 u7.2.1 u7.2.2.1 u7.2.2.2 S00) ++ ((wS g q8 u9.1 u9.2.1 u9.2.2.1 u9.2.2.2 S00) ++ ((wS g q10 u11.1 u11.2.1 u11.2.2.1 u11.2.2.2 S00) ++ (([(q12, .inr (3, [.int 0, .int 0, .null, .null, .null, .null]))] : va_W)))))))) H := hP
  have hD : va_D A (([(k0, .inr (1, [.ref q1, .int 0, .int 0, .null, .int 0])), (q1, .inl (g.2.1 1, 5, .inr (.inr (.inr (.inr (va_up (va_up (va_up (va_up (va_up (fun _ => none) (Int32.toNatClampNeg (0 : Int32)) (some q2)) (Int32.toNatClampNeg (1 : Int32)) (some q4)) (Int32.toNatClampNeg (2 : Int32)) (some q6)) (Int32.toNatClampNeg (3 : Int32)) (some q8)) (Int32.toNatClampNeg (4 : Int32)) (some q10)))))))] : va_W) ++ ((wS g q2 u3.1 u3.2.1 u3.2.2.1 u3.2.2.2 S00) ++ ((wS g q4 u5.1 u5.2.1 u5.2.2.1 u5.2.2.2 S00) ++ ((wS g q6 u7.1 u7.2.1 u7.2.2.1 u7.2.2.2 S00) ++ ((wS g q8 u9.1 u9.2.1 u9.2.2.1 u9.2.2.2 S00) ++ ((wS g q10 u11.1 u11.2.1 u11.2.2.1 u11.2.2.2 S00) ++ (([(q12, .inr (3, [.int 0, .int 0, .null, .null, .null, .null]))] : va_W)))))))) := hD
  refine lv_dup hx hb dX1_init_42 rfl ?_
  refine mcallIv (W0 := (([(k0, .inr (1, [.ref q1, .int 0, .int 0, .null, .int 0])), (q1, .inl (g.2.1 1, 5, .inr (.inr (.inr (.inr (va_up (va_up (va_up (va_up (va_up (fun _ => none) (Int32.toNatClampNeg (0 : Int32)) (some q2)) (Int32.toNatClampNeg (1 : Int32)) (some q4)) (Int32.toNatClampNeg (2 : Int32)) (some q6)) (Int32.toNatClampNeg (3 : Int32)) (some q8)) (Int32.toNatClampNeg (4 : Int32)) (some q10)))))))] : va_W) ++ ((wS g q2 u3.1 u3.2.1 u3.2.2.1 u3.2.2.2 S00) ++ ((wS g q4 u5.1 u5.2.1 u5.2.2.1 u5.2.2.2 S00) ++ ((wS g q6 u7.1 u7.2.1 u7.2.2.1 u7.2.2.2 S00) ++ ((wS g q8 u9.1 u9.2.1 u9.2.2.1 u9.2.2.2 S00) ++ ((wS g q10 u11.1 u11.2.1 u11.2.2.1 u11.2.2.2 S00) ++ (([(q12, .inr (3, [.int 0, .int 0, .null, .null, .null, .null]))] : va_W))))))))) (Wc := ([(q12, .inr (3, [.int 0, .int 0, .null, .null, .null, .null]))] : va_W)) (Wr := (([(k0, .inr (1, [.ref q1, .int 0, .int 0, .null, .int 0])), (q1, .inl (g.2.1 1, 5, .inr (.inr (.inr (.inr (va_up (va_up (va_up (va_up (va_up (fun _ => none) (Int32.toNatClampNeg (0 : Int32)) (some q2)) (Int32.toNatClampNeg (1 : Int32)) (some q4)) (Int32.toNatClampNeg (2 : Int32)) (some q6)) (Int32.toNatClampNeg (3 : Int32)) (some q8)) (Int32.toNatClampNeg (4 : Int32)) (some q10)))))))] : va_W) ++ ((wS g q2 u3.1 u3.2.1 u3.2.2.1 u3.2.2.2 S00) ++ ((wS g q4 u5.1 u5.2.1 u5.2.2.1 u5.2.2.2 S00) ++ ((wS g q6 u7.1 u7.2.1 u7.2.2.1 u7.2.2.2 S00) ++ ((wS g q8 u9.1 u9.2.1 u9.2.2.1 u9.2.2.2 S00) ++ ((wS g q10 u11.1 u11.2.1 u11.2.2.1 u11.2.2.2 S00)))))))) (W1 := fun u13 : Nat × Nat × Nat × Nat => wS g q12 u13.1 u13.2.1 u13.2.2.1 u13.2.2.2 S00) (W2 := fun u13 : Nat × Nat × Nat × Nat => (([(k0, .inr (1, [.ref q1, .int 0, .int 0, .null, .int 0])), (q1, .inl (g.2.1 1, 5, .inr (.inr (.inr (.inr (va_up (va_up (va_up (va_up (va_up (fun _ => none) (Int32.toNatClampNeg (0 : Int32)) (some q2)) (Int32.toNatClampNeg (1 : Int32)) (some q4)) (Int32.toNatClampNeg (2 : Int32)) (some q6)) (Int32.toNatClampNeg (3 : Int32)) (some q8)) (Int32.toNatClampNeg (4 : Int32)) (some q10)))))))] : va_W) ++ ((wS g q2 u3.1 u3.2.1 u3.2.2.1 u3.2.2.2 S00) ++ ((wS g q4 u5.1 u5.2.1 u5.2.2.1 u5.2.2.2 S00) ++ ((wS g q6 u7.1 u7.2.1 u7.2.2.1 u7.2.2.2 S00) ++ ((wS g q8 u9.1 u9.2.1 u9.2.2.1 u9.2.2.2 S00) ++ ((wS g q10 u11.1 u11.2.1 u11.2.2.1 u11.2.2.2 S00) ++ ((wS g q12 u13.1 u13.2.1 u13.2.2.1 u13.2.2.2 S00))))))))) (As := []) (rest := [.ref q12, .ref k0]) [27] [0, 1, 2, 3, 4, 5, 6, 7, 8, 9, 10, 11, 12, 13, 14, 15, 16, 17, 18, 19, 20, 21, 22, 23, 24, 25, 26] [0, 1, 2, 3, 4, 5, 6, 7, 8, 9, 10, 11, 12, 13, 14, 15, 16, 17, 18, 19, 20, 21, 22, 23, 24, 25, 26, 27, 28, 29, 30, 31] ⟨hx, hb, hml, hown, hts⟩ hP hD hE hZ hS hA (cX4_init_ok l g q12 _) (cwI 0 hts gX1_init_X4_init rfl rfl rfl (hts _ nzX1_init_X4) (hts _ nlX1_init_15) (hts _ nmX1_init_X4) rfl (by decide +kernel) ⟨(Nat.le_of_ble_eq_true rfl), (Nat.le_of_ble_eq_true rfl)⟩) rfl rfl (fun _ => rfl) (by decide) (by decide) (by decide) (by decide) rfl hl.1 rfl (Nat.le_of_ble_eq_true rfl) ⟨(Nat.le_of_ble_eq_true rfl), (Nat.le_of_ble_eq_true rfl)⟩ dX1_init_43 (fun u13 H locs hP hD hS => ?_)
  refine va_putF (v := .ref q12) (ty := .object "ContourLabels$Sheet") (C := RX1) (T := TX1) (N := 5) hx hb hts fiX1_init_X1 tyX1 tyX1_ok nmX1 hown hE.1 hP hD hS 0 rfl rfl 3 (by decide) (hts _ flX1_init_16) (fun _ h9 => h9) rfl hin rfl (by decide +kernel) rfl rfl (Nat.le_of_ble_eq_true rfl) dX1_init_46 (fun H locs hP hD hS => ?_)
  have hP : va_P g.1 vwCl (([(k0, .inr (1, [.ref q1, .int 0, .int 0, .ref q12, .int 0])), (q1, .inl (g.2.1 1, 5, .inr (.inr (.inr (.inr (va_up (va_up (va_up (va_up (va_up (fun _ => none) (Int32.toNatClampNeg (0 : Int32)) (some q2)) (Int32.toNatClampNeg (1 : Int32)) (some q4)) (Int32.toNatClampNeg (2 : Int32)) (some q6)) (Int32.toNatClampNeg (3 : Int32)) (some q8)) (Int32.toNatClampNeg (4 : Int32)) (some q10)))))))] : va_W) ++ ((wS g q2 u3.1 u3.2.1 u3.2.2.1 u3.2.2.2 S00) ++ ((wS g q4 u5.1 u5.2.1 u5.2.2.1 u5.2.2.2 S00) ++ ((wS g q6 u7.1 u7.2.1 u7.2.2.1 u7.2.2.2 S00) ++ ((wS g q8 u9.1 u9.2.1 u9.2.2.1 u9.2.2.2 S00) ++ ((wS g q10 u11.1 u11.2.1 u11.2.2.1 u11.2.2.2 S00) ++ ((wS g q12 u13.1 u13.2.1 u13.2.2.1 u13.2.2.2 S00)))))))) H := hP
  have hD : va_D A (([(k0, .inr (1, [.ref q1, .int 0, .int 0, .ref q12, .int 0])), (q1, .inl (g.2.1 1, 5, .inr (.inr (.inr (.inr (va_up (va_up (va_up (va_up (va_up (fun _ => none) (Int32.toNatClampNeg (0 : Int32)) (some q2)) (Int32.toNatClampNeg (1 : Int32)) (some q4)) (Int32.toNatClampNeg (2 : Int32)) (some q6)) (Int32.toNatClampNeg (3 : Int32)) (some q8)) (Int32.toNatClampNeg (4 : Int32)) (some q10)))))))] : va_W) ++ ((wS g q2 u3.1 u3.2.1 u3.2.2.1 u3.2.2.2 S00) ++ ((wS g q4 u5.1 u5.2.1 u5.2.2.1 u5.2.2.2 S00) ++ ((wS g q6 u7.1 u7.2.1 u7.2.2.1 u7.2.2.2 S00) ++ ((wS g q8 u9.1 u9.2.1 u9.2.2.1 u9.2.2.2 S00) ++ ((wS g q10 u11.1 u11.2.1 u11.2.2.1 u11.2.2.2 S00) ++ ((wS g q12 u13.1 u13.2.1 u13.2.2.1 u13.2.2.2 S00)))))))) := hD
  have hP := vaQ_congr (k := 1) (f2 := fun k => some ((fun k j => (([[q2, u3.1, u3.2.1, u3.2.2.1, u3.2.2.2], [q4, u5.1, u5.2.1, u5.2.2.1, u5.2.2.2], [q6, u7.1, u7.2.1, u7.2.2.1, u7.2.2.2], [q8, u9.1, u9.2.1, u9.2.2.1, u9.2.2.2], [q10, u11.1, u11.2.1, u11.2.2.1, u11.2.2.2], [q12, u13.1, u13.2.1, u13.2.2.1, u13.2.2.2]] : List (List Nat)).getD k []).getD j 0) k 0)) hP rfl (fun j hj => by rcases (show j = 0 ∨ j = 1 ∨ j = 2 ∨ j = 3 ∨ j = 4 by omega) with rfl | rfl | rfl | rfl | rfl <;> rfl)
  have hD := vdQ_congr (k := 1) (f2 := fun k => some ((fun k j => (([[q2, u3.1, u3.2.1, u3.2.2.1, u3.2.2.2], [q4, u5.1, u5.2.1, u5.2.2.1, u5.2.2.2], [q6, u7.1, u7.2.1, u7.2.2.1, u7.2.2.2], [q8, u9.1, u9.2.1, u9.2.2.1, u9.2.2.2], [q10, u11.1, u11.2.1, u11.2.2.1, u11.2.2.2], [q12, u13.1, u13.2.1, u13.2.2.1, u13.2.2.2]] : List (List Nat)).getD k []).getD j 0) k 0)) hD rfl
  refine W.widen (k := 31) (n := 3113) (Nat.le_of_ble_eq_true rfl) (Nat.le_of_ble_eq_true rfl) ?_
  exact n_vret (Wf := fun u : Nat × (Nat → Nat → Nat) => wH g k0 u.1 u.2 H00) (q1, (fun k j => (([[q2, u3.1, u3.2.1, u3.2.2.1, u3.2.2.2], [q4, u5.1, u5.2.1, u5.2.2.1, u5.2.2.2], [q6, u7.1, u7.2.1, u7.2.2.1, u7.2.2.2], [q8, u9.1, u9.2.1, u9.2.2.1, u9.2.2.2], [q10, u11.1, u11.2.1, u11.2.2.1, u11.2.2.2], [q12, u13.1, u13.2.1, u13.2.2.1, u13.2.2.2]] : List (List Nat)).getD k []).getD j 0)) hx hb hr hlocks hP hD hS dX1_init_49

theorem olX6_init : (.methodLink RX6 1 objectInit : Cond) ∈ wsX6_init := by decide +kernel
theorem oiX6_init : (.instanceMethod objectInit : Cond) ∈ wsX6_init := by decide +kernel
theorem ocX6_init : (.code objectInit ⟨#[0xb1]⟩ 1 none : Cond) ∈ wsX6_init := by decide +kernel
theorem fiX6_init_X4 : ∀ w ∈ wsX40, w ∈ wsX6_init := by decide +kernel
theorem ncX6_init_7 : (.classLink RX6 7 RX4 : Cond) ∈ wsX6_init := by decide +kernel
theorem niX6_init_X4 : (.instantiable RX4 6 : Cond) ∈ wsX6_init := by decide +kernel
theorem nzX6_init_X4 : (.initialized RX4 : Cond) ∈ wsX6_init := by decide +kernel
theorem nlX6_init_9 : (.methodLink RX6 9 yX4_init : Cond) ∈ wsX6_init := by decide +kernel
theorem nmX6_init_X4 : (.instanceMethod yX4_init : Cond) ∈ wsX6_init := by decide +kernel
theorem fiX6_init_X6 : ∀ w ∈ wsX60, w ∈ wsX6_init := by decide +kernel
theorem flX6_init_10 : (.fieldLink RX6 10 "ContourLabels" "sheet" "LContourLabels$Sheet;" : Cond) ∈ wsX6_init := by decide +kernel
theorem fiX6_init_X1 : ∀ w ∈ wsX10, w ∈ wsX6_init := by decide +kernel
theorem ncX6_init_16 : (.classLink RX6 16 RX1 : Cond) ∈ wsX6_init := by decide +kernel
theorem niX6_init_X1 : (.instantiable RX1 5 : Cond) ∈ wsX6_init := by decide +kernel
theorem nzX6_init_X1 : (.initialized RX1 : Cond) ∈ wsX6_init := by decide +kernel
theorem nlX6_init_18 : (.methodLink RX6 18 yX1_init : Cond) ∈ wsX6_init := by decide +kernel
theorem nmX6_init_X1 : (.instanceMethod yX1_init : Cond) ∈ wsX6_init := by decide +kernel
theorem flX6_init_19 : (.fieldLink RX6 19 "ContourLabels" "history" "LContourLabels$History;" : Cond) ∈ wsX6_init := by decide +kernel
theorem fiX6_init_X3 : ∀ w ∈ wsX30, w ∈ wsX6_init := by decide +kernel
theorem ncX6_init_23 : (.classLink RX6 23 RX3 : Cond) ∈ wsX6_init := by decide +kernel
theorem niX6_init_X3 : (.instantiable RX3 8 : Cond) ∈ wsX6_init := by decide +kernel
theorem nzX6_init_X3 : (.initialized RX3 : Cond) ∈ wsX6_init := by decide +kernel
theorem nlX6_init_25 : (.methodLink RX6 25 yX3_init : Cond) ∈ wsX6_init := by decide +kernel
theorem nmX6_init_X3 : (.instanceMethod yX3_init : Cond) ∈ wsX6_init := by decide +kernel
theorem flX6_init_26 : (.fieldLink RX6 26 "ContourLabels" "text" "LContourLabels$OrderText;" : Cond) ∈ wsX6_init := by decide +kernel
theorem fiX6_init_X0 : ∀ w ∈ wsX00, w ∈ wsX6_init := by decide +kernel
theorem ncX6_init_30 : (.classLink RX6 30 RX0 : Cond) ∈ wsX6_init := by decide +kernel
theorem niX6_init_X0 : (.instantiable RX0 3 : Cond) ∈ wsX6_init := by decide +kernel
theorem nzX6_init_X0 : (.initialized RX0 : Cond) ∈ wsX6_init := by decide +kernel
theorem nlX6_init_32 : (.methodLink RX6 32 yX0_init : Cond) ∈ wsX6_init := by decide +kernel
theorem nmX6_init_X0 : (.instanceMethod yX0_init : Cond) ∈ wsX6_init := by decide +kernel
theorem flX6_init_33 : (.fieldLink RX6 33 "ContourLabels" "drawing" "LContourLabels$Drawing;" : Cond) ∈ wsX6_init := by decide +kernel
abbrev rmX6_init : Room := { frames := 3, cells := 42, slots := 10619, locals := 53 }
set_option maxHeartbeats 4000000 in
set_option maxRecDepth 100000 in
theorem cX6_init_ok (l : Launch) (g : Gg) (c0 : Nat) (sz : Nat) : Met l yX6_init wsX6_init rmX6_init (va_Pc [.ref c0] (PM g ([(c0, .inr (4, [.null, .null, .null, .null]))] : va_W) sz)) (va_Qv (fun _ : Nat × (Nat × Nat × Nat × Nat) × Nat × (Nat × (Nat → Nat → Nat)) × Nat × Nat × Nat × (Nat × Nat) => True) (fun u t => PQ g (wC c0 u.1 u.2.2.1 u.2.2.2.2.1 u.2.2.2.2.2.2.1 ++ (wS g u.1 u.2.1.1 u.2.1.2.1 u.2.1.2.2.1 u.2.1.2.2.2 S00 ++ (wH g u.2.2.1 u.2.2.2.1.1 u.2.2.2.1.2 H00 ++ (wX g u.2.2.2.2.1 u.2.2.2.2.2.1 X00 ++ (wD g u.2.2.2.2.2.2.1 u.2.2.2.2.2.2.2.1 u.2.2.2.2.2.2.2.2 D00))))) (va_A ([(c0, .inr (4, [.null, .null, .null, .null]))] : va_W) sz) t) (va_A ([(c0, .inr (4, [.null, .null, .null, .null]))] : va_W) sz)) 42 10619 (va_A ([(c0, .inr (4, [.null, .null, .null, .null]))] : va_W) sz) := by
  refine Met.ofW (cc := cX6_init) (maxL := 1) (ret := none) (by decide) rfl ?_
  intro p e s m args below meth c s₁ B hml hv
  obtain ⟨rfl, rfl, hP, hD0, hE, hZ⟩ := hv
  have hx := B.exec
  have hb := B.bytes
  have hr := B.returns
  have hts := atoms_spec (ws := wsX6_init) B.pre
  have hown : s.vm.findClass RX6 = some m.cls := findClass_of_methodNamed B.named
  have hlocks := B.notSynchronized
  have hin : meth.name = "<init>" := (name_of_methodNamed B.named B.method).1
  have hD := hD0.self (sz := s.heap.size)
  generalize hAe : (va_A ([(c0, .inr (4, [.null, .null, .null, .null]))] : va_W) s.heap.size) = A at hD hZ ⊢
  have hA : ∀ q : Nat, s.heap.size ≤ q → A q := fun q h => by rw [← hAe]; exact Or.inr h
  have hS : va_S A s.heap s.heap [] := va_S.rf
  have hP : va_P g.1 vwCl ([(c0, .inr (4, [.null, .null, .null, .null]))] : va_W) s.heap := hP
  have hl := lv_entry ([.ref c0]) (n := 1) (Nat.le_of_ble_eq_true rfl)
  rw [lg_entry_eq]
  generalize (lg_sl ([.ref c0]) ++ List.replicate (1 - (lg_sl ([.ref c0])).length) Slot.unset).toArray = ls at hl ⊢
  have hl : lv_has ls 1 [(0, .ref c0)] := hl
  refine lv_aload_n hx hb dX6_init_0 rfl (lv_at hl 0 rfl) ?_
  refine W.objInit hx hb hown (hts _ olX6_init) (hts _ oiX6_init) (hts _ ocX6_init) rfl (by rw [hml]; exact hl.1) rfl dX6_init_1 (Nat.le_of_ble_eq_true rfl) (Nat.le_of_ble_eq_true rfl) ?_
  refine W.eq (g2 := F0 m 4 ls []) rfl ?_
  refine lv_aload_n hx hb dX6_init_4 rfl (lv_at hl 0 rfl) ?_
  refine va_new (ci := 3) (fs := [.int 0, .int 0, .null, .null, .null, .null]) (C := RX4) (T := TX4) (N := 6) hx hb hts fiX6_init_X4 tyX4 tyX4_ok hown (hts _ ncX6_init_7) (hts _ niX6_init_X4) (hts _ nzX6_init_X4) hE.1 hP hD hS hA rfl (fun j hj => by rcases (show j = 0 ∨ j = 1 ∨ j = 2 ∨ j = 3 ∨ j = 4 ∨ j = 5 by omega) with rfl | rfl | rfl | rfl | rfl | rfl <;> rfl) (Nat.le_of_ble_eq_true rfl) (Nat.le_of_ble_eq_true rfl) dX6_init_5 (fun q1 H hP hD hS => ?_)
  have hP : va_P g.1 vwCl (([(c0, .inr (4, [.null, .null, .null, .null])), (q1, .inr (3, [.int 0, .int 0, .null, .null, .null, .null]))] : va_W)) H := hP
  have hD : va_D A (([(c0, .inr (4, [.null, .null, .null, .null])), (q1, .inr (3, [.int 0, .int 0, .null, .null, .null, .null]))] : va_W)) := hD
  refine lv_dup hx hb dX6_init_8 rfl ?_
  refine mcallIv (W0 := (([(c0, .inr (4, [.null, .null, .null, .null])), (q1, .inr (3, [.int 0, .int 0, .null, .null, .null, .null]))] : va_W))) (Wc := ([(q1, .inr (3, [.int 0, .int 0, .null, .null, .null, .null]))] : va_W)) (Wr := (([(c0, .inr (4, [.null, .null, .null, .null]))] : va_W))) (W1 := fun u2 : Nat × Nat × Nat × Nat => wS g q1 u2.1 u2.2.1 u2.2.2.1 u2.2.2.2 S00) (W2 := fun u2 : Nat × Nat × Nat × Nat => (([(c0, .inr (4, [.null, .null, .null, .null]))] : va_W) ++ ((wS g q1 u2.1 u2.2.1 u2.2.2.1 u2.2.2.2 S00)))) (As := []) (rest := [.ref q1, .ref c0]) [1] [0] [0, 1, 2, 3, 4, 5] ⟨hx, hb, hml, hown, hts⟩ hP hD hE hZ hS hA (cX4_init_ok l g q1 _) (cwI 0 hts gX6_init_X4_init rfl rfl rfl (hts _ nzX6_init_X4) (hts _ nlX6_init_9) (hts _ nmX6_init_X4) rfl (by decide +kernel) ⟨(Nat.le_of_ble_eq_true rfl), (Nat.le_of_ble_eq_true rfl)⟩) rfl rfl (fun _ => rfl) (by decide) (by decide) (by decide) (by decide) rfl hl.1 rfl (Nat.le_of_ble_eq_true rfl) ⟨(Nat.le_of_ble_eq_true rfl), (Nat.le_of_ble_eq_true rfl)⟩ dX6_init_9 (fun u2 H locs hP hD hS => ?_)
  refine va_putF (v := .ref q1) (ty := .object "ContourLabels$Sheet") (C := RX6) (T := TX6) (N := 4) hx hb hts fiX6_init_X6 tyX6 tyX6_ok nmX6 hown hE.1 hP hD hS 0 rfl rfl 0 (by decide) (hts _ flX6_init_10) (fun _ h9 => h9) rfl hin rfl (by decide +kernel) rfl rfl (Nat.le_of_ble_eq_true rfl) dX6_init_12 (fun H locs hP hD hS => ?_)
  have hP : va_P g.1 vwCl (([(c0, .inr (4, [.ref q1, .null, .null, .null]))] : va_W) ++ ((wS g q1 u2.1 u2.2.1 u2.2.2.1 u2.2.2.2 S00))) H := hP
  have hD : va_D A (([(c0, .inr (4, [.ref q1, .null, .null, .null]))] : va_W) ++ ((wS g q1 u2.1 u2.2.1 u2.2.2.1 u2.2.2.2 S00))) := hD
  refine lv_aload_n hx hb dX6_init_15 rfl (lv_at hl 0 rfl) ?_
  refine va_new (ci := 1) (fs := [.null, .int 0, .int 0, .null, .int 0]) (C := RX1) (T := TX1) (N := 5) hx hb hts fiX6_init_X1 tyX1 tyX1_ok hown (hts _ ncX6_init_16) (hts _ niX6_init_X1) (hts _ nzX6_init_X1) hE.1 hP hD hS hA rfl (fun j hj => by rcases (show j = 0 ∨ j = 1 ∨ j = 2 ∨ j = 3 ∨ j = 4 by omega) with rfl | rfl | rfl | rfl | rfl <;> rfl) (Nat.le_of_ble_eq_true rfl) (Nat.le_of_ble_eq_true rfl) dX6_init_16 (fun q3 H hP hD hS => ?_)
  have hP : va_P g.1 vwCl (([(c0, .inr (4, [.ref q1, .null, .null, .null]))] : va_W) ++ ((wS g q1 u2.1 u2.2.1 u2.2.2.1 u2.2.2.2 S00) ++ (([(q3, .inr (1, [.null, .int 0, .int 0, .null, .int 0]))] : va_W)))) H := hP
  have hD : va_D A (([(c0, .inr (4, [.ref q1, .null, .null, .null]))] : va_W) ++ ((wS g q1 u2.1 u2.2.1 u2.2.2.1 u2.2.2.2 S00) ++ (([(q3, .inr (1, [.null, .int 0, .int 0, .null, .int 0]))] : va_W)))) := hD
  refine lv_dup hx hb dX6_init_19 rfl ?_
  refine mcallIv (W0 := (([(c0, .inr (4, [.ref q1, .null, .null, .null]))] : va_W) ++ ((wS g q1 u2.1 u2.2.1 u2.2.2.1 u2.2.2.2 S00) ++ (([(q3, .inr (1, [.null, .int 0, .int 0, .null, .int 0]))] : va_W))))) (Wc := ([(q3, .inr (1, [.null, .int 0, .int 0, .null, .int 0]))] : va_W)) (Wr := (([(c0, .inr (4, [.ref q1, .null, .null, .null]))] : va_W) ++ ((wS g q1 u2.1 u2.2.1 u2.2.2.1 u2.2.2.2 S00)))) (W1 := fun u4 : Nat × (Nat → Nat → Nat) => wH g q3 u4.1 u4.2 H00) (W2 := fun u4 : Nat × (Nat → Nat → Nat) => (([(c0, .inr (4, [.ref q1, .null, .null, .null]))] : va_W) ++ ((wS g q1 u2.1 u2.2.1 u2.2.2.1 u2.2.2.2 S00) ++ ((wH g q3 u4.1 u4.2 H00))))) (As := []) (rest := [.ref q3, .ref c0]) [6] [0, 1, 2, 3, 4, 5] [0, 1, 2, 3, 4, 5, 6, 7, 8, 9, 10, 11, 12, 13, 14, 15, 16, 17, 18, 19, 20, 21, 22, 23, 24, 25, 26, 27, 28, 29, 30, 31, 32, 33, 34, 35, 36, 37] ⟨hx, hb, hml, hown, hts⟩ hP hD hE hZ hS hA (cX1_init_ok l g q3 _) (cwI 0 hts gX6_init_X1_init rfl rfl rfl (hts _ nzX6_init_X1) (hts _ nlX6_init_18) (hts _ nmX6_init_X1) rfl (by decide +kernel) ⟨(Nat.le_of_ble_eq_true rfl), (Nat.le_of_ble_eq_true rfl)⟩) rfl rfl (fun _ => rfl) (by decide) (by decide) (by decide) (by decide) rfl hl.1 rfl (Nat.le_of_ble_eq_true rfl) ⟨(Nat.le_of_ble_eq_true rfl), (Nat.le_of_ble_eq_true rfl)⟩ dX6_init_20 (fun u4 H locs hP hD hS => ?_)
  refine va_putF (v := .ref q3) (ty := .object "ContourLabels$History") (C := RX6) (T := TX6) (N := 4) hx hb hts fiX6_init_X6 tyX6 tyX6_ok nmX6 hown hE.1 hP hD hS 0 rfl rfl 1 (by decide) (hts _ flX6_init_19) (fun _ h9 => h9) rfl hin rfl (by decide +kernel) rfl rfl (Nat.le_of_ble_eq_true rfl) dX6_init_23 (fun H locs hP hD hS => ?_)
  have hP : va_P g.1 vwCl (([(c0, .inr (4, [.ref q1, .ref q3, .null, .null]))] : va_W) ++ ((wS g q1 u2.1 u2.2.1 u2.2.2.1 u2.2.2.2 S00) ++ ((wH g q3 u4.1 u4.2 H00)))) H := hP
  have hD : va_D A (([(c0, .inr (4, [.ref q1, .ref q3, .null, .null]))] : va_W) ++ ((wS g q1 u2.1 u2.2.1 u2.2.2.1 u2.2.2.2 S00) ++ ((wH g q3 u4.1 u4.2 H00)))) := hD
  refine lv_aload_n hx hb dX6_init_26 rfl (lv_at hl 0 rfl) ?_
  refine va_new (ci := 2) (fs := [.null, .int 0, .int 0, .int 0, .int 0, .int 0, .int 0, .int 0]) (C := RX3) (T := TX3) (N := 8) hx hb hts fiX6_init_X3 tyX3 tyX3_ok hown (hts _ ncX6_init_23) (hts _ niX6_init_X3) (hts _ nzX6_init_X3) hE.1 hP hD hS hA rfl (fun j hj => by rcases (show j = 0 ∨ j = 1 ∨ j = 2 ∨ j = 3 ∨ j = 4 ∨ j = 5 ∨ j = 6 ∨ j = 7 by omega) with rfl | rfl | rfl | rfl | rfl | rfl | rfl | rfl <;> rfl) (Nat.le_of_ble_eq_true rfl) (Nat.le_of_ble_eq_true rfl) dX6_init_27 (fun q5 H hP hD hS => ?_)
  have hP : va_P g.1 vwCl (([(c0, .inr (4, [.ref q1, .ref q3, .null, .null]))] : va_W) ++ ((wS g q1 u2.1 u2.2.1 u2.2.2.1 u2.2.2.2 S00) ++ ((wH g q3 u4.1 u4.2 H00) ++ (([(q5, .inr (2, [.null, .int 0, .int 0, .int 0, .int 0, .int 0, .int 0, .int 0]))] : va_W))))) H := hP
  have hD : va_D A (([(c0, .inr (4, [.ref q1, .ref q3, .null, .null]))] : va_W) ++ ((wS g q1 u2.1 u2.2.1 u2.2.2.1 u2.2.2.2 S00) ++ ((wH g q3 u4.1 u4.2 H00) ++ (([(q5, .inr (2, [.null, .int 0, .int 0, .int 0, .int 0, .int 0, .int 0, .int 0]))] : va_W))))) := hD
  refine lv_dup hx hb dX6_init_30 rfl ?_
  refine mcallIv (W0 := (([(c0, .inr (4, [.ref q1, .ref q3, .null, .null]))] : va_W) ++ ((wS g q1 u2.1 u2.2.1 u2.2.2.1 u2.2.2.2 S00) ++ ((wH g q3 u4.1 u4.2 H00) ++ (([(q5, .inr (2, [.null, .int 0, .int 0, .int 0, .int 0, .int 0, .int 0, .int 0]))] : va_W)))))) (Wc := ([(q5, .inr (2, [.null, .int 0, .int 0, .int 0, .int 0, .int 0, .int 0, .int 0]))] : va_W)) (Wr := (([(c0, .inr (4, [.ref q1, .ref q3, .null, .null]))] : va_W) ++ ((wS g q1 u2.1 u2.2.1 u2.2.2.1 u2.2.2.2 S00) ++ ((wH g q3 u4.1 u4.2 H00))))) (W1 := fun u6 : Nat => wX g q5 u6 X00) (W2 := fun u6 : Nat => (([(c0, .inr (4, [.ref q1, .ref q3, .null, .null]))] : va_W) ++ ((wS g q1 u2.1 u2.2.1 u2.2.2.1 u2.2.2.2 S00) ++ ((wH g q3 u4.1 u4.2 H00) ++ ((wX g q5 u6 X00)))))) (As := []) (rest := [.ref q5, .ref c0]) [38] [0, 1, 2, 3, 4, 5, 6, 7, 8, 9, 10, 11, 12, 13, 14, 15, 16, 17, 18, 19, 20, 21, 22, 23, 24, 25, 26, 27, 28, 29, 30, 31, 32, 33, 34, 35, 36, 37] [0, 1, 2, 3, 4, 5, 6, 7, 8, 9, 10, 11, 12, 13, 14, 15, 16, 17, 18, 19, 20, 21, 22, 23, 24, 25, 26, 27, 28, 29, 30, 31, 32, 33, 34, 35, 36, 37, 38, 39] ⟨hx, hb, hml, hown, hts⟩ hP hD hE hZ hS hA (cX3_init_ok l g q5 _) (cwI 0 hts gX6_init_X3_init rfl rfl rfl (hts _ nzX6_init_X3) (hts _ nlX6_init_25) (hts _ nmX6_init_X3) rfl (by decide +kernel) ⟨(Nat.le_of_ble_eq_true rfl), (Nat.le_of_ble_eq_true rfl)⟩) rfl rfl (fun _ => rfl) (by decide) (by decide) (by decide) (by decide) rfl hl.1 rfl (Nat.le_of_ble_eq_true rfl) ⟨(Nat.le_of_ble_eq_true rfl), (Nat.le_of_ble_eq_true rfl)⟩ dX6_init_31 (fun u6 H locs hP hD hS => ?_)
  refine va_putF (v := .ref q5) (ty := .object "ContourLabels$OrderText") (C := RX6) (T := TX6) (N := 4) hx hb hts fiX6_init_X6 tyX6 tyX6_ok nmX6 hown hE.1 hP hD hS 0 rfl rfl 2 (by decide) (hts _ flX6_init_26) (fun _ h9 => h9) rfl hin rfl (by decide +kernel) rfl rfl (Nat.le_of_ble_eq_true rfl) dX6_init_34 (fun H locs hP hD hS => ?_)
  have hP : va_P g.1 vwCl (([(c0, .inr (4, [.ref q1, .ref q3, .ref q5, .null]))] : va_W) ++ ((wS g q1 u2.1 u2.2.1 u2.2.2.1 u2.2.2.2 S00) ++ ((wH g q3 u4.1 u4.2 H00) ++ ((wX g q5 u6 X00))))) H := hP
  have hD : va_D A (([(c0, .inr (4, [.ref q1, .ref q3, .ref q5, .null]))] : va_W) ++ ((wS g q1 u2.1 u2.2.1 u2.2.2.1 u2.2.2.2 S00) ++ ((wH g q3 u4.1 u4.2 H00) ++ ((wX g q5 u6 X00))))) := hD
  refine lv_aload_n hx hb dX6_init_37 rfl (lv_at hl 0 rfl) ?_
  refine va_new (ci := 0) (fs := [.null, .null, .int 0]) (C := RX0) (T := TX0) (N := 3) hx hb hts fiX6_init_X0 tyX0 tyX0_ok hown (hts _ ncX6_init_30) (hts _ niX6_init_X0) (hts _ nzX6_init_X0) hE.1 hP hD hS hA rfl (fun j hj => by rcases (show j = 0 ∨ j = 1 ∨ j = 2 by omega) with rfl | rfl | rfl <;> rfl) (Nat.le_of_ble_eq_true rfl) (Nat.le_of_ble_eq_true rfl) dX6_init_38 (fun q7 H hP hD hS => ?_)
  have hP : va_P g.1 vwCl (([(c0, .inr (4, [.ref q1, .ref q3, .ref q5, .null]))] : va_W) ++ ((wS g q1 u2.1 u2.2.1 u2.2.2.1 u2.2.2.2 S00) ++ ((wH g q3 u4.1 u4.2 H00) ++ ((wX g q5 u6 X00) ++ (([(q7, .inr (0, [.null, .null, .int 0]))] : va_W)))))) H := hP
  have hD : va_D A (([(c0, .inr (4, [.ref q1, .ref q3, .ref q5, .null]))] : va_W) ++ ((wS g q1 u2.1 u2.2.1 u2.2.2.1 u2.2.2.2 S00) ++ ((wH g q3 u4.1 u4.2 H00) ++ ((wX g q5 u6 X00) ++ (([(q7, .inr (0, [.null, .null, .int 0]))] : va_W)))))) := hD
  refine lv_dup hx hb dX6_init_41 rfl ?_
  refine mcallIv (W0 := (([(c0, .inr (4, [.ref q1, .ref q3, .ref q5, .null]))] : va_W) ++ ((wS g q1 u2.1 u2.2.1 u2.2.2.1 u2.2.2.2 S00) ++ ((wH g q3 u4.1 u4.2 H00) ++ ((wX g q5 u6 X00) ++ (([(q7, .inr (0, [.null, .null, .int 0]))] : va_W))))))) (Wc := ([(q7, .inr (0, [.null, .null, .int 0]))] : va_W)) (Wr := (([(c0, .inr (4, [.ref q1, .ref q3, .ref q5, .null]))] : va_W) ++ ((wS g q1 u2.1 u2.2.1 u2.2.2.1 u2.2.2.2 S00) ++ ((wH g q3 u4.1 u4.2 H00) ++ ((wX g q5 u6 X00)))))) (W1 := fun u8 : Nat × Nat => wD g q7 u8.1 u8.2 D00) (W2 := fun u8 : Nat × Nat => (([(c0, .inr (4, [.ref q1, .ref q3, .ref q5, .null]))] : va_W) ++ ((wS g q1 u2.1 u2.2.1 u2.2.2.1 u2.2.2.2 S00) ++ ((wH g q3 u4.1 u4.2 H00) ++ ((wX g q5 u6 X00) ++ ((wD g q7 u8.1 u8.2 D00))))))) (As := []) (rest := [.ref q7, .ref c0]) [40] [0, 1, 2, 3, 4, 5, 6, 7, 8, 9, 10, 11, 12, 13, 14, 15, 16, 17, 18, 19, 20, 21, 22, 23, 24, 25, 26, 27, 28, 29, 30, 31, 32, 33, 34, 35, 36, 37, 38, 39] [0, 1, 2, 3, 4, 5, 6, 7, 8, 9, 10, 11, 12, 13, 14, 15, 16, 17, 18, 19, 20, 21, 22, 23, 24, 25, 26, 27, 28, 29, 30, 31, 32, 33, 34, 35, 36, 37, 38, 39, 40, 41, 42] ⟨hx, hb, hml, hown, hts⟩ hP hD hE hZ hS hA (cX0_init_ok l g q7 _) (cwI 0 hts gX6_init_X0_init rfl rfl rfl (hts _ nzX6_init_X0) (hts _ nlX6_init_32) (hts _ nmX6_init_X0) rfl (by decide +kernel) ⟨(Nat.le_of_ble_eq_true rfl), (Nat.le_of_ble_eq_true rfl)⟩) rfl rfl (fun _ => rfl) (by decide) (by decide) (by decide) (by decide) rfl hl.1 rfl (Nat.le_of_ble_eq_true rfl) ⟨(Nat.le_of_ble_eq_true rfl), (Nat.le_of_ble_eq_true rfl)⟩ dX6_init_42 (fun u8 H locs hP hD hS => ?_)
  refine va_putF (v := .ref q7) (ty := .object "ContourLabels$Drawing") (C := RX6) (T := TX6) (N := 4) hx hb hts fiX6_init_X6 tyX6 tyX6_ok nmX6 hown hE.1 hP hD hS 0 rfl rfl 3 (by decide) (hts _ flX6_init_33) (fun _ h9 => h9) rfl hin rfl (by decide +kernel) rfl rfl (Nat.le_of_ble_eq_true rfl) dX6_init_45 (fun H locs hP hD hS => ?_)
  have hP : va_P g.1 vwCl (([(c0, .inr (4, [.ref q1, .ref q3, .ref q5, .ref q7]))] : va_W) ++ ((wS g q1 u2.1 u2.2.1 u2.2.2.1 u2.2.2.2 S00) ++ ((wH g q3 u4.1 u4.2 H00) ++ ((wX g q5 u6 X00) ++ ((wD g q7 u8.1 u8.2 D00)))))) H := hP
  have hD : va_D A (([(c0, .inr (4, [.ref q1, .ref q3, .ref q5, .ref q7]))] : va_W) ++ ((wS g q1 u2.1 u2.2.1 u2.2.2.1 u2.2.2.2 S00) ++ ((wH g q3 u4.1 u4.2 H00) ++ ((wX g q5 u6 X00) ++ ((wD g q7 u8.1 u8.2 D00)))))) := hD
  refine W.widen (k := 42) (n := 10619) (Nat.le_of_ble_eq_true rfl) (Nat.le_of_ble_eq_true rfl) ?_
  exact n_vret (Wf := fun u : Nat × (Nat × Nat × Nat × Nat) × Nat × (Nat × (Nat → Nat → Nat)) × Nat × Nat × Nat × (Nat × Nat) => wC c0 u.1 u.2.2.1 u.2.2.2.2.1 u.2.2.2.2.2.2.1 ++ (wS g u.1 u.2.1.1 u.2.1.2.1 u.2.1.2.2.1 u.2.1.2.2.2 S00 ++ (wH g u.2.2.1 u.2.2.2.1.1 u.2.2.2.1.2 H00 ++ (wX g u.2.2.2.2.1 u.2.2.2.2.2.1 X00 ++ (wD g u.2.2.2.2.2.2.1 u.2.2.2.2.2.2.2.1 u.2.2.2.2.2.2.2.2 D00))))) (q1, u2, q3, u4, q5, u6, q7, u8) hx hb hr hlocks hP hD hS dX6_init_48
