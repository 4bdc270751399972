def fX6_bendAt (σ : Sh) (p0 p1 : Int32) : Option (Except String (Int32)) := (xthen (fX6_requireNumber σ p0 p1) fun _ => ((fX4_bendThere σ p0 p1).bind fun r_2 => (some (.ok r_2))))
abbrev rmX6_bendAt : Room := { frames := 7, cells := 1, slots := 6, locals := 112 }
theorem hdX6_bendAt : yX6_bendAt.cls = RX6 ∧ yX6_bendAt.cls ≠ "java/lang/invoke/MethodHandle" ∧ yX6_bendAt.cls ≠ "java/lang/invoke/VarHandle" ∧ (parseMethodDescriptor yX6_bendAt.desc).map (fun d => d.parameters.length) = some 2 := by decide +kernel
theorem fiX6_bendAt_X6 : ∀ w ∈ wsX60, w ∈ wsX6_bendAt := by decide +kernel
theorem flX6_bendAt_10 : (.fieldLink RX6 10 "ContourLabels" "sheet" "LContourLabels$Sheet;" : Cond) ∈ wsX6_bendAt := by decide +kernel
set_option maxHeartbeats 4000000 in
set_option maxRecDepth 100000 in
theorem cX6_bendAt_ok (l : Launch) (hl0 : l.stackTraces = false) (g : Gg) (c0 h k0 x0 d0 a1 a2 a3 a4 : Nat) (σ : Sh) (p0 p1 : Int32) (sz : Nat) {o : Except String (Int32)} (hf : fX6_bendAt σ p0 p1 = some o) : vx_Met l yX6_bendAt wsX6_bendAt rmX6_bendAt (va_Pc [.ref c0, .int p0, .int p1] (PM g (wC c0 h k0 x0 d0 ++ (wS g h a1 a2 a3 a4 σ)) sz)) (QXi g (wC c0 h k0 x0 d0 ++ (wS g h a1 a2 a3 a4 σ)) (va_A (wC c0 h k0 x0 d0 ++ (wS g h a1 a2 a3 a4 σ)) sz) o) (XE g (wC c0 h k0 x0 d0 ++ (wS g h a1 a2 a3 a4 σ)) (va_A (wC c0 h k0 x0 d0 ++ (wS g h a1 a2 a3 a4 σ)) sz) o) 1 6 (va_A (wC c0 h k0 x0 d0 ++ (wS g h a1 a2 a3 a4 σ)) sz) := by
  refine vx_ofW (cc := cX6_bendAt) (maxL := 3) (ret := (some .int)) (by decide) rfl ?_
  intro p e s m args below meth c s₁ B hml hnt hv
  obtain ⟨rfl, rfl, hP, hD0, hE, hZ⟩ := hv
  have hx := B.exec
  have hb := B.bytes
  have hr := B.returns
  have hts := atoms_spec (ws := wsX6_bendAt) B.pre
  have hown : s.vm.findClass RX6 = some m.cls := findClass_of_methodNamed B.named
  have hlocks := B.notSynchronized
  have hD := hD0.self (sz := s.heap.size)
  generalize hAe : (va_A (wC c0 h k0 x0 d0 ++ (wS g h a1 a2 a3 a4 σ)) s.heap.size) = A at hD hZ ⊢
  have hA : ∀ q : Nat, s.heap.size ≤ q → A q := fun q h => by rw [← hAe]; exact Or.inr h
  have hS : va_S A s.heap s.heap [] := va_S.rf
  have hP : va_P g.1 vwCl (wC c0 h k0 x0 d0 ++ (wS g h a1 a2 a3 a4 σ)) s.heap := hP
  have hl := lv_entry ([.ref c0, .int p0, .int p1]) (n := 3) (Nat.le_of_ble_eq_true rfl)
  rw [lg_entry_eq]
  generalize (lg_sl ([.ref c0, .int p0, .int p1]) ++ List.replicate (3 - (lg_sl ([.ref c0, .int p0, .int p1])).length) Slot.unset).toArray = ls at hl ⊢
  have hl : lv_has ls 3 [(0, .ref c0), (1, .int p0), (2, .int p1)] := hl
  unfold fX6_bendAt at hf
  refine lv_aload_n hx hb dX6_bendAt_0 rfl (lv_at hl 0 rfl) ?_
  refine lv_iload_n hx hb dX6_bendAt_1 rfl (lv_at hl 1 rfl) ?_
  refine lv_iload_n hx hb dX6_bendAt_2 rfl (lv_at hl 2 rfl) ?_
  obtain ⟨r_1, e_1, x_1, k_1⟩ := xt hf
  refine xcallVv (W0 := (wC c0 h k0 x0 d0 ++ (wS g h a1 a2 a3 a4 σ))) (Wc := (wC c0 h k0 x0 d0 ++ (wS g h a1 a2 a3 a4 σ))) (Wr := ([] : va_W)) (As := [.int p0, .int p1]) (rest := []) [0, 1, 2, 3, 4, 5] [] [0, 1, 2, 3, 4, 5] 4 0 ⟨hx, hb, hml, hown, hts⟩ hP hD hE hZ hS hA (cX6_requireNumber_ok l hl0 g c0 h k0 x0 d0 a1 a2 a3 a4 σ p0 p1 _ e_1) (cwV 2 hts gX6_bendAt_X6_requireNumber rfl rfl rfl hdX6_requireNumber ⟨(Nat.le_of_ble_eq_true rfl), (Nat.le_of_ble_eq_true rfl)⟩) rfl rfl rfl (by decide) (by decide) (by decide) (by decide) rfl rfl rfl rfl hl.1 rfl (Nat.le_of_ble_eq_true rfl) ⟨(Nat.le_of_ble_eq_true rfl), (Nat.le_of_ble_eq_true rfl)⟩ dX6_bendAt_3 hnt hlocks ⟨(Nat.le_of_ble_eq_true rfl), (Nat.le_of_ble_eq_true rfl)⟩ x_1 (fun ok_1 H locs hP hD hS => ?_)
  have hf := k_1 () ok_1
  refine lv_aload_n hx hb dX6_bendAt_6 rfl (lv_at hl 0 rfl) ?_
  refine va_get (v := .ref h) (C := RX6) (T := TX6) (N := 4) hx hb hts fiX6_bendAt_X6 hown hE.1 hP 0 rfl rfl 0 (by decide) (hts _ flX6_bendAt_10) (fun _ h9 => h9) rfl dX6_bendAt_7 ?_
  refine lv_iload_n hx hb dX6_bendAt_10 rfl (lv_at hl 1 rfl) ?_
  refine lv_iload_n hx hb dX6_bendAt_11 rfl (lv_at hl 2 rfl) ?_
  obtain ⟨r_2, e_2, hf⟩ := bo hf
  refine pcallV (W0 := (wC c0 h k0 x0 d0 ++ (wS g h a1 a2 a3 a4 σ))) (As := [.int p0, .int p1]) (rest := []) [1, 2, 3, 4, 5] 3 0 ⟨hx, hb, hml, hown, hts⟩ hP hE hZ hS (cX4_bendThere_ok l g h a1 a2 a3 a4 σ p0 p1 e_2) (cwV 2 hts gX6_bendAt_X4_bendThere rfl rfl rfl hdX4_bendThere ⟨(Nat.le_of_ble_eq_true rfl), (Nat.le_of_ble_eq_true rfl)⟩) rfl rfl rfl rfl rfl hl.1 rfl (Nat.le_of_ble_eq_true rfl) ⟨(Nat.le_of_ble_eq_true rfl), (Nat.le_of_ble_eq_true rfl)⟩ dX6_bendAt_12 ?_
  exact x_iret (v := r_2) hx hb hr hlocks hP hD hS ⟨(Nat.le_of_ble_eq_true rfl), (Nat.le_of_ble_eq_true rfl)⟩ (Option.some.inj hf).symm dX6_bendAt_15

def fX6_lengthByKinds_19 (σ : Sh) (p0 : Int32) (v2_19 : Int32) : Nat → Int32 → Int32 → Option (Except String (UInt64))
  | 0, _, _ => none
  | n + 1, v3_19, v4_19 => (if v2_19 ≤ v4_19 then ((fX6_slantingLength).bind fun r_2 => (if nN (FP.dmul (FP.i2d v3_19) r_2) then (if nN (FP.dadd (FP.i2d (v2_19 - v3_19)) (FP.dmul (FP.i2d v3_19) r_2)) then (some (.ok (FP.dadd (FP.i2d (v2_19 - v3_19)) (FP.dmul (FP.i2d v3_19) r_2)))) else none) else none)) else ((fX4_directionAt σ p0 v4_19).bind fun r_5 => ((fX6_isSlanting r_5).bind fun r_6 => (if r_6 = true then fX6_lengthByKinds_19 σ p0 v2_19 n (v3_19 + 1) (v4_19 + 1) else fX6_lengthByKinds_19 σ p0 v2_19 n v3_19 (v4_19 + 1)))))
def fX6_lengthByKinds (σ : Sh) (p0 : Int32) : Option (Except String (UInt64)) := (xthen (fX6_requireLine σ p0) fun _ => ((fX4_stepCount σ p0).bind fun r_9 => fX6_lengthByKinds_19 σ p0 r_9 FU (0 : Int32) (0 : Int32)))
abbrev rmX6_lengthByKinds : Room := { frames := 7, cells := 1, slots := 6, locals := 111 }
theorem hdX6_lengthByKinds : yX6_lengthByKinds.cls = RX6 ∧ yX6_lengthByKinds.cls ≠ "java/lang/invoke/MethodHandle" ∧ yX6_lengthByKinds.cls ≠ "java/lang/invoke/VarHandle" ∧ (parseMethodDescriptor yX6_lengthByKinds.desc).map (fun d => d.parameters.length) = some 1 := by decide +kernel
theorem fiX6_lengthByKinds_X6 : ∀ w ∈ wsX60, w ∈ wsX6_lengthByKinds := by decide +kernel
theorem flX6_lengthByKinds_10 : (.fieldLink RX6 10 "ContourLabels" "sheet" "LContourLabels$Sheet;" : Cond) ∈ wsX6_lengthByKinds := by decide +kernel
set_option maxHeartbeats 4000000 in
set_option maxRecDepth 100000 in
theorem cX6_lengthByKinds_ok (l : Launch) (hl0 : l.stackTraces = false) (g : Gg) (c0 h k0 x0 d0 a1 a2 a3 a4 : Nat) (σ : Sh) (p0 : Int32) (sz : Nat) {o : Except String (UInt64)} (hf : fX6_lengthByKinds σ p0 = some o) : vx_Met l yX6_lengthByKinds wsX6_lengthByKinds rmX6_lengthByKinds (va_Pc [.ref c0, .int p0] (PM g (wC c0 h k0 x0 d0 ++ (wS g h a1 a2 a3 a4 σ)) sz)) (QXd g (wC c0 h k0 x0 d0 ++ (wS g h a1 a2 a3 a4 σ)) (va_A (wC c0 h k0 x0 d0 ++ (wS g h a1 a2 a3 a4 σ)) sz) o) (XE g (wC c0 h k0 x0 d0 ++ (wS g h a1 a2 a3 a4 σ)) (va_A (wC c0 h k0 x0 d0 ++ (wS g h a1 a2 a3 a4 σ)) sz) o) 1 6 (va_A (wC c0 h k0 x0 d0 ++ (wS g h a1 a2 a3 a4 σ)) sz) := by
  refine vx_ofW (cc := cX6_lengthByKinds) (maxL := 5) (ret := (some .double)) (by decide) rfl ?_
  intro p e s m args below meth c s₁ B hml hnt hv
  obtain ⟨rfl, rfl, hP, hD0, hE, hZ⟩ := hv
  have hx := B.exec
  have hb := B.bytes
  have hr := B.returns
  have hts := atoms_spec (ws := wsX6_lengthByKinds) B.pre
  have hown : s.vm.findClass RX6 = some m.cls := findClass_of_methodNamed B.named
  have hlocks := B.notSynchronized
  have hD := hD0.self (sz := s.heap.size)
  generalize hAe : (va_A (wC c0 h k0 x0 d0 ++ (wS g h a1 a2 a3 a4 σ)) s.heap.size) = A at hD hZ ⊢
  have hA : ∀ q : Nat, s.heap.size ≤ q → A q := fun q h => by rw [← hAe]; exact Or.inr h
  have hS : va_S A s.heap s.heap [] := va_S.rf
  have hP : va_P g.1 vwCl (wC c0 h k0 x0 d0 ++ (wS g h a1 a2 a3 a4 σ)) s.heap := hP
  have hl := lv_entry ([.ref c0, .int p0]) (n := 5) (Nat.le_of_ble_eq_true rfl)
  rw [lg_entry_eq]
  generalize (lg_sl ([.ref c0, .int p0]) ++ List.replicate (5 - (lg_sl ([.ref c0, .int p0])).length) Slot.unset).toArray = ls at hl ⊢
  have hl : lv_has ls 5 [(0, .ref c0), (1, .int p0)] := hl
  have hB19 : ∀ (v2_19 : Int32) (n19 : Nat) (v3_19 : Int32) (v4_19 : Int32) (H : Heap) (locs : List Loc) (ls : Array Slot), va_P g.1 vwCl (wC c0 h k0 x0 d0 ++ (wS g h a1 a2 a3 a4 σ)) H → va_D A (wC c0 h k0 x0 d0 ++ (wS g h a1 a2 a3 a4 σ)) → va_S A s.heap H locs → lv_has ls 5 [(0, .ref c0), (1, .int p0), (2, .int v2_19), (3, .int v3_19), (4, .int v4_19)] → fX6_lengthByKinds_19 σ p0 v2_19 n19 v3_19 v4_19 = some o → W p l e (headSpec wsX6_lengthByKinds rmX6_lengthByKinds).room s m ([.ref c0, .int p0] : List Value).toArray below meth c H locs 1 6 (vx_MQ below (QXd g (wC c0 h k0 x0 d0 ++ (wS g h a1 a2 a3 a4 σ)) A o) (XE g (wC c0 h k0 x0 d0 ++ (wS g h a1 a2 a3 a4 σ)) A o) ([.ref c0, .int p0] : List Value).toArray s 1 6 A) (F0 m 19 ls []) := by
    intro v2_19 n19
    induction n19 with
    | zero => intro v3_19 v4_19 H locs ls hP hD hS hl hf; exact nomatch (show (none : Option (Except String (UInt64))) = some _ from hf)
    | succ n19 ih19 =>
      intro v3_19 v4_19 H locs ls hP hD hS hl hf
      rw [fX6_lengthByKinds_19] at hf
      refine lv_iload hx hb dX6_lengthByKinds_19 (lv_at hl 4 rfl) ?_
      refine lv_iload_n hx hb dX6_lengthByKinds_21 rfl (lv_at hl 2 rfl) ?_
      refine lv_icmp_ge (tgt := 50) hx hb dX6_lengthByKinds_22 (by decide) (fun c_1 => ?_) (fun c_1 => ?_)
      · have hf := ip c_1 hf
        refine lv_iload_n hx hb dX6_lengthByKinds_50 rfl (lv_at hl 2 rfl) ?_
        refine lv_iload_n hx hb dX6_lengthByKinds_51 rfl (lv_at hl 3 rfl) ?_
        refine lv_isub hx hb dX6_lengthByKinds_52 ?_
        refine lv_i2d hx hb dX6_lengthByKinds_53 ?_
        refine lv_iload_n hx hb dX6_lengthByKinds_54 rfl (lv_at hl 3 rfl) ?_
        refine lv_i2d hx hb dX6_lengthByKinds_55 ?_
        obtain ⟨r_2, e_2, hf⟩ := bo hf
        refine pcallSd (W0 := (wC c0 h k0 x0 d0 ++ (wS g h a1 a2 a3 a4 σ))) (As := []) (rest := [.double (FP.i2d v3_19), .double (FP.i2d (v2_19 - v3_19))]) [] ⟨hx, hb, hml, hown, hts⟩ hP hE hZ hS (cX6_slantingLength_ok l g   e_2) (va_cwS 0 hts gX6_lengthByKinds_X6_slantingLength rfl rfl rfl hdX6_slantingLength.2 ⟨(Nat.le_of_ble_eq_true rfl), (Nat.le_of_ble_eq_true rfl)⟩) rfl rfl hl.1 rfl (Nat.le_of_ble_eq_true rfl) ⟨(Nat.le_of_ble_eq_true rfl), (Nat.le_of_ble_eq_true rfl)⟩ dX6_lengthByKinds_56 ?_
        obtain ⟨h_3, hf⟩ := ck hf
        refine lv_dmul hx hb dX6_lengthByKinds_59 h_3 ?_
        obtain ⟨h_4, hf⟩ := ck hf
        refine lv_dadd hx hb dX6_lengthByKinds_60 h_4 ?_
        exact x_dret (v := (FP.dadd (FP.i2d (v2_19 - v3_19)) (FP.dmul (FP.i2d v3_19) r_2))) hx hb hr hlocks hP hD hS ⟨(Nat.le_of_ble_eq_true rfl), (Nat.le_of_ble_eq_true rfl)⟩ (Option.some.inj hf).symm dX6_lengthByKinds_61
      · have hf := iq c_1 hf
        refine lv_aload_n hx hb dX6_lengthByKinds_25 rfl (lv_at hl 0 rfl) ?_
        refine va_get (v := .ref h) (C := RX6) (T := TX6) (N := 4) hx hb hts fiX6_lengthByKinds_X6 hown hE.1 hP 0 rfl rfl 0 (by decide) (hts _ flX6_lengthByKinds_10) (fun _ h9 => h9) rfl dX6_lengthByKinds_26 ?_
        refine lv_iload_n hx hb dX6_lengthByKinds_29 rfl (lv_at hl 1 rfl) ?_
        refine lv_iload hx hb dX6_lengthByKinds_30 (lv_at hl 4 rfl) ?_
        obtain ⟨r_5, e_5, hf⟩ := bo hf
        refine pcallV (W0 := (wC c0 h k0 x0 d0 ++ (wS g h a1 a2 a3 a4 σ))) (As := [.int p0, .int v4_19]) (rest := []) [1, 2, 3, 4, 5] 3 0 ⟨hx, hb, hml, hown, hts⟩ hP hE hZ hS (cX4_directionAt_ok l g h a1 a2 a3 a4 σ p0 v4_19 e_5) (cwV 2 hts gX6_lengthByKinds_X4_directionAt rfl rfl rfl hdX4_directionAt ⟨(Nat.le_of_ble_eq_true rfl), (Nat.le_of_ble_eq_true rfl)⟩) rfl rfl rfl rfl rfl hl.1 rfl (Nat.le_of_ble_eq_true rfl) ⟨(Nat.le_of_ble_eq_true rfl), (Nat.le_of_ble_eq_true rfl)⟩ dX6_lengthByKinds_32 ?_
        obtain ⟨r_6, e_6, hf⟩ := bo hf
        refine pcallS (W0 := (wC c0 h k0 x0 d0 ++ (wS g h a1 a2 a3 a4 σ))) (As := [.int r_5]) (rest := []) [] ⟨hx, hb, hml, hown, hts⟩ hP hE hZ hS (cX6_isSlanting_ok l g  r_5 e_6) (va_cwS 1 hts gX6_lengthByKinds_X6_isSlanting rfl rfl rfl hdX6_isSlanting.2 ⟨(Nat.le_of_ble_eq_true rfl), (Nat.le_of_ble_eq_true rfl)⟩) rfl rfl hl.1 rfl (Nat.le_of_ble_eq_true rfl) ⟨(Nat.le_of_ble_eq_true rfl), (Nat.le_of_ble_eq_true rfl)⟩ dX6_lengthByKinds_35 ?_
        refine lv_beq (tgt := 44) hx hb dX6_lengthByKinds_38 (by decide) (fun c_7 => ?_) (fun c_7 => ?_)
        · have hf := iq c_7 hf
          refine lv_iinc (v := (v4_19 + 1)) (lv' := [(4, .int (v4_19 + 1)), (0, .ref c0), (1, .int p0), (2, .int v2_19), (3, .int v3_19)]) hx hb dX6_lengthByKinds_44 hl (k := 4) rfl rfl (by decide) rfl (fun ls hl => ?_)
          refine lv_goto (tgt := 19) hx hb dX6_lengthByKinds_47 (by decide) ?_
          exact ih19 v3_19 (v4_19 + 1) _ _ ls hP hD hS (lv_sub hl [1, 2, 3, 4, 0] rfl) hf
        · have hf := ip c_7 hf
          refine lv_iinc (v := (v3_19 + 1)) (lv' := [(3, .int (v3_19 + 1)), (0, .ref c0), (1, .int p0), (2, .int v2_19), (4, .int v4_19)]) hx hb dX6_lengthByKinds_41 hl (k := 3) rfl rfl (by decide) rfl (fun ls hl => ?_)
          refine lv_iinc (v := (v4_19 + 1)) (lv' := [(4, .int (v4_19 + 1)), (3, .int (v3_19 + 1)), (0, .ref c0), (1, .int p0), (2, .int v2_19)]) hx hb dX6_lengthByKinds_44 hl (k := 4) rfl rfl (by decide) rfl (fun ls hl => ?_)
          refine lv_goto (tgt := 19) hx hb dX6_lengthByKinds_47 (by decide) ?_
          exact ih19 (v3_19 + 1) (v4_19 + 1) _ _ ls hP hD hS (lv_sub hl [2, 3, 4, 1, 0] rfl) hf
  unfold fX6_lengthByKinds at hf
  refine lv_aload_n hx hb dX6_lengthByKinds_0 rfl (lv_at hl 0 rfl) ?_
  refine lv_iload_n hx hb dX6_lengthByKinds_1 rfl (lv_at hl 1 rfl) ?_
  obtain ⟨r_8, e_8, x_8, k_8⟩ := xt hf
  refine xcallVv (W0 := (wC c0 h k0 x0 d0 ++ (wS g h a1 a2 a3 a4 σ))) (Wc := (wC c0 h k0 x0 d0 ++ (wS g h a1 a2 a3 a4 σ))) (Wr := ([] : va_W)) (As := [.int p0]) (rest := []) [0, 1, 2, 3, 4, 5] [] [0, 1, 2, 3, 4, 5] 4 0 ⟨hx, hb, hml, hown, hts⟩ hP hD hE hZ hS hA (cX6_requireLine_ok l hl0 g c0 h k0 x0 d0 a1 a2 a3 a4 σ p0 _ e_8) (cwV 1 hts gX6_lengthByKinds_X6_requireLine rfl rfl rfl hdX6_requireLine ⟨(Nat.le_of_ble_eq_true rfl), (Nat.le_of_ble_eq_true rfl)⟩) rfl rfl rfl (by decide) (by decide) (by decide) (by decide) rfl rfl rfl rfl hl.1 rfl (Nat.le_of_ble_eq_true rfl) ⟨(Nat.le_of_ble_eq_true rfl), (Nat.le_of_ble_eq_true rfl)⟩ dX6_lengthByKinds_2 hnt hlocks ⟨(Nat.le_of_ble_eq_true rfl), (Nat.le_of_ble_eq_true rfl)⟩ x_8 (fun ok_8 H locs hP hD hS => ?_)
  have hf := k_8 () ok_8
  refine lv_aload_n hx hb dX6_lengthByKinds_5 rfl (lv_at hl 0 rfl) ?_
  refine va_get (v := .ref h) (C := RX6) (T := TX6) (N := 4) hx hb hts fiX6_lengthByKinds_X6 hown hE.1 hP 0 rfl rfl 0 (by decide) (hts _ flX6_lengthByKinds_10) (fun _ h9 => h9) rfl dX6_lengthByKinds_6 ?_
  refine lv_iload_n hx hb dX6_lengthByKinds_9 rfl (lv_at hl 1 rfl) ?_
  obtain ⟨r_9, e_9, hf⟩ := bo hf
  refine pcallV (W0 := (wC c0 h k0 x0 d0 ++ (wS g h a1 a2 a3 a4 σ))) (As := [.int p0]) (rest := []) [1, 2, 3, 4, 5] 3 0 ⟨hx, hb, hml, hown, hts⟩ hP hE hZ hS (cX4_stepCount_ok l g h a1 a2 a3 a4 σ p0 e_9) (cwV 1 hts gX6_lengthByKinds_X4_stepCount rfl rfl rfl hdX4_stepCount ⟨(Nat.le_of_ble_eq_true rfl), (Nat.le_of_ble_eq_true rfl)⟩) rfl rfl rfl rfl rfl hl.1 rfl (Nat.le_of_ble_eq_true rfl) ⟨(Nat.le_of_ble_eq_true rfl), (Nat.le_of_ble_eq_true rfl)⟩ dX6_lengthByKinds_10 ?_
  refine lv_istore_n (lv' := [(2, .int r_9), (0, .ref c0), (1, .int p0)]) hx hb dX6_lengthByKinds_13 rfl hl (by decide) rfl (fun ls hl => ?_)
  refine lv_iconst (v := (0 : Int32)) hx hb dX6_lengthByKinds_14 (by decide) ?_
  refine lv_istore_n (lv' := [(3, .int (0 : Int32)), (2, .int r_9), (0, .ref c0), (1, .int p0)]) hx hb dX6_lengthByKinds_15 rfl hl (by decide) rfl (fun ls hl => ?_)
  refine lv_iconst (v := (0 : Int32)) hx hb dX6_lengthByKinds_16 (by decide) ?_
  refine lv_istore (lv' := [(4, .int (0 : Int32)), (3, .int (0 : Int32)), (2, .int r_9), (0, .ref c0), (1, .int p0)]) hx hb dX6_lengthByKinds_17 hl (by decide) rfl (fun ls hl => ?_)
  exact hB19 r_9 FU (0 : Int32) (0 : Int32) _ _ ls hP hD hS (lv_sub hl [3, 4, 2, 1, 0] rfl) hf

def fX6_lengthBySteps_19 (σ : Sh) (p0 : Int32) (v2_19 : Int32) : Nat → UInt64 → Int32 → Option (Except String (UInt64))
  | 0, _, _ => none
  | n + 1, v3_19, v5_19 => (if v2_19 ≤ v5_19 then (some (.ok v3_19)) else ((fX4_directionAt σ p0 v5_19).bind fun r_2 => ((fX6_isSlanting r_2).bind fun r_3 => (if r_3 = true then ((fX6_slantingLength).bind fun r_6 => (if nN (FP.dadd v3_19 r_6) then fX6_lengthBySteps_19 σ p0 v2_19 n (FP.dadd v3_19 r_6) (v5_19 + 1) else none)) else (if nN (FP.dadd v3_19 (0x3ff0000000000000 : UInt64)) then fX6_lengthBySteps_19 σ p0 v2_19 n (FP.dadd v3_19 (0x3ff0000000000000 : UInt64)) (v5_19 + 1) else none)))))
def fX6_lengthBySteps (σ : Sh) (p0 : Int32) : Option (Except String (UInt64)) := (xthen (fX6_requireLine σ p0) fun _ => ((fX4_stepCount σ p0).bind fun r_9 => fX6_lengthBySteps_19 σ p0 r_9 FU (0 : UInt64) (0 : Int32)))
abbrev rmX6_lengthBySteps : Room := { frames := 7, cells := 1, slots := 6, locals := 111 }
theorem hdX6_lengthBySteps : yX6_lengthBySteps.cls = RX6 ∧ yX6_lengthBySteps.cls ≠ "java/lang/invoke/MethodHandle" ∧ yX6_lengthBySteps.cls ≠ "java/lang/invoke/VarHandle" ∧ (parseMethodDescriptor yX6_lengthBySteps.desc).map (fun d => d.parameters.length) = some 1 := by decide +kernel
theorem fiX6_lengthBySteps_X6 : ∀ w ∈ wsX60, w ∈ wsX6_lengthBySteps := by decide +kernel
theorem flX6_lengthBySteps_10 : (.fieldLink RX6 10 "ContourLabels" "sheet" "LContourLabels$Sheet;" : Cond) ∈ wsX6_lengthBySteps := by decide +kernel
set_option maxHeartbeats 4000000 in
set_option maxRecDepth 100000 in
theorem cX6_lengthBySteps_ok (l : Launch) (hl0 : l.stackTraces = false) (g : Gg) (c0 h k0 x0 d0 a1 a2 a3 a4 : Nat) (σ : Sh) (p0 : Int32) (sz : Nat) {o : Except String (UInt64)} (hf : fX6_lengthBySteps σ p0 = some o) : vx_Met l yX6_lengthBySteps wsX6_lengthBySteps rmX6_lengthBySteps (va_Pc [.ref c0, .int p0] (PM g (wC c0 h k0 x0 d0 ++ (wS g h a1 a2 a3 a4 σ)) sz)) (QXd g (wC c0 h k0 x0 d0 ++ (wS g h a1 a2 a3 a4 σ)) (va_A (wC c0 h k0 x0 d0 ++ (wS g h a1 a2 a3 a4 σ)) sz) o) (XE g (wC c0 h k0 x0 d0 ++ (wS g h a1 a2 a3 a4 σ)) (va_A (wC c0 h k0 x0 d0 ++ (wS g h a1 a2 a3 a4 σ)) sz) o) 1 6 (va_A (wC c0 h k0 x0 d0 ++ (wS g h a1 a2 a3 a4 σ)) sz) := by
  refine vx_ofW (cc := cX6_lengthBySteps) (maxL := 6) (ret := (some .double)) (by decide) rfl ?_
  intro p e s m args below meth c s₁ B hml hnt hv
  obtain ⟨rfl, rfl, hP, hD0, hE, hZ⟩ := hv
  have hx := B.exec
  have hb := B.bytes
  have hr := B.returns
  have hts := atoms_spec (ws := wsX6_lengthBySteps) B.pre
  have hown : s.vm.findClass RX6 = some m.cls := findClass_of_methodNamed B.named
  have hlocks := B.notSynchronized
  have hD := hD0.self (sz := s.heap.size)
  generalize hAe : (va_A (wC c0 h k0 x0 d0 ++ (wS g h a1 a2 a3 a4 σ)) s.heap.size) = A at hD hZ ⊢
  have hA : ∀ q : Nat, s.heap.size ≤ q → A q := fun q h => by rw [← hAe]; exact Or.inr h
  have hS : va_S A s.heap s.heap [] := va_S.rf
  have hP : va_P g.1 vwCl (wC c0 h k0 x0 d0 ++ (wS g h a1 a2 a3 a4 σ)) s.heap := hP
  have hl := lv_entry ([.ref c0, .int p0]) (n := 6) (Nat.le_of_ble_eq_true rfl)
  rw [lg_entry_eq]
  generalize (lg_sl ([.ref c0, .int p0]) ++ List.replicate (6 - (lg_sl ([.ref c0, .int p0])).length) Slot.unset).toArray = ls at hl ⊢
  have hl : lv_has ls 6 [(0, .ref c0), (1, .int p0)] := hl
  have hB19 : ∀ (v2_19 : Int32) (n19 : Nat) (v3_19 : UInt64) (v5_19 : Int32) (H : Heap) (locs : List Loc) (ls : Array Slot), va_P g.1 vwCl (wC c0 h k0 x0 d0 ++ (wS g h a1 a2 a3 a4 σ)) H → va_D A (wC c0 h k0 x0 d0 ++ (wS g h a1 a2 a3 a4 σ)) → va_S A s.heap H locs → lv_has ls 6 [(0, .ref c0), (1, .int p0), (2, .int v2_19), (3, .double v3_19), (5, .int v5_19)] → fX6_lengthBySteps_19 σ p0 v2_19 n19 v3_19 v5_19 = some o → W p l e (headSpec wsX6_lengthBySteps rmX6_lengthBySteps).room s m ([.ref c0, .int p0] : List Value).toArray below meth c H locs 1 6 (vx_MQ below (QXd g (wC c0 h k0 x0 d0 ++ (wS g h a1 a2 a3 a4 σ)) A o) (XE g (wC c0 h k0 x0 d0 ++ (wS g h a1 a2 a3 a4 σ)) A o) ([.ref c0, .int p0] : List Value).toArray s 1 6 A) (F0 m 19 ls []) := by
    intro v2_19 n19
    induction n19 with
    | zero => intro v3_19 v5_19 H locs ls hP hD hS hl hf; exact nomatch (show (none : Option (Except String (UInt64))) = some _ from hf)
    | succ n19 ih19 =>
      intro v3_19 v5_19 H locs ls hP hD hS hl hf
      rw [fX6_lengthBySteps_19] at hf
      refine lv_iload hx hb dX6_lengthBySteps_19 (lv_at hl 4 rfl) ?_
      refine lv_iload_n hx hb dX6_lengthBySteps_21 rfl (lv_at hl 2 rfl) ?_
      refine lv_icmp_ge (tgt := 57) hx hb dX6_lengthBySteps_22 (by decide) (fun c_1 => ?_) (fun c_1 => ?_)
      · have hf := ip c_1 hf
        refine lv_dload_n hx hb dX6_lengthBySteps_57 rfl (lv_at hl 3 rfl) ?_
        exact x_dret (v := v3_19) hx hb hr hlocks hP hD hS ⟨(Nat.le_of_ble_eq_true rfl), (Nat.le_of_ble_eq_true rfl)⟩ (Option.some.inj hf).symm dX6_lengthBySteps_58
      · have hf := iq c_1 hf
        refine lv_dload_n hx hb dX6_lengthBySteps_25 rfl (lv_at hl 3 rfl) ?_
        refine lv_aload_n hx hb dX6_lengthBySteps_26 rfl (lv_at hl 0 rfl) ?_
        refine va_get (v := .ref h) (C := RX6) (T := TX6) (N := 4) hx hb hts fiX6_lengthBySteps_X6 hown hE.1 hP 0 rfl rfl 0 (by decide) (hts _ flX6_lengthBySteps_10) (fun _ h9 => h9) rfl dX6_lengthBySteps_27 ?_
        refine lv_iload_n hx hb dX6_lengthBySteps_30 rfl (lv_at hl 1 rfl) ?_
        refine lv_iload hx hb dX6_lengthBySteps_31 (lv_at hl 4 rfl) ?_
        obtain ⟨r_2, e_2, hf⟩ := bo hf
        refine pcallV (W0 := (wC c0 h k0 x0 d0 ++ (wS g h a1 a2 a3 a4 σ))) (As := [.int p0, .int v5_19]) (rest := [.double v3_19]) [1, 2, 3, 4, 5] 3 0 ⟨hx, hb, hml, hown, hts⟩ hP hE hZ hS (cX4_directionAt_ok l g h a1 a2 a3 a4 σ p0 v5_19 e_2) (cwV 2 hts gX6_lengthBySteps_X4_directionAt rfl rfl rfl hdX4_directionAt ⟨(Nat.le_of_ble_eq_true rfl), (Nat.le_of_ble_eq_true rfl)⟩) rfl rfl rfl rfl rfl hl.1 rfl (Nat.le_of_ble_eq_true rfl) ⟨(Nat.le_of_ble_eq_true rfl), (Nat.le_of_ble_eq_true rfl)⟩ dX6_lengthBySteps_33 ?_
        obtain ⟨r_3, e_3, hf⟩ := bo hf
        refine pcallS (W0 := (wC c0 h k0 x0 d0 ++ (wS g h a1 a2 a3 a4 σ))) (As := [.int r_2]) (rest := [.double v3_19]) [] ⟨hx, hb, hml, hown, hts⟩ hP hE hZ hS (cX6_isSlanting_ok l g  r_2 e_3) (va_cwS 1 hts gX6_lengthBySteps_X6_isSlanting rfl rfl rfl hdX6_isSlanting.2 ⟨(Nat.le_of_ble_eq_true rfl), (Nat.le_of_ble_eq_true rfl)⟩) rfl rfl hl.1 rfl (Nat.le_of_ble_eq_true rfl) ⟨(Nat.le_of_ble_eq_true rfl), (Nat.le_of_ble_eq_true rfl)⟩ dX6_lengthBySteps_36 ?_
        refine lv_beq (tgt := 48) hx hb dX6_lengthBySteps_39 (by decide) (fun c_4 => ?_) (fun c_4 => ?_)
        · have hf := iq c_4 hf
          refine lv_dconst1 hx hb dX6_lengthBySteps_48 ?_
          obtain ⟨h_5, hf⟩ := ck hf
          refine lv_dadd hx hb dX6_lengthBySteps_49 h_5 ?_
          refine lv_dstore_n (lv' := [(3, .double (FP.dadd v3_19 (0x3ff0000000000000 : UInt64))), (0, .ref c0), (1, .int p0), (2, .int v2_19), (5, .int v5_19)]) hx hb dX6_lengthBySteps_50 rfl hl (by decide) rfl (fun ls hl => ?_)
          refine lv_iinc (v := (v5_19 + 1)) (lv' := [(5, .int (v5_19 + 1)), (3, .double (FP.dadd v3_19 (0x3ff0000000000000 : UInt64))), (0, .ref c0), (1, .int p0), (2, .int v2_19)]) hx hb dX6_lengthBySteps_51 hl (k := 4) rfl rfl (by decide) rfl (fun ls hl => ?_)
          refine lv_goto (tgt := 19) hx hb dX6_lengthBySteps_54 (by decide) ?_
          exact ih19 (FP.dadd v3_19 (0x3ff0000000000000 : UInt64)) (v5_19 + 1) _ _ ls hP hD hS (lv_sub hl [2, 3, 4, 1, 0] rfl) hf
        · have hf := ip c_4 hf
          obtain ⟨r_6, e_6, hf⟩ := bo hf
          refine pcallSd (W0 := (wC c0 h k0 x0 d0 ++ (wS g h a1 a2 a3 a4 σ))) (As := []) (rest := [.double v3_19]) [] ⟨hx, hb, hml, hown, hts⟩ hP hE hZ hS (cX6_slantingLength_ok l g   e_6) (va_cwS 0 hts gX6_lengthBySteps_X6_slantingLength rfl rfl rfl hdX6_slantingLength.2 ⟨(Nat.le_of_ble_eq_true rfl), (Nat.le_of_ble_eq_true rfl)⟩) rfl rfl hl.1 rfl (Nat.le_of_ble_eq_true rfl) ⟨(Nat.le_of_ble_eq_true rfl), (Nat.le_of_ble_eq_true rfl)⟩ dX6_lengthBySteps_42 ?_
          refine lv_goto (tgt := 49) hx hb dX6_lengthBySteps_45 (by decide) ?_
          obtain ⟨h_7, hf⟩ := ck hf
          refine lv_dadd hx hb dX6_lengthBySteps_49 h_7 ?_
          refine lv_dstore_n (lv' := [(3, .double (FP.dadd v3_19 r_6)), (0, .ref c0), (1, .int p0), (2, .int v2_19), (5, .int v5_19)]) hx hb dX6_lengthBySteps_50 rfl hl (by decide) rfl (fun ls hl => ?_)
          refine lv_iinc (v := (v5_19 + 1)) (lv' := [(5, .int (v5_19 + 1)), (3, .double (FP.dadd v3_19 r_6)), (0, .ref c0), (1, .int p0), (2, .int v2_19)]) hx hb dX6_lengthBySteps_51 hl (k := 4) rfl rfl (by decide) rfl (fun ls hl => ?_)
          refine lv_goto (tgt := 19) hx hb dX6_lengthBySteps_54 (by decide) ?_
          exact ih19 (FP.dadd v3_19 r_6) (v5_19 + 1) _ _ ls hP hD hS (lv_sub hl [2, 3, 4, 1, 0] rfl) hf
  unfold fX6_lengthBySteps at hf
  refine lv_aload_n hx hb dX6_lengthBySteps_0 rfl (lv_at hl 0 rfl) ?_
  refine lv_iload_n hx hb dX6_lengthBySteps_1 rfl (lv_at hl 1 rfl) ?_
  obtain ⟨r_8, e_8, x_8, k_8⟩ := xt hf
  refine xcallVv (W0 := (wC c0 h k0 x0 d0 ++ (wS g h a1 a2 a3 a4 σ))) (Wc := (wC c0 h k0 x0 d0 ++ (wS g h a1 a2 a3 a4 σ))) (Wr := ([] : va_W)) (As := [.int p0]) (rest := []) [0, 1, 2, 3, 4, 5] [] [0, 1, 2, 3, 4, 5] 4 0 ⟨hx, hb, hml, hown, hts⟩ hP hD hE hZ hS hA (cX6_requireLine_ok l hl0 g c0 h k0 x0 d0 a1 a2 a3 a4 σ p0 _ e_8) (cwV 1 hts gX6_lengthBySteps_X6_requireLine rfl rfl rfl hdX6_requireLine ⟨(Nat.le_of_ble_eq_true rfl), (Nat.le_of_ble_eq_true rfl)⟩) rfl rfl rfl (by decide) (by decide) (by decide) (by decide) rfl rfl rfl rfl hl.1 rfl (Nat.le_of_ble_eq_true rfl) ⟨(Nat.le_of_ble_eq_true rfl), (Nat.le_of_ble_eq_true rfl)⟩ dX6_lengthBySteps_2 hnt hlocks ⟨(Nat.le_of_ble_eq_true rfl), (Nat.le_of_ble_eq_true rfl)⟩ x_8 (fun ok_8 H locs hP hD hS => ?_)
  have hf := k_8 () ok_8
  refine lv_aload_n hx hb dX6_lengthBySteps_5 rfl (lv_at hl 0 rfl) ?_
  refine va_get (v := .ref h) (C := RX6) (T := TX6) (N := 4) hx hb hts fiX6_lengthBySteps_X6 hown hE.1 hP 0 rfl rfl 0 (by decide) (hts _ flX6_lengthBySteps_10) (fun _ h9 => h9) rfl dX6_lengthBySteps_6 ?_
  refine lv_iload_n hx hb dX6_lengthBySteps_9 rfl (lv_at hl 1 rfl) ?_
  obtain ⟨r_9, e_9, hf⟩ := bo hf
  refine pcallV (W0 := (wC c0 h k0 x0 d0 ++ (wS g h a1 a2 a3 a4 σ))) (As := [.int p0]) (rest := []) [1, 2, 3, 4, 5] 3 0 ⟨hx, hb, hml, hown, hts⟩ hP hE hZ hS (cX4_stepCount_ok l g h a1 a2 a3 a4 σ p0 e_9) (cwV 1 hts gX6_lengthBySteps_X4_stepCount rfl rfl rfl hdX4_stepCount ⟨(Nat.le_of_ble_eq_true rfl), (Nat.le_of_ble_eq_true rfl)⟩) rfl rfl rfl rfl rfl hl.1 rfl (Nat.le_of_ble_eq_true rfl) ⟨(Nat.le_of_ble_eq_true rfl), (Nat.le_of_ble_eq_true rfl)⟩ dX6_lengthBySteps_10 ?_
  refine lv_istore_n (lv' := [(2, .int r_9), (0, .ref c0), (1, .int p0)]) hx hb dX6_lengthBySteps_13 rfl hl (by decide) rfl (fun ls hl => ?_)
  refine lv_dconst0 hx hb dX6_lengthBySteps_14 ?_
  refine lv_dstore_n (lv' := [(3, .double (0 : UInt64)), (2, .int r_9), (0, .ref c0), (1, .int p0)]) hx hb dX6_lengthBySteps_15 rfl hl (by decide) rfl (fun ls hl => ?_)
  refine lv_iconst (v := (0 : Int32)) hx hb dX6_lengthBySteps_16 (by decide) ?_
  refine lv_istore (lv' := [(5, .int (0 : Int32)), (3, .double (0 : UInt64)), (2, .int r_9), (0, .ref c0), (1, .int p0)]) hx hb dX6_lengthBySteps_17 hl (by decide) rfl (fun ls hl => ?_)
  exact hB19 r_9 FU (0 : UInt64) (0 : Int32) _ _ ls hP hD hS (lv_sub hl [3, 4, 2, 1, 0] rfl) hf

def fX6_labelOf (σ : Sh) (p0 : Int32) : Option (Except String (Int32)) := (xthen (fX6_requireLine σ p0) fun _ => ((fX4_labelIn σ p0).bind fun r_2 => (some (.ok r_2))))
abbrev rmX6_labelOf : Room := { frames := 7, cells := 1, slots := 6, locals := 111 }
theorem hdX6_labelOf : yX6_labelOf.cls = RX6 ∧ yX6_labelOf.cls ≠ "java/lang/invoke/MethodHandle" ∧ yX6_labelOf.cls ≠ "java/lang/invoke/VarHandle" ∧ (parseMethodDescriptor yX6_labelOf.desc).map (fun d => d.parameters.length) = some 1 := by decide +kernel
theorem fiX6_labelOf_X6 : ∀ w ∈ wsX60, w ∈ wsX6_labelOf := by decide +kernel
theorem flX6_labelOf_10 : (.fieldLink RX6 10 "ContourLabels" "sheet" "LContourLabels$Sheet;" : Cond) ∈ wsX6_labelOf := by decide +kernel
set_option maxHeartbeats 4000000 in
set_option maxRecDepth 100000 in
theorem cX6_labelOf_ok (l : Launch) (hl0 : l.stackTraces = false) (g : Gg) (c0 h k0 x0 d0 a1 a2 a3 a4 : Nat) (σ : Sh) (p0 : Int32) (sz : Nat) {o : Except String (Int32)} (hf : fX6_labelOf σ p0 = some o) : vx_Met l yX6_labelOf wsX6_labelOf rmX6_labelOf (va_Pc [.ref c0, .int p0] (PM g (wC c0 h k0 x0 d0 ++ (wS g h a1 a2 a3 a4 σ)) sz)) (QXi g (wC c0 h k0 x0 d0 ++ (wS g h a1 a2 a3 a4 σ)) (va_A (wC c0 h k0 x0 d0 ++ (wS g h a1 a2 a3 a4 σ)) sz) o) (XE g (wC c0 h k0 x0 d0 ++ (wS g h a1 a2 a3 a4 σ)) (va_A (wC c0 h k0 x0 d0 ++ (wS g h a1 a2 a3 a4 σ)) sz) o) 1 6 (va_A (wC c0 h k0 x0 d0 ++ (wS g h a1 a2 a3 a4 σ)) sz) := by
  refine vx_ofW (cc := cX6_labelOf) (maxL := 2) (ret := (some .int)) (by decide) rfl ?_
  intro p e s m args below meth c s₁ B hml hnt hv
  obtain ⟨rfl, rfl, hP, hD0, hE, hZ⟩ := hv
  have hx := B.exec
  have hb := B.bytes
  have hr := B.returns
  have hts := atoms_spec (ws := wsX6_labelOf) B.pre
  have hown : s.vm.findClass RX6 = some m.cls := findClass_of_methodNamed B.named
  have hlocks := B.notSynchronized
  have hD := hD0.self (sz := s.heap.size)
  generalize hAe : (va_A (wC c0 h k0 x0 d0 ++ (wS g h a1 a2 a3 a4 σ)) s.heap.size) = A at hD hZ ⊢
  have hA : ∀ q : Nat, s.heap.size ≤ q → A q := fun q h => by rw [← hAe]; exact Or.inr h
  have hS : va_S A s.heap s.heap [] := va_S.rf
  have hP : va_P g.1 vwCl (wC c0 h k0 x0 d0 ++ (wS g h a1 a2 a3 a4 σ)) s.heap := hP
  have hl := lv_entry ([.ref c0, .int p0]) (n := 2) (Nat.le_of_ble_eq_true rfl)
  rw [lg_entry_eq]
  generalize (lg_sl ([.ref c0, .int p0]) ++ List.replicate (2 - (lg_sl ([.ref c0, .int p0])).length) Slot.unset).toArray = ls at hl ⊢
  have hl : lv_has ls 2 [(0, .ref c0), (1, .int p0)] := hl
  unfold fX6_labelOf at hf
  refine lv_aload_n hx hb dX6_labelOf_0 rfl (lv_at hl 0 rfl) ?_
  refine lv_iload_n hx hb dX6_labelOf_1 rfl (lv_at hl 1 rfl) ?_
  obtain ⟨r_1, e_1, x_1, k_1⟩ := xt hf
  refine xcallVv (W0 := (wC c0 h k0 x0 d0 ++ (wS g h a1 a2 a3 a4 σ))) (Wc := (wC c0 h k0 x0 d0 ++ (wS g h a1 a2 a3 a4 σ))) (Wr := ([] : va_W)) (As := [.int p0]) (rest := []) [0, 1, 2, 3, 4, 5] [] [0, 1, 2, 3, 4, 5] 4 0 ⟨hx, hb, hml, hown, hts⟩ hP hD hE hZ hS hA (cX6_requireLine_ok l hl0 g c0 h k0 x0 d0 a1 a2 a3 a4 σ p0 _ e_1) (cwV 1 hts gX6_labelOf_X6_requireLine rfl rfl rfl hdX6_requireLine ⟨(Nat.le_of_ble_eq_true rfl), (Nat.le_of_ble_eq_true rfl)⟩) rfl rfl rfl (by decide) (by decide) (by decide) (by decide) rfl rfl rfl rfl hl.1 rfl (Nat.le_of_ble_eq_true rfl) ⟨(Nat.le_of_ble_eq_true rfl), (Nat.le_of_ble_eq_true rfl)⟩ dX6_labelOf_2 hnt hlocks ⟨(Nat.le_of_ble_eq_true rfl), (Nat.le_of_ble_eq_true rfl)⟩ x_1 (fun ok_1 H locs hP hD hS => ?_)
  have hf := k_1 () ok_1
  refine lv_aload_n hx hb dX6_labelOf_5 rfl (lv_at hl 0 rfl) ?_
  refine va_get (v := .ref h) (C := RX6) (T := TX6) (N := 4) hx hb hts fiX6_labelOf_X6 hown hE.1 hP 0 rfl rfl 0 (by decide) (hts _ flX6_labelOf_10) (fun _ h9 => h9) rfl dX6_labelOf_6 ?_
  refine lv_iload_n hx hb dX6_labelOf_9 rfl (lv_at hl 1 rfl) ?_
  obtain ⟨r_2, e_2, hf⟩ := bo hf
  refine pcallV (W0 := (wC c0 h k0 x0 d0 ++ (wS g h a1 a2 a3 a4 σ))) (As := [.int p0]) (rest := []) [1, 2, 3, 4, 5] 3 0 ⟨hx, hb, hml, hown, hts⟩ hP hE hZ hS (cX4_labelIn_ok l g h a1 a2 a3 a4 σ p0 e_2) (cwV 1 hts gX6_labelOf_X4_labelIn rfl rfl rfl hdX4_labelIn ⟨(Nat.le_of_ble_eq_true rfl), (Nat.le_of_ble_eq_true rfl)⟩) rfl rfl rfl rfl rfl hl.1 rfl (Nat.le_of_ble_eq_true rfl) ⟨(Nat.le_of_ble_eq_true rfl), (Nat.le_of_ble_eq_true rfl)⟩ dX6_labelOf_10 ?_
  exact x_iret (v := r_2) hx hb hr hlocks hP hD hS ⟨(Nat.le_of_ble_eq_true rfl), (Nat.le_of_ble_eq_true rfl)⟩ (Option.some.inj hf).symm dX6_labelOf_13

def fX6_isTurned (σ : Sh) (p0 : Int32) : Option (Except String (Bool)) := (xthen (fX6_requireLine σ p0) fun _ => ((fX4_labelIn σ p0).bind fun r_2 => (if r_2 = (-1 : Int32) then (some (.ok false)) else ((fX2_goesLeft σ p0 r_2).bind fun r_4 => (if r_4 = true then (some (.ok true)) else (some (.ok false)))))))
abbrev rmX6_isTurned : Room := { frames := 7, cells := 1, slots := 6, locals := 111 }
theorem hdX6_isTurned : yX6_isTurned.cls = RX6 ∧ yX6_isTurned.cls ≠ "java/lang/invoke/MethodHandle" ∧ yX6_isTurned.cls ≠ "java/lang/invoke/VarHandle" ∧ (parseMethodDescriptor yX6_isTurned.desc).map (fun d => d.parameters.length) = some 1 := by decide +kernel
theorem fiX6_isTurned_X6 : ∀ w ∈ wsX60, w ∈ wsX6_isTurned := by decide +kernel
theorem flX6_isTurned_10 : (.fieldLink RX6 10 "ContourLabels" "sheet" "LContourLabels$Sheet;" : Cond) ∈ wsX6_isTurned := by decide +kernel
set_option maxHeartbeats 4000000 in
set_option maxRecDepth 100000 in
theorem cX6_isTurned_ok (l : Launch) (hl0 : l.stackTraces = false) (g : Gg) (c0 h k0 x0 d0 a1 a2 a3 a4 : Nat) (σ : Sh) (p0 : Int32) (sz : Nat) {o : Except String (Bool)} (hf : fX6_isTurned σ p0 = some o) : vx_Met l yX6_isTurned wsX6_isTurned rmX6_isTurned (va_Pc [.ref c0, .int p0] (PM g (wC c0 h k0 x0 d0 ++ (wS g h a1 a2 a3 a4 σ)) sz)) (QXb g (wC c0 h k0 x0 d0 ++ (wS g h a1 a2 a3 a4 σ)) (va_A (wC c0 h k0 x0 d0 ++ (wS g h a1 a2 a3 a4 σ)) sz) o) (XE g (wC c0 h k0 x0 d0 ++ (wS g h a1 a2 a3 a4 σ)) (va_A (wC c0 h k0 x0 d0 ++ (wS g h a1 a2 a3 a4 σ)) sz) o) 1 6 (va_A (wC c0 h k0 x0 d0 ++ (wS g h a1 a2 a3 a4 σ)) sz) := by
  refine vx_ofW (cc := cX6_isTurned) (maxL := 3) (ret := (some .boolean)) (by decide) rfl ?_
  intro p e s m args below meth c s₁ B hml hnt hv
  obtain ⟨rfl, rfl, hP, hD0, hE, hZ⟩ := hv
  have hx := B.exec
  have hb := B.bytes
  have hr := B.returns
  have hts := atoms_spec (ws := wsX6_isTurned) B.pre
  have hown : s.vm.findClass RX6 = some m.cls := findClass_of_methodNamed B.named
  have hlocks := B.notSynchronized
  have hD := hD0.self (sz := s.heap.size)
  generalize hAe : (va_A (wC c0 h k0 x0 d0 ++ (wS g h a1 a2 a3 a4 σ)) s.heap.size) = A at hD hZ ⊢
  have hA : ∀ q : Nat, s.heap.size ≤ q → A q := fun q h => by rw [← hAe]; exact Or.inr h
  have hS : va_S A s.heap s.heap [] := va_S.rf
  have hP : va_P g.1 vwCl (wC c0 h k0 x0 d0 ++ (wS g h a1 a2 a3 a4 σ)) s.heap := hP
  have hl := lv_entry ([.ref c0, .int p0]) (n := 3) (Nat.le_of_ble_eq_true rfl)
  rw [lg_entry_eq]
  generalize (lg_sl ([.ref c0, .int p0]) ++ List.replicate (3 - (lg_sl ([.ref c0, .int p0])).length) Slot.unset).toArray = ls at hl ⊢
  have hl : lv_has ls 3 [(0, .ref c0), (1, .int p0)] := hl
  unfold fX6_isTurned at hf
  refine lv_aload_n hx hb dX6_isTurned_0 rfl (lv_at hl 0 rfl) ?_
  refine lv_iload_n hx hb dX6_isTurned_1 rfl (lv_at hl 1 rfl) ?_
  obtain ⟨r_1, e_1, x_1, k_1⟩ := xt hf
  refine xcallVv (W0 := (wC c0 h k0 x0 d0 ++ (wS g h a1 a2 a3 a4 σ))) (Wc := (wC c0 h k0 x0 d0 ++ (wS g h a1 a2 a3 a4 σ))) (Wr := ([] : va_W)) (As := [.int p0]) (rest := []) [0, 1, 2, 3, 4, 5] [] [0, 1, 2, 3, 4, 5] 4 0 ⟨hx, hb, hml, hown, hts⟩ hP hD hE hZ hS hA (cX6_requireLine_ok l hl0 g c0 h k0 x0 d0 a1 a2 a3 a4 σ p0 _ e_1) (cwV 1 hts gX6_isTurned_X6_requireLine rfl rfl rfl hdX6_requireLine ⟨(Nat.le_of_ble_eq_true rfl), (Nat.le_of_ble_eq_true rfl)⟩) rfl rfl rfl (by decide) (by decide) (by decide) (by decide) rfl rfl rfl rfl hl.1 rfl (Nat.le_of_ble_eq_true rfl) ⟨(Nat.le_of_ble_eq_true rfl), (Nat.le_of_ble_eq_true rfl)⟩ dX6_isTurned_2 hnt hlocks ⟨(Nat.le_of_ble_eq_true rfl), (Nat.le_of_ble_eq_true rfl)⟩ x_1 (fun ok_1 H locs hP hD hS => ?_)
  have hf := k_1 () ok_1
  refine lv_aload_n hx hb dX6_isTurned_5 rfl (lv_at hl 0 rfl) ?_
  refine va_get (v := .ref h) (C := RX6) (T := TX6) (N := 4) hx hb hts fiX6_isTurned_X6 hown hE.1 hP 0 rfl rfl 0 (by decide) (hts _ flX6_isTurned_10) (fun _ h9 => h9) rfl dX6_isTurned_6 ?_
  refine lv_iload_n hx hb dX6_isTurned_9 rfl (lv_at hl 1 rfl) ?_
  obtain ⟨r_2, e_2, hf⟩ := bo hf
  refine pcallV (W0 := (wC c0 h k0 x0 d0 ++ (wS g h a1 a2 a3 a4 σ))) (As := [.int p0]) (rest := []) [1, 2, 3, 4, 5] 3 0 ⟨hx, hb, hml, hown, hts⟩ hP hE hZ hS (cX4_labelIn_ok l g h a1 a2 a3 a4 σ p0 e_2) (cwV 1 hts gX6_isTurned_X4_labelIn rfl rfl rfl hdX4_labelIn ⟨(Nat.le_of_ble_eq_true rfl), (Nat.le_of_ble_eq_true rfl)⟩) rfl rfl rfl rfl rfl hl.1 rfl (Nat.le_of_ble_eq_true rfl) ⟨(Nat.le_of_ble_eq_true rfl), (Nat.le_of_ble_eq_true rfl)⟩ dX6_isTurned_10 ?_
  refine lv_istore_n (lv' := [(2, .int r_2), (0, .ref c0), (1, .int p0)]) hx hb dX6_isTurned_13 rfl hl (by decide) rfl (fun ls hl => ?_)
  refine lv_iload_n hx hb dX6_isTurned_14 rfl (lv_at hl 0 rfl) ?_
  refine lv_iconst (v := (-1 : Int32)) hx hb dX6_isTurned_15 (by decide) ?_
  refine lv_icmp_eq (tgt := 35) hx hb dX6_isTurned_16 (by decide) (fun c_3 => ?_) (fun c_3 => ?_)
  · have hf := ip c_3 hf
    refine lv_iconst (v := (0 : Int32)) hx hb dX6_isTurned_35 (by decide) ?_
    exact x_zret (v := false) hx hb hr hlocks hP hD hS ⟨(Nat.le_of_ble_eq_true rfl), (Nat.le_of_ble_eq_true rfl)⟩ (Option.some.inj hf).symm dX6_isTurned_36
  · have hf := iq c_3 hf
    refine lv_aload_n hx hb dX6_isTurned_19 rfl (lv_at hl 1 rfl) ?_
    refine va_get (v := .ref h) (C := RX6) (T := TX6) (N := 4) hx hb hts fiX6_isTurned_X6 hown hE.1 hP 0 rfl rfl 0 (by decide) (hts _ flX6_isTurned_10) (fun _ h9 => h9) rfl dX6_isTurned_20 ?_
    refine lv_iload_n hx hb dX6_isTurned_23 rfl (lv_at hl 2 rfl) ?_
    refine lv_iload_n hx hb dX6_isTurned_24 rfl (lv_at hl 0 rfl) ?_
    obtain ⟨r_4, e_4, hf⟩ := bo hf
    refine pcallS (W0 := (wC c0 h k0 x0 d0 ++ (wS g h a1 a2 a3 a4 σ))) (As := [.ref h, .int p0, .int r_2]) (rest := []) [1, 2, 3, 4, 5] ⟨hx, hb, hml, hown, hts⟩ hP hE hZ hS (cX2_goesLeft_ok l g h a1 a2 a3 a4 σ p0 r_2 e_4) (va_cwS 3 hts gX6_isTurned_X2_goesLeft rfl rfl rfl hdX2_goesLeft.2 ⟨(Nat.le_of_ble_eq_true rfl), (Nat.le_of_ble_eq_true rfl)⟩) rfl rfl hl.1 rfl (Nat.le_of_ble_eq_true rfl) ⟨(Nat.le_of_ble_eq_true rfl), (Nat.le_of_ble_eq_true rfl)⟩ dX6_isTurned_25 ?_
    refine lv_beq (tgt := 35) hx hb dX6_isTurned_28 (by decide) (fun c_5 => ?_) (fun c_5 => ?_)
    · have hf := iq c_5 hf
      refine lv_iconst (v := (0 : Int32)) hx hb dX6_isTurned_35 (by decide) ?_
      exact x_zret (v := false) hx hb hr hlocks hP hD hS ⟨(Nat.le_of_ble_eq_true rfl), (Nat.le_of_ble_eq_true rfl)⟩ (Option.some.inj hf).symm dX6_isTurned_36
    · have hf := ip c_5 hf
      refine lv_iconst (v := (1 : Int32)) hx hb dX6_isTurned_31 (by decide) ?_
      refine lv_goto (tgt := 36) hx hb dX6_isTurned_32 (by decide) ?_
      exact x_zret (v := true) hx hb hr hlocks hP hD hS ⟨(Nat.le_of_ble_eq_true rfl), (Nat.le_of_ble_eq_true rfl)⟩ (Option.some.inj hf).symm dX6_isTurned_36

def fX6_readFrom (σ : Sh) (p0 : Int32) : Option (Except String (Int32)) := (xthen (fX6_requireLine σ p0) fun _ => ((fX4_labelIn σ p0).bind fun r_2 => (if r_2 = (-1 : Int32) then (some (.ok (-1 : Int32))) else ((fX2_goesLeft σ p0 r_2).bind fun r_4 => (if r_4 = true then ((fX2_lastNumber σ p0 r_2).bind fun r_7 => ((fX4_pointAt σ p0 r_7).bind fun r_8 => (some (.ok r_8)))) else ((fX4_pointAt σ p0 r_2).bind fun r_6 => (some (.ok r_6))))))))
abbrev rmX6_readFrom : Room := { frames := 7, cells := 1, slots := 6, locals := 111 }
theorem hdX6_readFrom : yX6_readFrom.cls = RX6 ∧ yX6_readFrom.cls ≠ "java/lang/invoke/MethodHandle" ∧ yX6_readFrom.cls ≠ "java/lang/invoke/VarHandle" ∧ (parseMethodDescriptor yX6_readFrom.desc).map (fun d => d.parameters.length) = some 1 := by decide +kernel
theorem fiX6_readFrom_X6 : ∀ w ∈ wsX60, w ∈ wsX6_readFrom := by decide +kernel
theorem flX6_readFrom_10 : (.fieldLink RX6 10 "ContourLabels" "sheet" "LContourLabels$Sheet;" : Cond) ∈ wsX6_readFrom := by decide +kernel
set_option maxHeartbeats 4000000 in
set_option maxRecDepth 100000 in
theorem cX6_readFrom_ok (l : Launch) (hl0 : l.stackTraces = false) (g : Gg) (c0 h k0 x0 d0 a1 a2 a3 a4 : Nat) (σ : Sh) (p0 : Int32) (sz : Nat) {o : Except String (Int32)} (hf : fX6_readFrom σ p0 = some o) : vx_Met l yX6_readFrom wsX6_readFrom rmX6_readFrom (va_Pc [.ref c0, .int p0] (PM g (wC c0 h k0 x0 d0 ++ (wS g h a1 a2 a3 a4 σ)) sz)) (QXi g (wC c0 h k0 x0 d0 ++ (wS g h a1 a2 a3 a4 σ)) (va_A (wC c0 h k0 x0 d0 ++ (wS g h a1 a2 a3 a4 σ)) sz) o) (XE g (wC c0 h k0 x0 d0 ++ (wS g h a1 a2 a3 a4 σ)) (va_A (wC c0 h k0 x0 d0 ++ (wS g h a1 a2 a3 a4 σ)) sz) o) 1 6 (va_A (wC c0 h k0 x0 d0 ++ (wS g h a1 a2 a3 a4 σ)) sz) := by
  refine vx_ofW (cc := cX6_readFrom) (maxL := 3) (ret := (some .int)) (by decide) rfl ?_
  intro p e s m args below meth c s₁ B hml hnt hv
  obtain ⟨rfl, rfl, hP, hD0, hE, hZ⟩ := hv
  have hx := B.exec
  have hb := B.bytes
  have hr := B.returns
  have hts := atoms_spec (ws := wsX6_readFrom) B.pre
  have hown : s.vm.findClass RX6 = some m.cls := findClass_of_methodNamed B.named
  have hlocks := B.notSynchronized
  have hD := hD0.self (sz := s.heap.size)
  generalize hAe : (va_A (wC c0 h k0 x0 d0 ++ (wS g h a1 a2 a3 a4 σ)) s.heap.size) = A at hD hZ ⊢
  have hA : ∀ q : Nat, s.heap.size ≤ q → A q := fun q h => by rw [← hAe]; exact Or.inr h
  have hS : va_S A s.heap s.heap [] := va_S.rf
  have hP : va_P g.1 vwCl (wC c0 h k0 x0 d0 ++ (wS g h a1 a2 a3 a4 σ)) s.heap := hP
  have hl := lv_entry ([.ref c0, .int p0]) (n := 3) (Nat.le_of_ble_eq_true rfl)
  rw [lg_entry_eq]
  generalize (lg_sl ([.ref c0, .int p0]) ++ List.replicate (3 - (lg_sl ([.ref c0, .int p0])).length) Slot.unset).toArray = ls at hl ⊢
  have hl : lv_has ls 3 [(0, .ref c0), (1, .int p0)] := hl
  unfold fX6_readFrom at hf
  refine lv_aload_n hx hb dX6_readFrom_0 rfl (lv_at hl 0 rfl) ?_
  refine lv_iload_n hx hb dX6_readFrom_1 rfl (lv_at hl 1 rfl) ?_
  obtain ⟨r_1, e_1, x_1, k_1⟩ := xt hf
  refine xcallVv (W0 := (wC c0 h k0 x0 d0 ++ (wS g h a1 a2 a3 a4 σ))) (Wc := (wC c0 h k0 x0 d0 ++ (wS g h a1 a2 a3 a4 σ))) (Wr := ([] : va_W)) (As := [.int p0]) (rest := []) [0, 1, 2, 3, 4, 5] [] [0, 1, 2, 3, 4, 5] 4 0 ⟨hx, hb, hml, hown, hts⟩ hP hD hE hZ hS hA (cX6_requireLine_ok l hl0 g c0 h k0 x0 d0 a1 a2 a3 a4 σ p0 _ e_1) (cwV 1 hts gX6_readFrom_X6_requireLine rfl rfl rfl hdX6_requireLine ⟨(Nat.le_of_ble_eq_true rfl), (Nat.le_of_ble_eq_true rfl)⟩) rfl rfl rfl (by decide) (by decide) (by decide) (by decide) rfl rfl rfl rfl hl.1 rfl (Nat.le_of_ble_eq_true rfl) ⟨(Nat.le_of_ble_eq_true rfl), (Nat.le_of_ble_eq_true rfl)⟩ dX6_readFrom_2 hnt hlocks ⟨(Nat.le_of_ble_eq_true rfl), (Nat.le_of_ble_eq_true rfl)⟩ x_1 (fun ok_1 H locs hP hD hS => ?_)
  have hf := k_1 () ok_1
  refine lv_aload_n hx hb dX6_readFrom_5 rfl (lv_at hl 0 rfl) ?_
  refine va_get (v := .ref h) (C := RX6) (T := TX6) (N := 4) hx hb hts fiX6_readFrom_X6 hown hE.1 hP 0 rfl rfl 0 (by decide) (hts _ flX6_readFrom_10) (fun _ h9 => h9) rfl dX6_readFrom_6 ?_
  refine lv_iload_n hx hb dX6_readFrom_9 rfl (lv_at hl 1 rfl) ?_
  obtain ⟨r_2, e_2, hf⟩ := bo hf
  refine pcallV (W0 := (wC c0 h k0 x0 d0 ++ (wS g h a1 a2 a3 a4 σ))) (As := [.int p0]) (rest := []) [1, 2, 3, 4, 5] 3 0 ⟨hx, hb, hml, hown, hts⟩ hP hE hZ hS (cX4_labelIn_ok l g h a1 a2 a3 a4 σ p0 e_2) (cwV 1 hts gX6_readFrom_X4_labelIn rfl rfl rfl hdX4_labelIn ⟨(Nat.le_of_ble_eq_true rfl), (Nat.le_of_ble_eq_true rfl)⟩) rfl rfl rfl rfl rfl hl.1 rfl (Nat.le_of_ble_eq_true rfl) ⟨(Nat.le_of_ble_eq_true rfl), (Nat.le_of_ble_eq_true rfl)⟩ dX6_readFrom_10 ?_
  refine lv_istore_n (lv' := [(2, .int r_2), (0, .ref c0), (1, .int p0)]) hx hb dX6_readFrom_13 rfl hl (by decide) rfl (fun ls hl => ?_)
  refine lv_iload_n hx hb dX6_readFrom_14 rfl (lv_at hl 0 rfl) ?_
  refine lv_iconst (v := (-1 : Int32)) hx hb dX6_readFrom_15 (by decide) ?_
  refine lv_icmp_ne (tgt := 21) hx hb dX6_readFrom_16 (by decide) (fun c_3 => ?_) (fun c_3 => ?_)
  · have hf := iq c_3 hf
    refine lv_aload_n hx hb dX6_readFrom_21 rfl (lv_at hl 1 rfl) ?_
    refine va_get (v := .ref h) (C := RX6) (T := TX6) (N := 4) hx hb hts fiX6_readFrom_X6 hown hE.1 hP 0 rfl rfl 0 (by decide) (hts _ flX6_readFrom_10) (fun _ h9 => h9) rfl dX6_readFrom_22 ?_
    refine lv_iload_n hx hb dX6_readFrom_25 rfl (lv_at hl 2 rfl) ?_
    refine lv_iload_n hx hb dX6_readFrom_26 rfl (lv_at hl 0 rfl) ?_
    obtain ⟨r_4, e_4, hf⟩ := bo hf
    refine pcallS (W0 := (wC c0 h k0 x0 d0 ++ (wS g h a1 a2 a3 a4 σ))) (As := [.ref h, .int p0, .int r_2]) (rest := []) [1, 2, 3, 4, 5] ⟨hx, hb, hml, hown, hts⟩ hP hE hZ hS (cX2_goesLeft_ok l g h a1 a2 a3 a4 σ p0 r_2 e_4) (va_cwS 3 hts gX6_readFrom_X2_goesLeft rfl rfl rfl hdX2_goesLeft.2 ⟨(Nat.le_of_ble_eq_true rfl), (Nat.le_of_ble_eq_true rfl)⟩) rfl rfl hl.1 rfl (Nat.le_of_ble_eq_true rfl) ⟨(Nat.le_of_ble_eq_true rfl), (Nat.le_of_ble_eq_true rfl)⟩ dX6_readFrom_27 ?_
    refine lv_beq (tgt := 51) hx hb dX6_readFrom_30 (by decide) (fun c_5 => ?_) (fun c_5 => ?_)
    · have hf := iq c_5 hf
      refine lv_aload_n hx hb dX6_readFrom_51 rfl (lv_at hl 1 rfl) ?_
      refine va_get (v := .ref h) (C := RX6) (T := TX6) (N := 4) hx hb hts fiX6_readFrom_X6 hown hE.1 hP 0 rfl rfl 0 (by decide) (hts _ flX6_readFrom_10) (fun _ h9 => h9) rfl dX6_readFrom_52 ?_
      refine lv_iload_n hx hb dX6_readFrom_55 rfl (lv_at hl 2 rfl) ?_
      refine lv_iload_n hx hb dX6_readFrom_56 rfl (lv_at hl 0 rfl) ?_
      obtain ⟨r_6, e_6, hf⟩ := bo hf
      refine pcallV (W0 := (wC c0 h k0 x0 d0 ++ (wS g h a1 a2 a3 a4 σ))) (As := [.int p0, .int r_2]) (rest := []) [1, 2, 3, 4, 5] 3 0 ⟨hx, hb, hml, hown, hts⟩ hP hE hZ hS (cX4_pointAt_ok l g h a1 a2 a3 a4 σ p0 r_2 e_6) (cwV 2 hts gX6_readFrom_X4_pointAt rfl rfl rfl hdX4_pointAt ⟨(Nat.le_of_ble_eq_true rfl), (Nat.le_of_ble_eq_true rfl)⟩) rfl rfl rfl rfl rfl hl.1 rfl (Nat.le_of_ble_eq_true rfl) ⟨(Nat.le_of_ble_eq_true rfl), (Nat.le_of_ble_eq_true rfl)⟩ dX6_readFrom_57 ?_
      exact x_iret (v := r_6) hx hb hr hlocks hP hD hS ⟨(Nat.le_of_ble_eq_true rfl), (Nat.le_of_ble_eq_true rfl)⟩ (Option.some.inj hf).symm dX6_readFrom_60
    · have hf := ip c_5 hf
      refine lv_aload_n hx hb dX6_readFrom_33 rfl (lv_at hl 1 rfl) ?_
      refine va_get (v := .ref h) (C := RX6) (T := TX6) (N := 4) hx hb hts fiX6_readFrom_X6 hown hE.1 hP 0 rfl rfl 0 (by decide) (hts _ flX6_readFrom_10) (fun _ h9 => h9) rfl dX6_readFrom_34 ?_
      refine lv_iload_n hx hb dX6_readFrom_37 rfl (lv_at hl 2 rfl) ?_
      refine lv_aload_n hx hb dX6_readFrom_38 rfl (lv_at hl 1 rfl) ?_
      refine va_get (v := .ref h) (C := RX6) (T := TX6) (N := 4) hx hb hts fiX6_readFrom_X6 hown hE.1 hP 0 rfl rfl 0 (by decide) (hts _ flX6_readFrom_10) (fun _ h9 => h9) rfl dX6_readFrom_39 ?_
      refine lv_iload_n hx hb dX6_readFrom_42 rfl (lv_at hl 2 rfl) ?_
      refine lv_iload_n hx hb dX6_readFrom_43 rfl (lv_at hl 0 rfl) ?_
      obtain ⟨r_7, e_7, hf⟩ := bo hf
      refine pcallS (W0 := (wC c0 h k0 x0 d0 ++ (wS g h a1 a2 a3 a4 σ))) (As := [.ref h, .int p0, .int r_2]) (rest := [.int p0, .ref h]) [1, 2, 3, 4, 5] ⟨hx, hb, hml, hown, hts⟩ hP hE hZ hS (cX2_lastNumber_ok l g h a1 a2 a3 a4 σ p0 r_2 e_7) (va_cwS 3 hts gX6_readFrom_X2_lastNumber rfl rfl rfl hdX2_lastNumber.2 ⟨(Nat.le_of_ble_eq_true rfl), (Nat.le_of_ble_eq_true rfl)⟩) rfl rfl hl.1 rfl (Nat.le_of_ble_eq_true rfl) ⟨(Nat.le_of_ble_eq_true rfl), (Nat.le_of_ble_eq_true rfl)⟩ dX6_readFrom_44 ?_
      obtain ⟨r_8, e_8, hf⟩ := bo hf
      refine pcallV (W0 := (wC c0 h k0 x0 d0 ++ (wS g h a1 a2 a3 a4 σ))) (As := [.int p0, .int r_7]) (rest := []) [1, 2, 3, 4, 5] 3 0 ⟨hx, hb, hml, hown, hts⟩ hP hE hZ hS (cX4_pointAt_ok l g h a1 a2 a3 a4 σ p0 r_7 e_8) (cwV 2 hts gX6_readFrom_X4_pointAt rfl rfl rfl hdX4_pointAt ⟨(Nat.le_of_ble_eq_true rfl), (Nat.le_of_ble_eq_true rfl)⟩) rfl rfl rfl rfl rfl hl.1 rfl (Nat.le_of_ble_eq_true rfl) ⟨(Nat.le_of_ble_eq_true rfl), (Nat.le_of_ble_eq_true rfl)⟩ dX6_readFrom_47 ?_
      exact x_iret (v := r_8) hx hb hr hlocks hP hD hS ⟨(Nat.le_of_ble_eq_true rfl), (Nat.le_of_ble_eq_true rfl)⟩ (Option.some.inj hf).symm dX6_readFrom_50
  · have hf := ip c_3 hf
    refine lv_iconst (v := (-1 : Int32)) hx hb dX6_readFrom_19 (by decide) ?_
    exact x_iret (v := (-1 : Int32)) hx hb hr hlocks hP hD hS ⟨(Nat.le_of_ble_eq_true rfl), (Nat.le_of_ble_eq_true rfl)⟩ (Option.some.inj hf).symm dX6_readFrom_20

def fX6_sizeOf (σ : Sh) (p0 : Int32) : Option (Except String (Int32)) := (xthen (fX6_requireLine σ p0) fun _ => ((fX4_sizeIn σ p0).bind fun r_2 => (some (.ok r_2))))
abbrev rmX6_sizeOf : Room := { frames := 7, cells := 1, slots := 6, locals := 111 }
theorem hdX6_sizeOf : yX6_sizeOf.cls = RX6 ∧ yX6_sizeOf.cls ≠ "java/lang/invoke/MethodHandle" ∧ yX6_sizeOf.cls ≠ "java/lang/invoke/VarHandle" ∧ (parseMethodDescriptor yX6_sizeOf.desc).map (fun d => d.parameters.length) = some 1 := by decide +kernel
theorem fiX6_sizeOf_X6 : ∀ w ∈ wsX60, w ∈ wsX6_sizeOf := by decide +kernel
theorem flX6_sizeOf_10 : (.fieldLink RX6 10 "ContourLabels" "sheet" "LContourLabels$Sheet;" : Cond) ∈ wsX6_sizeOf := by decide +kernel
set_option maxHeartbeats 4000000 in
set_option maxRecDepth 100000 in
theorem cX6_sizeOf_ok (l : Launch) (hl0 : l.stackTraces = false) (g : Gg) (c0 h k0 x0 d0 a1 a2 a3 a4 : Nat) (σ : Sh) (p0 : Int32) (sz : Nat) {o : Except String (Int32)} (hf : fX6_sizeOf σ p0 = some o) : vx_Met l yX6_sizeOf wsX6_sizeOf rmX6_sizeOf (va_Pc [.ref c0, .int p0] (PM g (wC c0 h k0 x0 d0 ++ (wS g h a1 a2 a3 a4 σ)) sz)) (QXi g (wC c0 h k0 x0 d0 ++ (wS g h a1 a2 a3 a4 σ)) (va_A (wC c0 h k0 x0 d0 ++ (wS g h a1 a2 a3 a4 σ)) sz) o) (XE g (wC c0 h k0 x0 d0 ++ (wS g h a1 a2 a3 a4 σ)) (va_A (wC c0 h k0 x0 d0 ++ (wS g h a1 a2 a3 a4 σ)) sz) o) 1 6 (va_A (wC c0 h k0 x0 d0 ++ (wS g h a1 a2 a3 a4 σ)) sz) := by
  refine vx_ofW (cc := cX6_sizeOf) (maxL := 2) (ret := (some .int)) (by decide) rfl ?_
  intro p e s m args below meth c s₁ B hml hnt hv
  obtain ⟨rfl, rfl, hP, hD0, hE, hZ⟩ := hv
  have hx := B.exec
  have hb := B.bytes
  have hr := B.returns
  have hts := atoms_spec (ws := wsX6_sizeOf) B.pre
  have hown : s.vm.findClass RX6 = some m.cls := findClass_of_methodNamed B.named
  have hlocks := B.notSynchronized
  have hD := hD0.self (sz := s.heap.size)
  generalize hAe : (va_A (wC c0 h k0 x0 d0 ++ (wS g h a1 a2 a3 a4 σ)) s.heap.size) = A at hD hZ ⊢
  have hA : ∀ q : Nat, s.heap.size ≤ q → A q := fun q h => by rw [← hAe]; exact Or.inr h
  have hS : va_S A s.heap s.heap [] := va_S.rf
  have hP : va_P g.1 vwCl (wC c0 h k0 x0 d0 ++ (wS g h a1 a2 a3 a4 σ)) s.heap := hP
  have hl := lv_entry ([.ref c0, .int p0]) (n := 2) (Nat.le_of_ble_eq_true rfl)
  rw [lg_entry_eq]
  generalize (lg_sl ([.ref c0, .int p0]) ++ List.replicate (2 - (lg_sl ([.ref c0, .int p0])).length) Slot.unset).toArray = ls at hl ⊢
  have hl : lv_has ls 2 [(0, .ref c0), (1, .int p0)] := hl
  unfold fX6_sizeOf at hf
  refine lv_aload_n hx hb dX6_sizeOf_0 rfl (lv_at hl 0 rfl) ?_
  refine lv_iload_n hx hb dX6_sizeOf_1 rfl (lv_at hl 1 rfl) ?_
  obtain ⟨r_1, e_1, x_1, k_1⟩ := xt hf
  refine xcallVv (W0 := (wC c0 h k0 x0 d0 ++ (wS g h a1 a2 a3 a4 σ))) (Wc := (wC c0 h k0 x0 d0 ++ (wS g h a1 a2 a3 a4 σ))) (Wr := ([] : va_W)) (As := [.int p0]) (rest := []) [0, 1, 2, 3, 4, 5] [] [0, 1, 2, 3, 4, 5] 4 0 ⟨hx, hb, hml, hown, hts⟩ hP hD hE hZ hS hA (cX6_requireLine_ok l hl0 g c0 h k0 x0 d0 a1 a2 a3 a4 σ p0 _ e_1) (cwV 1 hts gX6_sizeOf_X6_requireLine rfl rfl rfl hdX6_requireLine ⟨(Nat.le_of_ble_eq_true rfl), (Nat.le_of_ble_eq_true rfl)⟩) rfl rfl rfl (by decide) (by decide) (by decide) (by decide) rfl rfl rfl rfl hl.1 rfl (Nat.le_of_ble_eq_true rfl) ⟨(Nat.le_of_ble_eq_true rfl), (Nat.le_of_ble_eq_true rfl)⟩ dX6_sizeOf_2 hnt hlocks ⟨(Nat.le_of_ble_eq_true rfl), (Nat.le_of_ble_eq_true rfl)⟩ x_1 (fun ok_1 H locs hP hD hS => ?_)
  have hf := k_1 () ok_1
  refine lv_aload_n hx hb dX6_sizeOf_5 rfl (lv_at hl 0 rfl) ?_
  refine va_get (v := .ref h) (C := RX6) (T := TX6) (N := 4) hx hb hts fiX6_sizeOf_X6 hown hE.1 hP 0 rfl rfl 0 (by decide) (hts _ flX6_sizeOf_10) (fun _ h9 => h9) rfl dX6_sizeOf_6 ?_
  refine lv_iload_n hx hb dX6_sizeOf_9 rfl (lv_at hl 1 rfl) ?_
  obtain ⟨r_2, e_2, hf⟩ := bo hf
  refine pcallV (W0 := (wC c0 h k0 x0 d0 ++ (wS g h a1 a2 a3 a4 σ))) (As := [.int p0]) (rest := []) [1, 2, 3, 4, 5] 3 0 ⟨hx, hb, hml, hown, hts⟩ hP hE hZ hS (cX4_sizeIn_ok l g h a1 a2 a3 a4 σ p0 e_2) (cwV 1 hts gX6_sizeOf_X4_sizeIn rfl rfl rfl hdX4_sizeIn ⟨(Nat.le_of_ble_eq_true rfl), (Nat.le_of_ble_eq_true rfl)⟩) rfl rfl rfl rfl rfl hl.1 rfl (Nat.le_of_ble_eq_true rfl) ⟨(Nat.le_of_ble_eq_true rfl), (Nat.le_of_ble_eq_true rfl)⟩ dX6_sizeOf_10 ?_
  exact x_iret (v := r_2) hx hb hr hlocks hP hD hS ⟨(Nat.le_of_ble_eq_true rfl), (Nat.le_of_ble_eq_true rfl)⟩ (Option.some.inj hf).symm dX6_sizeOf_13

def fX6_bendOf (σ : Sh) (p0 p1 : Int32) : Option (Except String (Int32)) := (xthen (fX6_requireNumber σ p0 p1) fun _ => ((fX2_bendOfPlace σ p0 p1).bind fun r_2 => (some (.ok r_2))))
abbrev rmX6_bendOf : Room := { frames := 7, cells := 1, slots := 6, locals := 112 }
theorem hdX6_bendOf : yX6_bendOf.cls = RX6 ∧ yX6_bendOf.cls ≠ "java/lang/invoke/MethodHandle" ∧ yX6_bendOf.cls ≠ "java/lang/invoke/VarHandle" ∧ (parseMethodDescriptor yX6_bendOf.desc).map (fun d => d.parameters.length) = some 2 := by decide +kernel
theorem fiX6_bendOf_X6 : ∀ w ∈ wsX60, w ∈ wsX6_bendOf := by decide +kernel
theorem flX6_bendOf_10 : (.fieldLink RX6 10 "ContourLabels" "sheet" "LContourLabels$Sheet;" : Cond) ∈ wsX6_bendOf := by decide +kernel
set_option maxHeartbeats 4000000 in
set_option maxRecDepth 100000 in
theorem cX6_bendOf_ok (l : Launch) (hl0 : l.stackTraces = false) (g : Gg) (c0 h k0 x0 d0 a1 a2 a3 a4 : Nat) (σ : Sh) (p0 p1 : Int32) (sz : Nat) {o : Except String (Int32)} (hf : fX6_bendOf σ p0 p1 = some o) : vx_Met l yX6_bendOf wsX6_bendOf rmX6_bendOf (va_Pc [.ref c0, .int p0, .int p1] (PM g (wC c0 h k0 x0 d0 ++ (wS g h a1 a2 a3 a4 σ)) sz)) (QXi g (wC c0 h k0 x0 d0 ++ (wS g h a1 a2 a3 a4 σ)) (va_A (wC c0 h k0 x0 d0 ++ (wS g h a1 a2 a3 a4 σ)) sz) o) (XE g (wC c0 h k0 x0 d0 ++ (wS g h a1 a2 a3 a4 σ)) (va_A (wC c0 h k0 x0 d0 ++ (wS g h a1 a2 a3 a4 σ)) sz) o) 1 6 (va_A (wC c0 h k0 x0 d0 ++ (wS g h a1 a2 a3 a4 σ)) sz) := by
  refine vx_ofW (cc := cX6_bendOf) (maxL := 3) (ret := (some .int)) (by decide) rfl ?_
  intro p e s m args below meth c s₁ B hml hnt hv
  obtain ⟨rfl, rfl, hP, hD0, hE, hZ⟩ := hv
  have hx := B.exec
  have hb := B.bytes
  have hr := B.returns
  have hts := atoms_spec (ws := wsX6_bendOf) B.pre
  have hown : s.vm.findClass RX6 = some m.cls := findClass_of_methodNamed B.named
  have hlocks := B.notSynchronized
  have hD := hD0.self (sz := s.heap.size)
  generalize hAe : (va_A (wC c0 h k0 x0 d0 ++ (wS g h a1 a2 a3 a4 σ)) s.heap.size) = A at hD hZ ⊢
  have hA : ∀ q : Nat, s.heap.size ≤ q → A q := fun q h => by rw [← hAe]; exact Or.inr h
  have hS : va_S A s.heap s.heap [] := va_S.rf
  have hP : va_P g.1 vwCl (wC c0 h k0 x0 d0 ++ (wS g h a1 a2 a3 a4 σ)) s.heap := hP
  have hl := lv_entry ([.ref c0, .int p0, .int p1]) (n := 3) (Nat.le_of_ble_eq_true rfl)
  rw [lg_entry_eq]
  generalize (lg_sl ([.ref c0, .int p0, .int p1]) ++ List.replicate (3 - (lg_sl ([.ref c0, .int p0, .int p1])).length) Slot.unset).toArray = ls at hl ⊢
  have hl : lv_has ls 3 [(0, .ref c0), (1, .int p0), (2, .int p1)] := hl
  unfold fX6_bendOf at hf
  refine lv_aload_n hx hb dX6_bendOf_0 rfl (lv_at hl 0 rfl) ?_
  refine lv_iload_n hx hb dX6_bendOf_1 rfl (lv_at hl 1 rfl) ?_
  refine lv_iload_n hx hb dX6_bendOf_2 rfl (lv_at hl 2 rfl) ?_
  obtain ⟨r_1, e_1, x_1, k_1⟩ := xt hf
  refine xcallVv (W0 := (wC c0 h k0 x0 d0 ++ (wS g h a1 a2 a3 a4 σ))) (Wc := (wC c0 h k0 x0 d0 ++ (wS g h a1 a2 a3 a4 σ))) (Wr := ([] : va_W)) (As := [.int p0, .int p1]) (rest := []) [0, 1, 2, 3, 4, 5] [] [0, 1, 2, 3, 4, 5] 4 0 ⟨hx, hb, hml, hown, hts⟩ hP hD hE hZ hS hA (cX6_requireNumber_ok l hl0 g c0 h k0 x0 d0 a1 a2 a3 a4 σ p0 p1 _ e_1) (cwV 2 hts gX6_bendOf_X6_requireNumber rfl rfl rfl hdX6_requireNumber ⟨(Nat.le_of_ble_eq_true rfl), (Nat.le_of_ble_eq_true rfl)⟩) rfl rfl rfl (by decide) (by decide) (by decide) (by decide) rfl rfl rfl rfl hl.1 rfl (Nat.le_of_ble_eq_true rfl) ⟨(Nat.le_of_ble_eq_true rfl), (Nat.le_of_ble_eq_true rfl)⟩ dX6_bendOf_3 hnt hlocks ⟨(Nat.le_of_ble_eq_true rfl), (Nat.le_of_ble_eq_true rfl)⟩ x_1 (fun ok_1 H locs hP hD hS => ?_)
  have hf := k_1 () ok_1
  refine lv_aload_n hx hb dX6_bendOf_6 rfl (lv_at hl 0 rfl) ?_
  refine va_get (v := .ref h) (C := RX6) (T := TX6) (N := 4) hx hb hts fiX6_bendOf_X6 hown hE.1 hP 0 rfl rfl 0 (by decide) (hts _ flX6_bendOf_10) (fun _ h9 => h9) rfl dX6_bendOf_7 ?_
  refine lv_iload_n hx hb dX6_bendOf_10 rfl (lv_at hl 1 rfl) ?_
  refine lv_iload_n hx hb dX6_bendOf_11 rfl (lv_at hl 2 rfl) ?_
  obtain ⟨r_2, e_2, hf⟩ := bo hf
  refine pcallS (W0 := (wC c0 h k0 x0 d0 ++ (wS g h a1 a2 a3 a4 σ))) (As := [.ref h, .int p0, .int p1]) (rest := []) [1, 2, 3, 4, 5] ⟨hx, hb, hml, hown, hts⟩ hP hE hZ hS (cX2_bendOfPlace_ok l g h a1 a2 a3 a4 σ p0 p1 e_2) (va_cwS 3 hts gX6_bendOf_X2_bendOfPlace rfl rfl rfl hdX2_bendOfPlace.2 ⟨(Nat.le_of_ble_eq_true rfl), (Nat.le_of_ble_eq_true rfl)⟩) rfl rfl hl.1 rfl (Nat.le_of_ble_eq_true rfl) ⟨(Nat.le_of_ble_eq_true rfl), (Nat.le_of_ble_eq_true rfl)⟩ dX6_bendOf_12 ?_
  exact x_iret (v := r_2) hx hb hr hlocks hP hD hS ⟨(Nat.le_of_ble_eq_true rfl), (Nat.le_of_ble_eq_true rfl)⟩ (Option.some.inj hf).symm dX6_bendOf_15

def fX6_whyNotLabelled (σ : Sh) (p0 p1 : Int32) : Option (Except String (Int32)) := (xthen (fX6_requireNumber σ p0 p1) fun _ => ((fX2_reasonAgainst σ p0 p1).bind fun r_2 => (some (.ok r_2))))
abbrev rmX6_whyNotLabelled : Room := { frames := 7, cells := 1, slots := 6, locals := 121 }
theorem hdX6_whyNotLabelled : yX6_whyNotLabelled.cls = RX6 ∧ yX6_whyNotLabelled.cls ≠ "java/lang/invoke/MethodHandle" ∧ yX6_whyNotLabelled.cls ≠ "java/lang/invoke/VarHandle" ∧ (parseMethodDescriptor yX6_whyNotLabelled.desc).map (fun d => d.parameters.length) = some 2 := by decide +kernel
theorem fiX6_whyNotLabelled_X6 : ∀ w ∈ wsX60, w ∈ wsX6_whyNotLabelled := by decide +kernel
theorem flX6_whyNotLabelled_10 : (.fieldLink RX6 10 "ContourLabels" "sheet" "LContourLabels$Sheet;" : Cond) ∈ wsX6_whyNotLabelled := by decide +kernel
set_option maxHeartbeats 4000000 in
set_option maxRecDepth 100000 in
theorem cX6_whyNotLabelled_ok (l : Launch) (hl0 : l.stackTraces = false) (g : Gg) (c0 h k0 x0 d0 a1 a2 a3 a4 : Nat) (σ : Sh) (p0 p1 : Int32) (sz : Nat) {o : Except String (Int32)} (hf : fX6_whyNotLabelled σ p0 p1 = some o) : vx_Met l yX6_whyNotLabelled wsX6_whyNotLabelled rmX6_whyNotLabelled (va_Pc [.ref c0, .int p0, .int p1] (PM g (wC c0 h k0 x0 d0 ++ (wS g h a1 a2 a3 a4 σ)) sz)) (QXi g (wC c0 h k0 x0 d0 ++ (wS g h a1 a2 a3 a4 σ)) (va_A (wC c0 h k0 x0 d0 ++ (wS g h a1 a2 a3 a4 σ)) sz) o) (XE g (wC c0 h k0 x0 d0 ++ (wS g h a1 a2 a3 a4 σ)) (va_A (wC c0 h k0 x0 d0 ++ (wS g h a1 a2 a3 a4 σ)) sz) o) 1 6 (va_A (wC c0 h k0 x0 d0 ++ (wS g h a1 a2 a3 a4 σ)) sz) := by
  refine vx_ofW (cc := cX6_whyNotLabelled) (maxL := 3) (ret := (some .int)) (by decide) rfl ?_
  intro p e s m args below meth c s₁ B hml hnt hv
  obtain ⟨rfl, rfl, hP, hD0, hE, hZ⟩ := hv
  have hx := B.exec
  have hb := B.bytes
  have hr := B.returns
  have hts := atoms_spec (ws := wsX6_whyNotLabelled) B.pre
  have hown : s.vm.findClass RX6 = some m.cls := findClass_of_methodNamed B.named
  have hlocks := B.notSynchronized
  have hD := hD0.self (sz := s.heap.size)
  generalize hAe : (va_A (wC c0 h k0 x0 d0 ++ (wS g h a1 a2 a3 a4 σ)) s.heap.size) = A at hD hZ ⊢
  have hA : ∀ q : Nat, s.heap.size ≤ q → A q := fun q h => by rw [← hAe]; exact Or.inr h
  have hS : va_S A s.heap s.heap [] := va_S.rf
  have hP : va_P g.1 vwCl (wC c0 h k0 x0 d0 ++ (wS g h a1 a2 a3 a4 σ)) s.heap := hP
  have hl := lv_entry ([.ref c0, .int p0, .int p1]) (n := 3) (Nat.le_of_ble_eq_true rfl)
  rw [lg_entry_eq]
  generalize (lg_sl ([.ref c0, .int p0, .int p1]) ++ List.replicate (3 - (lg_sl ([.ref c0, .int p0, .int p1])).length) Slot.unset).toArray = ls at hl ⊢
  have hl : lv_has ls 3 [(0, .ref c0), (1, .int p0), (2, .int p1)] := hl
  unfold fX6_whyNotLabelled at hf
  refine lv_aload_n hx hb dX6_whyNotLabelled_0 rfl (lv_at hl 0 rfl) ?_
  refine lv_iload_n hx hb dX6_whyNotLabelled_1 rfl (lv_at hl 1 rfl) ?_
  refine lv_iload_n hx hb dX6_whyNotLabelled_2 rfl (lv_at hl 2 rfl) ?_
  obtain ⟨r_1, e_1, x_1, k_1⟩ := xt hf
  refine xcallVv (W0 := (wC c0 h k0 x0 d0 ++ (wS g h a1 a2 a3 a4 σ))) (Wc := (wC c0 h k0 x0 d0 ++ (wS g h a1 a2 a3 a4 σ))) (Wr := ([] : va_W)) (As := [.int p0, .int p1]) (rest := []) [0, 1, 2, 3, 4, 5] [] [0, 1, 2, 3, 4, 5] 4 0 ⟨hx, hb, hml, hown, hts⟩ hP hD hE hZ hS hA (cX6_requireNumber_ok l hl0 g c0 h k0 x0 d0 a1 a2 a3 a4 σ p0 p1 _ e_1) (cwV 2 hts gX6_whyNotLabelled_X6_requireNumber rfl rfl rfl hdX6_requireNumber ⟨(Nat.le_of_ble_eq_true rfl), (Nat.le_of_ble_eq_true rfl)⟩) rfl rfl rfl (by decide) (by decide) (by decide) (by decide) rfl rfl rfl rfl hl.1 rfl (Nat.le_of_ble_eq_true rfl) ⟨(Nat.le_of_ble_eq_true rfl), (Nat.le_of_ble_eq_true rfl)⟩ dX6_whyNotLabelled_3 hnt hlocks ⟨(Nat.le_of_ble_eq_true rfl), (Nat.le_of_ble_eq_true rfl)⟩ x_1 (fun ok_1 H locs hP hD hS => ?_)
  have hf := k_1 () ok_1
  refine lv_aload_n hx hb dX6_whyNotLabelled_6 rfl (lv_at hl 0 rfl) ?_
  refine va_get (v := .ref h) (C := RX6) (T := TX6) (N := 4) hx hb hts fiX6_whyNotLabelled_X6 hown hE.1 hP 0 rfl rfl 0 (by decide) (hts _ flX6_whyNotLabelled_10) (fun _ h9 => h9) rfl dX6_whyNotLabelled_7 ?_
  refine lv_iload_n hx hb dX6_whyNotLabelled_10 rfl (lv_at hl 1 rfl) ?_
  refine lv_iload_n hx hb dX6_whyNotLabelled_11 rfl (lv_at hl 2 rfl) ?_
  obtain ⟨r_2, e_2, hf⟩ := bo hf
  refine pcallS (W0 := (wC c0 h k0 x0 d0 ++ (wS g h a1 a2 a3 a4 σ))) (As := [.ref h, .int p0, .int p1]) (rest := []) [1, 2, 3, 4, 5] ⟨hx, hb, hml, hown, hts⟩ hP hE hZ hS (cX2_reasonAgainst_ok l g h a1 a2 a3 a4 σ p0 p1 e_2) (va_cwS 3 hts gX6_whyNotLabelled_X2_reasonAgainst rfl rfl rfl hdX2_reasonAgainst.2 ⟨(Nat.le_of_ble_eq_true rfl), (Nat.le_of_ble_eq_true rfl)⟩) rfl rfl hl.1 rfl (Nat.le_of_ble_eq_true rfl) ⟨(Nat.le_of_ble_eq_true rfl), (Nat.le_of_ble_eq_true rfl)⟩ dX6_whyNotLabelled_12 ?_
  exact x_iret (v := r_2) hx hb hr hlocks hP hD hS ⟨(Nat.le_of_ble_eq_true rfl), (Nat.le_of_ble_eq_true rfl)⟩ (Option.some.inj hf).symm dX6_whyNotLabelled_15

def fX6_placesOf (σ : Sh) (p0 : Int32) : Option (Except String (Int32)) := (xthen (fX6_requireLine σ p0) fun _ => ((fX2_countPlaces σ p0).bind fun r_2 => (some (.ok r_2))))
abbrev rmX6_placesOf : Room := { frames := 7, cells := 1, slots := 6, locals := 145 }
theorem hdX6_placesOf : yX6_placesOf.cls = RX6 ∧ yX6_placesOf.cls ≠ "java/lang/invoke/MethodHandle" ∧ yX6_placesOf.cls ≠ "java/lang/invoke/VarHandle" ∧ (parseMethodDescriptor yX6_placesOf.desc).map (fun d => d.parameters.length) = some 1 := by decide +kernel
theorem fiX6_placesOf_X6 : ∀ w ∈ wsX60, w ∈ wsX6_placesOf := by decide +kernel
theorem flX6_placesOf_10 : (.fieldLink RX6 10 "ContourLabels" "sheet" "LContourLabels$Sheet;" : Cond) ∈ wsX6_placesOf := by decide +kernel
set_option maxHeartbeats 4000000 in
set_option maxRecDepth 100000 in
theorem cX6_placesOf_ok (l : Launch) (hl0 : l.stackTraces = false) (g : Gg) (c0 h k0 x0 d0 a1 a2 a3 a4 : Nat) (σ : Sh) (p0 : Int32) (sz : Nat) {o : Except String (Int32)} (hf : fX6_placesOf σ p0 = some o) : vx_Met l yX6_placesOf wsX6_placesOf rmX6_placesOf (va_Pc [.ref c0, .int p0] (PM g (wC c0 h k0 x0 d0 ++ (wS g h a1 a2 a3 a4 σ)) sz)) (QXi g (wC c0 h k0 x0 d0 ++ (wS g h a1 a2 a3 a4 σ)) (va_A (wC c0 h k0 x0 d0 ++ (wS g h a1 a2 a3 a4 σ)) sz) o) (XE g (wC c0 h k0 x0 d0 ++ (wS g h a1 a2 a3 a4 σ)) (va_A (wC c0 h k0 x0 d0 ++ (wS g h a1 a2 a3 a4 σ)) sz) o) 1 6 (va_A (wC c0 h k0 x0 d0 ++ (wS g h a1 a2 a3 a4 σ)) sz) := by
  refine vx_ofW (cc := cX6_placesOf) (maxL := 2) (ret := (some .int)) (by decide) rfl ?_
  intro p e s m args below meth c s₁ B hml hnt hv
  obtain ⟨rfl, rfl, hP, hD0, hE, hZ⟩ := hv
  have hx := B.exec
  have hb := B.bytes
  have hr := B.returns
  have hts := atoms_spec (ws := wsX6_placesOf) B.pre
  have hown : s.vm.findClass RX6 = some m.cls := findClass_of_methodNamed B.named
  have hlocks := B.notSynchronized
  have hD := hD0.self (sz := s.heap.size)
  generalize hAe : (va_A (wC c0 h k0 x0 d0 ++ (wS g h a1 a2 a3 a4 σ)) s.heap.size) = A at hD hZ ⊢
  have hA : ∀ q : Nat, s.heap.size ≤ q → A q := fun q h => by rw [← hAe]; exact Or.inr h
  have hS : va_S A s.heap s.heap [] := va_S.rf
  have hP : va_P g.1 vwCl (wC c0 h k0 x0 d0 ++ (wS g h a1 a2 a3 a4 σ)) s.heap := hP
  have hl := lv_entry ([.ref c0, .int p0]) (n := 2) (Nat.le_of_ble_eq_true rfl)
  rw [lg_entry_eq]
  generalize (lg_sl ([.ref c0, .int p0]) ++ List.replicate (2 - (lg_sl ([.ref c0, .int p0])).length) Slot.unset).toArray = ls at hl ⊢
  have hl : lv_has ls 2 [(0, .ref c0), (1, .int p0)] := hl
  unfold fX6_placesOf at hf
  refine lv_aload_n hx hb dX6_placesOf_0 rfl (lv_at hl 0 rfl) ?_
  refine lv_iload_n hx hb dX6_placesOf_1 rfl (lv_at hl 1 rfl) ?_
  obtain ⟨r_1, e_1, x_1, k_1⟩ := xt hf
  refine xcallVv (W0 := (wC c0 h k0 x0 d0 ++ (wS g h a1 a2 a3 a4 σ))) (Wc := (wC c0 h k0 x0 d0 ++ (wS g h a1 a2 a3 a4 σ))) (Wr := ([] : va_W)) (As := [.int p0]) (rest := []) [0, 1, 2, 3, 4, 5] [] [0, 1, 2, 3, 4, 5] 4 0 ⟨hx, hb, hml, hown, hts⟩ hP hD hE hZ hS hA (cX6_requireLine_ok l hl0 g c0 h k0 x0 d0 a1 a2 a3 a4 σ p0 _ e_1) (cwV 1 hts gX6_placesOf_X6_requireLine rfl rfl rfl hdX6_requireLine ⟨(Nat.le_of_ble_eq_true rfl), (Nat.le_of_ble_eq_true rfl)⟩) rfl rfl rfl (by decide) (by decide) (by decide) (by decide) rfl rfl rfl rfl hl.1 rfl (Nat.le_of_ble_eq_true rfl) ⟨(Nat.le_of_ble_eq_true rfl), (Nat.le_of_ble_eq_true rfl)⟩ dX6_placesOf_2 hnt hlocks ⟨(Nat.le_of_ble_eq_true rfl), (Nat.le_of_ble_eq_true rfl)⟩ x_1 (fun ok_1 H locs hP hD hS => ?_)
  have hf := k_1 () ok_1
  refine lv_aload_n hx hb dX6_placesOf_5 rfl (lv_at hl 0 rfl) ?_
  refine va_get (v := .ref h) (C := RX6) (T := TX6) (N := 4) hx hb hts fiX6_placesOf_X6 hown hE.1 hP 0 rfl rfl 0 (by decide) (hts _ flX6_placesOf_10) (fun _ h9 => h9) rfl dX6_placesOf_6 ?_
  refine lv_iload_n hx hb dX6_placesOf_9 rfl (lv_at hl 1 rfl) ?_
  obtain ⟨r_2, e_2, hf⟩ := bo hf
  refine pcallS (W0 := (wC c0 h k0 x0 d0 ++ (wS g h a1 a2 a3 a4 σ))) (As := [.ref h, .int p0]) (rest := []) [1, 2, 3, 4, 5] ⟨hx, hb, hml, hown, hts⟩ hP hE hZ hS (cX2_countPlaces_ok l g h a1 a2 a3 a4 σ p0 e_2) (va_cwS 2 hts gX6_placesOf_X2_countPlaces rfl rfl rfl hdX2_countPlaces.2 ⟨(Nat.le_of_ble_eq_true rfl), (Nat.le_of_ble_eq_true rfl)⟩) rfl rfl hl.1 rfl (Nat.le_of_ble_eq_true rfl) ⟨(Nat.le_of_ble_eq_true rfl), (Nat.le_of_ble_eq_true rfl)⟩ dX6_placesOf_10 ?_
  exact x_iret (v := r_2) hx hb hr hlocks hP hD hS ⟨(Nat.le_of_ble_eq_true rfl), (Nat.le_of_ble_eq_true rfl)⟩ (Option.some.inj hf).symm dX6_placesOf_13

def fX6_bestPlace (σ : Sh) (p0 : Int32) : Option (Except String (Int32)) := (xthen (fX6_requireLine σ p0) fun _ => ((fX2_best σ p0).bind fun r_2 => (some (.ok r_2))))
abbrev rmX6_bestPlace : Room := { frames := 7, cells := 1, slots := 6, locals := 127 }
theorem hdX6_bestPlace : yX6_bestPlace.cls = RX6 ∧ yX6_bestPlace.cls ≠ "java/lang/invoke/MethodHandle" ∧ yX6_bestPlace.cls ≠ "java/lang/invoke/VarHandle" ∧ (parseMethodDescriptor yX6_bestPlace.desc).map (fun d => d.parameters.length) = some 1 := by decide +kernel
theorem fiX6_bestPlace_X6 : ∀ w ∈ wsX60, w ∈ wsX6_bestPlace := by decide +kernel
theorem flX6_bestPlace_10 : (.fieldLink RX6 10 "ContourLabels" "sheet" "LContourLabels$Sheet;" : Cond) ∈ wsX6_bestPlace := by decide +kernel
set_option maxHeartbeats 4000000 in
set_option maxRecDepth 100000 in
theorem cX6_bestPlace_ok (l : Launch) (hl0 : l.stackTraces = false) (g : Gg) (c0 h k0 x0 d0 a1 a2 a3 a4 : Nat) (σ : Sh) (p0 : Int32) (sz : Nat) {o : Except String (Int32)} (hf : fX6_bestPlace σ p0 = some o) : vx_Met l yX6_bestPlace wsX6_bestPlace rmX6_bestPlace (va_Pc [.ref c0, .int p0] (PM g (wC c0 h k0 x0 d0 ++ (wS g h a1 a2 a3 a4 σ)) sz)) (QXi g (wC c0 h k0 x0 d0 ++ (wS g h a1 a2 a3 a4 σ)) (va_A (wC c0 h k0 x0 d0 ++ (wS g h a1 a2 a3 a4 σ)) sz) o) (XE g (wC c0 h k0 x0 d0 ++ (wS g h a1 a2 a3 a4 σ)) (va_A (wC c0 h k0 x0 d0 ++ (wS g h a1 a2 a3 a4 σ)) sz) o) 1 6 (va_A (wC c0 h k0 x0 d0 ++ (wS g h a1 a2 a3 a4 σ)) sz) := by
  refine vx_ofW (cc := cX6_bestPlace) (maxL := 2) (ret := (some .int)) (by decide) rfl ?_
  intro p e s m args below meth c s₁ B hml hnt hv
  obtain ⟨rfl, rfl, hP, hD0, hE, hZ⟩ := hv
  have hx := B.exec
  have hb := B.bytes
  have hr := B.returns
  have hts := atoms_spec (ws := wsX6_bestPlace) B.pre
  have hown : s.vm.findClass RX6 = some m.cls := findClass_of_methodNamed B.named
  have hlocks := B.notSynchronized
  have hD := hD0.self (sz := s.heap.size)
  generalize hAe : (va_A (wC c0 h k0 x0 d0 ++ (wS g h a1 a2 a3 a4 σ)) s.heap.size) = A at hD hZ ⊢
  have hA : ∀ q : Nat, s.heap.size ≤ q → A q := fun q h => by rw [← hAe]; exact Or.inr h
  have hS : va_S A s.heap s.heap [] := va_S.rf
  have hP : va_P g.1 vwCl (wC c0 h k0 x0 d0 ++ (wS g h a1 a2 a3 a4 σ)) s.heap := hP
  have hl := lv_entry ([.ref c0, .int p0]) (n := 2) (Nat.le_of_ble_eq_true rfl)
  rw [lg_entry_eq]
  generalize (lg_sl ([.ref c0, .int p0]) ++ List.replicate (2 - (lg_sl ([.ref c0, .int p0])).length) Slot.unset).toArray = ls at hl ⊢
  have hl : lv_has ls 2 [(0, .ref c0), (1, .int p0)] := hl
  unfold fX6_bestPlace at hf
  refine lv_aload_n hx hb dX6_bestPlace_0 rfl (lv_at hl 0 rfl) ?_
  refine lv_iload_n hx hb dX6_bestPlace_1 rfl (lv_at hl 1 rfl) ?_
  obtain ⟨r_1, e_1, x_1, k_1⟩ := xt hf
  refine xcallVv (W0 := (wC c0 h k0 x0 d0 ++ (wS g h a1 a2 a3 a4 σ))) (Wc := (wC c0 h k0 x0 d0 ++ (wS g h a1 a2 a3 a4 σ))) (Wr := ([] : va_W)) (As := [.int p0]) (rest := []) [0, 1, 2, 3, 4, 5] [] [0, 1, 2, 3, 4, 5] 4 0 ⟨hx, hb, hml, hown, hts⟩ hP hD hE hZ hS hA (cX6_requireLine_ok l hl0 g c0 h k0 x0 d0 a1 a2 a3 a4 σ p0 _ e_1) (cwV 1 hts gX6_bestPlace_X6_requireLine rfl rfl rfl hdX6_requireLine ⟨(Nat.le_of_ble_eq_true rfl), (Nat.le_of_ble_eq_true rfl)⟩) rfl rfl rfl (by decide) (by decide) (by decide) (by decide) rfl rfl rfl rfl hl.1 rfl (Nat.le_of_ble_eq_true rfl) ⟨(Nat.le_of_ble_eq_true rfl), (Nat.le_of_ble_eq_true rfl)⟩ dX6_bestPlace_2 hnt hlocks ⟨(Nat.le_of_ble_eq_true rfl), (Nat.le_of_ble_eq_true rfl)⟩ x_1 (fun ok_1 H locs hP hD hS => ?_)
  have hf := k_1 () ok_1
  refine lv_aload_n hx hb dX6_bestPlace_5 rfl (lv_at hl 0 rfl) ?_
  refine va_get (v := .ref h) (C := RX6) (T := TX6) (N := 4) hx hb hts fiX6_bestPlace_X6 hown hE.1 hP 0 rfl rfl 0 (by decide) (hts _ flX6_bestPlace_10) (fun _ h9 => h9) rfl dX6_bestPlace_6 ?_
  refine lv_iload_n hx hb dX6_bestPlace_9 rfl (lv_at hl 1 rfl) ?_
  obtain ⟨r_2, e_2, hf⟩ := bo hf
  refine pcallS (W0 := (wC c0 h k0 x0 d0 ++ (wS g h a1 a2 a3 a4 σ))) (As := [.ref h, .int p0]) (rest := []) [1, 2, 3, 4, 5] ⟨hx, hb, hml, hown, hts⟩ hP hE hZ hS (cX2_best_ok l g h a1 a2 a3 a4 σ p0 e_2) (va_cwS 2 hts gX6_bestPlace_X2_best rfl rfl rfl hdX2_best.2 ⟨(Nat.le_of_ble_eq_true rfl), (Nat.le_of_ble_eq_true rfl)⟩) rfl rfl hl.1 rfl (Nat.le_of_ble_eq_true rfl) ⟨(Nat.le_of_ble_eq_true rfl), (Nat.le_of_ble_eq_true rfl)⟩ dX6_bestPlace_10 ?_
  exact x_iret (v := r_2) hx hb hr hlocks hP hD hS ⟨(Nat.le_of_ble_eq_true rfl), (Nat.le_of_ble_eq_true rfl)⟩ (Option.some.inj hf).symm dX6_bestPlace_13

def fX6_isWithinByRays (σ : Sh) (p0 p1 : Int32) : Option (Except String (Bool)) := (xthen (fX6_requireLine σ p0) fun _ => (xthen (fX6_requirePoint p1) fun _ => ((fX5_goesRound σ p0 p1).bind fun r_3 => (some (.ok r_3)))))
abbrev rmX6_isWithinByRays : Room := { frames := 7, cells := 2, slots := 12, locals := 111 }
theorem hdX6_isWithinByRays : yX6_isWithinByRays.cls = RX6 ∧ yX6_isWithinByRays.cls ≠ "java/lang/invoke/MethodHandle" ∧ yX6_isWithinByRays.cls ≠ "java/lang/invoke/VarHandle" ∧ (parseMethodDescriptor yX6_isWithinByRays.desc).map (fun d => d.parameters.length) = some 2 := by decide +kernel
theorem fiX6_isWithinByRays_X6 : ∀ w ∈ wsX60, w ∈ wsX6_isWithinByRays := by decide +kernel
theorem flX6_isWithinByRays_10 : (.fieldLink RX6 10 "ContourLabels" "sheet" "LContourLabels$Sheet;" : Cond) ∈ wsX6_isWithinByRays := by decide +kernel
set_option maxHeartbeats 4000000 in
set_option maxRecDepth 100000 in
theorem cX6_isWithinByRays_ok (l : Launch) (hl0 : l.stackTraces = false) (g : Gg) (c0 h k0 x0 d0 a1 a2 a3 a4 : Nat) (σ : Sh) (p0 p1 : Int32) (sz : Nat) {o : Except String (Bool)} (hf : fX6_isWithinByRays σ p0 p1 = some o) : vx_Met l yX6_isWithinByRays wsX6_isWithinByRays rmX6_isWithinByRays (va_Pc [.ref c0, .int p0, .int p1] (PM g (wC c0 h k0 x0 d0 ++ (wS g h a1 a2 a3 a4 σ)) sz)) (QXb g (wC c0 h k0 x0 d0 ++ (wS g h a1 a2 a3 a4 σ)) (va_A (wC c0 h k0 x0 d0 ++ (wS g h a1 a2 a3 a4 σ)) sz) o) (XE g (wC c0 h k0 x0 d0 ++ (wS g h a1 a2 a3 a4 σ)) (va_A (wC c0 h k0 x0 d0 ++ (wS g h a1 a2 a3 a4 σ)) sz) o) 2 12 (va_A (wC c0 h k0 x0 d0 ++ (wS g h a1 a2 a3 a4 σ)) sz) := by
  refine vx_ofW (cc := cX6_isWithinByRays) (maxL := 3) (ret := (some .boolean)) (by decide) rfl ?_
  intro p e s m args below meth c s₁ B hml hnt hv
  obtain ⟨rfl, rfl, hP, hD0, hE, hZ⟩ := hv
  have hx := B.exec
  have hb := B.bytes
  have hr := B.returns
  have hts := atoms_spec (ws := wsX6_isWithinByRays) B.pre
  have hown : s.vm.findClass RX6 = some m.cls := findClass_of_methodNamed B.named
  have hlocks := B.notSynchronized
  have hD := hD0.self (sz := s.heap.size)
  generalize hAe : (va_A (wC c0 h k0 x0 d0 ++ (wS g h a1 a2 a3 a4 σ)) s.heap.size) = A at hD hZ ⊢
  have hA : ∀ q : Nat, s.heap.size ≤ q → A q := fun q h => by rw [← hAe]; exact Or.inr h
  have hS : va_S A s.heap s.heap [] := va_S.rf
  have hP : va_P g.1 vwCl (wC c0 h k0 x0 d0 ++ (wS g h a1 a2 a3 a4 σ)) s.heap := hP
  have hl := lv_entry ([.ref c0, .int p0, .int p1]) (n := 3) (Nat.le_of_ble_eq_true rfl)
  rw [lg_entry_eq]
  generalize (lg_sl ([.ref c0, .int p0, .int p1]) ++ List.replicate (3 - (lg_sl ([.ref c0, .int p0, .int p1])).length) Slot.unset).toArray = ls at hl ⊢
  have hl : lv_has ls 3 [(0, .ref c0), (1, .int p0), (2, .int p1)] := hl
  unfold fX6_isWithinByRays at hf
  refine lv_aload_n hx hb dX6_isWithinByRays_0 rfl (lv_at hl 0 rfl) ?_
  refine lv_iload_n hx hb dX6_isWithinByRays_1 rfl (lv_at hl 1 rfl) ?_
  obtain ⟨r_1, e_1, x_1, k_1⟩ := xt hf
  refine xcallVv (W0 := (wC c0 h k0 x0 d0 ++ (wS g h a1 a2 a3 a4 σ))) (Wc := (wC c0 h k0 x0 d0 ++ (wS g h a1 a2 a3 a4 σ))) (Wr := ([] : va_W)) (As := [.int p0]) (rest := []) [0, 1, 2, 3, 4, 5] [] [0, 1, 2, 3, 4, 5] 4 0 ⟨hx, hb, hml, hown, hts⟩ hP hD hE hZ hS hA (cX6_requireLine_ok l hl0 g c0 h k0 x0 d0 a1 a2 a3 a4 σ p0 _ e_1) (cwV 1 hts gX6_isWithinByRays_X6_requireLine rfl rfl rfl hdX6_requireLine ⟨(Nat.le_of_ble_eq_true rfl), (Nat.le_of_ble_eq_true rfl)⟩) rfl rfl rfl (by decide) (by decide) (by decide) (by decide) rfl rfl rfl rfl hl.1 rfl (Nat.le_of_ble_eq_true rfl) ⟨(Nat.le_of_ble_eq_true rfl), (Nat.le_of_ble_eq_true rfl)⟩ dX6_isWithinByRays_2 hnt hlocks ⟨(Nat.le_of_ble_eq_true rfl), (Nat.le_of_ble_eq_true rfl)⟩ x_1 (fun ok_1 H locs hP hD hS => ?_)
  have hf := k_1 () ok_1
  refine lv_iload_n hx hb dX6_isWithinByRays_5 rfl (lv_at hl 2 rfl) ?_
  obtain ⟨r_2, e_2, x_2, k_2⟩ := xt hf
  refine xcallSv (W0 := (wC c0 h k0 x0 d0 ++ (wS g h a1 a2 a3 a4 σ))) (Wc := ([] : va_W)) (Wr := (wC c0 h k0 x0 d0 ++ (wS g h a1 a2 a3 a4 σ))) (As := [.int p1]) (rest := []) [] [0, 1, 2, 3, 4, 5] [0, 1, 2, 3, 4, 5] ⟨hx, hb, hml, hown, hts⟩ hP hD hE hZ hS hA (cX6_requirePoint_ok l hl0 g  p1 _ e_2) (va_cwS 1 hts gX6_isWithinByRays_X6_requirePoint rfl rfl rfl hdX6_requirePoint.2 ⟨(Nat.le_of_ble_eq_true rfl), (Nat.le_of_ble_eq_true rfl)⟩) rfl rfl rfl (by decide) (by decide) (by decide) (by decide) rfl hl.1 rfl (Nat.le_of_ble_eq_true rfl) ⟨(Nat.le_of_ble_eq_true rfl), (Nat.le_of_ble_eq_true rfl)⟩ dX6_isWithinByRays_6 hnt hlocks ⟨(Nat.le_of_ble_eq_true rfl), (Nat.le_of_ble_eq_true rfl)⟩ x_2 (fun ok_2 H locs hP hD hS => ?_)
  have hf := k_2 () ok_2
  refine lv_aload_n hx hb dX6_isWithinByRays_9 rfl (lv_at hl 0 rfl) ?_
  refine va_get (v := .ref h) (C := RX6) (T := TX6) (N := 4) hx hb hts fiX6_isWithinByRays_X6 hown hE.1 hP 0 rfl rfl 0 (by decide) (hts _ flX6_isWithinByRays_10) (fun _ h9 => h9) rfl dX6_isWithinByRays_10 ?_
  refine lv_iload_n hx hb dX6_isWithinByRays_13 rfl (lv_at hl 1 rfl) ?_
  refine lv_iload_n hx hb dX6_isWithinByRays_14 rfl (lv_at hl 2 rfl) ?_
  obtain ⟨r_3, e_3, hf⟩ := bo hf
  refine pcallS (W0 := (wC c0 h k0 x0 d0 ++ (wS g h a1 a2 a3 a4 σ))) (As := [.ref h, .int p0, .int p1]) (rest := []) [1, 2, 3, 4, 5] ⟨hx, hb, hml, hown, hts⟩ hP hE hZ hS (cX5_goesRound_ok l g h a1 a2 a3 a4 σ p0 p1 e_3) (va_cwS 3 hts gX6_isWithinByRays_X5_goesRound rfl rfl rfl hdX5_goesRound.2 ⟨(Nat.le_of_ble_eq_true rfl), (Nat.le_of_ble_eq_true rfl)⟩) rfl rfl hl.1 rfl (Nat.le_of_ble_eq_true rfl) ⟨(Nat.le_of_ble_eq_true rfl), (Nat.le_of_ble_eq_true rfl)⟩ dX6_isWithinByRays_15 ?_
  exact x_zret (v := r_3) hx hb hr hlocks hP hD hS ⟨(Nat.le_of_ble_eq_true rfl), (Nat.le_of_ble_eq_true rfl)⟩ (Option.some.inj hf).symm dX6_isWithinByRays_18

def fX6_isWithinBySpreading (σ : Sh) (δ : Dr) (p0 p1 : Int32) : Option (Except String (Bool × Dr)) := (xthen (fX6_requireLine σ p0) fun _ => (xthen (fX6_requirePoint p1) fun _ => ((fX4_isRing σ p0).bind fun r_3 => (if r_3 = true then ((fX0_drawLine σ δ p0).bind fun r_5 => ((fX0_spread r_5).bind fun r_6 => ((fX0_isLeftOut r_6 p1).bind fun r_7 => (some (.ok (r_7, r_6)))))) else (some (.ok (false, δ)))))))
abbrev rmX6_isWithinBySpreading : Room := { frames := 7, cells := 2, slots := 12, locals := 111 }
theorem hdX6_isWithinBySpreading : yX6_isWithinBySpreading.cls = RX6 ∧ yX6_isWithinBySpreading.cls ≠ "java/lang/invoke/MethodHandle" ∧ yX6_isWithinBySpreading.cls ≠ "java/lang/invoke/VarHandle" ∧ (parseMethodDescriptor yX6_isWithinBySpreading.desc).map (fun d => d.parameters.length) = some 2 := by decide +kernel
theorem fiX6_isWithinBySpreading_X6 : ∀ w ∈ wsX60, w ∈ wsX6_isWithinBySpreading := by decide +kernel
theorem flX6_isWithinBySpreading_10 : (.fieldLink RX6 10 "ContourLabels" "sheet" "LContourLabels$Sheet;" : Cond) ∈ wsX6_isWithinBySpreading := by decide +kernel
theorem flX6_isWithinBySpreading_33 : (.fieldLink RX6 33 "ContourLabels" "drawing" "LContourLabels$Drawing;" : Cond) ∈ wsX6_isWithinBySpreading := by decide +kernel
set_option maxHeartbeats 4000000 in
set_option maxRecDepth 100000 in
theorem cX6_isWithinBySpreading_ok (l : Launch) (hl0 : l.stackTraces = false) (g : Gg) (c0 h k0 x0 d0 a1 a2 a3 a4 d1 d2 : Nat) (σ : Sh) (δ : Dr) (p0 p1 : Int32) (sz : Nat) {o : Except String (Bool × Dr)} (hf : fX6_isWithinBySpreading σ δ p0 p1 = some o) : vx_Met l yX6_isWithinBySpreading wsX6_isWithinBySpreading rmX6_isWithinBySpreading (va_Pc [.ref c0, .int p0, .int p1] (PM g (wC c0 h k0 x0 d0 ++ (wS g h a1 a2 a3 a4 σ ++ (wD g d0 d1 d2 δ))) sz)) (QXmb g (fun u => (wC c0 h k0 x0 d0 ++ (wS g h a1 a2 a3 a4 σ ++ (wD g d0 d1 d2 u)))) (va_A (wC c0 h k0 x0 d0 ++ (wS g h a1 a2 a3 a4 σ ++ (wD g d0 d1 d2 δ))) sz) o) (XE g (wC c0 h k0 x0 d0 ++ (wS g h a1 a2 a3 a4 σ ++ (wD g d0 d1 d2 δ))) (va_A (wC c0 h k0 x0 d0 ++ (wS g h a1 a2 a3 a4 σ ++ (wD g d0 d1 d2 δ))) sz) o) 2 12 (va_A (wC c0 h k0 x0 d0 ++ (wS g h a1 a2 a3 a4 σ ++ (wD g d0 d1 d2 δ))) sz) := by
  refine vx_ofW (cc := cX6_isWithinBySpreading) (maxL := 3) (ret := (some .boolean)) (by decide) rfl ?_
  intro p e s m args below meth c s₁ B hml hnt hv
  obtain ⟨rfl, rfl, hP, hD0, hE, hZ⟩ := hv
  have hx := B.exec
  have hb := B.bytes
  have hr := B.returns
  have hts := atoms_spec (ws := wsX6_isWithinBySpreading) B.pre
  have hown : s.vm.findClass RX6 = some m.cls := findClass_of_methodNamed B.named
  have hlocks := B.notSynchronized
  have hD := hD0.self (sz := s.heap.size)
  generalize hAe : (va_A (wC c0 h k0 x0 d0 ++ (wS g h a1 a2 a3 a4 σ ++ (wD g d0 d1 d2 δ))) s.heap.size) = A at hD hZ ⊢
  have hA : ∀ q : Nat, s.heap.size ≤ q → A q := fun q h => by rw [← hAe]; exact Or.inr h
  have hS : va_S A s.heap s.heap [] := va_S.rf
  have hP : va_P g.1 vwCl (wC c0 h k0 x0 d0 ++ (wS g h a1 a2 a3 a4 σ ++ (wD g d0 d1 d2 δ))) s.heap := hP
  have hl := lv_entry ([.ref c0, .int p0, .int p1]) (n := 3) (Nat.le_of_ble_eq_true rfl)
  rw [lg_entry_eq]
  generalize (lg_sl ([.ref c0, .int p0, .int p1]) ++ List.replicate (3 - (lg_sl ([.ref c0, .int p0, .int p1])).length) Slot.unset).toArray = ls at hl ⊢
  have hl : lv_has ls 3 [(0, .ref c0), (1, .int p0), (2, .int p1)] := hl
  unfold fX6_isWithinBySpreading at hf
  refine lv_aload_n hx hb dX6_isWithinBySpreading_0 rfl (lv_at hl 0 rfl) ?_
  refine lv_iload_n hx hb dX6_isWithinBySpreading_1 rfl (lv_at hl 1 rfl) ?_
  obtain ⟨r_1, e_1, x_1, k_1⟩ := xt hf
  refine xcallVv (W0 := (wC c0 h k0 x0 d0 ++ (wS g h a1 a2 a3 a4 σ ++ (wD g d0 d1 d2 δ)))) (Wc := (wC c0 h k0 x0 d0 ++ (wS g h a1 a2 a3 a4 σ))) (Wr := (wD g d0 d1 d2 δ)) (As := [.int p0]) (rest := []) [0, 1, 2, 3, 4, 5] [6, 7, 8] [3, 4, 5, 6, 7, 8, 0, 1, 2] 4 0 ⟨hx, hb, hml, hown, hts⟩ hP hD hE hZ hS hA (cX6_requireLine_ok l hl0 g c0 h k0 x0 d0 a1 a2 a3 a4 σ p0 _ e_1) (cwV 1 hts gX6_isWithinBySpreading_X6_requireLine rfl rfl rfl hdX6_requireLine ⟨(Nat.le_of_ble_eq_true rfl), (Nat.le_of_ble_eq_true rfl)⟩) rfl rfl rfl (by decide) (by decide) (by decide) (by decide) rfl rfl rfl rfl hl.1 rfl (Nat.le_of_ble_eq_true rfl) ⟨(Nat.le_of_ble_eq_true rfl), (Nat.le_of_ble_eq_true rfl)⟩ dX6_isWithinBySpreading_2 hnt hlocks ⟨(Nat.le_of_ble_eq_true rfl), (Nat.le_of_ble_eq_true rfl)⟩ x_1 (fun ok_1 H locs hP hD hS => ?_)
  have hf := k_1 () ok_1
  refine lv_iload_n hx hb dX6_isWithinBySpreading_5 rfl (lv_at hl 2 rfl) ?_
  obtain ⟨r_2, e_2, x_2, k_2⟩ := xt hf
  refine xcallSv (W0 := (wC c0 h k0 x0 d0 ++ (wS g h a1 a2 a3 a4 σ ++ (wD g d0 d1 d2 δ)))) (Wc := ([] : va_W)) (Wr := (wC c0 h k0 x0 d0 ++ (wS g h a1 a2 a3 a4 σ ++ (wD g d0 d1 d2 δ)))) (As := [.int p1]) (rest := []) [] [0, 1, 2, 3, 4, 5, 6, 7, 8] [0, 1, 2, 3, 4, 5, 6, 7, 8] ⟨hx, hb, hml, hown, hts⟩ hP hD hE hZ hS hA (cX6_requirePoint_ok l hl0 g  p1 _ e_2) (va_cwS 1 hts gX6_isWithinBySpreading_X6_requirePoint rfl rfl rfl hdX6_requirePoint.2 ⟨(Nat.le_of_ble_eq_true rfl), (Nat.le_of_ble_eq_true rfl)⟩) rfl rfl rfl (by decide) (by decide) (by decide) (by decide) rfl hl.1 rfl (Nat.le_of_ble_eq_true rfl) ⟨(Nat.le_of_ble_eq_true rfl), (Nat.le_of_ble_eq_true rfl)⟩ dX6_isWithinBySpreading_6 hnt hlocks ⟨(Nat.le_of_ble_eq_true rfl), (Nat.le_of_ble_eq_true rfl)⟩ x_2 (fun ok_2 H locs hP hD hS => ?_)
  have hf := k_2 () ok_2
  refine lv_aload_n hx hb dX6_isWithinBySpreading_9 rfl (lv_at hl 0 rfl) ?_
  refine va_get (v := .ref h) (C := RX6) (T := TX6) (N := 4) hx hb hts fiX6_isWithinBySpreading_X6 hown hE.1 hP 0 rfl rfl 0 (by decide) (hts _ flX6_isWithinBySpreading_10) (fun _ h9 => h9) rfl dX6_isWithinBySpreading_10 ?_
  refine lv_iload_n hx hb dX6_isWithinBySpreading_13 rfl (lv_at hl 1 rfl) ?_
  obtain ⟨r_3, e_3, hf⟩ := bo hf
  refine pcallV (W0 := (wC c0 h k0 x0 d0 ++ (wS g h a1 a2 a3 a4 σ ++ (wD g d0 d1 d2 δ)))) (As := [.int p0]) (rest := []) [1, 2, 3, 4, 5] 3 0 ⟨hx, hb, hml, hown, hts⟩ hP hE hZ hS (cX4_isRing_ok l g h a1 a2 a3 a4 σ p0 e_3) (cwV 1 hts gX6_isWithinBySpreading_X4_isRing rfl rfl rfl hdX4_isRing ⟨(Nat.le_of_ble_eq_true rfl), (Nat.le_of_ble_eq_true rfl)⟩) rfl rfl rfl rfl rfl hl.1 rfl (Nat.le_of_ble_eq_true rfl) ⟨(Nat.le_of_ble_eq_true rfl), (Nat.le_of_ble_eq_true rfl)⟩ dX6_isWithinBySpreading_14 ?_
  refine lv_bne (tgt := 22) hx hb dX6_isWithinBySpreading_17 (by decide) (fun c_4 => ?_) (fun c_4 => ?_)
  · have hf := ip c_4 hf
    refine lv_aload_n hx hb dX6_isWithinBySpreading_22 rfl (lv_at hl 0 rfl) ?_
    refine va_get (v := .ref d0) (C := RX6) (T := TX6) (N := 4) hx hb hts fiX6_isWithinBySpreading_X6 hown hE.1 hP 0 rfl rfl 3 (by decide) (hts _ flX6_isWithinBySpreading_33) (fun _ h9 => h9) rfl dX6_isWithinBySpreading_23 ?_
    refine lv_aload_n hx hb dX6_isWithinBySpreading_26 rfl (lv_at hl 0 rfl) ?_
    refine va_get (v := .ref h) (C := RX6) (T := TX6) (N := 4) hx hb hts fiX6_isWithinBySpreading_X6 hown hE.1 hP 0 rfl rfl 0 (by decide) (hts _ flX6_isWithinBySpreading_10) (fun _ h9 => h9) rfl dX6_isWithinBySpreading_27 ?_
    refine lv_iload_n hx hb dX6_isWithinBySpreading_30 rfl (lv_at hl 1 rfl) ?_
    obtain ⟨r_5, e_5, hf⟩ := bo hf
    refine mcallVv (W0 := (wC c0 h k0 x0 d0 ++ (wS g h a1 a2 a3 a4 σ ++ (wD g d0 d1 d2 δ)))) (Wc := (wS g h a1 a2 a3 a4 σ ++ (wD g d0 d1 d2 δ))) (Wr := (wC c0 h k0 x0 d0)) (W1 := (wS g h a1 a2 a3 a4 σ ++ (wD g d0 d1 d2 r_5))) (W2 := (wC c0 h k0 x0 d0 ++ (wS g h a1 a2 a3 a4 σ ++ (wD g d0 d1 d2 r_5)))) (As := [.ref h, .int p0]) (rest := []) [1, 2, 3, 4, 5, 6, 7, 8] [0] [0, 1, 2, 3, 4, 5, 6, 7, 8] 0 5 ⟨hx, hb, hml, hown, hts⟩ hP hD hE hZ hS hA (cX0_drawLine_ok l g h a1 a2 a3 a4 d0 d1 d2 σ δ p0 _ e_5) (cwV 2 hts gX6_isWithinBySpreading_X0_drawLine rfl rfl rfl hdX0_drawLine ⟨(Nat.le_of_ble_eq_true rfl), (Nat.le_of_ble_eq_true rfl)⟩) rfl rfl rfl (by decide) (by decide) (by decide) (by decide) rfl rfl rfl rfl hl.1 rfl (Nat.le_of_ble_eq_true rfl) ⟨(Nat.le_of_ble_eq_true rfl), (Nat.le_of_ble_eq_true rfl)⟩ dX6_isWithinBySpreading_31 (fun H locs hP hD hS => ?_)
    refine lv_aload_n hx hb dX6_isWithinBySpreading_34 rfl (lv_at hl 0 rfl) ?_
    refine va_get (v := .ref d0) (C := RX6) (T := TX6) (N := 4) hx hb hts fiX6_isWithinBySpreading_X6 hown hE.1 hP 0 rfl rfl 3 (by decide) (hts _ flX6_isWithinBySpreading_33) (fun _ h9 => h9) rfl dX6_isWithinBySpreading_35 ?_
    obtain ⟨r_6, e_6, hf⟩ := bo hf
    refine mcallVv (W0 := (wC c0 h k0 x0 d0 ++ (wS g h a1 a2 a3 a4 σ ++ (wD g d0 d1 d2 r_5)))) (Wc := (wD g d0 d1 d2 r_5)) (Wr := (wC c0 h k0 x0 d0 ++ (wS g h a1 a2 a3 a4 σ))) (W1 := (wD g d0 d1 d2 r_6)) (W2 := (wC c0 h k0 x0 d0 ++ (wS g h a1 a2 a3 a4 σ ++ (wD g d0 d1 d2 r_6)))) (As := []) (rest := []) [6, 7, 8] [0, 1, 2, 3, 4, 5] [0, 1, 2, 3, 4, 5, 6, 7, 8] 0 0 ⟨hx, hb, hml, hown, hts⟩ hP hD hE hZ hS hA (cX0_spread_ok l g d0 d1 d2 r_5 _ e_6) (cwV 0 hts gX6_isWithinBySpreading_X0_spread rfl rfl rfl hdX0_spread ⟨(Nat.le_of_ble_eq_true rfl), (Nat.le_of_ble_eq_true rfl)⟩) rfl rfl rfl (by decide) (by decide) (by decide) (by decide) rfl rfl rfl rfl hl.1 rfl (Nat.le_of_ble_eq_true rfl) ⟨(Nat.le_of_ble_eq_true rfl), (Nat.le_of_ble_eq_true rfl)⟩ dX6_isWithinBySpreading_38 (fun H locs hP hD hS => ?_)
    refine lv_aload_n hx hb dX6_isWithinBySpreading_41 rfl (lv_at hl 0 rfl) ?_
    refine va_get (v := .ref d0) (C := RX6) (T := TX6) (N := 4) hx hb hts fiX6_isWithinBySpreading_X6 hown hE.1 hP 0 rfl rfl 3 (by decide) (hts _ flX6_isWithinBySpreading_33) (fun _ h9 => h9) rfl dX6_isWithinBySpreading_42 ?_
    refine lv_iload_n hx hb dX6_isWithinBySpreading_45 rfl (lv_at hl 2 rfl) ?_
    obtain ⟨r_7, e_7, hf⟩ := bo hf
    refine pcallV (W0 := (wC c0 h k0 x0 d0 ++ (wS g h a1 a2 a3 a4 σ ++ (wD g d0 d1 d2 r_6)))) (As := [.int p1]) (rest := []) [6, 7, 8] 0 0 ⟨hx, hb, hml, hown, hts⟩ hP hE hZ hS (cX0_isLeftOut_ok l g d0 d1 d2 r_6 p1 e_7) (cwV 1 hts gX6_isWithinBySpreading_X0_isLeftOut rfl rfl rfl hdX0_isLeftOut ⟨(Nat.le_of_ble_eq_true rfl), (Nat.le_of_ble_eq_true rfl)⟩) rfl rfl rfl rfl rfl hl.1 rfl (Nat.le_of_ble_eq_true rfl) ⟨(Nat.le_of_ble_eq_true rfl), (Nat.le_of_ble_eq_true rfl)⟩ dX6_isWithinBySpreading_46 ?_
    exact xm_zret (r_6) (v := r_7) hx hb hr hlocks hP hD hS ⟨(Nat.le_of_ble_eq_true rfl), (Nat.le_of_ble_eq_true rfl)⟩ (Option.some.inj hf).symm dX6_isWithinBySpreading_49
  · have hf := iq c_4 hf
    refine lv_iconst (v := (0 : Int32)) hx hb dX6_isWithinBySpreading_20 (by decide) ?_
    exact xm_zret (δ) (v := false) hx hb hr hlocks hP hD hS ⟨(Nat.le_of_ble_eq_true rfl), (Nat.le_of_ble_eq_true rfl)⟩ (Option.some.inj hf).symm dX6_isWithinBySpreading_21

def fX6_pointsWithin_9 (σ : Sh) (p0 : Int32) : Nat → Int32 → Int32 → Option (Except String (Int32))
  | 0, _, _ => none
  | n + 1, v2_9, v3_9 => (if (384 : Int32) ≤ v3_9 then (some (.ok v2_9)) else ((fX5_goesRound σ p0 v3_9).bind fun r_2 => (if r_2 = true then fX6_pointsWithin_9 σ p0 n (v2_9 + 1) (v3_9 + 1) else fX6_pointsWithin_9 σ p0 n v2_9 (v3_9 + 1))))
def fX6_pointsWithin (σ : Sh) (p0 : Int32) : Option (Except String (Int32)) := (xthen (fX6_requireLine σ p0) fun _ => fX6_pointsWithin_9 σ p0 FU (0 : Int32) (0 : Int32))
abbrev rmX6_pointsWithin : Room := { frames := 7, cells := 1, slots := 6, locals := 111 }
theorem hdX6_pointsWithin : yX6_pointsWithin.cls = RX6 ∧ yX6_pointsWithin.cls ≠ "java/lang/invoke/MethodHandle" ∧ yX6_pointsWithin.cls ≠ "java/lang/invoke/VarHandle" ∧ (parseMethodDescriptor yX6_pointsWithin.desc).map (fun d => d.parameters.length) = some 1 := by decide +kernel
theorem fiX6_pointsWithin_X6 : ∀ w ∈ wsX60, w ∈ wsX6_pointsWithin := by decide +kernel
theorem flX6_pointsWithin_10 : (.fieldLink RX6 10 "ContourLabels" "sheet" "LContourLabels$Sheet;" : Cond) ∈ wsX6_pointsWithin := by decide +kernel
set_option maxHeartbeats 4000000 in
set_option maxRecDepth 100000 in
theorem cX6_pointsWithin_ok (l : Launch) (hl0 : l.stackTraces = false) (g : Gg) (c0 h k0 x0 d0 a1 a2 a3 a4 : Nat) (σ : Sh) (p0 : Int32) (sz : Nat) {o : Except String (Int32)} (hf : fX6_pointsWithin σ p0 = some o) : vx_Met l yX6_pointsWithin wsX6_pointsWithin rmX6_pointsWithin (va_Pc [.ref c0, .int p0] (PM g (wC c0 h k0 x0 d0 ++ (wS g h a1 a2 a3 a4 σ)) sz)) (QXi g (wC c0 h k0 x0 d0 ++ (wS g h a1 a2 a3 a4 σ)) (va_A (wC c0 h k0 x0 d0 ++ (wS g h a1 a2 a3 a4 σ)) sz) o) (XE g (wC c0 h k0 x0 d0 ++ (wS g h a1 a2 a3 a4 σ)) (va_A (wC c0 h k0 x0 d0 ++ (wS g h a1 a2 a3 a4 σ)) sz) o) 1 6 (va_A (wC c0 h k0 x0 d0 ++ (wS g h a1 a2 a3 a4 σ)) sz) := by
  refine vx_ofW (cc := cX6_pointsWithin) (maxL := 4) (ret := (some .int)) (by decide) rfl ?_
  intro p e s m args below meth c s₁ B hml hnt hv
  obtain ⟨rfl, rfl, hP, hD0, hE, hZ⟩ := hv
  have hx := B.exec
  have hb := B.bytes
  have hr := B.returns
  have hts := atoms_spec (ws := wsX6_pointsWithin) B.pre
  have hown : s.vm.findClass RX6 = some m.cls := findClass_of_methodNamed B.named
  have hlocks := B.notSynchronized
  have hD := hD0.self (sz := s.heap.size)
  generalize hAe : (va_A (wC c0 h k0 x0 d0 ++ (wS g h a1 a2 a3 a4 σ)) s.heap.size) = A at hD hZ ⊢
  have hA : ∀ q : Nat, s.heap.size ≤ q → A q := fun q h => by rw [← hAe]; exact Or.inr h
  have hS : va_S A s.heap s.heap [] := va_S.rf
  have hP : va_P g.1 vwCl (wC c0 h k0 x0 d0 ++ (wS g h a1 a2 a3 a4 σ)) s.heap := hP
  have hl := lv_entry ([.ref c0, .int p0]) (n := 4) (Nat.le_of_ble_eq_true rfl)
  rw [lg_entry_eq]
  generalize (lg_sl ([.ref c0, .int p0]) ++ List.replicate (4 - (lg_sl ([.ref c0, .int p0])).length) Slot.unset).toArray = ls at hl ⊢
  have hl : lv_has ls 4 [(0, .ref c0), (1, .int p0)] := hl
  have hB9 : ∀ (n9 : Nat) (v2_9 : Int32) (v3_9 : Int32) (H : Heap) (locs : List Loc) (ls : Array Slot), va_P g.1 vwCl (wC c0 h k0 x0 d0 ++ (wS g h a1 a2 a3 a4 σ)) H → va_D A (wC c0 h k0 x0 d0 ++ (wS g h a1 a2 a3 a4 σ)) → va_S A s.heap H locs → lv_has ls 4 [(0, .ref c0), (1, .int p0), (2, .int v2_9), (3, .int v3_9)] → fX6_pointsWithin_9 σ p0 n9 v2_9 v3_9 = some o → W p l e (headSpec wsX6_pointsWithin rmX6_pointsWithin).room s m ([.ref c0, .int p0] : List Value).toArray below meth c H locs 1 6 (vx_MQ below (QXi g (wC c0 h k0 x0 d0 ++ (wS g h a1 a2 a3 a4 σ)) A o) (XE g (wC c0 h k0 x0 d0 ++ (wS g h a1 a2 a3 a4 σ)) A o) ([.ref c0, .int p0] : List Value).toArray s 1 6 A) (F0 m 9 ls []) := by
    intro  n9
    induction n9 with
    | zero => intro v2_9 v3_9 H locs ls hP hD hS hl hf; exact nomatch (show (none : Option (Except String (Int32))) = some _ from hf)
    | succ n9 ih9 =>
      intro v2_9 v3_9 H locs ls hP hD hS hl hf
      rw [fX6_pointsWithin_9] at hf
      refine lv_iload_n hx hb dX6_pointsWithin_9 rfl (lv_at hl 3 rfl) ?_
      refine lv_sipush (v := (384 : Int32)) hx hb dX6_pointsWithin_10 (by decide) ?_
      refine lv_icmp_ge (tgt := 37) hx hb dX6_pointsWithin_13 (by decide) (fun c_1 => ?_) (fun c_1 => ?_)
      · have hf := ip c_1 hf
        refine lv_iload_n hx hb dX6_pointsWithin_37 rfl (lv_at hl 2 rfl) ?_
        exact x_iret (v := v2_9) hx hb hr hlocks hP hD hS ⟨(Nat.le_of_ble_eq_true rfl), (Nat.le_of_ble_eq_true rfl)⟩ (Option.some.inj hf).symm dX6_pointsWithin_38
      · have hf := iq c_1 hf
        refine lv_aload_n hx hb dX6_pointsWithin_16 rfl (lv_at hl 0 rfl) ?_
        refine va_get (v := .ref h) (C := RX6) (T := TX6) (N := 4) hx hb hts fiX6_pointsWithin_X6 hown hE.1 hP 0 rfl rfl 0 (by decide) (hts _ flX6_pointsWithin_10) (fun _ h9 => h9) rfl dX6_pointsWithin_17 ?_
        refine lv_iload_n hx hb dX6_pointsWithin_20 rfl (lv_at hl 1 rfl) ?_
        refine lv_iload_n hx hb dX6_pointsWithin_21 rfl (lv_at hl 3 rfl) ?_
        obtain ⟨r_2, e_2, hf⟩ := bo hf
        refine pcallS (W0 := (wC c0 h k0 x0 d0 ++ (wS g h a1 a2 a3 a4 σ))) (As := [.ref h, .int p0, .int v3_9]) (rest := []) [1, 2, 3, 4, 5] ⟨hx, hb, hml, hown, hts⟩ hP hE hZ hS (cX5_goesRound_ok l g h a1 a2 a3 a4 σ p0 v3_9 e_2) (va_cwS 3 hts gX6_pointsWithin_X5_goesRound rfl rfl rfl hdX5_goesRound.2 ⟨(Nat.le_of_ble_eq_true rfl), (Nat.le_of_ble_eq_true rfl)⟩) rfl rfl hl.1 rfl (Nat.le_of_ble_eq_true rfl) ⟨(Nat.le_of_ble_eq_true rfl), (Nat.le_of_ble_eq_true rfl)⟩ dX6_pointsWithin_22 ?_
        refine lv_beq (tgt := 31) hx hb dX6_pointsWithin_25 (by decide) (fun c_3 => ?_) (fun c_3 => ?_)
        · have hf := iq c_3 hf
          refine lv_iinc (v := (v3_9 + 1)) (lv' := [(3, .int (v3_9 + 1)), (0, .ref c0), (1, .int p0), (2, .int v2_9)]) hx hb dX6_pointsWithin_31 hl (k := 3) rfl rfl (by decide) rfl (fun ls hl => ?_)
          refine lv_goto (tgt := 9) hx hb dX6_pointsWithin_34 (by decide) ?_
          exact ih9 v2_9 (v3_9 + 1) _ _ ls hP hD hS (lv_sub hl [1, 2, 3, 0] rfl) hf
        · have hf := ip c_3 hf
          refine lv_iinc (v := (v2_9 + 1)) (lv' := [(2, .int (v2_9 + 1)), (0, .ref c0), (1, .int p0), (3, .int v3_9)]) hx hb dX6_pointsWithin_28 hl (k := 2) rfl rfl (by decide) rfl (fun ls hl => ?_)
          refine lv_iinc (v := (v3_9 + 1)) (lv' := [(3, .int (v3_9 + 1)), (2, .int (v2_9 + 1)), (0, .ref c0), (1, .int p0)]) hx hb dX6_pointsWithin_31 hl (k := 3) rfl rfl (by decide) rfl (fun ls hl => ?_)
          refine lv_goto (tgt := 9) hx hb dX6_pointsWithin_34 (by decide) ?_
          exact ih9 (v2_9 + 1) (v3_9 + 1) _ _ ls hP hD hS (lv_sub hl [2, 3, 1, 0] rfl) hf
  unfold fX6_pointsWithin at hf
  refine lv_aload_n hx hb dX6_pointsWithin_0 rfl (lv_at hl 0 rfl) ?_
  refine lv_iload_n hx hb dX6_pointsWithin_1 rfl (lv_at hl 1 rfl) ?_
  obtain ⟨r_4, e_4, x_4, k_4⟩ := xt hf
  refine xcallVv (W0 := (wC c0 h k0 x0 d0 ++ (wS g h a1 a2 a3 a4 σ))) (Wc := (wC c0 h k0 x0 d0 ++ (wS g h a1 a2 a3 a4 σ))) (Wr := ([] : va_W)) (As := [.int p0]) (rest := []) [0, 1, 2, 3, 4, 5] [] [0, 1, 2, 3, 4, 5] 4 0 ⟨hx, hb, hml, hown, hts⟩ hP hD hE hZ hS hA (cX6_requireLine_ok l hl0 g c0 h k0 x0 d0 a1 a2 a3 a4 σ p0 _ e_4) (cwV 1 hts gX6_pointsWithin_X6_requireLine rfl rfl rfl hdX6_requireLine ⟨(Nat.le_of_ble_eq_true rfl), (Nat.le_of_ble_eq_true rfl)⟩) rfl rfl rfl (by decide) (by decide) (by decide) (by decide) rfl rfl rfl rfl hl.1 rfl (Nat.le_of_ble_eq_true rfl) ⟨(Nat.le_of_ble_eq_true rfl), (Nat.le_of_ble_eq_true rfl)⟩ dX6_pointsWithin_2 hnt hlocks ⟨(Nat.le_of_ble_eq_true rfl), (Nat.le_of_ble_eq_true rfl)⟩ x_4 (fun ok_4 H locs hP hD hS => ?_)
  have hf := k_4 () ok_4
  refine lv_iconst (v := (0 : Int32)) hx hb dX6_pointsWithin_5 (by decide) ?_
  refine lv_istore_n (lv' := [(2, .int (0 : Int32)), (0, .ref c0), (1, .int p0)]) hx hb dX6_pointsWithin_6 rfl hl (by decide) rfl (fun ls hl => ?_)
  refine lv_iconst (v := (0 : Int32)) hx hb dX6_pointsWithin_7 (by decide) ?_
  refine lv_istore_n (lv' := [(3, .int (0 : Int32)), (2, .int (0 : Int32)), (0, .ref c0), (1, .int p0)]) hx hb dX6_pointsWithin_8 rfl hl (by decide) rfl (fun ls hl => ?_)
  exact hB9 FU (0 : Int32) (0 : Int32) _ _ ls hP hD hS (lv_sub hl [2, 3, 1, 0] rfl) hf

def fX6_lineRound (σ : Sh) (p0 : Int32) : Option (Except String (Int32)) := (xthen (fX6_requireLine σ p0) fun _ => ((fX5_innermostRound σ p0).bind fun r_2 => (some (.ok r_2))))
abbrev rmX6_lineRound : Room := { frames := 7, cells := 1, slots := 6, locals := 111 }
theorem hdX6_lineRound : yX6_lineRound.cls = RX6 ∧ yX6_lineRound.cls ≠ "java/lang/invoke/MethodHandle" ∧ yX6_lineRound.cls ≠ "java/lang/invoke/VarHandle" ∧ (parseMethodDescriptor yX6_lineRound.desc).map (fun d => d.parameters.length) = some 1 := by decide +kernel
theorem fiX6_lineRound_X6 : ∀ w ∈ wsX60, w ∈ wsX6_lineRound := by decide +kernel
theorem flX6_lineRound_10 : (.fieldLink RX6 10 "ContourLabels" "sheet" "LContourLabels$Sheet;" : Cond) ∈ wsX6_lineRound := by decide +kernel
set_option maxHeartbeats 4000000 in
set_option maxRecDepth 100000 in
theorem cX6_lineRound_ok (l : Launch) (hl0 : l.stackTraces = false) (g : Gg) (c0 h k0 x0 d0 a1 a2 a3 a4 : Nat) (σ : Sh) (p0 : Int32) (sz : Nat) {o : Except String (Int32)} (hf : fX6_lineRound σ p0 = some o) : vx_Met l yX6_lineRound wsX6_lineRound rmX6_lineRound (va_Pc [.ref c0, .int p0] (PM g (wC c0 h k0 x0 d0 ++ (wS g h a1 a2 a3 a4 σ)) sz)) (QXi g (wC c0 h k0 x0 d0 ++ (wS g h a1 a2 a3 a4 σ)) (va_A (wC c0 h k0 x0 d0 ++ (wS g h a1 a2 a3 a4 σ)) sz) o) (XE g (wC c0 h k0 x0 d0 ++ (wS g h a1 a2 a3 a4 σ)) (va_A (wC c0 h k0 x0 d0 ++ (wS g h a1 a2 a3 a4 σ)) sz) o) 1 6 (va_A (wC c0 h k0 x0 d0 ++ (wS g h a1 a2 a3 a4 σ)) sz) := by
  refine vx_ofW (cc := cX6_lineRound) (maxL := 2) (ret := (some .int)) (by decide) rfl ?_
  intro p e s m args below meth c s₁ B hml hnt hv
  obtain ⟨rfl, rfl, hP, hD0, hE, hZ⟩ := hv
  have hx := B.exec
  have hb := B.bytes
  have hr := B.returns
  have hts := atoms_spec (ws := wsX6_lineRound) B.pre
  have hown : s.vm.findClass RX6 = some m.cls := findClass_of_methodNamed B.named
  have hlocks := B.notSynchronized
  have hD := hD0.self (sz := s.heap.size)
  generalize hAe : (va_A (wC c0 h k0 x0 d0 ++ (wS g h a1 a2 a3 a4 σ)) s.heap.size) = A at hD hZ ⊢
  have hA : ∀ q : Nat, s.heap.size ≤ q → A q := fun q h => by rw [← hAe]; exact Or.inr h
  have hS : va_S A s.heap s.heap [] := va_S.rf
  have hP : va_P g.1 vwCl (wC c0 h k0 x0 d0 ++ (wS g h a1 a2 a3 a4 σ)) s.heap := hP
  have hl := lv_entry ([.ref c0, .int p0]) (n := 2) (Nat.le_of_ble_eq_true rfl)
  rw [lg_entry_eq]
  generalize (lg_sl ([.ref c0, .int p0]) ++ List.replicate (2 - (lg_sl ([.ref c0, .int p0])).length) Slot.unset).toArray = ls at hl ⊢
  have hl : lv_has ls 2 [(0, .ref c0), (1, .int p0)] := hl
  unfold fX6_lineRound at hf
  refine lv_aload_n hx hb dX6_lineRound_0 rfl (lv_at hl 0 rfl) ?_
  refine lv_iload_n hx hb dX6_lineRound_1 rfl (lv_at hl 1 rfl) ?_
  obtain ⟨r_1, e_1, x_1, k_1⟩ := xt hf
  refine xcallVv (W0 := (wC c0 h k0 x0 d0 ++ (wS g h a1 a2 a3 a4 σ))) (Wc := (wC c0 h k0 x0 d0 ++ (wS g h a1 a2 a3 a4 σ))) (Wr := ([] : va_W)) (As := [.int p0]) (rest := []) [0, 1, 2, 3, 4, 5] [] [0, 1, 2, 3, 4, 5] 4 0 ⟨hx, hb, hml, hown, hts⟩ hP hD hE hZ hS hA (cX6_requireLine_ok l hl0 g c0 h k0 x0 d0 a1 a2 a3 a4 σ p0 _ e_1) (cwV 1 hts gX6_lineRound_X6_requireLine rfl rfl rfl hdX6_requireLine ⟨(Nat.le_of_ble_eq_true rfl), (Nat.le_of_ble_eq_true rfl)⟩) rfl rfl rfl (by decide) (by decide) (by decide) (by decide) rfl rfl rfl rfl hl.1 rfl (Nat.le_of_ble_eq_true rfl) ⟨(Nat.le_of_ble_eq_true rfl), (Nat.le_of_ble_eq_true rfl)⟩ dX6_lineRound_2 hnt hlocks ⟨(Nat.le_of_ble_eq_true rfl), (Nat.le_of_ble_eq_true rfl)⟩ x_1 (fun ok_1 H locs hP hD hS => ?_)
  have hf := k_1 () ok_1
  refine lv_aload_n hx hb dX6_lineRound_5 rfl (lv_at hl 0 rfl) ?_
  refine va_get (v := .ref h) (C := RX6) (T := TX6) (N := 4) hx hb hts fiX6_lineRound_X6 hown hE.1 hP 0 rfl rfl 0 (by decide) (hts _ flX6_lineRound_10) (fun _ h9 => h9) rfl dX6_lineRound_6 ?_
  refine lv_iload_n hx hb dX6_lineRound_9 rfl (lv_at hl 1 rfl) ?_
  obtain ⟨r_2, e_2, hf⟩ := bo hf
  refine pcallS (W0 := (wC c0 h k0 x0 d0 ++ (wS g h a1 a2 a3 a4 σ))) (As := [.ref h, .int p0]) (rest := []) [1, 2, 3, 4, 5] ⟨hx, hb, hml, hown, hts⟩ hP hE hZ hS (cX5_innermostRound_ok l g h a1 a2 a3 a4 σ p0 e_2) (va_cwS 2 hts gX6_lineRound_X5_innermostRound rfl rfl rfl hdX5_innermostRound.2 ⟨(Nat.le_of_ble_eq_true rfl), (Nat.le_of_ble_eq_true rfl)⟩) rfl rfl hl.1 rfl (Nat.le_of_ble_eq_true rfl) ⟨(Nat.le_of_ble_eq_true rfl), (Nat.le_of_ble_eq_true rfl)⟩ dX6_lineRound_10 ?_
  exact x_iret (v := r_2) hx hb hr hlocks hP hD hS ⟨(Nat.le_of_ble_eq_true rfl), (Nat.le_of_ble_eq_true rfl)⟩ (Option.some.inj hf).symm dX6_lineRound_13

def fX6_isSteady (σ : Sh) (p0 : Int32) : Option (Except String (Bool)) := (xthen (fX6_requireLine σ p0) fun _ => ((fX5_innermostRound σ p0).bind fun r_2 => (if r_2 = (-1 : Int32) then (some (.ok true)) else ((fX4_levelIn σ p0).bind fun r_4 => ((fX4_levelIn σ r_2).bind fun r_5 => (if (iabs (r_4 - r_5)) = (5 : Int32) then (some (.ok true)) else (some (.ok false))))))))
abbrev rmX6_isSteady : Room := { frames := 7, cells := 1, slots := 6, locals := 111 }
theorem hdX6_isSteady : yX6_isSteady.cls = RX6 ∧ yX6_isSteady.cls ≠ "java/lang/invoke/MethodHandle" ∧ yX6_isSteady.cls ≠ "java/lang/invoke/VarHandle" ∧ (parseMethodDescriptor yX6_isSteady.desc).map (fun d => d.parameters.length) = some 1 := by decide +kernel
theorem fiX6_isSteady_X6 : ∀ w ∈ wsX60, w ∈ wsX6_isSteady := by decide +kernel
theorem flX6_isSteady_10 : (.fieldLink RX6 10 "ContourLabels" "sheet" "LContourLabels$Sheet;" : Cond) ∈ wsX6_isSteady := by decide +kernel
theorem mlX6_isSteady_197 : (.methodLink RX6 197 Lib.Math.abs.name : Cond) ∈ wsX6_isSteady := by decide +kernel
theorem msX6_isSteady_abs : (.static Lib.Math.abs.name : Cond) ∈ wsX6_isSteady := by decide +kernel
theorem miX6_isSteady : (.initialized "java/lang/Math" : Cond) ∈ wsX6_isSteady := by decide +kernel
theorem mcX6_isSteady_abs : (.code Lib.Math.abs.name Lib.Math.abs.code 1 (some .int) : Cond) ∈ wsX6_isSteady := by decide +kernel
set_option maxHeartbeats 4000000 in
set_option maxRecDepth 100000 in
theorem cX6_isSteady_ok (l : Launch) (hl0 : l.stackTraces = false) (g : Gg) (c0 h k0 x0 d0 a1 a2 a3 a4 : Nat) (σ : Sh) (p0 : Int32) (sz : Nat) {o : Except String (Bool)} (hf : fX6_isSteady σ p0 = some o) : vx_Met l yX6_isSteady wsX6_isSteady rmX6_isSteady (va_Pc [.ref c0, .int p0] (PM g (wC c0 h k0 x0 d0 ++ (wS g h a1 a2 a3 a4 σ)) sz)) (QXb g (wC c0 h k0 x0 d0 ++ (wS g h a1 a2 a3 a4 σ)) (va_A (wC c0 h k0 x0 d0 ++ (wS g h a1 a2 a3 a4 σ)) sz) o) (XE g (wC c0 h k0 x0 d0 ++ (wS g h a1 a2 a3 a4 σ)) (va_A (wC c0 h k0 x0 d0 ++ (wS g h a1 a2 a3 a4 σ)) sz) o) 1 6 (va_A (wC c0 h k0 x0 d0 ++ (wS g h a1 a2 a3 a4 σ)) sz) := by
  refine vx_ofW (cc := cX6_isSteady) (maxL := 3) (ret := (some .boolean)) (by decide) rfl ?_
  intro p e s m args below meth c s₁ B hml hnt hv
  obtain ⟨rfl, rfl, hP, hD0, hE, hZ⟩ := hv
  have hx := B.exec
  have hb := B.bytes
  have hr := B.returns
  have hts := atoms_spec (ws := wsX6_isSteady) B.pre
  have hown : s.vm.findClass RX6 = some m.cls := findClass_of_methodNamed B.named
  have hlocks := B.notSynchronized
  have hD := hD0.self (sz := s.heap.size)
  generalize hAe : (va_A (wC c0 h k0 x0 d0 ++ (wS g h a1 a2 a3 a4 σ)) s.heap.size) = A at hD hZ ⊢
  have hA : ∀ q : Nat, s.heap.size ≤ q → A q := fun q h => by rw [← hAe]; exact Or.inr h
  have hS : va_S A s.heap s.heap [] := va_S.rf
  have hP : va_P g.1 vwCl (wC c0 h k0 x0 d0 ++ (wS g h a1 a2 a3 a4 σ)) s.heap := hP
  have hl := lv_entry ([.ref c0, .int p0]) (n := 3) (Nat.le_of_ble_eq_true rfl)
  rw [lg_entry_eq]
  generalize (lg_sl ([.ref c0, .int p0]) ++ List.replicate (3 - (lg_sl ([.ref c0, .int p0])).length) Slot.unset).toArray = ls at hl ⊢
  have hl : lv_has ls 3 [(0, .ref c0), (1, .int p0)] := hl
  unfold fX6_isSteady at hf
  refine lv_aload_n hx hb dX6_isSteady_0 rfl (lv_at hl 0 rfl) ?_
  refine lv_iload_n hx hb dX6_isSteady_1 rfl (lv_at hl 1 rfl) ?_
  obtain ⟨r_1, e_1, x_1, k_1⟩ := xt hf
  refine xcallVv (W0 := (wC c0 h k0 x0 d0 ++ (wS g h a1 a2 a3 a4 σ))) (Wc := (wC c0 h k0 x0 d0 ++ (wS g h a1 a2 a3 a4 σ))) (Wr := ([] : va_W)) (As := [.int p0]) (rest := []) [0, 1, 2, 3, 4, 5] [] [0, 1, 2, 3, 4, 5] 4 0 ⟨hx, hb, hml, hown, hts⟩ hP hD hE hZ hS hA (cX6_requireLine_ok l hl0 g c0 h k0 x0 d0 a1 a2 a3 a4 σ p0 _ e_1) (cwV 1 hts gX6_isSteady_X6_requireLine rfl rfl rfl hdX6_requireLine ⟨(Nat.le_of_ble_eq_true rfl), (Nat.le_of_ble_eq_true rfl)⟩) rfl rfl rfl (by decide) (by decide) (by decide) (by decide) rfl rfl rfl rfl hl.1 rfl (Nat.le_of_ble_eq_true rfl) ⟨(Nat.le_of_ble_eq_true rfl), (Nat.le_of_ble_eq_true rfl)⟩ dX6_isSteady_2 hnt hlocks ⟨(Nat.le_of_ble_eq_true rfl), (Nat.le_of_ble_eq_true rfl)⟩ x_1 (fun ok_1 H locs hP hD hS => ?_)
  have hf := k_1 () ok_1
  refine lv_aload_n hx hb dX6_isSteady_5 rfl (lv_at hl 0 rfl) ?_
  refine va_get (v := .ref h) (C := RX6) (T := TX6) (N := 4) hx hb hts fiX6_isSteady_X6 hown hE.1 hP 0 rfl rfl 0 (by decide) (hts _ flX6_isSteady_10) (fun _ h9 => h9) rfl dX6_isSteady_6 ?_
  refine lv_iload_n hx hb dX6_isSteady_9 rfl (lv_at hl 1 rfl) ?_
  obtain ⟨r_2, e_2, hf⟩ := bo hf
  refine pcallS (W0 := (wC c0 h k0 x0 d0 ++ (wS g h a1 a2 a3 a4 σ))) (As := [.ref h, .int p0]) (rest := []) [1, 2, 3, 4, 5] ⟨hx, hb, hml, hown, hts⟩ hP hE hZ hS (cX5_innermostRound_ok l g h a1 a2 a3 a4 σ p0 e_2) (va_cwS 2 hts gX6_isSteady_X5_innermostRound rfl rfl rfl hdX5_innermostRound.2 ⟨(Nat.le_of_ble_eq_true rfl), (Nat.le_of_ble_eq_true rfl)⟩) rfl rfl hl.1 rfl (Nat.le_of_ble_eq_true rfl) ⟨(Nat.le_of_ble_eq_true rfl), (Nat.le_of_ble_eq_true rfl)⟩ dX6_isSteady_10 ?_
  refine lv_istore_n (lv' := [(2, .int r_2), (0, .ref c0), (1, .int p0)]) hx hb dX6_isSteady_13 rfl hl (by decide) rfl (fun ls hl => ?_)
  refine lv_iload_n hx hb dX6_isSteady_14 rfl (lv_at hl 0 rfl) ?_
  refine lv_iconst (v := (-1 : Int32)) hx hb dX6_isSteady_15 (by decide) ?_
  refine lv_icmp_ne (tgt := 21) hx hb dX6_isSteady_16 (by decide) (fun c_3 => ?_) (fun c_3 => ?_)
  · have hf := iq c_3 hf
    refine lv_aload_n hx hb dX6_isSteady_21 rfl (lv_at hl 1 rfl) ?_
    refine va_get (v := .ref h) (C := RX6) (T := TX6) (N := 4) hx hb hts fiX6_isSteady_X6 hown hE.1 hP 0 rfl rfl 0 (by decide) (hts _ flX6_isSteady_10) (fun _ h9 => h9) rfl dX6_isSteady_22 ?_
    refine lv_iload_n hx hb dX6_isSteady_25 rfl (lv_at hl 2 rfl) ?_
    obtain ⟨r_4, e_4, hf⟩ := bo hf
    refine pcallV (W0 := (wC c0 h k0 x0 d0 ++ (wS g h a1 a2 a3 a4 σ))) (As := [.int p0]) (rest := []) [1, 2, 3, 4, 5] 3 0 ⟨hx, hb, hml, hown, hts⟩ hP hE hZ hS (cX4_levelIn_ok l g h a1 a2 a3 a4 σ p0 e_4) (cwV 1 hts gX6_isSteady_X4_levelIn rfl rfl rfl hdX4_levelIn ⟨(Nat.le_of_ble_eq_true rfl), (Nat.le_of_ble_eq_true rfl)⟩) rfl rfl rfl rfl rfl hl.1 rfl (Nat.le_of_ble_eq_true rfl) ⟨(Nat.le_of_ble_eq_true rfl), (Nat.le_of_ble_eq_true rfl)⟩ dX6_isSteady_26 ?_
    refine lv_aload_n hx hb dX6_isSteady_29 rfl (lv_at hl 1 rfl) ?_
    refine va_get (v := .ref h) (C := RX6) (T := TX6) (N := 4) hx hb hts fiX6_isSteady_X6 hown hE.1 hP 0 rfl rfl 0 (by decide) (hts _ flX6_isSteady_10) (fun _ h9 => h9) rfl dX6_isSteady_30 ?_
    refine lv_iload_n hx hb dX6_isSteady_33 rfl (lv_at hl 0 rfl) ?_
    obtain ⟨r_5, e_5, hf⟩ := bo hf
    refine pcallV (W0 := (wC c0 h k0 x0 d0 ++ (wS g h a1 a2 a3 a4 σ))) (As := [.int r_2]) (rest := [.int r_4]) [1, 2, 3, 4, 5] 3 0 ⟨hx, hb, hml, hown, hts⟩ hP hE hZ hS (cX4_levelIn_ok l g h a1 a2 a3 a4 σ r_2 e_5) (cwV 1 hts gX6_isSteady_X4_levelIn rfl rfl rfl hdX4_levelIn ⟨(Nat.le_of_ble_eq_true rfl), (Nat.le_of_ble_eq_true rfl)⟩) rfl rfl rfl rfl rfl hl.1 rfl (Nat.le_of_ble_eq_true rfl) ⟨(Nat.le_of_ble_eq_true rfl), (Nat.le_of_ble_eq_true rfl)⟩ dX6_isSteady_34 ?_
    refine lv_isub hx hb dX6_isSteady_37 ?_
    refine va_mabs hx hb (hml.trans hl.1.symm) hown (hts _ mlX6_isSteady_197) (hts _ msX6_isSteady_abs) (hts _ miX6_isSteady) (hts _ mcX6_isSteady_abs) (Nat.le_of_ble_eq_true rfl) (Nat.le_of_ble_eq_true rfl) (Nat.le_of_ble_eq_true rfl) (Nat.le_of_ble_eq_true rfl) dX6_isSteady_38 ?_
    refine W.eq (g2 := F0 m 41 ls [.int (iabs (r_4 - r_5))]) rfl ?_
    refine lv_iconst (v := (5 : Int32)) hx hb dX6_isSteady_41 (by decide) ?_
    refine lv_icmp_ne (tgt := 49) hx hb dX6_isSteady_42 (by decide) (fun c_6 => ?_) (fun c_6 => ?_)
    · have hf := iq c_6 hf
      refine lv_iconst (v := (0 : Int32)) hx hb dX6_isSteady_49 (by decide) ?_
      exact x_zret (v := false) hx hb hr hlocks hP hD hS ⟨(Nat.le_of_ble_eq_true rfl), (Nat.le_of_ble_eq_true rfl)⟩ (Option.some.inj hf).symm dX6_isSteady_50
    · have hf := ip c_6 hf
      refine lv_iconst (v := (1 : Int32)) hx hb dX6_isSteady_45 (by decide) ?_
      refine lv_goto (tgt := 50) hx hb dX6_isSteady_46 (by decide) ?_
      exact x_zret (v := true) hx hb hr hlocks hP hD hS ⟨(Nat.le_of_ble_eq_true rfl), (Nat.le_of_ble_eq_true rfl)⟩ (Option.some.inj hf).symm dX6_isSteady_50
  · have hf := ip c_3 hf
    refine lv_iconst (v := (1 : Int32)) hx hb dX6_isSteady_19 (by decide) ?_
    exact x_zret (v := true) hx hb hr hlocks hP hD hS ⟨(Nat.le_of_ble_eq_true rfl), (Nat.le_of_ble_eq_true rfl)⟩ (Option.some.inj hf).symm dX6_isSteady_20

def fX6_lineByLevel (σ : Sh) (p0 : Int32) : Option (Except String (Int32)) := ((fX4_hasLine σ p0).bind fun r_1 => (if r_1 = true then ((fX4_lineOfRank σ p0).bind fun r_3 => (some (.ok r_3))) else (some (.error "java/lang/IndexOutOfBoundsException"))))
abbrev rmX6_lineByLevel : Room := { frames := 6, cells := 1, slots := 6, locals := 90 }
theorem hdX6_lineByLevel : yX6_lineByLevel.cls = RX6 ∧ yX6_lineByLevel.cls ≠ "java/lang/invoke/MethodHandle" ∧ yX6_lineByLevel.cls ≠ "java/lang/invoke/VarHandle" ∧ (parseMethodDescriptor yX6_lineByLevel.desc).map (fun d => d.parameters.length) = some 1 := by decide +kernel
theorem fiX6_lineByLevel_X6 : ∀ w ∈ wsX60, w ∈ wsX6_lineByLevel := by decide +kernel
theorem flX6_lineByLevel_10 : (.fieldLink RX6 10 "ContourLabels" "sheet" "LContourLabels$Sheet;" : Cond) ∈ wsX6_lineByLevel := by decide +kernel
theorem tkX6_lineByLevel_I : (.classLink RX6 205 "java/lang/IndexOutOfBoundsException" : Cond) ∈ wsX6_lineByLevel := by decide +kernel
theorem tiX6_lineByLevel_I : (.initialized "java/lang/IndexOutOfBoundsException" : Cond) ∈ wsX6_lineByLevel := by decide +kernel
theorem taX6_lineByLevel_I : ∀ w ∈ (vx_atS RX6 209 "java/lang/IndexOutOfBoundsException" nms).filter goodWord, w ∈ wsX6_lineByLevel := by decide +kernel
set_option maxHeartbeats 4000000 in
set_option maxRecDepth 100000 in
theorem cX6_lineByLevel_ok (l : Launch) (hl0 : l.stackTraces = false) (g : Gg) (c0 h k0 x0 d0 a1 a2 a3 a4 : Nat) (σ : Sh) (p0 : Int32) (sz : Nat) {o : Except String (Int32)} (hf : fX6_lineByLevel σ p0 = some o) : vx_Met l yX6_lineByLevel wsX6_lineByLevel rmX6_lineByLevel (va_Pc [.ref c0, .int p0] (PM g (wC c0 h k0 x0 d0 ++ (wS g h a1 a2 a3 a4 σ)) sz)) (QXi g (wC c0 h k0 x0 d0 ++ (wS g h a1 a2 a3 a4 σ)) (va_A (wC c0 h k0 x0 d0 ++ (wS g h a1 a2 a3 a4 σ)) sz) o) (XE g (wC c0 h k0 x0 d0 ++ (wS g h a1 a2 a3 a4 σ)) (va_A (wC c0 h k0 x0 d0 ++ (wS g h a1 a2 a3 a4 σ)) sz) o) 1 6 (va_A (wC c0 h k0 x0 d0 ++ (wS g h a1 a2 a3 a4 σ)) sz) := by
  refine vx_ofW (cc := cX6_lineByLevel) (maxL := 2) (ret := (some .int)) (by decide) rfl ?_
  intro p e s m args below meth c s₁ B hml hnt hv
  obtain ⟨rfl, rfl, hP, hD0, hE, hZ⟩ := hv
  have hx := B.exec
  have hb := B.bytes
  have hr := B.returns
  have hts := atoms_spec (ws := wsX6_lineByLevel) B.pre
  have hown : s.vm.findClass RX6 = some m.cls := findClass_of_methodNamed B.named
  have hlocks := B.notSynchronized
  have hD := hD0.self (sz := s.heap.size)
  generalize hAe : (va_A (wC c0 h k0 x0 d0 ++ (wS g h a1 a2 a3 a4 σ)) s.heap.size) = A at hD hZ ⊢
  have hA : ∀ q : Nat, s.heap.size ≤ q → A q := fun q h => by rw [← hAe]; exact Or.inr h
  have hS : va_S A s.heap s.heap [] := va_S.rf
  have hP : va_P g.1 vwCl (wC c0 h k0 x0 d0 ++ (wS g h a1 a2 a3 a4 σ)) s.heap := hP
  have hl := lv_entry ([.ref c0, .int p0]) (n := 2) (Nat.le_of_ble_eq_true rfl)
  rw [lg_entry_eq]
  generalize (lg_sl ([.ref c0, .int p0]) ++ List.replicate (2 - (lg_sl ([.ref c0, .int p0])).length) Slot.unset).toArray = ls at hl ⊢
  have hl : lv_has ls 2 [(0, .ref c0), (1, .int p0)] := hl
  unfold fX6_lineByLevel at hf
  refine lv_aload_n hx hb dX6_lineByLevel_0 rfl (lv_at hl 0 rfl) ?_
  refine va_get (v := .ref h) (C := RX6) (T := TX6) (N := 4) hx hb hts fiX6_lineByLevel_X6 hown hE.1 hP 0 rfl rfl 0 (by decide) (hts _ flX6_lineByLevel_10) (fun _ h9 => h9) rfl dX6_lineByLevel_1 ?_
  refine lv_iload_n hx hb dX6_lineByLevel_4 rfl (lv_at hl 1 rfl) ?_
  obtain ⟨r_1, e_1, hf⟩ := bo hf
  refine pcallV (W0 := (wC c0 h k0 x0 d0 ++ (wS g h a1 a2 a3 a4 σ))) (As := [.int p0]) (rest := []) [1, 2, 3, 4, 5] 3 0 ⟨hx, hb, hml, hown, hts⟩ hP hE hZ hS (cX4_hasLine_ok l g h a1 a2 a3 a4 σ p0 e_1) (cwV 1 hts gX6_lineByLevel_X4_hasLine rfl rfl rfl hdX4_hasLine ⟨(Nat.le_of_ble_eq_true rfl), (Nat.le_of_ble_eq_true rfl)⟩) rfl rfl rfl rfl rfl hl.1 rfl (Nat.le_of_ble_eq_true rfl) ⟨(Nat.le_of_ble_eq_true rfl), (Nat.le_of_ble_eq_true rfl)⟩ dX6_lineByLevel_5 ?_
  refine lv_bne (tgt := 21) hx hb dX6_lineByLevel_8 (by decide) (fun c_2 => ?_) (fun c_2 => ?_)
  · have hf := ip c_2 hf
    refine lv_aload_n hx hb dX6_lineByLevel_21 rfl (lv_at hl 0 rfl) ?_
    refine va_get (v := .ref h) (C := RX6) (T := TX6) (N := 4) hx hb hts fiX6_lineByLevel_X6 hown hE.1 hP 0 rfl rfl 0 (by decide) (hts _ flX6_lineByLevel_10) (fun _ h9 => h9) rfl dX6_lineByLevel_22 ?_
    refine lv_iload_n hx hb dX6_lineByLevel_25 rfl (lv_at hl 1 rfl) ?_
    obtain ⟨r_3, e_3, hf⟩ := bo hf
    refine pcallV (W0 := (wC c0 h k0 x0 d0 ++ (wS g h a1 a2 a3 a4 σ))) (As := [.int p0]) (rest := []) [1, 2, 3, 4, 5] 3 0 ⟨hx, hb, hml, hown, hts⟩ hP hE hZ hS (cX4_lineOfRank_ok l g h a1 a2 a3 a4 σ p0 e_3) (cwV 1 hts gX6_lineByLevel_X4_lineOfRank rfl rfl rfl hdX4_lineOfRank ⟨(Nat.le_of_ble_eq_true rfl), (Nat.le_of_ble_eq_true rfl)⟩) rfl rfl rfl rfl rfl hl.1 rfl (Nat.le_of_ble_eq_true rfl) ⟨(Nat.le_of_ble_eq_true rfl), (Nat.le_of_ble_eq_true rfl)⟩ dX6_lineByLevel_26 ?_
    exact x_iret (v := r_3) hx hb hr hlocks hP hD hS ⟨(Nat.le_of_ble_eq_true rfl), (Nat.le_of_ble_eq_true rfl)⟩ (Option.some.inj hf).symm dX6_lineByLevel_29
  · have hf := iq c_2 hf
    exact xthrow (text := "there is no such place") hl0 tfI hx hb hown hlocks hts tkX6_lineByLevel_I tiX6_lineByLevel_I taX6_lineByLevel_I hE (by decide +kernel) hZ hP hD hS (hl.1.trans hml.symm) hnt dX6_lineByLevel_11 dX6_lineByLevel_14 dX6_lineByLevel_15 dX6_lineByLevel_17 dX6_lineByLevel_20 ⟨(Nat.le_of_ble_eq_true rfl), (Nat.le_of_ble_eq_true rfl)⟩ (Nat.le_of_ble_eq_true rfl) ⟨(Nat.le_of_ble_eq_true rfl), (Nat.le_of_ble_eq_true rfl)⟩ ⟨(Nat.le_of_ble_eq_true rfl), (Nat.le_of_ble_eq_true rfl)⟩ (Option.some.inj hf).symm
