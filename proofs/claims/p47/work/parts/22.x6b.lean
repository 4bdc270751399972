def fX6_begin (σ : Sh) (η : Hi) (p0 p1 : Int32) : Option (Except String (Int32 × Sh × Hi)) := (xthen (fX6_requirePoint p1) fun _ => (xthen (fX6_requireLevel p0) fun _ => ((fX4_hasRoomAt σ p1).bind fun r_3 => (if r_3 = true then ((fX1_save σ η).bind fun r_5 => ((fX4_addLine σ p0 p1).bind fun r_6 => (some (.ok (r_6.1, r_6.2, r_5))))) else (some (.error "java/lang/IllegalStateException"))))))
abbrev rmX6_begin : Room := { frames := 7, cells := 3, slots := 18, locals := 110 }
theorem hdX6_begin : yX6_begin.cls = RX6 ∧ yX6_begin.cls ≠ "java/lang/invoke/MethodHandle" ∧ yX6_begin.cls ≠ "java/lang/invoke/VarHandle" ∧ (parseMethodDescriptor yX6_begin.desc).map (fun d => d.parameters.length) = some 2 := by decide +kernel
theorem fiX6_begin_X6 : ∀ w ∈ wsX60, w ∈ wsX6_begin := by decide +kernel
theorem flX6_begin_10 : (.fieldLink RX6 10 "ContourLabels" "sheet" "LContourLabels$Sheet;" : Cond) ∈ wsX6_begin := by decide +kernel
theorem flX6_begin_19 : (.fieldLink RX6 19 "ContourLabels" "history" "LContourLabels$History;" : Cond) ∈ wsX6_begin := by decide +kernel
theorem tkX6_begin_S : (.classLink RX6 48 "java/lang/IllegalStateException" : Cond) ∈ wsX6_begin := by decide +kernel
theorem tiX6_begin_S : (.initialized "java/lang/IllegalStateException" : Cond) ∈ wsX6_begin := by decide +kernel
theorem taX6_begin_S : ∀ w ∈ (vx_atS RX6 52 "java/lang/IllegalStateException" nms).filter goodWord, w ∈ wsX6_begin := by decide +kernel
set_option maxHeartbeats 4000000 in
set_option maxRecDepth 100000 in
theorem cX6_begin_ok (l : Launch) (hl0 : l.stackTraces = false) (g : Gg) (c0 h k0 x0 d0 a1 a2 a3 a4 k1 : Nat) (γ : Nat → Nat → Nat) (σ : Sh) (η : Hi) (p0 p1 : Int32) (sz : Nat) {o : Except String (Int32 × Sh × Hi)} (hf : fX6_begin σ η p0 p1 = some o) : vx_Met l yX6_begin wsX6_begin rmX6_begin (va_Pc [.ref c0, .int p0, .int p1] (PM g (wC c0 h k0 x0 d0 ++ (wS g h a1 a2 a3 a4 σ ++ (wH g k0 k1 γ η))) sz)) (QXmi g (fun u => (wC c0 h k0 x0 d0 ++ (wS g h a1 a2 a3 a4 u.1 ++ (wH g k0 k1 γ u.2)))) (va_A (wC c0 h k0 x0 d0 ++ (wS g h a1 a2 a3 a4 σ ++ (wH g k0 k1 γ η))) sz) o) (XE g (wC c0 h k0 x0 d0 ++ (wS g h a1 a2 a3 a4 σ ++ (wH g k0 k1 γ η))) (va_A (wC c0 h k0 x0 d0 ++ (wS g h a1 a2 a3 a4 σ ++ (wH g k0 k1 γ η))) sz) o) 3 18 (va_A (wC c0 h k0 x0 d0 ++ (wS g h a1 a2 a3 a4 σ ++ (wH g k0 k1 γ η))) sz) := by
  refine vx_ofW (cc := cX6_begin) (maxL := 3) (ret := (some .int)) (by decide) rfl ?_
  intro p e s m args below meth c s₁ B hml hnt hv
  obtain ⟨rfl, rfl, hP, hD0, hE, hZ⟩ := hv
  have hx := B.exec
  have hb := B.bytes
  have hr := B.returns
  have hts := atoms_spec (ws := wsX6_begin) B.pre
  have hown : s.vm.findClass RX6 = some m.cls := findClass_of_methodNamed B.named
  have hlocks := B.notSynchronized
  have hD := hD0.self (sz := s.heap.size)
  generalize hAe : (va_A (wC c0 h k0 x0 d0 ++ (wS g h a1 a2 a3 a4 σ ++ (wH g k0 k1 γ η))) s.heap.size) = A at hD hZ ⊢
  have hA : ∀ q : Nat, s.heap.size ≤ q → A q := fun q h => by rw [← hAe]; exact Or.inr h
  have hS : va_S A s.heap s.heap [] := va_S.rf
  have hP : va_P g.1 vwCl (wC c0 h k0 x0 d0 ++ (wS g h a1 a2 a3 a4 σ ++ (wH g k0 k1 γ η))) s.heap := hP
  have hl := lv_entry ([.ref c0, .int p0, .int p1]) (n := 3) (Nat.le_of_ble_eq_true rfl)
  rw [lg_entry_eq]
  generalize (lg_sl ([.ref c0, .int p0, .int p1]) ++ List.replicate (3 - (lg_sl ([.ref c0, .int p0, .int p1])).length) Slot.unset).toArray = ls at hl ⊢
  have hl : lv_has ls 3 [(0, .ref c0), (1, .int p0), (2, .int p1)] := hl
  unfold fX6_begin at hf
  refine lv_iload_n hx hb dX6_begin_0 rfl (lv_at hl 2 rfl) ?_
  obtain ⟨r_1, e_1, x_1, k_1⟩ := xt hf
  refine xcallSv (W0 := (wC c0 h k0 x0 d0 ++ (wS g h a1 a2 a3 a4 σ ++ (wH g k0 k1 γ η)))) (Wc := ([] : va_W)) (Wr := (wC c0 h k0 x0 d0 ++ (wS g h a1 a2 a3 a4 σ ++ (wH g k0 k1 γ η)))) (As := [.int p1]) (rest := []) [] [0, 1, 2, 3, 4, 5, 6, 7, 8, 9, 10, 11, 12, 13, 14, 15, 16, 17, 18, 19, 20, 21, 22, 23, 24, 25, 26, 27, 28, 29, 30, 31, 32, 33, 34, 35, 36, 37] [0, 1, 2, 3, 4, 5, 6, 7, 8, 9, 10, 11, 12, 13, 14, 15, 16, 17, 18, 19, 20, 21, 22, 23, 24, 25, 26, 27, 28, 29, 30, 31, 32, 33, 34, 35, 36, 37] ⟨hx, hb, hml, hown, hts⟩ hP hD hE hZ hS hA (cX6_requirePoint_ok l hl0 g  p1 _ e_1) (va_cwS 1 hts gX6_begin_X6_requirePoint rfl rfl rfl hdX6_requirePoint.2 ⟨(Nat.le_of_ble_eq_true rfl), (Nat.le_of_ble_eq_true rfl)⟩) rfl rfl rfl (by decide) (by decide) (by decide) (by decide) rfl hl.1 rfl (Nat.le_of_ble_eq_true rfl) ⟨(Nat.le_of_ble_eq_true rfl), (Nat.le_of_ble_eq_true rfl)⟩ dX6_begin_1 hnt hlocks ⟨(Nat.le_of_ble_eq_true rfl), (Nat.le_of_ble_eq_true rfl)⟩ x_1 (fun ok_1 H locs hP hD hS => ?_)
  have hf := k_1 () ok_1
  refine lv_iload_n hx hb dX6_begin_4 rfl (lv_at hl 1 rfl) ?_
  obtain ⟨r_2, e_2, x_2, k_2⟩ := xt hf
  refine xcallSv (W0 := (wC c0 h k0 x0 d0 ++ (wS g h a1 a2 a3 a4 σ ++ (wH g k0 k1 γ η)))) (Wc := ([] : va_W)) (Wr := (wC c0 h k0 x0 d0 ++ (wS g h a1 a2 a3 a4 σ ++ (wH g k0 k1 γ η)))) (As := [.int p0]) (rest := []) [] [0, 1, 2, 3, 4, 5, 6, 7, 8, 9, 10, 11, 12, 13, 14, 15, 16, 17, 18, 19, 20, 21, 22, 23, 24, 25, 26, 27, 28, 29, 30, 31, 32, 33, 34, 35, 36, 37] [0, 1, 2, 3, 4, 5, 6, 7, 8, 9, 10, 11, 12, 13, 14, 15, 16, 17, 18, 19, 20, 21, 22, 23, 24, 25, 26, 27, 28, 29, 30, 31, 32, 33, 34, 35, 36, 37] ⟨hx, hb, hml, hown, hts⟩ hP hD hE hZ hS hA (cX6_requireLevel_ok l hl0 g  p0 _ e_2) (va_cwS 1 hts gX6_begin_X6_requireLevel rfl rfl rfl hdX6_requireLevel.2 ⟨(Nat.le_of_ble_eq_true rfl), (Nat.le_of_ble_eq_true rfl)⟩) rfl rfl rfl (by decide) (by decide) (by decide) (by decide) rfl hl.1 rfl (Nat.le_of_ble_eq_true rfl) ⟨(Nat.le_of_ble_eq_true rfl), (Nat.le_of_ble_eq_true rfl)⟩ dX6_begin_5 hnt hlocks ⟨(Nat.le_of_ble_eq_true rfl), (Nat.le_of_ble_eq_true rfl)⟩ x_2 (fun ok_2 H locs hP hD hS => ?_)
  have hf := k_2 () ok_2
  refine lv_aload_n hx hb dX6_begin_8 rfl (lv_at hl 0 rfl) ?_
  refine va_get (v := .ref h) (C := RX6) (T := TX6) (N := 4) hx hb hts fiX6_begin_X6 hown hE.1 hP 0 rfl rfl 0 (by decide) (hts _ flX6_begin_10) (fun _ h9 => h9) rfl dX6_begin_9 ?_
  refine lv_iload_n hx hb dX6_begin_12 rfl (lv_at hl 2 rfl) ?_
  obtain ⟨r_3, e_3, hf⟩ := bo hf
  refine pcallV (W0 := (wC c0 h k0 x0 d0 ++ (wS g h a1 a2 a3 a4 σ ++ (wH g k0 k1 γ η)))) (As := [.int p1]) (rest := []) [1, 2, 3, 4, 5] 3 0 ⟨hx, hb, hml, hown, hts⟩ hP hE hZ hS (cX4_hasRoomAt_ok l g h a1 a2 a3 a4 σ p1 e_3) (cwV 1 hts gX6_begin_X4_hasRoomAt rfl rfl rfl hdX4_hasRoomAt ⟨(Nat.le_of_ble_eq_true rfl), (Nat.le_of_ble_eq_true rfl)⟩) rfl rfl rfl rfl rfl hl.1 rfl (Nat.le_of_ble_eq_true rfl) ⟨(Nat.le_of_ble_eq_true rfl), (Nat.le_of_ble_eq_true rfl)⟩ dX6_begin_13 ?_
  refine lv_bne (tgt := 29) hx hb dX6_begin_16 (by decide) (fun c_4 => ?_) (fun c_4 => ?_)
  · have hf := ip c_4 hf
    refine lv_aload_n hx hb dX6_begin_29 rfl (lv_at hl 0 rfl) ?_
    refine va_get (v := .ref k0) (C := RX6) (T := TX6) (N := 4) hx hb hts fiX6_begin_X6 hown hE.1 hP 0 rfl rfl 1 (by decide) (hts _ flX6_begin_19) (fun _ h9 => h9) rfl dX6_begin_30 ?_
    refine lv_aload_n hx hb dX6_begin_33 rfl (lv_at hl 0 rfl) ?_
    refine va_get (v := .ref h) (C := RX6) (T := TX6) (N := 4) hx hb hts fiX6_begin_X6 hown hE.1 hP 0 rfl rfl 0 (by decide) (hts _ flX6_begin_10) (fun _ h9 => h9) rfl dX6_begin_34 ?_
    obtain ⟨r_5, e_5, hf⟩ := bo hf
    refine mcallVv (W0 := (wC c0 h k0 x0 d0 ++ (wS g h a1 a2 a3 a4 σ ++ (wH g k0 k1 γ η)))) (Wc := (wS g h a1 a2 a3 a4 σ ++ (wH g k0 k1 γ η))) (Wr := (wC c0 h k0 x0 d0)) (W1 := (wS g h a1 a2 a3 a4 σ ++ (wH g k0 k1 γ r_5))) (W2 := (wC c0 h k0 x0 d0 ++ (wS g h a1 a2 a3 a4 σ ++ (wH g k0 k1 γ r_5)))) (As := [.ref h]) (rest := []) [1, 2, 3, 4, 5, 6, 7, 8, 9, 10, 11, 12, 13, 14, 15, 16, 17, 18, 19, 20, 21, 22, 23, 24, 25, 26, 27, 28, 29, 30, 31, 32, 33, 34, 35, 36, 37] [0] [0, 1, 2, 3, 4, 5, 6, 7, 8, 9, 10, 11, 12, 13, 14, 15, 16, 17, 18, 19, 20, 21, 22, 23, 24, 25, 26, 27, 28, 29, 30, 31, 32, 33, 34, 35, 36, 37] 1 5 ⟨hx, hb, hml, hown, hts⟩ hP hD hE hZ hS hA (cX1_save_ok l g h a1 a2 a3 a4 k0 k1 γ σ η _ e_5) (cwV 1 hts gX6_begin_X1_save rfl rfl rfl hdX1_save ⟨(Nat.le_of_ble_eq_true rfl), (Nat.le_of_ble_eq_true rfl)⟩) rfl rfl rfl (by decide) (by decide) (by decide) (by decide) rfl rfl rfl rfl hl.1 rfl (Nat.le_of_ble_eq_true rfl) ⟨(Nat.le_of_ble_eq_true rfl), (Nat.le_of_ble_eq_true rfl)⟩ dX6_begin_37 (fun H locs hP hD hS => ?_)
    refine lv_aload_n hx hb dX6_begin_40 rfl (lv_at hl 0 rfl) ?_
    refine va_get (v := .ref h) (C := RX6) (T := TX6) (N := 4) hx hb hts fiX6_begin_X6 hown hE.1 hP 0 rfl rfl 0 (by decide) (hts _ flX6_begin_10) (fun _ h9 => h9) rfl dX6_begin_41 ?_
    refine lv_iload_n hx hb dX6_begin_44 rfl (lv_at hl 1 rfl) ?_
    refine lv_iload_n hx hb dX6_begin_45 rfl (lv_at hl 2 rfl) ?_
    obtain ⟨r_6, e_6, hf⟩ := bo hf
    refine mcallVi (W0 := (wC c0 h k0 x0 d0 ++ (wS g h a1 a2 a3 a4 σ ++ (wH g k0 k1 γ r_5)))) (Wc := (wS g h a1 a2 a3 a4 σ)) (Wr := (wC c0 h k0 x0 d0 ++ (wH g k0 k1 γ r_5))) (W1 := (wS g h a1 a2 a3 a4 r_6.2)) (W2 := (wC c0 h k0 x0 d0 ++ (wS g h a1 a2 a3 a4 r_6.2 ++ (wH g k0 k1 γ r_5)))) (As := [.int p0, .int p1]) (rest := []) [1, 2, 3, 4, 5] [0, 6, 7, 8, 9, 10, 11, 12, 13, 14, 15, 16, 17, 18, 19, 20, 21, 22, 23, 24, 25, 26, 27, 28, 29, 30, 31, 32, 33, 34, 35, 36, 37] [0, 33, 34, 35, 36, 37, 1, 2, 3, 4, 5, 6, 7, 8, 9, 10, 11, 12, 13, 14, 15, 16, 17, 18, 19, 20, 21, 22, 23, 24, 25, 26, 27, 28, 29, 30, 31, 32] 3 0 ⟨hx, hb, hml, hown, hts⟩ hP hD hE hZ hS hA (cX4_addLine_ok l g h a1 a2 a3 a4 σ p0 p1 _ e_6) (cwV 2 hts gX6_begin_X4_addLine rfl rfl rfl hdX4_addLine ⟨(Nat.le_of_ble_eq_true rfl), (Nat.le_of_ble_eq_true rfl)⟩) rfl rfl rfl (by decide) (by decide) (by decide) (by decide) rfl rfl rfl rfl hl.1 rfl (Nat.le_of_ble_eq_true rfl) ⟨(Nat.le_of_ble_eq_true rfl), (Nat.le_of_ble_eq_true rfl)⟩ dX6_begin_46 (fun H locs hP hD hS => ?_)
    exact xm_iret (r_6.2, r_5) (v := r_6.1) hx hb hr hlocks hP hD hS ⟨(Nat.le_of_ble_eq_true rfl), (Nat.le_of_ble_eq_true rfl)⟩ (Option.some.inj hf).symm dX6_begin_49
  · have hf := iq c_4 hf
    exact xthrow (text := "there are 8 lines, or a line has this point") hl0 tfS hx hb hown hlocks hts tkX6_begin_S tiX6_begin_S taX6_begin_S hE (by decide +kernel) hZ hP hD hS (hl.1.trans hml.symm) hnt dX6_begin_19 dX6_begin_22 dX6_begin_23 dX6_begin_25 dX6_begin_28 ⟨(Nat.le_of_ble_eq_true rfl), (Nat.le_of_ble_eq_true rfl)⟩ (Nat.le_of_ble_eq_true rfl) ⟨(Nat.le_of_ble_eq_true rfl), (Nat.le_of_ble_eq_true rfl)⟩ ⟨(Nat.le_of_ble_eq_true rfl), (Nat.le_of_ble_eq_true rfl)⟩ (Option.some.inj hf).symm

def fX6_step (σ : Sh) (η : Hi) (p0 p1 : Int32) : Option (Except String (Bool × Sh × Hi)) := (xthen (fX6_requireLine σ p0) fun _ => (xthen (fX6_requireDirection p1) fun _ => ((fX4_reasonAgainstStep σ p0 p1).bind fun r_3 => (if r_3 = 0 then ((fX1_save σ η).bind fun r_5 => ((fX4_addStep σ p0 p1).bind fun r_6 => ((fX4_isRing r_6 p0).bind fun r_7 => (some (.ok (r_7, r_6, r_5)))))) else (some (.error "java/lang/IllegalStateException"))))))
abbrev rmX6_step : Room := { frames := 7, cells := 3, slots := 18, locals := 111 }
theorem hdX6_step : yX6_step.cls = RX6 ∧ yX6_step.cls ≠ "java/lang/invoke/MethodHandle" ∧ yX6_step.cls ≠ "java/lang/invoke/VarHandle" ∧ (parseMethodDescriptor yX6_step.desc).map (fun d => d.parameters.length) = some 2 := by decide +kernel
theorem fiX6_step_X6 : ∀ w ∈ wsX60, w ∈ wsX6_step := by decide +kernel
theorem flX6_step_10 : (.fieldLink RX6 10 "ContourLabels" "sheet" "LContourLabels$Sheet;" : Cond) ∈ wsX6_step := by decide +kernel
theorem flX6_step_19 : (.fieldLink RX6 19 "ContourLabels" "history" "LContourLabels$History;" : Cond) ∈ wsX6_step := by decide +kernel
theorem tkX6_step_S : (.classLink RX6 48 "java/lang/IllegalStateException" : Cond) ∈ wsX6_step := by decide +kernel
theorem tiX6_step_S : (.initialized "java/lang/IllegalStateException" : Cond) ∈ wsX6_step := by decide +kernel
theorem taX6_step_S : ∀ w ∈ (vx_atS RX6 52 "java/lang/IllegalStateException" nms).filter goodWord, w ∈ wsX6_step := by decide +kernel
set_option maxHeartbeats 4000000 in
set_option maxRecDepth 100000 in
theorem cX6_step_ok (l : Launch) (hl0 : l.stackTraces = false) (g : Gg) (c0 h k0 x0 d0 a1 a2 a3 a4 k1 : Nat) (γ : Nat → Nat → Nat) (σ : Sh) (η : Hi) (p0 p1 : Int32) (sz : Nat) {o : Except String (Bool × Sh × Hi)} (hf : fX6_step σ η p0 p1 = some o) : vx_Met l yX6_step wsX6_step rmX6_step (va_Pc [.ref c0, .int p0, .int p1] (PM g (wC c0 h k0 x0 d0 ++ (wS g h a1 a2 a3 a4 σ ++ (wH g k0 k1 γ η))) sz)) (QXmb g (fun u => (wC c0 h k0 x0 d0 ++ (wS g h a1 a2 a3 a4 u.1 ++ (wH g k0 k1 γ u.2)))) (va_A (wC c0 h k0 x0 d0 ++ (wS g h a1 a2 a3 a4 σ ++ (wH g k0 k1 γ η))) sz) o) (XE g (wC c0 h k0 x0 d0 ++ (wS g h a1 a2 a3 a4 σ ++ (wH g k0 k1 γ η))) (va_A (wC c0 h k0 x0 d0 ++ (wS g h a1 a2 a3 a4 σ ++ (wH g k0 k1 γ η))) sz) o) 3 18 (va_A (wC c0 h k0 x0 d0 ++ (wS g h a1 a2 a3 a4 σ ++ (wH g k0 k1 γ η))) sz) := by
  refine vx_ofW (cc := cX6_step) (maxL := 3) (ret := (some .boolean)) (by decide) rfl ?_
  intro p e s m args below meth c s₁ B hml hnt hv
  obtain ⟨rfl, rfl, hP, hD0, hE, hZ⟩ := hv
  have hx := B.exec
  have hb := B.bytes
  have hr := B.returns
  have hts := atoms_spec (ws := wsX6_step) B.pre
  have hown : s.vm.findClass RX6 = some m.cls := findClass_of_methodNamed B.named
  have hlocks := B.notSynchronized
  have hD := hD0.self (sz := s.heap.size)
  generalize hAe : (va_A (wC c0 h k0 x0 d0 ++ (wS g h a1 a2 a3 a4 σ ++ (wH g k0 k1 γ η))) s.heap.size) = A at hD hZ ⊢
  have hA : ∀ q : Nat, s.heap.size ≤ q → A q := fun q h => by rw [← hAe]; exact Or.inr h
  have hS : va_S A s.heap s.heap [] := va_S.rf
  have hP : va_P g.1 vwCl (wC c0 h k0 x0 d0 ++ (wS g h a1 a2 a3 a4 σ ++ (wH g k0 k1 γ η))) s.heap := hP
  have hl := lv_entry ([.ref c0, .int p0, .int p1]) (n := 3) (Nat.le_of_ble_eq_true rfl)
  rw [lg_entry_eq]
  generalize (lg_sl ([.ref c0, .int p0, .int p1]) ++ List.replicate (3 - (lg_sl ([.ref c0, .int p0, .int p1])).length) Slot.unset).toArray = ls at hl ⊢
  have hl : lv_has ls 3 [(0, .ref c0), (1, .int p0), (2, .int p1)] := hl
  unfold fX6_step at hf
  refine lv_aload_n hx hb dX6_step_0 rfl (lv_at hl 0 rfl) ?_
  refine lv_iload_n hx hb dX6_step_1 rfl (lv_at hl 1 rfl) ?_
  obtain ⟨r_1, e_1, x_1, k_1⟩ := xt hf
  refine xcallVv (W0 := (wC c0 h k0 x0 d0 ++ (wS g h a1 a2 a3 a4 σ ++ (wH g k0 k1 γ η)))) (Wc := (wC c0 h k0 x0 d0 ++ (wS g h a1 a2 a3 a4 σ))) (Wr := (wH g k0 k1 γ η)) (As := [.int p0]) (rest := []) [0, 1, 2, 3, 4, 5] [6, 7, 8, 9, 10, 11, 12, 13, 14, 15, 16, 17, 18, 19, 20, 21, 22, 23, 24, 25, 26, 27, 28, 29, 30, 31, 32, 33, 34, 35, 36, 37] [32, 33, 34, 35, 36, 37, 0, 1, 2, 3, 4, 5, 6, 7, 8, 9, 10, 11, 12, 13, 14, 15, 16, 17, 18, 19, 20, 21, 22, 23, 24, 25, 26, 27, 28, 29, 30, 31] 4 0 ⟨hx, hb, hml, hown, hts⟩ hP hD hE hZ hS hA (cX6_requireLine_ok l hl0 g c0 h k0 x0 d0 a1 a2 a3 a4 σ p0 _ e_1) (cwV 1 hts gX6_step_X6_requireLine rfl rfl rfl hdX6_requireLine ⟨(Nat.le_of_ble_eq_true rfl), (Nat.le_of_ble_eq_true rfl)⟩) rfl rfl rfl (by decide) (by decide) (by decide) (by decide) rfl rfl rfl rfl hl.1 rfl (Nat.le_of_ble_eq_true rfl) ⟨(Nat.le_of_ble_eq_true rfl), (Nat.le_of_ble_eq_true rfl)⟩ dX6_step_2 hnt hlocks ⟨(Nat.le_of_ble_eq_true rfl), (Nat.le_of_ble_eq_true rfl)⟩ x_1 (fun ok_1 H locs hP hD hS => ?_)
  have hf := k_1 () ok_1
  refine lv_iload_n hx hb dX6_step_5 rfl (lv_at hl 2 rfl) ?_
  obtain ⟨r_2, e_2, x_2, k_2⟩ := xt hf
  refine xcallSv (W0 := (wC c0 h k0 x0 d0 ++ (wS g h a1 a2 a3 a4 σ ++ (wH g k0 k1 γ η)))) (Wc := ([] : va_W)) (Wr := (wC c0 h k0 x0 d0 ++ (wS g h a1 a2 a3 a4 σ ++ (wH g k0 k1 γ η)))) (As := [.int p1]) (rest := []) [] [0, 1, 2, 3, 4, 5, 6, 7, 8, 9, 10, 11, 12, 13, 14, 15, 16, 17, 18, 19, 20, 21, 22, 23, 24, 25, 26, 27, 28, 29, 30, 31, 32, 33, 34, 35, 36, 37] [0, 1, 2, 3, 4, 5, 6, 7, 8, 9, 10, 11, 12, 13, 14, 15, 16, 17, 18, 19, 20, 21, 22, 23, 24, 25, 26, 27, 28, 29, 30, 31, 32, 33, 34, 35, 36, 37] ⟨hx, hb, hml, hown, hts⟩ hP hD hE hZ hS hA (cX6_requireDirection_ok l hl0 g  p1 _ e_2) (va_cwS 1 hts gX6_step_X6_requireDirection rfl rfl rfl hdX6_requireDirection.2 ⟨(Nat.le_of_ble_eq_true rfl), (Nat.le_of_ble_eq_true rfl)⟩) rfl rfl rfl (by decide) (by decide) (by decide) (by decide) rfl hl.1 rfl (Nat.le_of_ble_eq_true rfl) ⟨(Nat.le_of_ble_eq_true rfl), (Nat.le_of_ble_eq_true rfl)⟩ dX6_step_6 hnt hlocks ⟨(Nat.le_of_ble_eq_true rfl), (Nat.le_of_ble_eq_true rfl)⟩ x_2 (fun ok_2 H locs hP hD hS => ?_)
  have hf := k_2 () ok_2
  refine lv_aload_n hx hb dX6_step_9 rfl (lv_at hl 0 rfl) ?_
  refine va_get (v := .ref h) (C := RX6) (T := TX6) (N := 4) hx hb hts fiX6_step_X6 hown hE.1 hP 0 rfl rfl 0 (by decide) (hts _ flX6_step_10) (fun _ h9 => h9) rfl dX6_step_10 ?_
  refine lv_iload_n hx hb dX6_step_13 rfl (lv_at hl 1 rfl) ?_
  refine lv_iload_n hx hb dX6_step_14 rfl (lv_at hl 2 rfl) ?_
  obtain ⟨r_3, e_3, hf⟩ := bo hf
  refine pcallV (W0 := (wC c0 h k0 x0 d0 ++ (wS g h a1 a2 a3 a4 σ ++ (wH g k0 k1 γ η)))) (As := [.int p0, .int p1]) (rest := []) [1, 2, 3, 4, 5] 3 0 ⟨hx, hb, hml, hown, hts⟩ hP hE hZ hS (cX4_reasonAgainstStep_ok l g h a1 a2 a3 a4 σ p0 p1 e_3) (cwV 2 hts gX6_step_X4_reasonAgainstStep rfl rfl rfl hdX4_reasonAgainstStep ⟨(Nat.le_of_ble_eq_true rfl), (Nat.le_of_ble_eq_true rfl)⟩) rfl rfl rfl rfl rfl hl.1 rfl (Nat.le_of_ble_eq_true rfl) ⟨(Nat.le_of_ble_eq_true rfl), (Nat.le_of_ble_eq_true rfl)⟩ dX6_step_15 ?_
  refine lv_if_eq (tgt := 31) hx hb dX6_step_18 (by decide) (fun c_4 => ?_) (fun c_4 => ?_)
  · have hf := ip c_4 hf
    refine lv_aload_n hx hb dX6_step_31 rfl (lv_at hl 0 rfl) ?_
    refine va_get (v := .ref k0) (C := RX6) (T := TX6) (N := 4) hx hb hts fiX6_step_X6 hown hE.1 hP 0 rfl rfl 1 (by decide) (hts _ flX6_step_19) (fun _ h9 => h9) rfl dX6_step_32 ?_
    refine lv_aload_n hx hb dX6_step_35 rfl (lv_at hl 0 rfl) ?_
    refine va_get (v := .ref h) (C := RX6) (T := TX6) (N := 4) hx hb hts fiX6_step_X6 hown hE.1 hP 0 rfl rfl 0 (by decide) (hts _ flX6_step_10) (fun _ h9 => h9) rfl dX6_step_36 ?_
    obtain ⟨r_5, e_5, hf⟩ := bo hf
    refine mcallVv (W0 := (wC c0 h k0 x0 d0 ++ (wS g h a1 a2 a3 a4 σ ++ (wH g k0 k1 γ η)))) (Wc := (wS g h a1 a2 a3 a4 σ ++ (wH g k0 k1 γ η))) (Wr := (wC c0 h k0 x0 d0)) (W1 := (wS g h a1 a2 a3 a4 σ ++ (wH g k0 k1 γ r_5))) (W2 := (wC c0 h k0 x0 d0 ++ (wS g h a1 a2 a3 a4 σ ++ (wH g k0 k1 γ r_5)))) (As := [.ref h]) (rest := []) [1, 2, 3, 4, 5, 6, 7, 8, 9, 10, 11, 12, 13, 14, 15, 16, 17, 18, 19, 20, 21, 22, 23, 24, 25, 26, 27, 28, 29, 30, 31, 32, 33, 34, 35, 36, 37] [0] [0, 1, 2, 3, 4, 5, 6, 7, 8, 9, 10, 11, 12, 13, 14, 15, 16, 17, 18, 19, 20, 21, 22, 23, 24, 25, 26, 27, 28, 29, 30, 31, 32, 33, 34, 35, 36, 37] 1 5 ⟨hx, hb, hml, hown, hts⟩ hP hD hE hZ hS hA (cX1_save_ok l g h a1 a2 a3 a4 k0 k1 γ σ η _ e_5) (cwV 1 hts gX6_step_X1_save rfl rfl rfl hdX1_save ⟨(Nat.le_of_ble_eq_true rfl), (Nat.le_of_ble_eq_true rfl)⟩) rfl rfl rfl (by decide) (by decide) (by decide) (by decide) rfl rfl rfl rfl hl.1 rfl (Nat.le_of_ble_eq_true rfl) ⟨(Nat.le_of_ble_eq_true rfl), (Nat.le_of_ble_eq_true rfl)⟩ dX6_step_39 (fun H locs hP hD hS => ?_)
    refine lv_aload_n hx hb dX6_step_42 rfl (lv_at hl 0 rfl) ?_
    refine va_get (v := .ref h) (C := RX6) (T := TX6) (N := 4) hx hb hts fiX6_step_X6 hown hE.1 hP 0 rfl rfl 0 (by decide) (hts _ flX6_step_10) (fun _ h9 => h9) rfl dX6_step_43 ?_
    refine lv_iload_n hx hb dX6_step_46 rfl (lv_at hl 1 rfl) ?_
    refine lv_iload_n hx hb dX6_step_47 rfl (lv_at hl 2 rfl) ?_
    obtain ⟨r_6, e_6, hf⟩ := bo hf
    refine mcallVv (W0 := (wC c0 h k0 x0 d0 ++ (wS g h a1 a2 a3 a4 σ ++ (wH g k0 k1 γ r_5)))) (Wc := (wS g h a1 a2 a3 a4 σ)) (Wr := (wC c0 h k0 x0 d0 ++ (wH g k0 k1 γ r_5))) (W1 := (wS g h a1 a2 a3 a4 r_6)) (W2 := (wC c0 h k0 x0 d0 ++ (wS g h a1 a2 a3 a4 r_6 ++ (wH g k0 k1 γ r_5)))) (As := [.int p0, .int p1]) (rest := []) [1, 2, 3, 4, 5] [0, 6, 7, 8, 9, 10, 11, 12, 13, 14, 15, 16, 17, 18, 19, 20, 21, 22, 23, 24, 25, 26, 27, 28, 29, 30, 31, 32, 33, 34, 35, 36, 37] [0, 33, 34, 35, 36, 37, 1, 2, 3, 4, 5, 6, 7, 8, 9, 10, 11, 12, 13, 14, 15, 16, 17, 18, 19, 20, 21, 22, 23, 24, 25, 26, 27, 28, 29, 30, 31, 32] 3 0 ⟨hx, hb, hml, hown, hts⟩ hP hD hE hZ hS hA (cX4_addStep_ok l g h a1 a2 a3 a4 σ p0 p1 _ e_6) (cwV 2 hts gX6_step_X4_addStep rfl rfl rfl hdX4_addStep ⟨(Nat.le_of_ble_eq_true rfl), (Nat.le_of_ble_eq_true rfl)⟩) rfl rfl rfl (by decide) (by decide) (by decide) (by decide) rfl rfl rfl rfl hl.1 rfl (Nat.le_of_ble_eq_true rfl) ⟨(Nat.le_of_ble_eq_true rfl), (Nat.le_of_ble_eq_true rfl)⟩ dX6_step_48 (fun H locs hP hD hS => ?_)
    refine lv_aload_n hx hb dX6_step_51 rfl (lv_at hl 0 rfl) ?_
    refine va_get (v := .ref h) (C := RX6) (T := TX6) (N := 4) hx hb hts fiX6_step_X6 hown hE.1 hP 0 rfl rfl 0 (by decide) (hts _ flX6_step_10) (fun _ h9 => h9) rfl dX6_step_52 ?_
    refine lv_iload_n hx hb dX6_step_55 rfl (lv_at hl 1 rfl) ?_
    obtain ⟨r_7, e_7, hf⟩ := bo hf
    refine pcallV (W0 := (wC c0 h k0 x0 d0 ++ (wS g h a1 a2 a3 a4 r_6 ++ (wH g k0 k1 γ r_5)))) (As := [.int p0]) (rest := []) [1, 2, 3, 4, 5] 3 0 ⟨hx, hb, hml, hown, hts⟩ hP hE hZ hS (cX4_isRing_ok l g h a1 a2 a3 a4 r_6 p0 e_7) (cwV 1 hts gX6_step_X4_isRing rfl rfl rfl hdX4_isRing ⟨(Nat.le_of_ble_eq_true rfl), (Nat.le_of_ble_eq_true rfl)⟩) rfl rfl rfl rfl rfl hl.1 rfl (Nat.le_of_ble_eq_true rfl) ⟨(Nat.le_of_ble_eq_true rfl), (Nat.le_of_ble_eq_true rfl)⟩ dX6_step_56 ?_
    exact xm_zret (r_6, r_5) (v := r_7) hx hb hr hlocks hP hD hS ⟨(Nat.le_of_ble_eq_true rfl), (Nat.le_of_ble_eq_true rfl)⟩ (Option.some.inj hf).symm dX6_step_59
  · have hf := iq c_4 hf
    exact xthrow (text := "the step cannot be added") hl0 tfS hx hb hown hlocks hts tkX6_step_S tiX6_step_S taX6_step_S hE (by decide +kernel) hZ hP hD hS (hl.1.trans hml.symm) hnt dX6_step_21 dX6_step_24 dX6_step_25 dX6_step_27 dX6_step_30 ⟨(Nat.le_of_ble_eq_true rfl), (Nat.le_of_ble_eq_true rfl)⟩ (Nat.le_of_ble_eq_true rfl) ⟨(Nat.le_of_ble_eq_true rfl), (Nat.le_of_ble_eq_true rfl)⟩ ⟨(Nat.le_of_ble_eq_true rfl), (Nat.le_of_ble_eq_true rfl)⟩ (Option.some.inj hf).symm

def fX6_wipe (σ : Sh) (η : Hi) (p0 : Int32) : Option (Except String (Int32 × Sh × Hi)) := (xthen (fX6_requireLine σ p0) fun _ => ((fX1_save σ η).bind fun r_2 => ((fX4_removeLine σ p0).bind fun r_3 => ((fX4_lineCount r_3.2).bind fun r_4 => (some (.ok (r_4, r_3.2, r_2)))))))
abbrev rmX6_wipe : Room := { frames := 7, cells := 1, slots := 6, locals := 111 }
theorem hdX6_wipe : yX6_wipe.cls = RX6 ∧ yX6_wipe.cls ≠ "java/lang/invoke/MethodHandle" ∧ yX6_wipe.cls ≠ "java/lang/invoke/VarHandle" ∧ (parseMethodDescriptor yX6_wipe.desc).map (fun d => d.parameters.length) = some 1 := by decide +kernel
theorem fiX6_wipe_X6 : ∀ w ∈ wsX60, w ∈ wsX6_wipe := by decide +kernel
theorem flX6_wipe_19 : (.fieldLink RX6 19 "ContourLabels" "history" "LContourLabels$History;" : Cond) ∈ wsX6_wipe := by decide +kernel
theorem flX6_wipe_10 : (.fieldLink RX6 10 "ContourLabels" "sheet" "LContourLabels$Sheet;" : Cond) ∈ wsX6_wipe := by decide +kernel
set_option maxHeartbeats 4000000 in
set_option maxRecDepth 100000 in
theorem cX6_wipe_ok (l : Launch) (hl0 : l.stackTraces = false) (g : Gg) (c0 h k0 x0 d0 a1 a2 a3 a4 k1 : Nat) (γ : Nat → Nat → Nat) (σ : Sh) (η : Hi) (p0 : Int32) (sz : Nat) {o : Except String (Int32 × Sh × Hi)} (hf : fX6_wipe σ η p0 = some o) : vx_Met l yX6_wipe wsX6_wipe rmX6_wipe (va_Pc [.ref c0, .int p0] (PM g (wC c0 h k0 x0 d0 ++ (wS g h a1 a2 a3 a4 σ ++ (wH g k0 k1 γ η))) sz)) (QXmi g (fun u => (wC c0 h k0 x0 d0 ++ (wS g h a1 a2 a3 a4 u.1 ++ (wH g k0 k1 γ u.2)))) (va_A (wC c0 h k0 x0 d0 ++ (wS g h a1 a2 a3 a4 σ ++ (wH g k0 k1 γ η))) sz) o) (XE g (wC c0 h k0 x0 d0 ++ (wS g h a1 a2 a3 a4 σ ++ (wH g k0 k1 γ η))) (va_A (wC c0 h k0 x0 d0 ++ (wS g h a1 a2 a3 a4 σ ++ (wH g k0 k1 γ η))) sz) o) 1 6 (va_A (wC c0 h k0 x0 d0 ++ (wS g h a1 a2 a3 a4 σ ++ (wH g k0 k1 γ η))) sz) := by
  refine vx_ofW (cc := cX6_wipe) (maxL := 2) (ret := (some .int)) (by decide) rfl ?_
  intro p e s m args below meth c s₁ B hml hnt hv
  obtain ⟨rfl, rfl, hP, hD0, hE, hZ⟩ := hv
  have hx := B.exec
  have hb := B.bytes
  have hr := B.returns
  have hts := atoms_spec (ws := wsX6_wipe) B.pre
  have hown : s.vm.findClass RX6 = some m.cls := findClass_of_methodNamed B.named
  have hlocks := B.notSynchronized
  have hD := hD0.self (sz := s.heap.size)
  generalize hAe : (va_A (wC c0 h k0 x0 d0 ++ (wS g h a1 a2 a3 a4 σ ++ (wH g k0 k1 γ η))) s.heap.size) = A at hD hZ ⊢
  have hA : ∀ q : Nat, s.heap.size ≤ q → A q := fun q h => by rw [← hAe]; exact Or.inr h
  have hS : va_S A s.heap s.heap [] := va_S.rf
  have hP : va_P g.1 vwCl (wC c0 h k0 x0 d0 ++ (wS g h a1 a2 a3 a4 σ ++ (wH g k0 k1 γ η))) s.heap := hP
  have hl := lv_entry ([.ref c0, .int p0]) (n := 2) (Nat.le_of_ble_eq_true rfl)
  rw [lg_entry_eq]
  generalize (lg_sl ([.ref c0, .int p0]) ++ List.replicate (2 - (lg_sl ([.ref c0, .int p0])).length) Slot.unset).toArray = ls at hl ⊢
  have hl : lv_has ls 2 [(0, .ref c0), (1, .int p0)] := hl
  unfold fX6_wipe at hf
  refine lv_aload_n hx hb dX6_wipe_0 rfl (lv_at hl 0 rfl) ?_
  refine lv_iload_n hx hb dX6_wipe_1 rfl (lv_at hl 1 rfl) ?_
  obtain ⟨r_1, e_1, x_1, k_1⟩ := xt hf
  refine xcallVv (W0 := (wC c0 h k0 x0 d0 ++ (wS g h a1 a2 a3 a4 σ ++ (wH g k0 k1 γ η)))) (Wc := (wC c0 h k0 x0 d0 ++ (wS g h a1 a2 a3 a4 σ))) (Wr := (wH g k0 k1 γ η)) (As := [.int p0]) (rest := []) [0, 1, 2, 3, 4, 5] [6, 7, 8, 9, 10, 11, 12, 13, 14, 15, 16, 17, 18, 19, 20, 21, 22, 23, 24, 25, 26, 27, 28, 29, 30, 31, 32, 33, 34, 35, 36, 37] [32, 33, 34, 35, 36, 37, 0, 1, 2, 3, 4, 5, 6, 7, 8, 9, 10, 11, 12, 13, 14, 15, 16, 17, 18, 19, 20, 21, 22, 23, 24, 25, 26, 27, 28, 29, 30, 31] 4 0 ⟨hx, hb, hml, hown, hts⟩ hP hD hE hZ hS hA (cX6_requireLine_ok l hl0 g c0 h k0 x0 d0 a1 a2 a3 a4 σ p0 _ e_1) (cwV 1 hts gX6_wipe_X6_requireLine rfl rfl rfl hdX6_requireLine ⟨(Nat.le_of_ble_eq_true rfl), (Nat.le_of_ble_eq_true rfl)⟩) rfl rfl rfl (by decide) (by decide) (by decide) (by decide) rfl rfl rfl rfl hl.1 rfl (Nat.le_of_ble_eq_true rfl) ⟨(Nat.le_of_ble_eq_true rfl), (Nat.le_of_ble_eq_true rfl)⟩ dX6_wipe_2 hnt hlocks ⟨(Nat.le_of_ble_eq_true rfl), (Nat.le_of_ble_eq_true rfl)⟩ x_1 (fun ok_1 H locs hP hD hS => ?_)
  have hf := k_1 () ok_1
  refine lv_aload_n hx hb dX6_wipe_5 rfl (lv_at hl 0 rfl) ?_
  refine va_get (v := .ref k0) (C := RX6) (T := TX6) (N := 4) hx hb hts fiX6_wipe_X6 hown hE.1 hP 0 rfl rfl 1 (by decide) (hts _ flX6_wipe_19) (fun _ h9 => h9) rfl dX6_wipe_6 ?_
  refine lv_aload_n hx hb dX6_wipe_9 rfl (lv_at hl 0 rfl) ?_
  refine va_get (v := .ref h) (C := RX6) (T := TX6) (N := 4) hx hb hts fiX6_wipe_X6 hown hE.1 hP 0 rfl rfl 0 (by decide) (hts _ flX6_wipe_10) (fun _ h9 => h9) rfl dX6_wipe_10 ?_
  obtain ⟨r_2, e_2, hf⟩ := bo hf
  refine mcallVv (W0 := (wC c0 h k0 x0 d0 ++ (wS g h a1 a2 a3 a4 σ ++ (wH g k0 k1 γ η)))) (Wc := (wS g h a1 a2 a3 a4 σ ++ (wH g k0 k1 γ η))) (Wr := (wC c0 h k0 x0 d0)) (W1 := (wS g h a1 a2 a3 a4 σ ++ (wH g k0 k1 γ r_2))) (W2 := (wC c0 h k0 x0 d0 ++ (wS g h a1 a2 a3 a4 σ ++ (wH g k0 k1 γ r_2)))) (As := [.ref h]) (rest := []) [1, 2, 3, 4, 5, 6, 7, 8, 9, 10, 11, 12, 13, 14, 15, 16, 17, 18, 19, 20, 21, 22, 23, 24, 25, 26, 27, 28, 29, 30, 31, 32, 33, 34, 35, 36, 37] [0] [0, 1, 2, 3, 4, 5, 6, 7, 8, 9, 10, 11, 12, 13, 14, 15, 16, 17, 18, 19, 20, 21, 22, 23, 24, 25, 26, 27, 28, 29, 30, 31, 32, 33, 34, 35, 36, 37] 1 5 ⟨hx, hb, hml, hown, hts⟩ hP hD hE hZ hS hA (cX1_save_ok l g h a1 a2 a3 a4 k0 k1 γ σ η _ e_2) (cwV 1 hts gX6_wipe_X1_save rfl rfl rfl hdX1_save ⟨(Nat.le_of_ble_eq_true rfl), (Nat.le_of_ble_eq_true rfl)⟩) rfl rfl rfl (by decide) (by decide) (by decide) (by decide) rfl rfl rfl rfl hl.1 rfl (Nat.le_of_ble_eq_true rfl) ⟨(Nat.le_of_ble_eq_true rfl), (Nat.le_of_ble_eq_true rfl)⟩ dX6_wipe_13 (fun H locs hP hD hS => ?_)
  refine lv_aload_n hx hb dX6_wipe_16 rfl (lv_at hl 0 rfl) ?_
  refine va_get (v := .ref h) (C := RX6) (T := TX6) (N := 4) hx hb hts fiX6_wipe_X6 hown hE.1 hP 0 rfl rfl 0 (by decide) (hts _ flX6_wipe_10) (fun _ h9 => h9) rfl dX6_wipe_17 ?_
  refine lv_iload_n hx hb dX6_wipe_20 rfl (lv_at hl 1 rfl) ?_
  obtain ⟨r_3, e_3, hf⟩ := bo hf
  refine mcallVi (W0 := (wC c0 h k0 x0 d0 ++ (wS g h a1 a2 a3 a4 σ ++ (wH g k0 k1 γ r_2)))) (Wc := (wS g h a1 a2 a3 a4 σ)) (Wr := (wC c0 h k0 x0 d0 ++ (wH g k0 k1 γ r_2))) (W1 := (wS g h a1 a2 a3 a4 r_3.2)) (W2 := (wC c0 h k0 x0 d0 ++ (wS g h a1 a2 a3 a4 r_3.2 ++ (wH g k0 k1 γ r_2)))) (As := [.int p0]) (rest := []) [1, 2, 3, 4, 5] [0, 6, 7, 8, 9, 10, 11, 12, 13, 14, 15, 16, 17, 18, 19, 20, 21, 22, 23, 24, 25, 26, 27, 28, 29, 30, 31, 32, 33, 34, 35, 36, 37] [0, 33, 34, 35, 36, 37, 1, 2, 3, 4, 5, 6, 7, 8, 9, 10, 11, 12, 13, 14, 15, 16, 17, 18, 19, 20, 21, 22, 23, 24, 25, 26, 27, 28, 29, 30, 31, 32] 3 0 ⟨hx, hb, hml, hown, hts⟩ hP hD hE hZ hS hA (cX4_removeLine_ok l g h a1 a2 a3 a4 σ p0 _ e_3) (cwV 1 hts gX6_wipe_X4_removeLine rfl rfl rfl hdX4_removeLine ⟨(Nat.le_of_ble_eq_true rfl), (Nat.le_of_ble_eq_true rfl)⟩) rfl rfl rfl (by decide) (by decide) (by decide) (by decide) rfl rfl rfl rfl hl.1 rfl (Nat.le_of_ble_eq_true rfl) ⟨(Nat.le_of_ble_eq_true rfl), (Nat.le_of_ble_eq_true rfl)⟩ dX6_wipe_21 (fun H locs hP hD hS => ?_)
  refine lv_pop hx hb dX6_wipe_24 rfl ?_
  refine lv_aload_n hx hb dX6_wipe_25 rfl (lv_at hl 0 rfl) ?_
  refine va_get (v := .ref h) (C := RX6) (T := TX6) (N := 4) hx hb hts fiX6_wipe_X6 hown hE.1 hP 0 rfl rfl 0 (by decide) (hts _ flX6_wipe_10) (fun _ h9 => h9) rfl dX6_wipe_26 ?_
  obtain ⟨r_4, e_4, hf⟩ := bo hf
  refine pcallV (W0 := (wC c0 h k0 x0 d0 ++ (wS g h a1 a2 a3 a4 r_3.2 ++ (wH g k0 k1 γ r_2)))) (As := []) (rest := []) [1, 2, 3, 4, 5] 3 0 ⟨hx, hb, hml, hown, hts⟩ hP hE hZ hS (cX4_lineCount_ok l g h a1 a2 a3 a4 r_3.2 e_4) (cwV 0 hts gX6_wipe_X4_lineCount rfl rfl rfl hdX4_lineCount ⟨(Nat.le_of_ble_eq_true rfl), (Nat.le_of_ble_eq_true rfl)⟩) rfl rfl rfl rfl rfl hl.1 rfl (Nat.le_of_ble_eq_true rfl) ⟨(Nat.le_of_ble_eq_true rfl), (Nat.le_of_ble_eq_true rfl)⟩ dX6_wipe_29 ?_
  exact xm_iret (r_3.2, r_2) (v := r_4) hx hb hr hlocks hP hD hS ⟨(Nat.le_of_ble_eq_true rfl), (Nat.le_of_ble_eq_true rfl)⟩ (Option.some.inj hf).symm dX6_wipe_32

def fX6_setLevel (σ : Sh) (η : Hi) (p0 p1 : Int32) : Option (Except String (Int32 × Sh × Hi)) := (xthen (fX6_requireLine σ p0) fun _ => (xthen (fX6_requireLevel p1) fun _ => ((fX1_save σ η).bind fun r_3 => ((fX4_levelIn σ p0).bind fun r_4 => ((fX4_putLevel σ p0 p1).bind fun r_5 => ((fX4_putLabel r_5 p0 (-1 : Int32)).bind fun r_6 => (some (.ok (r_4, r_6, r_3)))))))))
abbrev rmX6_setLevel : Room := { frames := 7, cells := 2, slots := 12, locals := 111 }
theorem hdX6_setLevel : yX6_setLevel.cls = RX6 ∧ yX6_setLevel.cls ≠ "java/lang/invoke/MethodHandle" ∧ yX6_setLevel.cls ≠ "java/lang/invoke/VarHandle" ∧ (parseMethodDescriptor yX6_setLevel.desc).map (fun d => d.parameters.length) = some 2 := by decide +kernel
theorem fiX6_setLevel_X6 : ∀ w ∈ wsX60, w ∈ wsX6_setLevel := by decide +kernel
theorem flX6_setLevel_19 : (.fieldLink RX6 19 "ContourLabels" "history" "LContourLabels$History;" : Cond) ∈ wsX6_setLevel := by decide +kernel
theorem flX6_setLevel_10 : (.fieldLink RX6 10 "ContourLabels" "sheet" "LContourLabels$Sheet;" : Cond) ∈ wsX6_setLevel := by decide +kernel
set_option maxHeartbeats 4000000 in
set_option maxRecDepth 100000 in
theorem cX6_setLevel_ok (l : Launch) (hl0 : l.stackTraces = false) (g : Gg) (c0 h k0 x0 d0 a1 a2 a3 a4 k1 : Nat) (γ : Nat → Nat → Nat) (σ : Sh) (η : Hi) (p0 p1 : Int32) (sz : Nat) {o : Except String (Int32 × Sh × Hi)} (hf : fX6_setLevel σ η p0 p1 = some o) : vx_Met l yX6_setLevel wsX6_setLevel rmX6_setLevel (va_Pc [.ref c0, .int p0, .int p1] (PM g (wC c0 h k0 x0 d0 ++ (wS g h a1 a2 a3 a4 σ ++ (wH g k0 k1 γ η))) sz)) (QXmi g (fun u => (wC c0 h k0 x0 d0 ++ (wS g h a1 a2 a3 a4 u.1 ++ (wH g k0 k1 γ u.2)))) (va_A (wC c0 h k0 x0 d0 ++ (wS g h a1 a2 a3 a4 σ ++ (wH g k0 k1 γ η))) sz) o) (XE g (wC c0 h k0 x0 d0 ++ (wS g h a1 a2 a3 a4 σ ++ (wH g k0 k1 γ η))) (va_A (wC c0 h k0 x0 d0 ++ (wS g h a1 a2 a3 a4 σ ++ (wH g k0 k1 γ η))) sz) o) 2 12 (va_A (wC c0 h k0 x0 d0 ++ (wS g h a1 a2 a3 a4 σ ++ (wH g k0 k1 γ η))) sz) := by
  refine vx_ofW (cc := cX6_setLevel) (maxL := 4) (ret := (some .int)) (by decide) rfl ?_
  intro p e s m args below meth c s₁ B hml hnt hv
  obtain ⟨rfl, rfl, hP, hD0, hE, hZ⟩ := hv
  have hx := B.exec
  have hb := B.bytes
  have hr := B.returns
  have hts := atoms_spec (ws := wsX6_setLevel) B.pre
  have hown : s.vm.findClass RX6 = some m.cls := findClass_of_methodNamed B.named
  have hlocks := B.notSynchronized
  have hD := hD0.self (sz := s.heap.size)
  generalize hAe : (va_A (wC c0 h k0 x0 d0 ++ (wS g h a1 a2 a3 a4 σ ++ (wH g k0 k1 γ η))) s.heap.size) = A at hD hZ ⊢
  have hA : ∀ q : Nat, s.heap.size ≤ q → A q := fun q h => by rw [← hAe]; exact Or.inr h
  have hS : va_S A s.heap s.heap [] := va_S.rf
  have hP : va_P g.1 vwCl (wC c0 h k0 x0 d0 ++ (wS g h a1 a2 a3 a4 σ ++ (wH g k0 k1 γ η))) s.heap := hP
  have hl := lv_entry ([.ref c0, .int p0, .int p1]) (n := 4) (Nat.le_of_ble_eq_true rfl)
  rw [lg_entry_eq]
  generalize (lg_sl ([.ref c0, .int p0, .int p1]) ++ List.replicate (4 - (lg_sl ([.ref c0, .int p0, .int p1])).length) Slot.unset).toArray = ls at hl ⊢
  have hl : lv_has ls 4 [(0, .ref c0), (1, .int p0), (2, .int p1)] := hl
  unfold fX6_setLevel at hf
  refine lv_aload_n hx hb dX6_setLevel_0 rfl (lv_at hl 0 rfl) ?_
  refine lv_iload_n hx hb dX6_setLevel_1 rfl (lv_at hl 1 rfl) ?_
  obtain ⟨r_1, e_1, x_1, k_1⟩ := xt hf
  refine xcallVv (W0 := (wC c0 h k0 x0 d0 ++ (wS g h a1 a2 a3 a4 σ ++ (wH g k0 k1 γ η)))) (Wc := (wC c0 h k0 x0 d0 ++ (wS g h a1 a2 a3 a4 σ))) (Wr := (wH g k0 k1 γ η)) (As := [.int p0]) (rest := []) [0, 1, 2, 3, 4, 5] [6, 7, 8, 9, 10, 11, 12, 13, 14, 15, 16, 17, 18, 19, 20, 21, 22, 23, 24, 25, 26, 27, 28, 29, 30, 31, 32, 33, 34, 35, 36, 37] [32, 33, 34, 35, 36, 37, 0, 1, 2, 3, 4, 5, 6, 7, 8, 9, 10, 11, 12, 13, 14, 15, 16, 17, 18, 19, 20, 21, 22, 23, 24, 25, 26, 27, 28, 29, 30, 31] 4 0 ⟨hx, hb, hml, hown, hts⟩ hP hD hE hZ hS hA (cX6_requireLine_ok l hl0 g c0 h k0 x0 d0 a1 a2 a3 a4 σ p0 _ e_1) (cwV 1 hts gX6_setLevel_X6_requireLine rfl rfl rfl hdX6_requireLine ⟨(Nat.le_of_ble_eq_true rfl), (Nat.le_of_ble_eq_true rfl)⟩) rfl rfl rfl (by decide) (by decide) (by decide) (by decide) rfl rfl rfl rfl hl.1 rfl (Nat.le_of_ble_eq_true rfl) ⟨(Nat.le_of_ble_eq_true rfl), (Nat.le_of_ble_eq_true rfl)⟩ dX6_setLevel_2 hnt hlocks ⟨(Nat.le_of_ble_eq_true rfl), (Nat.le_of_ble_eq_true rfl)⟩ x_1 (fun ok_1 H locs hP hD hS => ?_)
  have hf := k_1 () ok_1
  refine lv_iload_n hx hb dX6_setLevel_5 rfl (lv_at hl 2 rfl) ?_
  obtain ⟨r_2, e_2, x_2, k_2⟩ := xt hf
  refine xcallSv (W0 := (wC c0 h k0 x0 d0 ++ (wS g h a1 a2 a3 a4 σ ++ (wH g k0 k1 γ η)))) (Wc := ([] : va_W)) (Wr := (wC c0 h k0 x0 d0 ++ (wS g h a1 a2 a3 a4 σ ++ (wH g k0 k1 γ η)))) (As := [.int p1]) (rest := []) [] [0, 1, 2, 3, 4, 5, 6, 7, 8, 9, 10, 11, 12, 13, 14, 15, 16, 17, 18, 19, 20, 21, 22, 23, 24, 25, 26, 27, 28, 29, 30, 31, 32, 33, 34, 35, 36, 37] [0, 1, 2, 3, 4, 5, 6, 7, 8, 9, 10, 11, 12, 13, 14, 15, 16, 17, 18, 19, 20, 21, 22, 23, 24, 25, 26, 27, 28, 29, 30, 31, 32, 33, 34, 35, 36, 37] ⟨hx, hb, hml, hown, hts⟩ hP hD hE hZ hS hA (cX6_requireLevel_ok l hl0 g  p1 _ e_2) (va_cwS 1 hts gX6_setLevel_X6_requireLevel rfl rfl rfl hdX6_requireLevel.2 ⟨(Nat.le_of_ble_eq_true rfl), (Nat.le_of_ble_eq_true rfl)⟩) rfl rfl rfl (by decide) (by decide) (by decide) (by decide) rfl hl.1 rfl (Nat.le_of_ble_eq_true rfl) ⟨(Nat.le_of_ble_eq_true rfl), (Nat.le_of_ble_eq_true rfl)⟩ dX6_setLevel_6 hnt hlocks ⟨(Nat.le_of_ble_eq_true rfl), (Nat.le_of_ble_eq_true rfl)⟩ x_2 (fun ok_2 H locs hP hD hS => ?_)
  have hf := k_2 () ok_2
  refine lv_aload_n hx hb dX6_setLevel_9 rfl (lv_at hl 0 rfl) ?_
  refine va_get (v := .ref k0) (C := RX6) (T := TX6) (N := 4) hx hb hts fiX6_setLevel_X6 hown hE.1 hP 0 rfl rfl 1 (by decide) (hts _ flX6_setLevel_19) (fun _ h9 => h9) rfl dX6_setLevel_10 ?_
  refine lv_aload_n hx hb dX6_setLevel_13 rfl (lv_at hl 0 rfl) ?_
  refine va_get (v := .ref h) (C := RX6) (T := TX6) (N := 4) hx hb hts fiX6_setLevel_X6 hown hE.1 hP 0 rfl rfl 0 (by decide) (hts _ flX6_setLevel_10) (fun _ h9 => h9) rfl dX6_setLevel_14 ?_
  obtain ⟨r_3, e_3, hf⟩ := bo hf
  refine mcallVv (W0 := (wC c0 h k0 x0 d0 ++ (wS g h a1 a2 a3 a4 σ ++ (wH g k0 k1 γ η)))) (Wc := (wS g h a1 a2 a3 a4 σ ++ (wH g k0 k1 γ η))) (Wr := (wC c0 h k0 x0 d0)) (W1 := (wS g h a1 a2 a3 a4 σ ++ (wH g k0 k1 γ r_3))) (W2 := (wC c0 h k0 x0 d0 ++ (wS g h a1 a2 a3 a4 σ ++ (wH g k0 k1 γ r_3)))) (As := [.ref h]) (rest := []) [1, 2, 3, 4, 5, 6, 7, 8, 9, 10, 11, 12, 13, 14, 15, 16, 17, 18, 19, 20, 21, 22, 23, 24, 25, 26, 27, 28, 29, 30, 31, 32, 33, 34, 35, 36, 37] [0] [0, 1, 2, 3, 4, 5, 6, 7, 8, 9, 10, 11, 12, 13, 14, 15, 16, 17, 18, 19, 20, 21, 22, 23, 24, 25, 26, 27, 28, 29, 30, 31, 32, 33, 34, 35, 36, 37] 1 5 ⟨hx, hb, hml, hown, hts⟩ hP hD hE hZ hS hA (cX1_save_ok l g h a1 a2 a3 a4 k0 k1 γ σ η _ e_3) (cwV 1 hts gX6_setLevel_X1_save rfl rfl rfl hdX1_save ⟨(Nat.le_of_ble_eq_true rfl), (Nat.le_of_ble_eq_true rfl)⟩) rfl rfl rfl (by decide) (by decide) (by decide) (by decide) rfl rfl rfl rfl hl.1 rfl (Nat.le_of_ble_eq_true rfl) ⟨(Nat.le_of_ble_eq_true rfl), (Nat.le_of_ble_eq_true rfl)⟩ dX6_setLevel_17 (fun H locs hP hD hS => ?_)
  refine lv_aload_n hx hb dX6_setLevel_20 rfl (lv_at hl 0 rfl) ?_
  refine va_get (v := .ref h) (C := RX6) (T := TX6) (N := 4) hx hb hts fiX6_setLevel_X6 hown hE.1 hP 0 rfl rfl 0 (by decide) (hts _ flX6_setLevel_10) (fun _ h9 => h9) rfl dX6_setLevel_21 ?_
  refine lv_iload_n hx hb dX6_setLevel_24 rfl (lv_at hl 1 rfl) ?_
  obtain ⟨r_4, e_4, hf⟩ := bo hf
  refine pcallV (W0 := (wC c0 h k0 x0 d0 ++ (wS g h a1 a2 a3 a4 σ ++ (wH g k0 k1 γ r_3)))) (As := [.int p0]) (rest := []) [1, 2, 3, 4, 5] 3 0 ⟨hx, hb, hml, hown, hts⟩ hP hE hZ hS (cX4_levelIn_ok l g h a1 a2 a3 a4 σ p0 e_4) (cwV 1 hts gX6_setLevel_X4_levelIn rfl rfl rfl hdX4_levelIn ⟨(Nat.le_of_ble_eq_true rfl), (Nat.le_of_ble_eq_true rfl)⟩) rfl rfl rfl rfl rfl hl.1 rfl (Nat.le_of_ble_eq_true rfl) ⟨(Nat.le_of_ble_eq_true rfl), (Nat.le_of_ble_eq_true rfl)⟩ dX6_setLevel_25 ?_
  refine lv_istore_n (lv' := [(3, .int r_4), (0, .ref c0), (1, .int p0), (2, .int p1)]) hx hb dX6_setLevel_28 rfl hl (by decide) rfl (fun ls hl => ?_)
  refine lv_aload_n hx hb dX6_setLevel_29 rfl (lv_at hl 1 rfl) ?_
  refine va_get (v := .ref h) (C := RX6) (T := TX6) (N := 4) hx hb hts fiX6_setLevel_X6 hown hE.1 hP 0 rfl rfl 0 (by decide) (hts _ flX6_setLevel_10) (fun _ h9 => h9) rfl dX6_setLevel_30 ?_
  refine lv_iload_n hx hb dX6_setLevel_33 rfl (lv_at hl 2 rfl) ?_
  refine lv_iload_n hx hb dX6_setLevel_34 rfl (lv_at hl 3 rfl) ?_
  obtain ⟨r_5, e_5, hf⟩ := bo hf
  refine mcallVv (W0 := (wC c0 h k0 x0 d0 ++ (wS g h a1 a2 a3 a4 σ ++ (wH g k0 k1 γ r_3)))) (Wc := (wS g h a1 a2 a3 a4 σ)) (Wr := (wC c0 h k0 x0 d0 ++ (wH g k0 k1 γ r_3))) (W1 := (wS g h a1 a2 a3 a4 r_5)) (W2 := (wC c0 h k0 x0 d0 ++ (wS g h a1 a2 a3 a4 r_5 ++ (wH g k0 k1 γ r_3)))) (As := [.int p0, .int p1]) (rest := []) [1, 2, 3, 4, 5] [0, 6, 7, 8, 9, 10, 11, 12, 13, 14, 15, 16, 17, 18, 19, 20, 21, 22, 23, 24, 25, 26, 27, 28, 29, 30, 31, 32, 33, 34, 35, 36, 37] [0, 33, 34, 35, 36, 37, 1, 2, 3, 4, 5, 6, 7, 8, 9, 10, 11, 12, 13, 14, 15, 16, 17, 18, 19, 20, 21, 22, 23, 24, 25, 26, 27, 28, 29, 30, 31, 32] 3 0 ⟨hx, hb, hml, hown, hts⟩ hP hD hE hZ hS hA (cX4_putLevel_ok l g h a1 a2 a3 a4 σ p0 p1 _ e_5) (cwV 2 hts gX6_setLevel_X4_putLevel rfl rfl rfl hdX4_putLevel ⟨(Nat.le_of_ble_eq_true rfl), (Nat.le_of_ble_eq_true rfl)⟩) rfl rfl rfl (by decide) (by decide) (by decide) (by decide) rfl rfl rfl rfl hl.1 rfl (Nat.le_of_ble_eq_true rfl) ⟨(Nat.le_of_ble_eq_true rfl), (Nat.le_of_ble_eq_true rfl)⟩ dX6_setLevel_35 (fun H locs hP hD hS => ?_)
  refine lv_aload_n hx hb dX6_setLevel_38 rfl (lv_at hl 1 rfl) ?_
  refine va_get (v := .ref h) (C := RX6) (T := TX6) (N := 4) hx hb hts fiX6_setLevel_X6 hown hE.1 hP 0 rfl rfl 0 (by decide) (hts _ flX6_setLevel_10) (fun _ h9 => h9) rfl dX6_setLevel_39 ?_
  refine lv_iload_n hx hb dX6_setLevel_42 rfl (lv_at hl 2 rfl) ?_
  refine lv_iconst (v := (-1 : Int32)) hx hb dX6_setLevel_43 (by decide) ?_
  obtain ⟨r_6, e_6, hf⟩ := bo hf
  refine mcallVv (W0 := (wC c0 h k0 x0 d0 ++ (wS g h a1 a2 a3 a4 r_5 ++ (wH g k0 k1 γ r_3)))) (Wc := (wS g h a1 a2 a3 a4 r_5)) (Wr := (wC c0 h k0 x0 d0 ++ (wH g k0 k1 γ r_3))) (W1 := (wS g h a1 a2 a3 a4 r_6)) (W2 := (wC c0 h k0 x0 d0 ++ (wS g h a1 a2 a3 a4 r_6 ++ (wH g k0 k1 γ r_3)))) (As := [.int p0, .int (-1 : Int32)]) (rest := []) [1, 2, 3, 4, 5] [0, 6, 7, 8, 9, 10, 11, 12, 13, 14, 15, 16, 17, 18, 19, 20, 21, 22, 23, 24, 25, 26, 27, 28, 29, 30, 31, 32, 33, 34, 35, 36, 37] [0, 33, 34, 35, 36, 37, 1, 2, 3, 4, 5, 6, 7, 8, 9, 10, 11, 12, 13, 14, 15, 16, 17, 18, 19, 20, 21, 22, 23, 24, 25, 26, 27, 28, 29, 30, 31, 32] 3 0 ⟨hx, hb, hml, hown, hts⟩ hP hD hE hZ hS hA (cX4_putLabel_ok l g h a1 a2 a3 a4 r_5 p0 (-1 : Int32) _ e_6) (cwV 2 hts gX6_setLevel_X4_putLabel rfl rfl rfl hdX4_putLabel ⟨(Nat.le_of_ble_eq_true rfl), (Nat.le_of_ble_eq_true rfl)⟩) rfl rfl rfl (by decide) (by decide) (by decide) (by decide) rfl rfl rfl rfl hl.1 rfl (Nat.le_of_ble_eq_true rfl) ⟨(Nat.le_of_ble_eq_true rfl), (Nat.le_of_ble_eq_true rfl)⟩ dX6_setLevel_44 (fun H locs hP hD hS => ?_)
  refine lv_iload_n hx hb dX6_setLevel_47 rfl (lv_at hl 0 rfl) ?_
  exact xm_iret (r_6, r_3) (v := r_4) hx hb hr hlocks hP hD hS ⟨(Nat.le_of_ble_eq_true rfl), (Nat.le_of_ble_eq_true rfl)⟩ (Option.some.inj hf).symm dX6_setLevel_48

def fX6_label (σ : Sh) (η : Hi) (p0 p1 : Int32) : Option (Except String (Int32 × Sh × Hi)) := (xthen (fX6_requireNumber σ p0 p1) fun _ => ((fX2_reasonAgainst σ p0 p1).bind fun r_2 => (if r_2 = 0 then ((fX1_save σ η).bind fun r_4 => ((fX4_putLabel σ p0 p1).bind fun r_5 => ((fX2_bendOfPlace r_5 p0 p1).bind fun r_6 => (some (.ok (r_6, r_5, r_4)))))) else (some (.error "java/lang/IllegalStateException")))))
abbrev rmX6_label : Room := { frames := 7, cells := 2, slots := 12, locals := 121 }
theorem hdX6_label : yX6_label.cls = RX6 ∧ yX6_label.cls ≠ "java/lang/invoke/MethodHandle" ∧ yX6_label.cls ≠ "java/lang/invoke/VarHandle" ∧ (parseMethodDescriptor yX6_label.desc).map (fun d => d.parameters.length) = some 2 := by decide +kernel
theorem fiX6_label_X6 : ∀ w ∈ wsX60, w ∈ wsX6_label := by decide +kernel
theorem flX6_label_10 : (.fieldLink RX6 10 "ContourLabels" "sheet" "LContourLabels$Sheet;" : Cond) ∈ wsX6_label := by decide +kernel
theorem flX6_label_19 : (.fieldLink RX6 19 "ContourLabels" "history" "LContourLabels$History;" : Cond) ∈ wsX6_label := by decide +kernel
theorem tkX6_label_S : (.classLink RX6 48 "java/lang/IllegalStateException" : Cond) ∈ wsX6_label := by decide +kernel
theorem tiX6_label_S : (.initialized "java/lang/IllegalStateException" : Cond) ∈ wsX6_label := by decide +kernel
theorem taX6_label_S : ∀ w ∈ (vx_atS RX6 52 "java/lang/IllegalStateException" nms).filter goodWord, w ∈ wsX6_label := by decide +kernel
set_option maxHeartbeats 4000000 in
set_option maxRecDepth 100000 in
theorem cX6_label_ok (l : Launch) (hl0 : l.stackTraces = false) (g : Gg) (c0 h k0 x0 d0 a1 a2 a3 a4 k1 : Nat) (γ : Nat → Nat → Nat) (σ : Sh) (η : Hi) (p0 p1 : Int32) (sz : Nat) {o : Except String (Int32 × Sh × Hi)} (hf : fX6_label σ η p0 p1 = some o) : vx_Met l yX6_label wsX6_label rmX6_label (va_Pc [.ref c0, .int p0, .int p1] (PM g (wC c0 h k0 x0 d0 ++ (wS g h a1 a2 a3 a4 σ ++ (wH g k0 k1 γ η))) sz)) (QXmi g (fun u => (wC c0 h k0 x0 d0 ++ (wS g h a1 a2 a3 a4 u.1 ++ (wH g k0 k1 γ u.2)))) (va_A (wC c0 h k0 x0 d0 ++ (wS g h a1 a2 a3 a4 σ ++ (wH g k0 k1 γ η))) sz) o) (XE g (wC c0 h k0 x0 d0 ++ (wS g h a1 a2 a3 a4 σ ++ (wH g k0 k1 γ η))) (va_A (wC c0 h k0 x0 d0 ++ (wS g h a1 a2 a3 a4 σ ++ (wH g k0 k1 γ η))) sz) o) 2 12 (va_A (wC c0 h k0 x0 d0 ++ (wS g h a1 a2 a3 a4 σ ++ (wH g k0 k1 γ η))) sz) := by
  refine vx_ofW (cc := cX6_label) (maxL := 3) (ret := (some .int)) (by decide) rfl ?_
  intro p e s m args below meth c s₁ B hml hnt hv
  obtain ⟨rfl, rfl, hP, hD0, hE, hZ⟩ := hv
  have hx := B.exec
  have hb := B.bytes
  have hr := B.returns
  have hts := atoms_spec (ws := wsX6_label) B.pre
  have hown : s.vm.findClass RX6 = some m.cls := findClass_of_methodNamed B.named
  have hlocks := B.notSynchronized
  have hD := hD0.self (sz := s.heap.size)
  generalize hAe : (va_A (wC c0 h k0 x0 d0 ++ (wS g h a1 a2 a3 a4 σ ++ (wH g k0 k1 γ η))) s.heap.size) = A at hD hZ ⊢
  have hA : ∀ q : Nat, s.heap.size ≤ q → A q := fun q h => by rw [← hAe]; exact Or.inr h
  have hS : va_S A s.heap s.heap [] := va_S.rf
  have hP : va_P g.1 vwCl (wC c0 h k0 x0 d0 ++ (wS g h a1 a2 a3 a4 σ ++ (wH g k0 k1 γ η))) s.heap := hP
  have hl := lv_entry ([.ref c0, .int p0, .int p1]) (n := 3) (Nat.le_of_ble_eq_true rfl)
  rw [lg_entry_eq]
  generalize (lg_sl ([.ref c0, .int p0, .int p1]) ++ List.replicate (3 - (lg_sl ([.ref c0, .int p0, .int p1])).length) Slot.unset).toArray = ls at hl ⊢
  have hl : lv_has ls 3 [(0, .ref c0), (1, .int p0), (2, .int p1)] := hl
  unfold fX6_label at hf
  refine lv_aload_n hx hb dX6_label_0 rfl (lv_at hl 0 rfl) ?_
  refine lv_iload_n hx hb dX6_label_1 rfl (lv_at hl 1 rfl) ?_
  refine lv_iload_n hx hb dX6_label_2 rfl (lv_at hl 2 rfl) ?_
  obtain ⟨r_1, e_1, x_1, k_1⟩ := xt hf
  refine xcallVv (W0 := (wC c0 h k0 x0 d0 ++ (wS g h a1 a2 a3 a4 σ ++ (wH g k0 k1 γ η)))) (Wc := (wC c0 h k0 x0 d0 ++ (wS g h a1 a2 a3 a4 σ))) (Wr := (wH g k0 k1 γ η)) (As := [.int p0, .int p1]) (rest := []) [0, 1, 2, 3, 4, 5] [6, 7, 8, 9, 10, 11, 12, 13, 14, 15, 16, 17, 18, 19, 20, 21, 22, 23, 24, 25, 26, 27, 28, 29, 30, 31, 32, 33, 34, 35, 36, 37] [32, 33, 34, 35, 36, 37, 0, 1, 2, 3, 4, 5, 6, 7, 8, 9, 10, 11, 12, 13, 14, 15, 16, 17, 18, 19, 20, 21, 22, 23, 24, 25, 26, 27, 28, 29, 30, 31] 4 0 ⟨hx, hb, hml, hown, hts⟩ hP hD hE hZ hS hA (cX6_requireNumber_ok l hl0 g c0 h k0 x0 d0 a1 a2 a3 a4 σ p0 p1 _ e_1) (cwV 2 hts gX6_label_X6_requireNumber rfl rfl rfl hdX6_requireNumber ⟨(Nat.le_of_ble_eq_true rfl), (Nat.le_of_ble_eq_true rfl)⟩) rfl rfl rfl (by decide) (by decide) (by decide) (by decide) rfl rfl rfl rfl hl.1 rfl (Nat.le_of_ble_eq_true rfl) ⟨(Nat.le_of_ble_eq_true rfl), (Nat.le_of_ble_eq_true rfl)⟩ dX6_label_3 hnt hlocks ⟨(Nat.le_of_ble_eq_true rfl), (Nat.le_of_ble_eq_true rfl)⟩ x_1 (fun ok_1 H locs hP hD hS => ?_)
  have hf := k_1 () ok_1
  refine lv_aload_n hx hb dX6_label_6 rfl (lv_at hl 0 rfl) ?_
  refine va_get (v := .ref h) (C := RX6) (T := TX6) (N := 4) hx hb hts fiX6_label_X6 hown hE.1 hP 0 rfl rfl 0 (by decide) (hts _ flX6_label_10) (fun _ h9 => h9) rfl dX6_label_7 ?_
  refine lv_iload_n hx hb dX6_label_10 rfl (lv_at hl 1 rfl) ?_
  refine lv_iload_n hx hb dX6_label_11 rfl (lv_at hl 2 rfl) ?_
  obtain ⟨r_2, e_2, hf⟩ := bo hf
  refine pcallS (W0 := (wC c0 h k0 x0 d0 ++ (wS g h a1 a2 a3 a4 σ ++ (wH g k0 k1 γ η)))) (As := [.ref h, .int p0, .int p1]) (rest := []) [1, 2, 3, 4, 5] ⟨hx, hb, hml, hown, hts⟩ hP hE hZ hS (cX2_reasonAgainst_ok l g h a1 a2 a3 a4 σ p0 p1 e_2) (va_cwS 3 hts gX6_label_X2_reasonAgainst rfl rfl rfl hdX2_reasonAgainst.2 ⟨(Nat.le_of_ble_eq_true rfl), (Nat.le_of_ble_eq_true rfl)⟩) rfl rfl hl.1 rfl (Nat.le_of_ble_eq_true rfl) ⟨(Nat.le_of_ble_eq_true rfl), (Nat.le_of_ble_eq_true rfl)⟩ dX6_label_12 ?_
  refine lv_if_eq (tgt := 28) hx hb dX6_label_15 (by decide) (fun c_3 => ?_) (fun c_3 => ?_)
  · have hf := ip c_3 hf
    refine lv_aload_n hx hb dX6_label_28 rfl (lv_at hl 0 rfl) ?_
    refine va_get (v := .ref k0) (C := RX6) (T := TX6) (N := 4) hx hb hts fiX6_label_X6 hown hE.1 hP 0 rfl rfl 1 (by decide) (hts _ flX6_label_19) (fun _ h9 => h9) rfl dX6_label_29 ?_
    refine lv_aload_n hx hb dX6_label_32 rfl (lv_at hl 0 rfl) ?_
    refine va_get (v := .ref h) (C := RX6) (T := TX6) (N := 4) hx hb hts fiX6_label_X6 hown hE.1 hP 0 rfl rfl 0 (by decide) (hts _ flX6_label_10) (fun _ h9 => h9) rfl dX6_label_33 ?_
    obtain ⟨r_4, e_4, hf⟩ := bo hf
    refine mcallVv (W0 := (wC c0 h k0 x0 d0 ++ (wS g h a1 a2 a3 a4 σ ++ (wH g k0 k1 γ η)))) (Wc := (wS g h a1 a2 a3 a4 σ ++ (wH g k0 k1 γ η))) (Wr := (wC c0 h k0 x0 d0)) (W1 := (wS g h a1 a2 a3 a4 σ ++ (wH g k0 k1 γ r_4))) (W2 := (wC c0 h k0 x0 d0 ++ (wS g h a1 a2 a3 a4 σ ++ (wH g k0 k1 γ r_4)))) (As := [.ref h]) (rest := []) [1, 2, 3, 4, 5, 6, 7, 8, 9, 10, 11, 12, 13, 14, 15, 16, 17, 18, 19, 20, 21, 22, 23, 24, 25, 26, 27, 28, 29, 30, 31, 32, 33, 34, 35, 36, 37] [0] [0, 1, 2, 3, 4, 5, 6, 7, 8, 9, 10, 11, 12, 13, 14, 15, 16, 17, 18, 19, 20, 21, 22, 23, 24, 25, 26, 27, 28, 29, 30, 31, 32, 33, 34, 35, 36, 37] 1 5 ⟨hx, hb, hml, hown, hts⟩ hP hD hE hZ hS hA (cX1_save_ok l g h a1 a2 a3 a4 k0 k1 γ σ η _ e_4) (cwV 1 hts gX6_label_X1_save rfl rfl rfl hdX1_save ⟨(Nat.le_of_ble_eq_true rfl), (Nat.le_of_ble_eq_true rfl)⟩) rfl rfl rfl (by decide) (by decide) (by decide) (by decide) rfl rfl rfl rfl hl.1 rfl (Nat.le_of_ble_eq_true rfl) ⟨(Nat.le_of_ble_eq_true rfl), (Nat.le_of_ble_eq_true rfl)⟩ dX6_label_36 (fun H locs hP hD hS => ?_)
    refine lv_aload_n hx hb dX6_label_39 rfl (lv_at hl 0 rfl) ?_
    refine va_get (v := .ref h) (C := RX6) (T := TX6) (N := 4) hx hb hts fiX6_label_X6 hown hE.1 hP 0 rfl rfl 0 (by decide) (hts _ flX6_label_10) (fun _ h9 => h9) rfl dX6_label_40 ?_
    refine lv_iload_n hx hb dX6_label_43 rfl (lv_at hl 1 rfl) ?_
    refine lv_iload_n hx hb dX6_label_44 rfl (lv_at hl 2 rfl) ?_
    obtain ⟨r_5, e_5, hf⟩ := bo hf
    refine mcallVv (W0 := (wC c0 h k0 x0 d0 ++ (wS g h a1 a2 a3 a4 σ ++ (wH g k0 k1 γ r_4)))) (Wc := (wS g h a1 a2 a3 a4 σ)) (Wr := (wC c0 h k0 x0 d0 ++ (wH g k0 k1 γ r_4))) (W1 := (wS g h a1 a2 a3 a4 r_5)) (W2 := (wC c0 h k0 x0 d0 ++ (wS g h a1 a2 a3 a4 r_5 ++ (wH g k0 k1 γ r_4)))) (As := [.int p0, .int p1]) (rest := []) [1, 2, 3, 4, 5] [0, 6, 7, 8, 9, 10, 11, 12, 13, 14, 15, 16, 17, 18, 19, 20, 21, 22, 23, 24, 25, 26, 27, 28, 29, 30, 31, 32, 33, 34, 35, 36, 37] [0, 33, 34, 35, 36, 37, 1, 2, 3, 4, 5, 6, 7, 8, 9, 10, 11, 12, 13, 14, 15, 16, 17, 18, 19, 20, 21, 22, 23, 24, 25, 26, 27, 28, 29, 30, 31, 32] 3 0 ⟨hx, hb, hml, hown, hts⟩ hP hD hE hZ hS hA (cX4_putLabel_ok l g h a1 a2 a3 a4 σ p0 p1 _ e_5) (cwV 2 hts gX6_label_X4_putLabel rfl rfl rfl hdX4_putLabel ⟨(Nat.le_of_ble_eq_true rfl), (Nat.le_of_ble_eq_true rfl)⟩) rfl rfl rfl (by decide) (by decide) (by decide) (by decide) rfl rfl rfl rfl hl.1 rfl (Nat.le_of_ble_eq_true rfl) ⟨(Nat.le_of_ble_eq_true rfl), (Nat.le_of_ble_eq_true rfl)⟩ dX6_label_45 (fun H locs hP hD hS => ?_)
    refine lv_aload_n hx hb dX6_label_48 rfl (lv_at hl 0 rfl) ?_
    refine va_get (v := .ref h) (C := RX6) (T := TX6) (N := 4) hx hb hts fiX6_label_X6 hown hE.1 hP 0 rfl rfl 0 (by decide) (hts _ flX6_label_10) (fun _ h9 => h9) rfl dX6_label_49 ?_
    refine lv_iload_n hx hb dX6_label_52 rfl (lv_at hl 1 rfl) ?_
    refine lv_iload_n hx hb dX6_label_53 rfl (lv_at hl 2 rfl) ?_
    obtain ⟨r_6, e_6, hf⟩ := bo hf
    refine pcallS (W0 := (wC c0 h k0 x0 d0 ++ (wS g h a1 a2 a3 a4 r_5 ++ (wH g k0 k1 γ r_4)))) (As := [.ref h, .int p0, .int p1]) (rest := []) [1, 2, 3, 4, 5] ⟨hx, hb, hml, hown, hts⟩ hP hE hZ hS (cX2_bendOfPlace_ok l g h a1 a2 a3 a4 r_5 p0 p1 e_6) (va_cwS 3 hts gX6_label_X2_bendOfPlace rfl rfl rfl hdX2_bendOfPlace.2 ⟨(Nat.le_of_ble_eq_true rfl), (Nat.le_of_ble_eq_true rfl)⟩) rfl rfl hl.1 rfl (Nat.le_of_ble_eq_true rfl) ⟨(Nat.le_of_ble_eq_true rfl), (Nat.le_of_ble_eq_true rfl)⟩ dX6_label_54 ?_
    exact xm_iret (r_5, r_4) (v := r_6) hx hb hr hlocks hP hD hS ⟨(Nat.le_of_ble_eq_true rfl), (Nat.le_of_ble_eq_true rfl)⟩ (Option.some.inj hf).symm dX6_label_57
  · have hf := iq c_3 hf
    exact xthrow (text := "the label cannot be set at this place") hl0 tfS hx hb hown hlocks hts tkX6_label_S tiX6_label_S taX6_label_S hE (by decide +kernel) hZ hP hD hS (hl.1.trans hml.symm) hnt dX6_label_18 dX6_label_21 dX6_label_22 dX6_label_24 dX6_label_27 ⟨(Nat.le_of_ble_eq_true rfl), (Nat.le_of_ble_eq_true rfl)⟩ (Nat.le_of_ble_eq_true rfl) ⟨(Nat.le_of_ble_eq_true rfl), (Nat.le_of_ble_eq_true rfl)⟩ ⟨(Nat.le_of_ble_eq_true rfl), (Nat.le_of_ble_eq_true rfl)⟩ (Option.some.inj hf).symm

def fX6_unlabel (σ : Sh) (η : Hi) (p0 : Int32) : Option (Except String (Int32 × Sh × Hi)) := (xthen (fX6_requireLine σ p0) fun _ => ((fX4_labelIn σ p0).bind fun r_2 => (if r_2 = (-1 : Int32) then (some (.error "java/lang/IllegalStateException")) else ((fX1_save σ η).bind fun r_4 => ((fX4_putLabel σ p0 (-1 : Int32)).bind fun r_5 => (some (.ok (r_2, r_5, r_4))))))))
abbrev rmX6_unlabel : Room := { frames := 7, cells := 2, slots := 12, locals := 111 }
theorem hdX6_unlabel : yX6_unlabel.cls = RX6 ∧ yX6_unlabel.cls ≠ "java/lang/invoke/MethodHandle" ∧ yX6_unlabel.cls ≠ "java/lang/invoke/VarHandle" ∧ (parseMethodDescriptor yX6_unlabel.desc).map (fun d => d.parameters.length) = some 1 := by decide +kernel
theorem fiX6_unlabel_X6 : ∀ w ∈ wsX60, w ∈ wsX6_unlabel := by decide +kernel
theorem flX6_unlabel_10 : (.fieldLink RX6 10 "ContourLabels" "sheet" "LContourLabels$Sheet;" : Cond) ∈ wsX6_unlabel := by decide +kernel
theorem flX6_unlabel_19 : (.fieldLink RX6 19 "ContourLabels" "history" "LContourLabels$History;" : Cond) ∈ wsX6_unlabel := by decide +kernel
theorem tkX6_unlabel_S : (.classLink RX6 48 "java/lang/IllegalStateException" : Cond) ∈ wsX6_unlabel := by decide +kernel
theorem tiX6_unlabel_S : (.initialized "java/lang/IllegalStateException" : Cond) ∈ wsX6_unlabel := by decide +kernel
theorem taX6_unlabel_S : ∀ w ∈ (vx_atS RX6 52 "java/lang/IllegalStateException" nms).filter goodWord, w ∈ wsX6_unlabel := by decide +kernel
set_option maxHeartbeats 4000000 in
set_option maxRecDepth 100000 in
theorem cX6_unlabel_ok (l : Launch) (hl0 : l.stackTraces = false) (g : Gg) (c0 h k0 x0 d0 a1 a2 a3 a4 k1 : Nat) (γ : Nat → Nat → Nat) (σ : Sh) (η : Hi) (p0 : Int32) (sz : Nat) {o : Except String (Int32 × Sh × Hi)} (hf : fX6_unlabel σ η p0 = some o) : vx_Met l yX6_unlabel wsX6_unlabel rmX6_unlabel (va_Pc [.ref c0, .int p0] (PM g (wC c0 h k0 x0 d0 ++ (wS g h a1 a2 a3 a4 σ ++ (wH g k0 k1 γ η))) sz)) (QXmi g (fun u => (wC c0 h k0 x0 d0 ++ (wS g h a1 a2 a3 a4 u.1 ++ (wH g k0 k1 γ u.2)))) (va_A (wC c0 h k0 x0 d0 ++ (wS g h a1 a2 a3 a4 σ ++ (wH g k0 k1 γ η))) sz) o) (XE g (wC c0 h k0 x0 d0 ++ (wS g h a1 a2 a3 a4 σ ++ (wH g k0 k1 γ η))) (va_A (wC c0 h k0 x0 d0 ++ (wS g h a1 a2 a3 a4 σ ++ (wH g k0 k1 γ η))) sz) o) 2 12 (va_A (wC c0 h k0 x0 d0 ++ (wS g h a1 a2 a3 a4 σ ++ (wH g k0 k1 γ η))) sz) := by
  refine vx_ofW (cc := cX6_unlabel) (maxL := 3) (ret := (some .int)) (by decide) rfl ?_
  intro p e s m args below meth c s₁ B hml hnt hv
  obtain ⟨rfl, rfl, hP, hD0, hE, hZ⟩ := hv
  have hx := B.exec
  have hb := B.bytes
  have hr := B.returns
  have hts := atoms_spec (ws := wsX6_unlabel) B.pre
  have hown : s.vm.findClass RX6 = some m.cls := findClass_of_methodNamed B.named
  have hlocks := B.notSynchronized
  have hD := hD0.self (sz := s.heap.size)
  generalize hAe : (va_A (wC c0 h k0 x0 d0 ++ (wS g h a1 a2 a3 a4 σ ++ (wH g k0 k1 γ η))) s.heap.size) = A at hD hZ ⊢
  have hA : ∀ q : Nat, s.heap.size ≤ q → A q := fun q h => by rw [← hAe]; exact Or.inr h
  have hS : va_S A s.heap s.heap [] := va_S.rf
  have hP : va_P g.1 vwCl (wC c0 h k0 x0 d0 ++ (wS g h a1 a2 a3 a4 σ ++ (wH g k0 k1 γ η))) s.heap := hP
  have hl := lv_entry ([.ref c0, .int p0]) (n := 3) (Nat.le_of_ble_eq_true rfl)
  rw [lg_entry_eq]
  generalize (lg_sl ([.ref c0, .int p0]) ++ List.replicate (3 - (lg_sl ([.ref c0, .int p0])).length) Slot.unset).toArray = ls at hl ⊢
  have hl : lv_has ls 3 [(0, .ref c0), (1, .int p0)] := hl
  unfold fX6_unlabel at hf
  refine lv_aload_n hx hb dX6_unlabel_0 rfl (lv_at hl 0 rfl) ?_
  refine lv_iload_n hx hb dX6_unlabel_1 rfl (lv_at hl 1 rfl) ?_
  obtain ⟨r_1, e_1, x_1, k_1⟩ := xt hf
  refine xcallVv (W0 := (wC c0 h k0 x0 d0 ++ (wS g h a1 a2 a3 a4 σ ++ (wH g k0 k1 γ η)))) (Wc := (wC c0 h k0 x0 d0 ++ (wS g h a1 a2 a3 a4 σ))) (Wr := (wH g k0 k1 γ η)) (As := [.int p0]) (rest := []) [0, 1, 2, 3, 4, 5] [6, 7, 8, 9, 10, 11, 12, 13, 14, 15, 16, 17, 18, 19, 20, 21, 22, 23, 24, 25, 26, 27, 28, 29, 30, 31, 32, 33, 34, 35, 36, 37] [32, 33, 34, 35, 36, 37, 0, 1, 2, 3, 4, 5, 6, 7, 8, 9, 10, 11, 12, 13, 14, 15, 16, 17, 18, 19, 20, 21, 22, 23, 24, 25, 26, 27, 28, 29, 30, 31] 4 0 ⟨hx, hb, hml, hown, hts⟩ hP hD hE hZ hS hA (cX6_requireLine_ok l hl0 g c0 h k0 x0 d0 a1 a2 a3 a4 σ p0 _ e_1) (cwV 1 hts gX6_unlabel_X6_requireLine rfl rfl rfl hdX6_requireLine ⟨(Nat.le_of_ble_eq_true rfl), (Nat.le_of_ble_eq_true rfl)⟩) rfl rfl rfl (by decide) (by decide) (by decide) (by decide) rfl rfl rfl rfl hl.1 rfl (Nat.le_of_ble_eq_true rfl) ⟨(Nat.le_of_ble_eq_true rfl), (Nat.le_of_ble_eq_true rfl)⟩ dX6_unlabel_2 hnt hlocks ⟨(Nat.le_of_ble_eq_true rfl), (Nat.le_of_ble_eq_true rfl)⟩ x_1 (fun ok_1 H locs hP hD hS => ?_)
  have hf := k_1 () ok_1
  refine lv_aload_n hx hb dX6_unlabel_5 rfl (lv_at hl 0 rfl) ?_
  refine va_get (v := .ref h) (C := RX6) (T := TX6) (N := 4) hx hb hts fiX6_unlabel_X6 hown hE.1 hP 0 rfl rfl 0 (by decide) (hts _ flX6_unlabel_10) (fun _ h9 => h9) rfl dX6_unlabel_6 ?_
  refine lv_iload_n hx hb dX6_unlabel_9 rfl (lv_at hl 1 rfl) ?_
  obtain ⟨r_2, e_2, hf⟩ := bo hf
  refine pcallV (W0 := (wC c0 h k0 x0 d0 ++ (wS g h a1 a2 a3 a4 σ ++ (wH g k0 k1 γ η)))) (As := [.int p0]) (rest := []) [1, 2, 3, 4, 5] 3 0 ⟨hx, hb, hml, hown, hts⟩ hP hE hZ hS (cX4_labelIn_ok l g h a1 a2 a3 a4 σ p0 e_2) (cwV 1 hts gX6_unlabel_X4_labelIn rfl rfl rfl hdX4_labelIn ⟨(Nat.le_of_ble_eq_true rfl), (Nat.le_of_ble_eq_true rfl)⟩) rfl rfl rfl rfl rfl hl.1 rfl (Nat.le_of_ble_eq_true rfl) ⟨(Nat.le_of_ble_eq_true rfl), (Nat.le_of_ble_eq_true rfl)⟩ dX6_unlabel_10 ?_
  refine lv_istore_n (lv' := [(2, .int r_2), (0, .ref c0), (1, .int p0)]) hx hb dX6_unlabel_13 rfl hl (by decide) rfl (fun ls hl => ?_)
  refine lv_iload_n hx hb dX6_unlabel_14 rfl (lv_at hl 0 rfl) ?_
  refine lv_iconst (v := (-1 : Int32)) hx hb dX6_unlabel_15 (by decide) ?_
  refine lv_icmp_ne (tgt := 29) hx hb dX6_unlabel_16 (by decide) (fun c_3 => ?_) (fun c_3 => ?_)
  · have hf := iq c_3 hf
    refine lv_aload_n hx hb dX6_unlabel_29 rfl (lv_at hl 1 rfl) ?_
    refine va_get (v := .ref k0) (C := RX6) (T := TX6) (N := 4) hx hb hts fiX6_unlabel_X6 hown hE.1 hP 0 rfl rfl 1 (by decide) (hts _ flX6_unlabel_19) (fun _ h9 => h9) rfl dX6_unlabel_30 ?_
    refine lv_aload_n hx hb dX6_unlabel_33 rfl (lv_at hl 1 rfl) ?_
    refine va_get (v := .ref h) (C := RX6) (T := TX6) (N := 4) hx hb hts fiX6_unlabel_X6 hown hE.1 hP 0 rfl rfl 0 (by decide) (hts _ flX6_unlabel_10) (fun _ h9 => h9) rfl dX6_unlabel_34 ?_
    obtain ⟨r_4, e_4, hf⟩ := bo hf
    refine mcallVv (W0 := (wC c0 h k0 x0 d0 ++ (wS g h a1 a2 a3 a4 σ ++ (wH g k0 k1 γ η)))) (Wc := (wS g h a1 a2 a3 a4 σ ++ (wH g k0 k1 γ η))) (Wr := (wC c0 h k0 x0 d0)) (W1 := (wS g h a1 a2 a3 a4 σ ++ (wH g k0 k1 γ r_4))) (W2 := (wC c0 h k0 x0 d0 ++ (wS g h a1 a2 a3 a4 σ ++ (wH g k0 k1 γ r_4)))) (As := [.ref h]) (rest := []) [1, 2, 3, 4, 5, 6, 7, 8, 9, 10, 11, 12, 13, 14, 15, 16, 17, 18, 19, 20, 21, 22, 23, 24, 25, 26, 27, 28, 29, 30, 31, 32, 33, 34, 35, 36, 37] [0] [0, 1, 2, 3, 4, 5, 6, 7, 8, 9, 10, 11, 12, 13, 14, 15, 16, 17, 18, 19, 20, 21, 22, 23, 24, 25, 26, 27, 28, 29, 30, 31, 32, 33, 34, 35, 36, 37] 1 5 ⟨hx, hb, hml, hown, hts⟩ hP hD hE hZ hS hA (cX1_save_ok l g h a1 a2 a3 a4 k0 k1 γ σ η _ e_4) (cwV 1 hts gX6_unlabel_X1_save rfl rfl rfl hdX1_save ⟨(Nat.le_of_ble_eq_true rfl), (Nat.le_of_ble_eq_true rfl)⟩) rfl rfl rfl (by decide) (by decide) (by decide) (by decide) rfl rfl rfl rfl hl.1 rfl (Nat.le_of_ble_eq_true rfl) ⟨(Nat.le_of_ble_eq_true rfl), (Nat.le_of_ble_eq_true rfl)⟩ dX6_unlabel_37 (fun H locs hP hD hS => ?_)
    refine lv_aload_n hx hb dX6_unlabel_40 rfl (lv_at hl 1 rfl) ?_
    refine va_get (v := .ref h) (C := RX6) (T := TX6) (N := 4) hx hb hts fiX6_unlabel_X6 hown hE.1 hP 0 rfl rfl 0 (by decide) (hts _ flX6_unlabel_10) (fun _ h9 => h9) rfl dX6_unlabel_41 ?_
    refine lv_iload_n hx hb dX6_unlabel_44 rfl (lv_at hl 2 rfl) ?_
    refine lv_iconst (v := (-1 : Int32)) hx hb dX6_unlabel_45 (by decide) ?_
    obtain ⟨r_5, e_5, hf⟩ := bo hf
    refine mcallVv (W0 := (wC c0 h k0 x0 d0 ++ (wS g h a1 a2 a3 a4 σ ++ (wH g k0 k1 γ r_4)))) (Wc := (wS g h a1 a2 a3 a4 σ)) (Wr := (wC c0 h k0 x0 d0 ++ (wH g k0 k1 γ r_4))) (W1 := (wS g h a1 a2 a3 a4 r_5)) (W2 := (wC c0 h k0 x0 d0 ++ (wS g h a1 a2 a3 a4 r_5 ++ (wH g k0 k1 γ r_4)))) (As := [.int p0, .int (-1 : Int32)]) (rest := []) [1, 2, 3, 4, 5] [0, 6, 7, 8, 9, 10, 11, 12, 13, 14, 15, 16, 17, 18, 19, 20, 21, 22, 23, 24, 25, 26, 27, 28, 29, 30, 31, 32, 33, 34, 35, 36, 37] [0, 33, 34, 35, 36, 37, 1, 2, 3, 4, 5, 6, 7, 8, 9, 10, 11, 12, 13, 14, 15, 16, 17, 18, 19, 20, 21, 22, 23, 24, 25, 26, 27, 28, 29, 30, 31, 32] 3 0 ⟨hx, hb, hml, hown, hts⟩ hP hD hE hZ hS hA (cX4_putLabel_ok l g h a1 a2 a3 a4 σ p0 (-1 : Int32) _ e_5) (cwV 2 hts gX6_unlabel_X4_putLabel rfl rfl rfl hdX4_putLabel ⟨(Nat.le_of_ble_eq_true rfl), (Nat.le_of_ble_eq_true rfl)⟩) rfl rfl rfl (by decide) (by decide) (by decide) (by decide) rfl rfl rfl rfl hl.1 rfl (Nat.le_of_ble_eq_true rfl) ⟨(Nat.le_of_ble_eq_true rfl), (Nat.le_of_ble_eq_true rfl)⟩ dX6_unlabel_46 (fun H locs hP hD hS => ?_)
    refine lv_iload_n hx hb dX6_unlabel_49 rfl (lv_at hl 0 rfl) ?_
    exact xm_iret (r_5, r_4) (v := r_2) hx hb hr hlocks hP hD hS ⟨(Nat.le_of_ble_eq_true rfl), (Nat.le_of_ble_eq_true rfl)⟩ (Option.some.inj hf).symm dX6_unlabel_50
  · have hf := ip c_3 hf
    exact xthrow (text := "the line has no label") hl0 tfS hx hb hown hlocks hts tkX6_unlabel_S tiX6_unlabel_S taX6_unlabel_S hE (by decide +kernel) hZ hP hD hS (hl.1.trans hml.symm) hnt dX6_unlabel_19 dX6_unlabel_22 dX6_unlabel_23 dX6_unlabel_25 dX6_unlabel_28 ⟨(Nat.le_of_ble_eq_true rfl), (Nat.le_of_ble_eq_true rfl)⟩ (Nat.le_of_ble_eq_true rfl) ⟨(Nat.le_of_ble_eq_true rfl), (Nat.le_of_ble_eq_true rfl)⟩ ⟨(Nat.le_of_ble_eq_true rfl), (Nat.le_of_ble_eq_true rfl)⟩ (Option.some.inj hf).symm

def fX6_labelBest (σ : Sh) (η : Hi) (p0 : Int32) : Option (Except String (Int32 × Sh × Hi)) := (xthen (fX6_requireLine σ p0) fun _ => ((fX2_best σ p0).bind fun r_2 => (if r_2 = (-1 : Int32) then (some (.error "java/lang/IllegalStateException")) else ((fX1_save σ η).bind fun r_4 => ((fX4_putLabel σ p0 r_2).bind fun r_5 => (some (.ok (r_2, r_5, r_4))))))))
abbrev rmX6_labelBest : Room := { frames := 7, cells := 2, slots := 12, locals := 127 }
theorem hdX6_labelBest : yX6_labelBest.cls = RX6 ∧ yX6_labelBest.cls ≠ "java/lang/invoke/MethodHandle" ∧ yX6_labelBest.cls ≠ "java/lang/invoke/VarHandle" ∧ (parseMethodDescriptor yX6_labelBest.desc).map (fun d => d.parameters.length) = some 1 := by decide +kernel
theorem fiX6_labelBest_X6 : ∀ w ∈ wsX60, w ∈ wsX6_labelBest := by decide +kernel
theorem flX6_labelBest_10 : (.fieldLink RX6 10 "ContourLabels" "sheet" "LContourLabels$Sheet;" : Cond) ∈ wsX6_labelBest := by decide +kernel
theorem flX6_labelBest_19 : (.fieldLink RX6 19 "ContourLabels" "history" "LContourLabels$History;" : Cond) ∈ wsX6_labelBest := by decide +kernel
theorem tkX6_labelBest_S : (.classLink RX6 48 "java/lang/IllegalStateException" : Cond) ∈ wsX6_labelBest := by decide +kernel
theorem tiX6_labelBest_S : (.initialized "java/lang/IllegalStateException" : Cond) ∈ wsX6_labelBest := by decide +kernel
theorem taX6_labelBest_S : ∀ w ∈ (vx_atS RX6 52 "java/lang/IllegalStateException" nms).filter goodWord, w ∈ wsX6_labelBest := by decide +kernel
set_option maxHeartbeats 4000000 in
set_option maxRecDepth 100000 in
theorem cX6_labelBest_ok (l : Launch) (hl0 : l.stackTraces = false) (g : Gg) (c0 h k0 x0 d0 a1 a2 a3 a4 k1 : Nat) (γ : Nat → Nat → Nat) (σ : Sh) (η : Hi) (p0 : Int32) (sz : Nat) {o : Except String (Int32 × Sh × Hi)} (hf : fX6_labelBest σ η p0 = some o) : vx_Met l yX6_labelBest wsX6_labelBest rmX6_labelBest (va_Pc [.ref c0, .int p0] (PM g (wC c0 h k0 x0 d0 ++ (wS g h a1 a2 a3 a4 σ ++ (wH g k0 k1 γ η))) sz)) (QXmi g (fun u => (wC c0 h k0 x0 d0 ++ (wS g h a1 a2 a3 a4 u.1 ++ (wH g k0 k1 γ u.2)))) (va_A (wC c0 h k0 x0 d0 ++ (wS g h a1 a2 a3 a4 σ ++ (wH g k0 k1 γ η))) sz) o) (XE g (wC c0 h k0 x0 d0 ++ (wS g h a1 a2 a3 a4 σ ++ (wH g k0 k1 γ η))) (va_A (wC c0 h k0 x0 d0 ++ (wS g h a1 a2 a3 a4 σ ++ (wH g k0 k1 γ η))) sz) o) 2 12 (va_A (wC c0 h k0 x0 d0 ++ (wS g h a1 a2 a3 a4 σ ++ (wH g k0 k1 γ η))) sz) := by
  refine vx_ofW (cc := cX6_labelBest) (maxL := 3) (ret := (some .int)) (by decide) rfl ?_
  intro p e s m args below meth c s₁ B hml hnt hv
  obtain ⟨rfl, rfl, hP, hD0, hE, hZ⟩ := hv
  have hx := B.exec
  have hb := B.bytes
  have hr := B.returns
  have hts := atoms_spec (ws := wsX6_labelBest) B.pre
  have hown : s.vm.findClass RX6 = some m.cls := findClass_of_methodNamed B.named
  have hlocks := B.notSynchronized
  have hD := hD0.self (sz := s.heap.size)
  generalize hAe : (va_A (wC c0 h k0 x0 d0 ++ (wS g h a1 a2 a3 a4 σ ++ (wH g k0 k1 γ η))) s.heap.size) = A at hD hZ ⊢
  have hA : ∀ q : Nat, s.heap.size ≤ q → A q := fun q h => by rw [← hAe]; exact Or.inr h
  have hS : va_S A s.heap s.heap [] := va_S.rf
  have hP : va_P g.1 vwCl (wC c0 h k0 x0 d0 ++ (wS g h a1 a2 a3 a4 σ ++ (wH g k0 k1 γ η))) s.heap := hP
  have hl := lv_entry ([.ref c0, .int p0]) (n := 3) (Nat.le_of_ble_eq_true rfl)
  rw [lg_entry_eq]
  generalize (lg_sl ([.ref c0, .int p0]) ++ List.replicate (3 - (lg_sl ([.ref c0, .int p0])).length) Slot.unset).toArray = ls at hl ⊢
  have hl : lv_has ls 3 [(0, .ref c0), (1, .int p0)] := hl
  unfold fX6_labelBest at hf
  refine lv_aload_n hx hb dX6_labelBest_0 rfl (lv_at hl 0 rfl) ?_
  refine lv_iload_n hx hb dX6_labelBest_1 rfl (lv_at hl 1 rfl) ?_
  obtain ⟨r_1, e_1, x_1, k_1⟩ := xt hf
  refine xcallVv (W0 := (wC c0 h k0 x0 d0 ++ (wS g h a1 a2 a3 a4 σ ++ (wH g k0 k1 γ η)))) (Wc := (wC c0 h k0 x0 d0 ++ (wS g h a1 a2 a3 a4 σ))) (Wr := (wH g k0 k1 γ η)) (As := [.int p0]) (rest := []) [0, 1, 2, 3, 4, 5] [6, 7, 8, 9, 10, 11, 12, 13, 14, 15, 16, 17, 18, 19, 20, 21, 22, 23, 24, 25, 26, 27, 28, 29, 30, 31, 32, 33, 34, 35, 36, 37] [32, 33, 34, 35, 36, 37, 0, 1, 2, 3, 4, 5, 6, 7, 8, 9, 10, 11, 12, 13, 14, 15, 16, 17, 18, 19, 20, 21, 22, 23, 24, 25, 26, 27, 28, 29, 30, 31] 4 0 ⟨hx, hb, hml, hown, hts⟩ hP hD hE hZ hS hA (cX6_requireLine_ok l hl0 g c0 h k0 x0 d0 a1 a2 a3 a4 σ p0 _ e_1) (cwV 1 hts gX6_labelBest_X6_requireLine rfl rfl rfl hdX6_requireLine ⟨(Nat.le_of_ble_eq_true rfl), (Nat.le_of_ble_eq_true rfl)⟩) rfl rfl rfl (by decide) (by decide) (by decide) (by decide) rfl rfl rfl rfl hl.1 rfl (Nat.le_of_ble_eq_true rfl) ⟨(Nat.le_of_ble_eq_true rfl), (Nat.le_of_ble_eq_true rfl)⟩ dX6_labelBest_2 hnt hlocks ⟨(Nat.le_of_ble_eq_true rfl), (Nat.le_of_ble_eq_true rfl)⟩ x_1 (fun ok_1 H locs hP hD hS => ?_)
  have hf := k_1 () ok_1
  refine lv_aload_n hx hb dX6_labelBest_5 rfl (lv_at hl 0 rfl) ?_
  refine va_get (v := .ref h) (C := RX6) (T := TX6) (N := 4) hx hb hts fiX6_labelBest_X6 hown hE.1 hP 0 rfl rfl 0 (by decide) (hts _ flX6_labelBest_10) (fun _ h9 => h9) rfl dX6_labelBest_6 ?_
  refine lv_iload_n hx hb dX6_labelBest_9 rfl (lv_at hl 1 rfl) ?_
  obtain ⟨r_2, e_2, hf⟩ := bo hf
  refine pcallS (W0 := (wC c0 h k0 x0 d0 ++ (wS g h a1 a2 a3 a4 σ ++ (wH g k0 k1 γ η)))) (As := [.ref h, .int p0]) (rest := []) [1, 2, 3, 4, 5] ⟨hx, hb, hml, hown, hts⟩ hP hE hZ hS (cX2_best_ok l g h a1 a2 a3 a4 σ p0 e_2) (va_cwS 2 hts gX6_labelBest_X2_best rfl rfl rfl hdX2_best.2 ⟨(Nat.le_of_ble_eq_true rfl), (Nat.le_of_ble_eq_true rfl)⟩) rfl rfl hl.1 rfl (Nat.le_of_ble_eq_true rfl) ⟨(Nat.le_of_ble_eq_true rfl), (Nat.le_of_ble_eq_true rfl)⟩ dX6_labelBest_10 ?_
  refine lv_istore_n (lv' := [(2, .int r_2), (0, .ref c0), (1, .int p0)]) hx hb dX6_labelBest_13 rfl hl (by decide) rfl (fun ls hl => ?_)
  refine lv_iload_n hx hb dX6_labelBest_14 rfl (lv_at hl 0 rfl) ?_
  refine lv_iconst (v := (-1 : Int32)) hx hb dX6_labelBest_15 (by decide) ?_
  refine lv_icmp_ne (tgt := 29) hx hb dX6_labelBest_16 (by decide) (fun c_3 => ?_) (fun c_3 => ?_)
  · have hf := iq c_3 hf
    refine lv_aload_n hx hb dX6_labelBest_29 rfl (lv_at hl 1 rfl) ?_
    refine va_get (v := .ref k0) (C := RX6) (T := TX6) (N := 4) hx hb hts fiX6_labelBest_X6 hown hE.1 hP 0 rfl rfl 1 (by decide) (hts _ flX6_labelBest_19) (fun _ h9 => h9) rfl dX6_labelBest_30 ?_
    refine lv_aload_n hx hb dX6_labelBest_33 rfl (lv_at hl 1 rfl) ?_
    refine va_get (v := .ref h) (C := RX6) (T := TX6) (N := 4) hx hb hts fiX6_labelBest_X6 hown hE.1 hP 0 rfl rfl 0 (by decide) (hts _ flX6_labelBest_10) (fun _ h9 => h9) rfl dX6_labelBest_34 ?_
    obtain ⟨r_4, e_4, hf⟩ := bo hf
    refine mcallVv (W0 := (wC c0 h k0 x0 d0 ++ (wS g h a1 a2 a3 a4 σ ++ (wH g k0 k1 γ η)))) (Wc := (wS g h a1 a2 a3 a4 σ ++ (wH g k0 k1 γ η))) (Wr := (wC c0 h k0 x0 d0)) (W1 := (wS g h a1 a2 a3 a4 σ ++ (wH g k0 k1 γ r_4))) (W2 := (wC c0 h k0 x0 d0 ++ (wS g h a1 a2 a3 a4 σ ++ (wH g k0 k1 γ r_4)))) (As := [.ref h]) (rest := []) [1, 2, 3, 4, 5, 6, 7, 8, 9, 10, 11, 12, 13, 14, 15, 16, 17, 18, 19, 20, 21, 22, 23, 24, 25, 26, 27, 28, 29, 30, 31, 32, 33, 34, 35, 36, 37] [0] [0, 1, 2, 3, 4, 5, 6, 7, 8, 9, 10, 11, 12, 13, 14, 15, 16, 17, 18, 19, 20, 21, 22, 23, 24, 25, 26, 27, 28, 29, 30, 31, 32, 33, 34, 35, 36, 37] 1 5 ⟨hx, hb, hml, hown, hts⟩ hP hD hE hZ hS hA (cX1_save_ok l g h a1 a2 a3 a4 k0 k1 γ σ η _ e_4) (cwV 1 hts gX6_labelBest_X1_save rfl rfl rfl hdX1_save ⟨(Nat.le_of_ble_eq_true rfl), (Nat.le_of_ble_eq_true rfl)⟩) rfl rfl rfl (by decide) (by decide) (by decide) (by decide) rfl rfl rfl rfl hl.1 rfl (Nat.le_of_ble_eq_true rfl) ⟨(Nat.le_of_ble_eq_true rfl), (Nat.le_of_ble_eq_true rfl)⟩ dX6_labelBest_37 (fun H locs hP hD hS => ?_)
    refine lv_aload_n hx hb dX6_labelBest_40 rfl (lv_at hl 1 rfl) ?_
    refine va_get (v := .ref h) (C := RX6) (T := TX6) (N := 4) hx hb hts fiX6_labelBest_X6 hown hE.1 hP 0 rfl rfl 0 (by decide) (hts _ flX6_labelBest_10) (fun _ h9 => h9) rfl dX6_labelBest_41 ?_
    refine lv_iload_n hx hb dX6_labelBest_44 rfl (lv_at hl 2 rfl) ?_
    refine lv_iload_n hx hb dX6_labelBest_45 rfl (lv_at hl 0 rfl) ?_
    obtain ⟨r_5, e_5, hf⟩ := bo hf
    refine mcallVv (W0 := (wC c0 h k0 x0 d0 ++ (wS g h a1 a2 a3 a4 σ ++ (wH g k0 k1 γ r_4)))) (Wc := (wS g h a1 a2 a3 a4 σ)) (Wr := (wC c0 h k0 x0 d0 ++ (wH g k0 k1 γ r_4))) (W1 := (wS g h a1 a2 a3 a4 r_5)) (W2 := (wC c0 h k0 x0 d0 ++ (wS g h a1 a2 a3 a4 r_5 ++ (wH g k0 k1 γ r_4)))) (As := [.int p0, .int r_2]) (rest := []) [1, 2, 3, 4, 5] [0, 6, 7, 8, 9, 10, 11, 12, 13, 14, 15, 16, 17, 18, 19, 20, 21, 22, 23, 24, 25, 26, 27, 28, 29, 30, 31, 32, 33, 34, 35, 36, 37] [0, 33, 34, 35, 36, 37, 1, 2, 3, 4, 5, 6, 7, 8, 9, 10, 11, 12, 13, 14, 15, 16, 17, 18, 19, 20, 21, 22, 23, 24, 25, 26, 27, 28, 29, 30, 31, 32] 3 0 ⟨hx, hb, hml, hown, hts⟩ hP hD hE hZ hS hA (cX4_putLabel_ok l g h a1 a2 a3 a4 σ p0 r_2 _ e_5) (cwV 2 hts gX6_labelBest_X4_putLabel rfl rfl rfl hdX4_putLabel ⟨(Nat.le_of_ble_eq_true rfl), (Nat.le_of_ble_eq_true rfl)⟩) rfl rfl rfl (by decide) (by decide) (by decide) (by decide) rfl rfl rfl rfl hl.1 rfl (Nat.le_of_ble_eq_true rfl) ⟨(Nat.le_of_ble_eq_true rfl), (Nat.le_of_ble_eq_true rfl)⟩ dX6_labelBest_46 (fun H locs hP hD hS => ?_)
    refine lv_iload_n hx hb dX6_labelBest_49 rfl (lv_at hl 0 rfl) ?_
    exact xm_iret (r_5, r_4) (v := r_2) hx hb hr hlocks hP hD hS ⟨(Nat.le_of_ble_eq_true rfl), (Nat.le_of_ble_eq_true rfl)⟩ (Option.some.inj hf).symm dX6_labelBest_50
  · have hf := ip c_3 hf
    exact xthrow (text := "the line has no place for its label") hl0 tfS hx hb hown hlocks hts tkX6_labelBest_S tiX6_labelBest_S taX6_labelBest_S hE (by decide +kernel) hZ hP hD hS (hl.1.trans hml.symm) hnt dX6_labelBest_19 dX6_labelBest_22 dX6_labelBest_23 dX6_labelBest_25 dX6_labelBest_28 ⟨(Nat.le_of_ble_eq_true rfl), (Nat.le_of_ble_eq_true rfl)⟩ (Nat.le_of_ble_eq_true rfl) ⟨(Nat.le_of_ble_eq_true rfl), (Nat.le_of_ble_eq_true rfl)⟩ ⟨(Nat.le_of_ble_eq_true rfl), (Nat.le_of_ble_eq_true rfl)⟩ (Option.some.inj hf).symm

def fX6_setGap (σ : Sh) (η : Hi) (p0 : Int32) : Option (Except String (Int32 × Sh × Hi)) := (if p0 < (1 : Int32) then (some (.error "java/lang/IllegalArgumentException")) else (if p0 ≤ (6 : Int32) then ((fX1_save σ η).bind fun r_3 => ((fX4_gapWidth σ).bind fun r_4 => ((fX4_putGap σ p0).bind fun r_5 => (some (.ok (r_4, r_5, r_3)))))) else (some (.error "java/lang/IllegalArgumentException"))))
abbrev rmX6_setGap : Room := { frames := 6, cells := 1, slots := 6, locals := 103 }
theorem hdX6_setGap : yX6_setGap.cls = RX6 ∧ yX6_setGap.cls ≠ "java/lang/invoke/MethodHandle" ∧ yX6_setGap.cls ≠ "java/lang/invoke/VarHandle" ∧ (parseMethodDescriptor yX6_setGap.desc).map (fun d => d.parameters.length) = some 1 := by decide +kernel
theorem tkX6_setGap_A : (.classLink RX6 129 "java/lang/IllegalArgumentException" : Cond) ∈ wsX6_setGap := by decide +kernel
theorem tiX6_setGap_A : (.initialized "java/lang/IllegalArgumentException" : Cond) ∈ wsX6_setGap := by decide +kernel
theorem taX6_setGap_A : ∀ w ∈ (vx_atS RX6 133 "java/lang/IllegalArgumentException" nms).filter goodWord, w ∈ wsX6_setGap := by decide +kernel
theorem fiX6_setGap_X6 : ∀ w ∈ wsX60, w ∈ wsX6_setGap := by decide +kernel
theorem flX6_setGap_19 : (.fieldLink RX6 19 "ContourLabels" "history" "LContourLabels$History;" : Cond) ∈ wsX6_setGap := by decide +kernel
theorem flX6_setGap_10 : (.fieldLink RX6 10 "ContourLabels" "sheet" "LContourLabels$Sheet;" : Cond) ∈ wsX6_setGap := by decide +kernel
set_option maxHeartbeats 4000000 in
set_option maxRecDepth 100000 in
theorem cX6_setGap_ok (l : Launch) (hl0 : l.stackTraces = false) (g : Gg) (c0 h k0 x0 d0 a1 a2 a3 a4 k1 : Nat) (γ : Nat → Nat → Nat) (σ : Sh) (η : Hi) (p0 : Int32) (sz : Nat) {o : Except String (Int32 × Sh × Hi)} (hf : fX6_setGap σ η p0 = some o) : vx_Met l yX6_setGap wsX6_setGap rmX6_setGap (va_Pc [.ref c0, .int p0] (PM g (wC c0 h k0 x0 d0 ++ (wS g h a1 a2 a3 a4 σ ++ (wH g k0 k1 γ η))) sz)) (QXmi g (fun u => (wC c0 h k0 x0 d0 ++ (wS g h a1 a2 a3 a4 u.1 ++ (wH g k0 k1 γ u.2)))) (va_A (wC c0 h k0 x0 d0 ++ (wS g h a1 a2 a3 a4 σ ++ (wH g k0 k1 γ η))) sz) o) (XE g (wC c0 h k0 x0 d0 ++ (wS g h a1 a2 a3 a4 σ ++ (wH g k0 k1 γ η))) (va_A (wC c0 h k0 x0 d0 ++ (wS g h a1 a2 a3 a4 σ ++ (wH g k0 k1 γ η))) sz) o) 1 6 (va_A (wC c0 h k0 x0 d0 ++ (wS g h a1 a2 a3 a4 σ ++ (wH g k0 k1 γ η))) sz) := by
  refine vx_ofW (cc := cX6_setGap) (maxL := 3) (ret := (some .int)) (by decide) rfl ?_
  intro p e s m args below meth c s₁ B hml hnt hv
  obtain ⟨rfl, rfl, hP, hD0, hE, hZ⟩ := hv
  have hx := B.exec
  have hb := B.bytes
  have hr := B.returns
  have hts := atoms_spec (ws := wsX6_setGap) B.pre
  have hown : s.vm.findClass RX6 = some m.cls := findClass_of_methodNamed B.named
  have hlocks := B.notSynchronized
  have hD := hD0.self (sz := s.heap.size)
  generalize hAe : (va_A (wC c0 h k0 x0 d0 ++ (wS g h a1 a2 a3 a4 σ ++ (wH g k0 k1 γ η))) s.heap.size) = A at hD hZ ⊢
  have hA : ∀ q : Nat, s.heap.size ≤ q → A q := fun q h => by rw [← hAe]; exact Or.inr h
  have hS : va_S A s.heap s.heap [] := va_S.rf
  have hP : va_P g.1 vwCl (wC c0 h k0 x0 d0 ++ (wS g h a1 a2 a3 a4 σ ++ (wH g k0 k1 γ η))) s.heap := hP
  have hl := lv_entry ([.ref c0, .int p0]) (n := 3) (Nat.le_of_ble_eq_true rfl)
  rw [lg_entry_eq]
  generalize (lg_sl ([.ref c0, .int p0]) ++ List.replicate (3 - (lg_sl ([.ref c0, .int p0])).length) Slot.unset).toArray = ls at hl ⊢
  have hl : lv_has ls 3 [(0, .ref c0), (1, .int p0)] := hl
  unfold fX6_setGap at hf
  refine lv_iload_n hx hb dX6_setGap_0 rfl (lv_at hl 1 rfl) ?_
  refine lv_iconst (v := (1 : Int32)) hx hb dX6_setGap_1 (by decide) ?_
  refine lv_icmp_lt (tgt := 11) hx hb dX6_setGap_2 (by decide) (fun c_1 => ?_) (fun c_1 => ?_)
  · have hf := ip c_1 hf
    exact xthrow (text := "gap is out of range") hl0 tfA hx hb hown hlocks hts tkX6_setGap_A tiX6_setGap_A taX6_setGap_A hE (by decide +kernel) hZ hP hD hS (hl.1.trans hml.symm) hnt dX6_setGap_11 dX6_setGap_14 dX6_setGap_15 dX6_setGap_17 dX6_setGap_20 ⟨(Nat.le_of_ble_eq_true rfl), (Nat.le_of_ble_eq_true rfl)⟩ (Nat.le_of_ble_eq_true rfl) ⟨(Nat.le_of_ble_eq_true rfl), (Nat.le_of_ble_eq_true rfl)⟩ ⟨(Nat.le_of_ble_eq_true rfl), (Nat.le_of_ble_eq_true rfl)⟩ (Option.some.inj hf).symm
  · have hf := iq c_1 hf
    refine lv_iload_n hx hb dX6_setGap_5 rfl (lv_at hl 1 rfl) ?_
    refine lv_bipush (v := (6 : Int32)) hx hb dX6_setGap_6 (by decide) ?_
    refine lv_icmp_le (tgt := 21) hx hb dX6_setGap_8 (by decide) (fun c_2 => ?_) (fun c_2 => ?_)
    · have hf := ip c_2 hf
      refine lv_aload_n hx hb dX6_setGap_21 rfl (lv_at hl 0 rfl) ?_
      refine va_get (v := .ref k0) (C := RX6) (T := TX6) (N := 4) hx hb hts fiX6_setGap_X6 hown hE.1 hP 0 rfl rfl 1 (by decide) (hts _ flX6_setGap_19) (fun _ h9 => h9) rfl dX6_setGap_22 ?_
      refine lv_aload_n hx hb dX6_setGap_25 rfl (lv_at hl 0 rfl) ?_
      refine va_get (v := .ref h) (C := RX6) (T := TX6) (N := 4) hx hb hts fiX6_setGap_X6 hown hE.1 hP 0 rfl rfl 0 (by decide) (hts _ flX6_setGap_10) (fun _ h9 => h9) rfl dX6_setGap_26 ?_
      obtain ⟨r_3, e_3, hf⟩ := bo hf
      refine mcallVv (W0 := (wC c0 h k0 x0 d0 ++ (wS g h a1 a2 a3 a4 σ ++ (wH g k0 k1 γ η)))) (Wc := (wS g h a1 a2 a3 a4 σ ++ (wH g k0 k1 γ η))) (Wr := (wC c0 h k0 x0 d0)) (W1 := (wS g h a1 a2 a3 a4 σ ++ (wH g k0 k1 γ r_3))) (W2 := (wC c0 h k0 x0 d0 ++ (wS g h a1 a2 a3 a4 σ ++ (wH g k0 k1 γ r_3)))) (As := [.ref h]) (rest := []) [1, 2, 3, 4, 5, 6, 7, 8, 9, 10, 11, 12, 13, 14, 15, 16, 17, 18, 19, 20, 21, 22, 23, 24, 25, 26, 27, 28, 29, 30, 31, 32, 33, 34, 35, 36, 37] [0] [0, 1, 2, 3, 4, 5, 6, 7, 8, 9, 10, 11, 12, 13, 14, 15, 16, 17, 18, 19, 20, 21, 22, 23, 24, 25, 26, 27, 28, 29, 30, 31, 32, 33, 34, 35, 36, 37] 1 5 ⟨hx, hb, hml, hown, hts⟩ hP hD hE hZ hS hA (cX1_save_ok l g h a1 a2 a3 a4 k0 k1 γ σ η _ e_3) (cwV 1 hts gX6_setGap_X1_save rfl rfl rfl hdX1_save ⟨(Nat.le_of_ble_eq_true rfl), (Nat.le_of_ble_eq_true rfl)⟩) rfl rfl rfl (by decide) (by decide) (by decide) (by decide) rfl rfl rfl rfl hl.1 rfl (Nat.le_of_ble_eq_true rfl) ⟨(Nat.le_of_ble_eq_true rfl), (Nat.le_of_ble_eq_true rfl)⟩ dX6_setGap_29 (fun H locs hP hD hS => ?_)
      refine lv_aload_n hx hb dX6_setGap_32 rfl (lv_at hl 0 rfl) ?_
      refine va_get (v := .ref h) (C := RX6) (T := TX6) (N := 4) hx hb hts fiX6_setGap_X6 hown hE.1 hP 0 rfl rfl 0 (by decide) (hts _ flX6_setGap_10) (fun _ h9 => h9) rfl dX6_setGap_33 ?_
      obtain ⟨r_4, e_4, hf⟩ := bo hf
      refine pcallV (W0 := (wC c0 h k0 x0 d0 ++ (wS g h a1 a2 a3 a4 σ ++ (wH g k0 k1 γ r_3)))) (As := []) (rest := []) [1, 2, 3, 4, 5] 3 0 ⟨hx, hb, hml, hown, hts⟩ hP hE hZ hS (cX4_gapWidth_ok l g h a1 a2 a3 a4 σ e_4) (cwV 0 hts gX6_setGap_X4_gapWidth rfl rfl rfl hdX4_gapWidth ⟨(Nat.le_of_ble_eq_true rfl), (Nat.le_of_ble_eq_true rfl)⟩) rfl rfl rfl rfl rfl hl.1 rfl (Nat.le_of_ble_eq_true rfl) ⟨(Nat.le_of_ble_eq_true rfl), (Nat.le_of_ble_eq_true rfl)⟩ dX6_setGap_36 ?_
      refine lv_istore_n (lv' := [(2, .int r_4), (0, .ref c0), (1, .int p0)]) hx hb dX6_setGap_39 rfl hl (by decide) rfl (fun ls hl => ?_)
      refine lv_aload_n hx hb dX6_setGap_40 rfl (lv_at hl 1 rfl) ?_
      refine va_get (v := .ref h) (C := RX6) (T := TX6) (N := 4) hx hb hts fiX6_setGap_X6 hown hE.1 hP 0 rfl rfl 0 (by decide) (hts _ flX6_setGap_10) (fun _ h9 => h9) rfl dX6_setGap_41 ?_
      refine lv_iload_n hx hb dX6_setGap_44 rfl (lv_at hl 2 rfl) ?_
      obtain ⟨r_5, e_5, hf⟩ := bo hf
      refine mcallVv (W0 := (wC c0 h k0 x0 d0 ++ (wS g h a1 a2 a3 a4 σ ++ (wH g k0 k1 γ r_3)))) (Wc := (wS g h a1 a2 a3 a4 σ)) (Wr := (wC c0 h k0 x0 d0 ++ (wH g k0 k1 γ r_3))) (W1 := (wS g h a1 a2 a3 a4 r_5)) (W2 := (wC c0 h k0 x0 d0 ++ (wS g h a1 a2 a3 a4 r_5 ++ (wH g k0 k1 γ r_3)))) (As := [.int p0]) (rest := []) [1, 2, 3, 4, 5] [0, 6, 7, 8, 9, 10, 11, 12, 13, 14, 15, 16, 17, 18, 19, 20, 21, 22, 23, 24, 25, 26, 27, 28, 29, 30, 31, 32, 33, 34, 35, 36, 37] [0, 33, 34, 35, 36, 37, 1, 2, 3, 4, 5, 6, 7, 8, 9, 10, 11, 12, 13, 14, 15, 16, 17, 18, 19, 20, 21, 22, 23, 24, 25, 26, 27, 28, 29, 30, 31, 32] 3 0 ⟨hx, hb, hml, hown, hts⟩ hP hD hE hZ hS hA (cX4_putGap_ok l g h a1 a2 a3 a4 σ p0 _ e_5) (cwV 1 hts gX6_setGap_X4_putGap rfl rfl rfl hdX4_putGap ⟨(Nat.le_of_ble_eq_true rfl), (Nat.le_of_ble_eq_true rfl)⟩) rfl rfl rfl (by decide) (by decide) (by decide) (by decide) rfl rfl rfl rfl hl.1 rfl (Nat.le_of_ble_eq_true rfl) ⟨(Nat.le_of_ble_eq_true rfl), (Nat.le_of_ble_eq_true rfl)⟩ dX6_setGap_45 (fun H locs hP hD hS => ?_)
      refine lv_iload_n hx hb dX6_setGap_48 rfl (lv_at hl 0 rfl) ?_
      exact xm_iret (r_5, r_3) (v := r_4) hx hb hr hlocks hP hD hS ⟨(Nat.le_of_ble_eq_true rfl), (Nat.le_of_ble_eq_true rfl)⟩ (Option.some.inj hf).symm dX6_setGap_49
    · have hf := iq c_2 hf
      exact xthrow (text := "gap is out of range") hl0 tfA hx hb hown hlocks hts tkX6_setGap_A tiX6_setGap_A taX6_setGap_A hE (by decide +kernel) hZ hP hD hS (hl.1.trans hml.symm) hnt dX6_setGap_11 dX6_setGap_14 dX6_setGap_15 dX6_setGap_17 dX6_setGap_20 ⟨(Nat.le_of_ble_eq_true rfl), (Nat.le_of_ble_eq_true rfl)⟩ (Nat.le_of_ble_eq_true rfl) ⟨(Nat.le_of_ble_eq_true rfl), (Nat.le_of_ble_eq_true rfl)⟩ ⟨(Nat.le_of_ble_eq_true rfl), (Nat.le_of_ble_eq_true rfl)⟩ (Option.some.inj hf).symm

def fX6_levelOf (σ : Sh) (p0 : Int32) : Option (Except String (Int32)) := (xthen (fX6_requireLine σ p0) fun _ => ((fX4_levelIn σ p0).bind fun r_2 => (some (.ok r_2))))
abbrev rmX6_levelOf : Room := { frames := 7, cells := 1, slots := 6, locals := 111 }
theorem hdX6_levelOf : yX6_levelOf.cls = RX6 ∧ yX6_levelOf.cls ≠ "java/lang/invoke/MethodHandle" ∧ yX6_levelOf.cls ≠ "java/lang/invoke/VarHandle" ∧ (parseMethodDescriptor yX6_levelOf.desc).map (fun d => d.parameters.length) = some 1 := by decide +kernel
theorem fiX6_levelOf_X6 : ∀ w ∈ wsX60, w ∈ wsX6_levelOf := by decide +kernel
theorem flX6_levelOf_10 : (.fieldLink RX6 10 "ContourLabels" "sheet" "LContourLabels$Sheet;" : Cond) ∈ wsX6_levelOf := by decide +kernel
set_option maxHeartbeats 4000000 in
set_option maxRecDepth 100000 in
theorem cX6_levelOf_ok (l : Launch) (hl0 : l.stackTraces = false) (g : Gg) (c0 h k0 x0 d0 a1 a2 a3 a4 : Nat) (σ : Sh) (p0 : Int32) (sz : Nat) {o : Except String (Int32)} (hf : fX6_levelOf σ p0 = some o) : vx_Met l yX6_levelOf wsX6_levelOf rmX6_levelOf (va_Pc [.ref c0, .int p0] (PM g (wC c0 h k0 x0 d0 ++ (wS g h a1 a2 a3 a4 σ)) sz)) (QXi g (wC c0 h k0 x0 d0 ++ (wS g h a1 a2 a3 a4 σ)) (va_A (wC c0 h k0 x0 d0 ++ (wS g h a1 a2 a3 a4 σ)) sz) o) (XE g (wC c0 h k0 x0 d0 ++ (wS g h a1 a2 a3 a4 σ)) (va_A (wC c0 h k0 x0 d0 ++ (wS g h a1 a2 a3 a4 σ)) sz) o) 1 6 (va_A (wC c0 h k0 x0 d0 ++ (wS g h a1 a2 a3 a4 σ)) sz) := by
  refine vx_ofW (cc := cX6_levelOf) (maxL := 2) (ret := (some .int)) (by decide) rfl ?_
  intro p e s m args below meth c s₁ B hml hnt hv
  obtain ⟨rfl, rfl, hP, hD0, hE, hZ⟩ := hv
  have hx := B.exec
  have hb := B.bytes
  have hr := B.returns
  have hts := atoms_spec (ws := wsX6_levelOf) B.pre
  have hown : s.vm.findClass RX6 = some m.cls := findClass_of_methodNamed B.named
  have hlocks := B.notSynchronized
  have hD := hD0.self (sz := s.heap.size)
  generalize hAe : (va_A (wC c0 h k0 x0 d0 ++ (wS g h a1 a2 a3 a4 σ)) s.heap.size) = A at hD hZ ⊢
  have hA : ∀ q : Nat, s.heap.size ≤ q → A q := fun q h => by rw [← hAe]; exact Or.inr h
  have hS : va_S A s.heap s.heap [] := va_S.rf
  have hP : va_P g.1 vwCl (wC c0 h k0 x0 d0 ++ (wS g h a1 a2 a3 a4 σ)) s.heap := hP
  have hl := lv_entry ([.ref c0, .int p0]) (n := 2) (Nat.le_of_ble_eq_true rfl)
  rw [lg_entry_eq]
  generalize (lg_sl ([.ref c0, .int p0]) ++ List.replicate (2 - (lg_sl ([.ref c0, .int p0])).length) Slot.unset).toArray = ls at hl ⊢
  have hl : lv_has ls 2 [(0, .ref c0), (1, .int p0)] := hl
  unfold fX6_levelOf at hf
  refine lv_aload_n hx hb dX6_levelOf_0 rfl (lv_at hl 0 rfl) ?_
  refine lv_iload_n hx hb dX6_levelOf_1 rfl (lv_at hl 1 rfl) ?_
  obtain ⟨r_1, e_1, x_1, k_1⟩ := xt hf
  refine xcallVv (W0 := (wC c0 h k0 x0 d0 ++ (wS g h a1 a2 a3 a4 σ))) (Wc := (wC c0 h k0 x0 d0 ++ (wS g h a1 a2 a3 a4 σ))) (Wr := ([] : va_W)) (As := [.int p0]) (rest := []) [0, 1, 2, 3, 4, 5] [] [0, 1, 2, 3, 4, 5] 4 0 ⟨hx, hb, hml, hown, hts⟩ hP hD hE hZ hS hA (cX6_requireLine_ok l hl0 g c0 h k0 x0 d0 a1 a2 a3 a4 σ p0 _ e_1) (cwV 1 hts gX6_levelOf_X6_requireLine rfl rfl rfl hdX6_requireLine ⟨(Nat.le_of_ble_eq_true rfl), (Nat.le_of_ble_eq_true rfl)⟩) rfl rfl rfl (by decide) (by decide) (by decide) (by decide) rfl rfl rfl rfl hl.1 rfl (Nat.le_of_ble_eq_true rfl) ⟨(Nat.le_of_ble_eq_true rfl), (Nat.le_of_ble_eq_true rfl)⟩ dX6_levelOf_2 hnt hlocks ⟨(Nat.le_of_ble_eq_true rfl), (Nat.le_of_ble_eq_true rfl)⟩ x_1 (fun ok_1 H locs hP hD hS => ?_)
  have hf := k_1 () ok_1
  refine lv_aload_n hx hb dX6_levelOf_5 rfl (lv_at hl 0 rfl) ?_
  refine va_get (v := .ref h) (C := RX6) (T := TX6) (N := 4) hx hb hts fiX6_levelOf_X6 hown hE.1 hP 0 rfl rfl 0 (by decide) (hts _ flX6_levelOf_10) (fun _ h9 => h9) rfl dX6_levelOf_6 ?_
  refine lv_iload_n hx hb dX6_levelOf_9 rfl (lv_at hl 1 rfl) ?_
  obtain ⟨r_2, e_2, hf⟩ := bo hf
  refine pcallV (W0 := (wC c0 h k0 x0 d0 ++ (wS g h a1 a2 a3 a4 σ))) (As := [.int p0]) (rest := []) [1, 2, 3, 4, 5] 3 0 ⟨hx, hb, hml, hown, hts⟩ hP hE hZ hS (cX4_levelIn_ok l g h a1 a2 a3 a4 σ p0 e_2) (cwV 1 hts gX6_levelOf_X4_levelIn rfl rfl rfl hdX4_levelIn ⟨(Nat.le_of_ble_eq_true rfl), (Nat.le_of_ble_eq_true rfl)⟩) rfl rfl rfl rfl rfl hl.1 rfl (Nat.le_of_ble_eq_true rfl) ⟨(Nat.le_of_ble_eq_true rfl), (Nat.le_of_ble_eq_true rfl)⟩ dX6_levelOf_10 ?_
  exact x_iret (v := r_2) hx hb hr hlocks hP hD hS ⟨(Nat.le_of_ble_eq_true rfl), (Nat.le_of_ble_eq_true rfl)⟩ (Option.some.inj hf).symm dX6_levelOf_13

def fX6_stepsOf (σ : Sh) (p0 : Int32) : Option (Except String (Int32)) := (xthen (fX6_requireLine σ p0) fun _ => ((fX4_stepCount σ p0).bind fun r_2 => (some (.ok r_2))))
abbrev rmX6_stepsOf : Room := { frames := 7, cells := 1, slots := 6, locals := 111 }
theorem hdX6_stepsOf : yX6_stepsOf.cls = RX6 ∧ yX6_stepsOf.cls ≠ "java/lang/invoke/MethodHandle" ∧ yX6_stepsOf.cls ≠ "java/lang/invoke/VarHandle" ∧ (parseMethodDescriptor yX6_stepsOf.desc).map (fun d => d.parameters.length) = some 1 := by decide +kernel
theorem fiX6_stepsOf_X6 : ∀ w ∈ wsX60, w ∈ wsX6_stepsOf := by decide +kernel
theorem flX6_stepsOf_10 : (.fieldLink RX6 10 "ContourLabels" "sheet" "LContourLabels$Sheet;" : Cond) ∈ wsX6_stepsOf := by decide +kernel
set_option maxHeartbeats 4000000 in
set_option maxRecDepth 100000 in
theorem cX6_stepsOf_ok (l : Launch) (hl0 : l.stackTraces = false) (g : Gg) (c0 h k0 x0 d0 a1 a2 a3 a4 : Nat) (σ : Sh) (p0 : Int32) (sz : Nat) {o : Except String (Int32)} (hf : fX6_stepsOf σ p0 = some o) : vx_Met l yX6_stepsOf wsX6_stepsOf rmX6_stepsOf (va_Pc [.ref c0, .int p0] (PM g (wC c0 h k0 x0 d0 ++ (wS g h a1 a2 a3 a4 σ)) sz)) (QXi g (wC c0 h k0 x0 d0 ++ (wS g h a1 a2 a3 a4 σ)) (va_A (wC c0 h k0 x0 d0 ++ (wS g h a1 a2 a3 a4 σ)) sz) o) (XE g (wC c0 h k0 x0 d0 ++ (wS g h a1 a2 a3 a4 σ)) (va_A (wC c0 h k0 x0 d0 ++ (wS g h a1 a2 a3 a4 σ)) sz) o) 1 6 (va_A (wC c0 h k0 x0 d0 ++ (wS g h a1 a2 a3 a4 σ)) sz) := by
  refine vx_ofW (cc := cX6_stepsOf) (maxL := 2) (ret := (some .int)) (by decide) rfl ?_
  intro p e s m args below meth c s₁ B hml hnt hv
  obtain ⟨rfl, rfl, hP, hD0, hE, hZ⟩ := hv
  have hx := B.exec
  have hb := B.bytes
  have hr := B.returns
  have hts := atoms_spec (ws := wsX6_stepsOf) B.pre
  have hown : s.vm.findClass RX6 = some m.cls := findClass_of_methodNamed B.named
  have hlocks := B.notSynchronized
  have hD := hD0.self (sz := s.heap.size)
  generalize hAe : (va_A (wC c0 h k0 x0 d0 ++ (wS g h a1 a2 a3 a4 σ)) s.heap.size) = A at hD hZ ⊢
  have hA : ∀ q : Nat, s.heap.size ≤ q → A q := fun q h => by rw [← hAe]; exact Or.inr h
  have hS : va_S A s.heap s.heap [] := va_S.rf
  have hP : va_P g.1 vwCl (wC c0 h k0 x0 d0 ++ (wS g h a1 a2 a3 a4 σ)) s.heap := hP
  have hl := lv_entry ([.ref c0, .int p0]) (n := 2) (Nat.le_of_ble_eq_true rfl)
  rw [lg_entry_eq]
  generalize (lg_sl ([.ref c0, .int p0]) ++ List.replicate (2 - (lg_sl ([.ref c0, .int p0])).length) Slot.unset).toArray = ls at hl ⊢
  have hl : lv_has ls 2 [(0, .ref c0), (1, .int p0)] := hl
  unfold fX6_stepsOf at hf
  refine lv_aload_n hx hb dX6_stepsOf_0 rfl (lv_at hl 0 rfl) ?_
  refine lv_iload_n hx hb dX6_stepsOf_1 rfl (lv_at hl 1 rfl) ?_
  obtain ⟨r_1, e_1, x_1, k_1⟩ := xt hf
  refine xcallVv (W0 := (wC c0 h k0 x0 d0 ++ (wS g h a1 a2 a3 a4 σ))) (Wc := (wC c0 h k0 x0 d0 ++ (wS g h a1 a2 a3 a4 σ))) (Wr := ([] : va_W)) (As := [.int p0]) (rest := []) [0, 1, 2, 3, 4, 5] [] [0, 1, 2, 3, 4, 5] 4 0 ⟨hx, hb, hml, hown, hts⟩ hP hD hE hZ hS hA (cX6_requireLine_ok l hl0 g c0 h k0 x0 d0 a1 a2 a3 a4 σ p0 _ e_1) (cwV 1 hts gX6_stepsOf_X6_requireLine rfl rfl rfl hdX6_requireLine ⟨(Nat.le_of_ble_eq_true rfl), (Nat.le_of_ble_eq_true rfl)⟩) rfl rfl rfl (by decide) (by decide) (by decide) (by decide) rfl rfl rfl rfl hl.1 rfl (Nat.le_of_ble_eq_true rfl) ⟨(Nat.le_of_ble_eq_true rfl), (Nat.le_of_ble_eq_true rfl)⟩ dX6_stepsOf_2 hnt hlocks ⟨(Nat.le_of_ble_eq_true rfl), (Nat.le_of_ble_eq_true rfl)⟩ x_1 (fun ok_1 H locs hP hD hS => ?_)
  have hf := k_1 () ok_1
  refine lv_aload_n hx hb dX6_stepsOf_5 rfl (lv_at hl 0 rfl) ?_
  refine va_get (v := .ref h) (C := RX6) (T := TX6) (N := 4) hx hb hts fiX6_stepsOf_X6 hown hE.1 hP 0 rfl rfl 0 (by decide) (hts _ flX6_stepsOf_10) (fun _ h9 => h9) rfl dX6_stepsOf_6 ?_
  refine lv_iload_n hx hb dX6_stepsOf_9 rfl (lv_at hl 1 rfl) ?_
  obtain ⟨r_2, e_2, hf⟩ := bo hf
  refine pcallV (W0 := (wC c0 h k0 x0 d0 ++ (wS g h a1 a2 a3 a4 σ))) (As := [.int p0]) (rest := []) [1, 2, 3, 4, 5] 3 0 ⟨hx, hb, hml, hown, hts⟩ hP hE hZ hS (cX4_stepCount_ok l g h a1 a2 a3 a4 σ p0 e_2) (cwV 1 hts gX6_stepsOf_X4_stepCount rfl rfl rfl hdX4_stepCount ⟨(Nat.le_of_ble_eq_true rfl), (Nat.le_of_ble_eq_true rfl)⟩) rfl rfl rfl rfl rfl hl.1 rfl (Nat.le_of_ble_eq_true rfl) ⟨(Nat.le_of_ble_eq_true rfl), (Nat.le_of_ble_eq_true rfl)⟩ dX6_stepsOf_10 ?_
  exact x_iret (v := r_2) hx hb hr hlocks hP hD hS ⟨(Nat.le_of_ble_eq_true rfl), (Nat.le_of_ble_eq_true rfl)⟩ (Option.some.inj hf).symm dX6_stepsOf_13

def fX6_pointOf (σ : Sh) (p0 p1 : Int32) : Option (Except String (Int32)) := (xthen (fX6_requireNumber σ p0 p1) fun _ => ((fX4_pointAt σ p0 p1).bind fun r_2 => (some (.ok r_2))))
abbrev rmX6_pointOf : Room := { frames := 7, cells := 1, slots := 6, locals := 112 }
theorem hdX6_pointOf : yX6_pointOf.cls = RX6 ∧ yX6_pointOf.cls ≠ "java/lang/invoke/MethodHandle" ∧ yX6_pointOf.cls ≠ "java/lang/invoke/VarHandle" ∧ (parseMethodDescriptor yX6_pointOf.desc).map (fun d => d.parameters.length) = some 2 := by decide +kernel
theorem fiX6_pointOf_X6 : ∀ w ∈ wsX60, w ∈ wsX6_pointOf := by decide +kernel
theorem flX6_pointOf_10 : (.fieldLink RX6 10 "ContourLabels" "sheet" "LContourLabels$Sheet;" : Cond) ∈ wsX6_pointOf := by decide +kernel
set_option maxHeartbeats 4000000 in
set_option maxRecDepth 100000 in
theorem cX6_pointOf_ok (l : Launch) (hl0 : l.stackTraces = false) (g : Gg) (c0 h k0 x0 d0 a1 a2 a3 a4 : Nat) (σ : Sh) (p0 p1 : Int32) (sz : Nat) {o : Except String (Int32)} (hf : fX6_pointOf σ p0 p1 = some o) : vx_Met l yX6_pointOf wsX6_pointOf rmX6_pointOf (va_Pc [.ref c0, .int p0, .int p1] (PM g (wC c0 h k0 x0 d0 ++ (wS g h a1 a2 a3 a4 σ)) sz)) (QXi g (wC c0 h k0 x0 d0 ++ (wS g h a1 a2 a3 a4 σ)) (va_A (wC c0 h k0 x0 d0 ++ (wS g h a1 a2 a3 a4 σ)) sz) o) (XE g (wC c0 h k0 x0 d0 ++ (wS g h a1 a2 a3 a4 σ)) (va_A (wC c0 h k0 x0 d0 ++ (wS g h a1 a2 a3 a4 σ)) sz) o) 1 6 (va_A (wC c0 h k0 x0 d0 ++ (wS g h a1 a2 a3 a4 σ)) sz) := by
  refine vx_ofW (cc := cX6_pointOf) (maxL := 3) (ret := (some .int)) (by decide) rfl ?_
  intro p e s m args below meth c s₁ B hml hnt hv
  obtain ⟨rfl, rfl, hP, hD0, hE, hZ⟩ := hv
  have hx := B.exec
  have hb := B.bytes
  have hr := B.returns
  have hts := atoms_spec (ws := wsX6_pointOf) B.pre
  have hown : s.vm.findClass RX6 = some m.cls := findClass_of_methodNamed B.named
  have hlocks := B.notSynchronized
  have hD := hD0.self (sz := s.heap.size)
  generalize hAe : (va_A (wC c0 h k0 x0 d0 ++ (wS g h a1 a2 a3 a4 σ)) s.heap.size) = A at hD hZ ⊢
  have hA : ∀ q : Nat, s.heap.size ≤ q → A q := fun q h => by rw [← hAe]; exact Or.inr h
  have hS : va_S A s.heap s.heap [] := va_S.rf
  have hP : va_P g.1 vwCl (wC c0 h k0 x0 d0 ++ (wS g h a1 a2 a3 a4 σ)) s.heap := hP
  have hl := lv_entry ([.ref c0, .int p0, .int p1]) (n := 3) (Nat.le_of_ble_eq_true rfl)
  rw [lg_entry_eq]
  generalize (lg_sl ([.ref c0, .int p0, .int p1]) ++ List.replicate (3 - (lg_sl ([.ref c0, .int p0, .int p1])).length) Slot.unset).toArray = ls at hl ⊢
  have hl : lv_has ls 3 [(0, .ref c0), (1, .int p0), (2, .int p1)] := hl
  unfold fX6_pointOf at hf
  refine lv_aload_n hx hb dX6_pointOf_0 rfl (lv_at hl 0 rfl) ?_
  refine lv_iload_n hx hb dX6_pointOf_1 rfl (lv_at hl 1 rfl) ?_
  refine lv_iload_n hx hb dX6_pointOf_2 rfl (lv_at hl 2 rfl) ?_
  obtain ⟨r_1, e_1, x_1, k_1⟩ := xt hf
  refine xcallVv (W0 := (wC c0 h k0 x0 d0 ++ (wS g h a1 a2 a3 a4 σ))) (Wc := (wC c0 h k0 x0 d0 ++ (wS g h a1 a2 a3 a4 σ))) (Wr := ([] : va_W)) (As := [.int p0, .int p1]) (rest := []) [0, 1, 2, 3, 4, 5] [] [0, 1, 2, 3, 4, 5] 4 0 ⟨hx, hb, hml, hown, hts⟩ hP hD hE hZ hS hA (cX6_requireNumber_ok l hl0 g c0 h k0 x0 d0 a1 a2 a3 a4 σ p0 p1 _ e_1) (cwV 2 hts gX6_pointOf_X6_requireNumber rfl rfl rfl hdX6_requireNumber ⟨(Nat.le_of_ble_eq_true rfl), (Nat.le_of_ble_eq_true rfl)⟩) rfl rfl rfl (by decide) (by decide) (by decide) (by decide) rfl rfl rfl rfl hl.1 rfl (Nat.le_of_ble_eq_true rfl) ⟨(Nat.le_of_ble_eq_true rfl), (Nat.le_of_ble_eq_true rfl)⟩ dX6_pointOf_3 hnt hlocks ⟨(Nat.le_of_ble_eq_true rfl), (Nat.le_of_ble_eq_true rfl)⟩ x_1 (fun ok_1 H locs hP hD hS => ?_)
  have hf := k_1 () ok_1
  refine lv_aload_n hx hb dX6_pointOf_6 rfl (lv_at hl 0 rfl) ?_
  refine va_get (v := .ref h) (C := RX6) (T := TX6) (N := 4) hx hb hts fiX6_pointOf_X6 hown hE.1 hP 0 rfl rfl 0 (by decide) (hts _ flX6_pointOf_10) (fun _ h9 => h9) rfl dX6_pointOf_7 ?_
  refine lv_iload_n hx hb dX6_pointOf_10 rfl (lv_at hl 1 rfl) ?_
  refine lv_iload_n hx hb dX6_pointOf_11 rfl (lv_at hl 2 rfl) ?_
  obtain ⟨r_2, e_2, hf⟩ := bo hf
  refine pcallV (W0 := (wC c0 h k0 x0 d0 ++ (wS g h a1 a2 a3 a4 σ))) (As := [.int p0, .int p1]) (rest := []) [1, 2, 3, 4, 5] 3 0 ⟨hx, hb, hml, hown, hts⟩ hP hE hZ hS (cX4_pointAt_ok l g h a1 a2 a3 a4 σ p0 p1 e_2) (cwV 2 hts gX6_pointOf_X4_pointAt rfl rfl rfl hdX4_pointAt ⟨(Nat.le_of_ble_eq_true rfl), (Nat.le_of_ble_eq_true rfl)⟩) rfl rfl rfl rfl rfl hl.1 rfl (Nat.le_of_ble_eq_true rfl) ⟨(Nat.le_of_ble_eq_true rfl), (Nat.le_of_ble_eq_true rfl)⟩ dX6_pointOf_12 ?_
  exact x_iret (v := r_2) hx hb hr hlocks hP hD hS ⟨(Nat.le_of_ble_eq_true rfl), (Nat.le_of_ble_eq_true rfl)⟩ (Option.some.inj hf).symm dX6_pointOf_15

def fX6_lineAt (σ : Sh) (p0 : Int32) : Option (Except String (Int32)) := (xthen (fX6_requirePoint p0) fun _ => ((fX4_lineOn σ p0).bind fun r_2 => (some (.ok r_2))))
abbrev rmX6_lineAt : Room := { frames := 7, cells := 1, slots := 6, locals := 110 }
theorem hdX6_lineAt : yX6_lineAt.cls = RX6 ∧ yX6_lineAt.cls ≠ "java/lang/invoke/MethodHandle" ∧ yX6_lineAt.cls ≠ "java/lang/invoke/VarHandle" ∧ (parseMethodDescriptor yX6_lineAt.desc).map (fun d => d.parameters.length) = some 1 := by decide +kernel
theorem fiX6_lineAt_X6 : ∀ w ∈ wsX60, w ∈ wsX6_lineAt := by decide +kernel
theorem flX6_lineAt_10 : (.fieldLink RX6 10 "ContourLabels" "sheet" "LContourLabels$Sheet;" : Cond) ∈ wsX6_lineAt := by decide +kernel
set_option maxHeartbeats 4000000 in
set_option maxRecDepth 100000 in
theorem cX6_lineAt_ok (l : Launch) (hl0 : l.stackTraces = false) (g : Gg) (c0 h k0 x0 d0 a1 a2 a3 a4 : Nat) (σ : Sh) (p0 : Int32) (sz : Nat) {o : Except String (Int32)} (hf : fX6_lineAt σ p0 = some o) : vx_Met l yX6_lineAt wsX6_lineAt rmX6_lineAt (va_Pc [.ref c0, .int p0] (PM g (wC c0 h k0 x0 d0 ++ (wS g h a1 a2 a3 a4 σ)) sz)) (QXi g (wC c0 h k0 x0 d0 ++ (wS g h a1 a2 a3 a4 σ)) (va_A (wC c0 h k0 x0 d0 ++ (wS g h a1 a2 a3 a4 σ)) sz) o) (XE g (wC c0 h k0 x0 d0 ++ (wS g h a1 a2 a3 a4 σ)) (va_A (wC c0 h k0 x0 d0 ++ (wS g h a1 a2 a3 a4 σ)) sz) o) 1 6 (va_A (wC c0 h k0 x0 d0 ++ (wS g h a1 a2 a3 a4 σ)) sz) := by
  refine vx_ofW (cc := cX6_lineAt) (maxL := 2) (ret := (some .int)) (by decide) rfl ?_
  intro p e s m args below meth c s₁ B hml hnt hv
  obtain ⟨rfl, rfl, hP, hD0, hE, hZ⟩ := hv
  have hx := B.exec
  have hb := B.bytes
  have hr := B.returns
  have hts := atoms_spec (ws := wsX6_lineAt) B.pre
  have hown : s.vm.findClass RX6 = some m.cls := findClass_of_methodNamed B.named
  have hlocks := B.notSynchronized
  have hD := hD0.self (sz := s.heap.size)
  generalize hAe : (va_A (wC c0 h k0 x0 d0 ++ (wS g h a1 a2 a3 a4 σ)) s.heap.size) = A at hD hZ ⊢
  have hA : ∀ q : Nat, s.heap.size ≤ q → A q := fun q h => by rw [← hAe]; exact Or.inr h
  have hS : va_S A s.heap s.heap [] := va_S.rf
  have hP : va_P g.1 vwCl (wC c0 h k0 x0 d0 ++ (wS g h a1 a2 a3 a4 σ)) s.heap := hP
  have hl := lv_entry ([.ref c0, .int p0]) (n := 2) (Nat.le_of_ble_eq_true rfl)
  rw [lg_entry_eq]
  generalize (lg_sl ([.ref c0, .int p0]) ++ List.replicate (2 - (lg_sl ([.ref c0, .int p0])).length) Slot.unset).toArray = ls at hl ⊢
  have hl : lv_has ls 2 [(0, .ref c0), (1, .int p0)] := hl
  unfold fX6_lineAt at hf
  refine lv_iload_n hx hb dX6_lineAt_0 rfl (lv_at hl 1 rfl) ?_
  obtain ⟨r_1, e_1, x_1, k_1⟩ := xt hf
  refine xcallSv (W0 := (wC c0 h k0 x0 d0 ++ (wS g h a1 a2 a3 a4 σ))) (Wc := ([] : va_W)) (Wr := (wC c0 h k0 x0 d0 ++ (wS g h a1 a2 a3 a4 σ))) (As := [.int p0]) (rest := []) [] [0, 1, 2, 3, 4, 5] [0, 1, 2, 3, 4, 5] ⟨hx, hb, hml, hown, hts⟩ hP hD hE hZ hS hA (cX6_requirePoint_ok l hl0 g  p0 _ e_1) (va_cwS 1 hts gX6_lineAt_X6_requirePoint rfl rfl rfl hdX6_requirePoint.2 ⟨(Nat.le_of_ble_eq_true rfl), (Nat.le_of_ble_eq_true rfl)⟩) rfl rfl rfl (by decide) (by decide) (by decide) (by decide) rfl hl.1 rfl (Nat.le_of_ble_eq_true rfl) ⟨(Nat.le_of_ble_eq_true rfl), (Nat.le_of_ble_eq_true rfl)⟩ dX6_lineAt_1 hnt hlocks ⟨(Nat.le_of_ble_eq_true rfl), (Nat.le_of_ble_eq_true rfl)⟩ x_1 (fun ok_1 H locs hP hD hS => ?_)
  have hf := k_1 () ok_1
  refine lv_aload_n hx hb dX6_lineAt_4 rfl (lv_at hl 0 rfl) ?_
  refine va_get (v := .ref h) (C := RX6) (T := TX6) (N := 4) hx hb hts fiX6_lineAt_X6 hown hE.1 hP 0 rfl rfl 0 (by decide) (hts _ flX6_lineAt_10) (fun _ h9 => h9) rfl dX6_lineAt_5 ?_
  refine lv_iload_n hx hb dX6_lineAt_8 rfl (lv_at hl 1 rfl) ?_
  obtain ⟨r_2, e_2, hf⟩ := bo hf
  refine pcallV (W0 := (wC c0 h k0 x0 d0 ++ (wS g h a1 a2 a3 a4 σ))) (As := [.int p0]) (rest := []) [1, 2, 3, 4, 5] 3 0 ⟨hx, hb, hml, hown, hts⟩ hP hE hZ hS (cX4_lineOn_ok l g h a1 a2 a3 a4 σ p0 e_2) (cwV 1 hts gX6_lineAt_X4_lineOn rfl rfl rfl hdX4_lineOn ⟨(Nat.le_of_ble_eq_true rfl), (Nat.le_of_ble_eq_true rfl)⟩) rfl rfl rfl rfl rfl hl.1 rfl (Nat.le_of_ble_eq_true rfl) ⟨(Nat.le_of_ble_eq_true rfl), (Nat.le_of_ble_eq_true rfl)⟩ dX6_lineAt_9 ?_
  exact x_iret (v := r_2) hx hb hr hlocks hP hD hS ⟨(Nat.le_of_ble_eq_true rfl), (Nat.le_of_ble_eq_true rfl)⟩ (Option.some.inj hf).symm dX6_lineAt_12

def fX6_isClosed (σ : Sh) (p0 : Int32) : Option (Except String (Bool)) := (xthen (fX6_requireLine σ p0) fun _ => ((fX4_isRing σ p0).bind fun r_2 => (some (.ok r_2))))
abbrev rmX6_isClosed : Room := { frames := 7, cells := 1, slots := 6, locals := 111 }
theorem hdX6_isClosed : yX6_isClosed.cls = RX6 ∧ yX6_isClosed.cls ≠ "java/lang/invoke/MethodHandle" ∧ yX6_isClosed.cls ≠ "java/lang/invoke/VarHandle" ∧ (parseMethodDescriptor yX6_isClosed.desc).map (fun d => d.parameters.length) = some 1 := by decide +kernel
theorem fiX6_isClosed_X6 : ∀ w ∈ wsX60, w ∈ wsX6_isClosed := by decide +kernel
theorem flX6_isClosed_10 : (.fieldLink RX6 10 "ContourLabels" "sheet" "LContourLabels$Sheet;" : Cond) ∈ wsX6_isClosed := by decide +kernel
set_option maxHeartbeats 4000000 in
set_option maxRecDepth 100000 in
theorem cX6_isClosed_ok (l : Launch) (hl0 : l.stackTraces = false) (g : Gg) (c0 h k0 x0 d0 a1 a2 a3 a4 : Nat) (σ : Sh) (p0 : Int32) (sz : Nat) {o : Except String (Bool)} (hf : fX6_isClosed σ p0 = some o) : vx_Met l yX6_isClosed wsX6_isClosed rmX6_isClosed (va_Pc [.ref c0, .int p0] (PM g (wC c0 h k0 x0 d0 ++ (wS g h a1 a2 a3 a4 σ)) sz)) (QXb g (wC c0 h k0 x0 d0 ++ (wS g h a1 a2 a3 a4 σ)) (va_A (wC c0 h k0 x0 d0 ++ (wS g h a1 a2 a3 a4 σ)) sz) o) (XE g (wC c0 h k0 x0 d0 ++ (wS g h a1 a2 a3 a4 σ)) (va_A (wC c0 h k0 x0 d0 ++ (wS g h a1 a2 a3 a4 σ)) sz) o) 1 6 (va_A (wC c0 h k0 x0 d0 ++ (wS g h a1 a2 a3 a4 σ)) sz) := by
  refine vx_ofW (cc := cX6_isClosed) (maxL := 2) (ret := (some .boolean)) (by decide) rfl ?_
  intro p e s m args below meth c s₁ B hml hnt hv
  obtain ⟨rfl, rfl, hP, hD0, hE, hZ⟩ := hv
  have hx := B.exec
  have hb := B.bytes
  have hr := B.returns
  have hts := atoms_spec (ws := wsX6_isClosed) B.pre
  have hown : s.vm.findClass RX6 = some m.cls := findClass_of_methodNamed B.named
  have hlocks := B.notSynchronized
  have hD := hD0.self (sz := s.heap.size)
  generalize hAe : (va_A (wC c0 h k0 x0 d0 ++ (wS g h a1 a2 a3 a4 σ)) s.heap.size) = A at hD hZ ⊢
  have hA : ∀ q : Nat, s.heap.size ≤ q → A q := fun q h => by rw [← hAe]; exact Or.inr h
  have hS : va_S A s.heap s.heap [] := va_S.rf
  have hP : va_P g.1 vwCl (wC c0 h k0 x0 d0 ++ (wS g h a1 a2 a3 a4 σ)) s.heap := hP
  have hl := lv_entry ([.ref c0, .int p0]) (n := 2) (Nat.le_of_ble_eq_true rfl)
  rw [lg_entry_eq]
  generalize (lg_sl ([.ref c0, .int p0]) ++ List.replicate (2 - (lg_sl ([.ref c0, .int p0])).length) Slot.unset).toArray = ls at hl ⊢
  have hl : lv_has ls 2 [(0, .ref c0), (1, .int p0)] := hl
  unfold fX6_isClosed at hf
  refine lv_aload_n hx hb dX6_isClosed_0 rfl (lv_at hl 0 rfl) ?_
  refine lv_iload_n hx hb dX6_isClosed_1 rfl (lv_at hl 1 rfl) ?_
  obtain ⟨r_1, e_1, x_1, k_1⟩ := xt hf
  refine xcallVv (W0 := (wC c0 h k0 x0 d0 ++ (wS g h a1 a2 a3 a4 σ))) (Wc := (wC c0 h k0 x0 d0 ++ (wS g h a1 a2 a3 a4 σ))) (Wr := ([] : va_W)) (As := [.int p0]) (rest := []) [0, 1, 2, 3, 4, 5] [] [0, 1, 2, 3, 4, 5] 4 0 ⟨hx, hb, hml, hown, hts⟩ hP hD hE hZ hS hA (cX6_requireLine_ok l hl0 g c0 h k0 x0 d0 a1 a2 a3 a4 σ p0 _ e_1) (cwV 1 hts gX6_isClosed_X6_requireLine rfl rfl rfl hdX6_requireLine ⟨(Nat.le_of_ble_eq_true rfl), (Nat.le_of_ble_eq_true rfl)⟩) rfl rfl rfl (by decide) (by decide) (by decide) (by decide) rfl rfl rfl rfl hl.1 rfl (Nat.le_of_ble_eq_true rfl) ⟨(Nat.le_of_ble_eq_true rfl), (Nat.le_of_ble_eq_true rfl)⟩ dX6_isClosed_2 hnt hlocks ⟨(Nat.le_of_ble_eq_true rfl), (Nat.le_of_ble_eq_true rfl)⟩ x_1 (fun ok_1 H locs hP hD hS => ?_)
  have hf := k_1 () ok_1
  refine lv_aload_n hx hb dX6_isClosed_5 rfl (lv_at hl 0 rfl) ?_
  refine va_get (v := .ref h) (C := RX6) (T := TX6) (N := 4) hx hb hts fiX6_isClosed_X6 hown hE.1 hP 0 rfl rfl 0 (by decide) (hts _ flX6_isClosed_10) (fun _ h9 => h9) rfl dX6_isClosed_6 ?_
  refine lv_iload_n hx hb dX6_isClosed_9 rfl (lv_at hl 1 rfl) ?_
  obtain ⟨r_2, e_2, hf⟩ := bo hf
  refine pcallV (W0 := (wC c0 h k0 x0 d0 ++ (wS g h a1 a2 a3 a4 σ))) (As := [.int p0]) (rest := []) [1, 2, 3, 4, 5] 3 0 ⟨hx, hb, hml, hown, hts⟩ hP hE hZ hS (cX4_isRing_ok l g h a1 a2 a3 a4 σ p0 e_2) (cwV 1 hts gX6_isClosed_X4_isRing rfl rfl rfl hdX4_isRing ⟨(Nat.le_of_ble_eq_true rfl), (Nat.le_of_ble_eq_true rfl)⟩) rfl rfl rfl rfl rfl hl.1 rfl (Nat.le_of_ble_eq_true rfl) ⟨(Nat.le_of_ble_eq_true rfl), (Nat.le_of_ble_eq_true rfl)⟩ dX6_isClosed_10 ?_
  exact x_zret (v := r_2) hx hb hr hlocks hP hD hS ⟨(Nat.le_of_ble_eq_true rfl), (Nat.le_of_ble_eq_true rfl)⟩ (Option.some.inj hf).symm dX6_isClosed_13

def fX6_whyNotStepped (σ : Sh) (p0 p1 : Int32) : Option (Except String (Int32)) := (xthen (fX6_requireLine σ p0) fun _ => (xthen (fX6_requireDirection p1) fun _ => ((fX4_reasonAgainstStep σ p0 p1).bind fun r_3 => (some (.ok r_3)))))
abbrev rmX6_whyNotStepped : Room := { frames := 7, cells := 2, slots := 12, locals := 111 }
theorem hdX6_whyNotStepped : yX6_whyNotStepped.cls = RX6 ∧ yX6_whyNotStepped.cls ≠ "java/lang/invoke/MethodHandle" ∧ yX6_whyNotStepped.cls ≠ "java/lang/invoke/VarHandle" ∧ (parseMethodDescriptor yX6_whyNotStepped.desc).map (fun d => d.parameters.length) = some 2 := by decide +kernel
theorem fiX6_whyNotStepped_X6 : ∀ w ∈ wsX60, w ∈ wsX6_whyNotStepped := by decide +kernel
theorem flX6_whyNotStepped_10 : (.fieldLink RX6 10 "ContourLabels" "sheet" "LContourLabels$Sheet;" : Cond) ∈ wsX6_whyNotStepped := by decide +kernel
set_option maxHeartbeats 4000000 in
set_option maxRecDepth 100000 in
theorem cX6_whyNotStepped_ok (l : Launch) (hl0 : l.stackTraces = false) (g : Gg) (c0 h k0 x0 d0 a1 a2 a3 a4 : Nat) (σ : Sh) (p0 p1 : Int32) (sz : Nat) {o : Except String (Int32)} (hf : fX6_whyNotStepped σ p0 p1 = some o) : vx_Met l yX6_whyNotStepped wsX6_whyNotStepped rmX6_whyNotStepped (va_Pc [.ref c0, .int p0, .int p1] (PM g (wC c0 h k0 x0 d0 ++ (wS g h a1 a2 a3 a4 σ)) sz)) (QXi g (wC c0 h k0 x0 d0 ++ (wS g h a1 a2 a3 a4 σ)) (va_A (wC c0 h k0 x0 d0 ++ (wS g h a1 a2 a3 a4 σ)) sz) o) (XE g (wC c0 h k0 x0 d0 ++ (wS g h a1 a2 a3 a4 σ)) (va_A (wC c0 h k0 x0 d0 ++ (wS g h a1 a2 a3 a4 σ)) sz) o) 2 12 (va_A (wC c0 h k0 x0 d0 ++ (wS g h a1 a2 a3 a4 σ)) sz) := by
  refine vx_ofW (cc := cX6_whyNotStepped) (maxL := 3) (ret := (some .int)) (by decide) rfl ?_
  intro p e s m args below meth c s₁ B hml hnt hv
  obtain ⟨rfl, rfl, hP, hD0, hE, hZ⟩ := hv
  have hx := B.exec
  have hb := B.bytes
  have hr := B.returns
  have hts := atoms_spec (ws := wsX6_whyNotStepped) B.pre
  have hown : s.vm.findClass RX6 = some m.cls := findClass_of_methodNamed B.named
  have hlocks := B.notSynchronized
  have hD := hD0.self (sz := s.heap.size)
  generalize hAe : (va_A (wC c0 h k0 x0 d0 ++ (wS g h a1 a2 a3 a4 σ)) s.heap.size) = A at hD hZ ⊢
  have hA : ∀ q : Nat, s.heap.size ≤ q → A q := fun q h => by rw [← hAe]; exact Or.inr h
  have hS : va_S A s.heap s.heap [] := va_S.rf
  have hP : va_P g.1 vwCl (wC c0 h k0 x0 d0 ++ (wS g h a1 a2 a3 a4 σ)) s.heap := hP
  have hl := lv_entry ([.ref c0, .int p0, .int p1]) (n := 3) (Nat.le_of_ble_eq_true rfl)
  rw [lg_entry_eq]
  generalize (lg_sl ([.ref c0, .int p0, .int p1]) ++ List.replicate (3 - (lg_sl ([.ref c0, .int p0, .int p1])).length) Slot.unset).toArray = ls at hl ⊢
  have hl : lv_has ls 3 [(0, .ref c0), (1, .int p0), (2, .int p1)] := hl
  unfold fX6_whyNotStepped at hf
  refine lv_aload_n hx hb dX6_whyNotStepped_0 rfl (lv_at hl 0 rfl) ?_
  refine lv_iload_n hx hb dX6_whyNotStepped_1 rfl (lv_at hl 1 rfl) ?_
  obtain ⟨r_1, e_1, x_1, k_1⟩ := xt hf
  refine xcallVv (W0 := (wC c0 h k0 x0 d0 ++ (wS g h a1 a2 a3 a4 σ))) (Wc := (wC c0 h k0 x0 d0 ++ (wS g h a1 a2 a3 a4 σ))) (Wr := ([] : va_W)) (As := [.int p0]) (rest := []) [0, 1, 2, 3, 4, 5] [] [0, 1, 2, 3, 4, 5] 4 0 ⟨hx, hb, hml, hown, hts⟩ hP hD hE hZ hS hA (cX6_requireLine_ok l hl0 g c0 h k0 x0 d0 a1 a2 a3 a4 σ p0 _ e_1) (cwV 1 hts gX6_whyNotStepped_X6_requireLine rfl rfl rfl hdX6_requireLine ⟨(Nat.le_of_ble_eq_true rfl), (Nat.le_of_ble_eq_true rfl)⟩) rfl rfl rfl (by decide) (by decide) (by decide) (by decide) rfl rfl rfl rfl hl.1 rfl (Nat.le_of_ble_eq_true rfl) ⟨(Nat.le_of_ble_eq_true rfl), (Nat.le_of_ble_eq_true rfl)⟩ dX6_whyNotStepped_2 hnt hlocks ⟨(Nat.le_of_ble_eq_true rfl), (Nat.le_of_ble_eq_true rfl)⟩ x_1 (fun ok_1 H locs hP hD hS => ?_)
  have hf := k_1 () ok_1
  refine lv_iload_n hx hb dX6_whyNotStepped_5 rfl (lv_at hl 2 rfl) ?_
  obtain ⟨r_2, e_2, x_2, k_2⟩ := xt hf
  refine xcallSv (W0 := (wC c0 h k0 x0 d0 ++ (wS g h a1 a2 a3 a4 σ))) (Wc := ([] : va_W)) (Wr := (wC c0 h k0 x0 d0 ++ (wS g h a1 a2 a3 a4 σ))) (As := [.int p1]) (rest := []) [] [0, 1, 2, 3, 4, 5] [0, 1, 2, 3, 4, 5] ⟨hx, hb, hml, hown, hts⟩ hP hD hE hZ hS hA (cX6_requireDirection_ok l hl0 g  p1 _ e_2) (va_cwS 1 hts gX6_whyNotStepped_X6_requireDirection rfl rfl rfl hdX6_requireDirection.2 ⟨(Nat.le_of_ble_eq_true rfl), (Nat.le_of_ble_eq_true rfl)⟩) rfl rfl rfl (by decide) (by decide) (by decide) (by decide) rfl hl.1 rfl (Nat.le_of_ble_eq_true rfl) ⟨(Nat.le_of_ble_eq_true rfl), (Nat.le_of_ble_eq_true rfl)⟩ dX6_whyNotStepped_6 hnt hlocks ⟨(Nat.le_of_ble_eq_true rfl), (Nat.le_of_ble_eq_true rfl)⟩ x_2 (fun ok_2 H locs hP hD hS => ?_)
  have hf := k_2 () ok_2
  refine lv_aload_n hx hb dX6_whyNotStepped_9 rfl (lv_at hl 0 rfl) ?_
  refine va_get (v := .ref h) (C := RX6) (T := TX6) (N := 4) hx hb hts fiX6_whyNotStepped_X6 hown hE.1 hP 0 rfl rfl 0 (by decide) (hts _ flX6_whyNotStepped_10) (fun _ h9 => h9) rfl dX6_whyNotStepped_10 ?_
  refine lv_iload_n hx hb dX6_whyNotStepped_13 rfl (lv_at hl 1 rfl) ?_
  refine lv_iload_n hx hb dX6_whyNotStepped_14 rfl (lv_at hl 2 rfl) ?_
  obtain ⟨r_3, e_3, hf⟩ := bo hf
  refine pcallV (W0 := (wC c0 h k0 x0 d0 ++ (wS g h a1 a2 a3 a4 σ))) (As := [.int p0, .int p1]) (rest := []) [1, 2, 3, 4, 5] 3 0 ⟨hx, hb, hml, hown, hts⟩ hP hE hZ hS (cX4_reasonAgainstStep_ok l g h a1 a2 a3 a4 σ p0 p1 e_3) (cwV 2 hts gX6_whyNotStepped_X4_reasonAgainstStep rfl rfl rfl hdX4_reasonAgainstStep ⟨(Nat.le_of_ble_eq_true rfl), (Nat.le_of_ble_eq_true rfl)⟩) rfl rfl rfl rfl rfl hl.1 rfl (Nat.le_of_ble_eq_true rfl) ⟨(Nat.le_of_ble_eq_true rfl), (Nat.le_of_ble_eq_true rfl)⟩ dX6_whyNotStepped_15 ?_
  exact x_iret (v := r_3) hx hb hr hlocks hP hD hS ⟨(Nat.le_of_ble_eq_true rfl), (Nat.le_of_ble_eq_true rfl)⟩ (Option.some.inj hf).symm dX6_whyNotStepped_18
