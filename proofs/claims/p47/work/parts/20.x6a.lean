def fX6_lines (σ : Sh) : Option (Int32) := ((fX4_lineCount σ).bind fun r_1 => (some r_1))
abbrev rmX6_lines : Room := { frames := 1, cells := 0, slots := 0, locals := 20 }
theorem hdX6_lines : yX6_lines.cls = RX6 ∧ yX6_lines.cls ≠ "java/lang/invoke/MethodHandle" ∧ yX6_lines.cls ≠ "java/lang/invoke/VarHandle" ∧ (parseMethodDescriptor yX6_lines.desc).map (fun d => d.parameters.length) = some 0 := by decide +kernel
theorem fiX6_lines_X6 : ∀ w ∈ wsX60, w ∈ wsX6_lines := by decide +kernel
theorem flX6_lines_10 : (.fieldLink RX6 10 "ContourLabels" "sheet" "LContourLabels$Sheet;" : Cond) ∈ wsX6_lines := by decide +kernel
set_option maxHeartbeats 4000000 in
set_option maxRecDepth 100000 in
theorem cX6_lines_ok (l : Launch) (g : Gg) (c0 h k0 x0 d0 a1 a2 a3 a4 : Nat) (σ : Sh) {r : Int32} (hf : fX6_lines σ = some r) : Met l yX6_lines wsX6_lines rmX6_lines (va_Pc [.ref c0] (PP g (wC c0 h k0 x0 d0 ++ (wS g h a1 a2 a3 a4 σ)))) (vp_Si (fun r' => r' = r)) 0 0 (fun _ => False) := by
  refine Met.ofW (cc := cX6_lines) (maxL := 1) (ret := (some .int)) (by decide) rfl ?_
  intro p e s m args below meth c s₁ B hml hv
  obtain ⟨rfl, hP, hE, hZ⟩ := hv
  have hx := B.exec
  have hb := B.bytes
  have hr := B.returns
  have hts := atoms_spec (ws := wsX6_lines) B.pre
  have hown : s.vm.findClass RX6 = some m.cls := findClass_of_methodNamed B.named
  have hlocks := B.notSynchronized
  have hS : va_S (fun _ => False) s.heap s.heap [] := va_S.rf
  have hl := lv_entry ([.ref c0]) (n := 1) (Nat.le_of_ble_eq_true rfl)
  rw [lg_entry_eq]
  generalize (lg_sl ([.ref c0]) ++ List.replicate (1 - (lg_sl ([.ref c0])).length) Slot.unset).toArray = ls at hl ⊢
  have hl : lv_has ls 1 [(0, .ref c0)] := hl
  unfold fX6_lines at hf
  refine lv_aload_n hx hb dX6_lines_0 rfl (lv_at hl 0 rfl) ?_
  refine va_get (v := .ref h) (C := RX6) (T := TX6) (N := 4) hx hb hts fiX6_lines_X6 hown hE.1 hP 0 rfl rfl 0 (by decide) (hts _ flX6_lines_10) (fun _ h9 => h9) rfl dX6_lines_1 ?_
  obtain ⟨r_1, e_1, hf⟩ := bo hf
  refine pcallV (W0 := (wC c0 h k0 x0 d0 ++ (wS g h a1 a2 a3 a4 σ))) (As := []) (rest := []) [1, 2, 3, 4, 5] 3 0 ⟨hx, hb, hml, hown, hts⟩ hP hE hZ hS (cX4_lineCount_ok l g h a1 a2 a3 a4 σ e_1) (cwV 0 hts gX6_lines_X4_lineCount rfl rfl rfl hdX4_lineCount ⟨(Nat.le_of_ble_eq_true rfl), (Nat.le_of_ble_eq_true rfl)⟩) rfl rfl rfl rfl rfl hl.1 rfl (Nat.le_of_ble_eq_true rfl) ⟨(Nat.le_of_ble_eq_true rfl), (Nat.le_of_ble_eq_true rfl)⟩ dX6_lines_4 ?_
  exact p_iret (v := r_1) hx hb hr hlocks (Option.some.inj hf) dX6_lines_7

def fX6_gap (σ : Sh) : Option (Int32) := ((fX4_gapWidth σ).bind fun r_1 => (some r_1))
abbrev rmX6_gap : Room := { frames := 1, cells := 0, slots := 0, locals := 20 }
theorem hdX6_gap : yX6_gap.cls = RX6 ∧ yX6_gap.cls ≠ "java/lang/invoke/MethodHandle" ∧ yX6_gap.cls ≠ "java/lang/invoke/VarHandle" ∧ (parseMethodDescriptor yX6_gap.desc).map (fun d => d.parameters.length) = some 0 := by decide +kernel
theorem fiX6_gap_X6 : ∀ w ∈ wsX60, w ∈ wsX6_gap := by decide +kernel
theorem flX6_gap_10 : (.fieldLink RX6 10 "ContourLabels" "sheet" "LContourLabels$Sheet;" : Cond) ∈ wsX6_gap := by decide +kernel
set_option maxHeartbeats 4000000 in
set_option maxRecDepth 100000 in
theorem cX6_gap_ok (l : Launch) (g : Gg) (c0 h k0 x0 d0 a1 a2 a3 a4 : Nat) (σ : Sh) {r : Int32} (hf : fX6_gap σ = some r) : Met l yX6_gap wsX6_gap rmX6_gap (va_Pc [.ref c0] (PP g (wC c0 h k0 x0 d0 ++ (wS g h a1 a2 a3 a4 σ)))) (vp_Si (fun r' => r' = r)) 0 0 (fun _ => False) := by
  refine Met.ofW (cc := cX6_gap) (maxL := 1) (ret := (some .int)) (by decide) rfl ?_
  intro p e s m args below meth c s₁ B hml hv
  obtain ⟨rfl, hP, hE, hZ⟩ := hv
  have hx := B.exec
  have hb := B.bytes
  have hr := B.returns
  have hts := atoms_spec (ws := wsX6_gap) B.pre
  have hown : s.vm.findClass RX6 = some m.cls := findClass_of_methodNamed B.named
  have hlocks := B.notSynchronized
  have hS : va_S (fun _ => False) s.heap s.heap [] := va_S.rf
  have hl := lv_entry ([.ref c0]) (n := 1) (Nat.le_of_ble_eq_true rfl)
  rw [lg_entry_eq]
  generalize (lg_sl ([.ref c0]) ++ List.replicate (1 - (lg_sl ([.ref c0])).length) Slot.unset).toArray = ls at hl ⊢
  have hl : lv_has ls 1 [(0, .ref c0)] := hl
  unfold fX6_gap at hf
  refine lv_aload_n hx hb dX6_gap_0 rfl (lv_at hl 0 rfl) ?_
  refine va_get (v := .ref h) (C := RX6) (T := TX6) (N := 4) hx hb hts fiX6_gap_X6 hown hE.1 hP 0 rfl rfl 0 (by decide) (hts _ flX6_gap_10) (fun _ h9 => h9) rfl dX6_gap_1 ?_
  obtain ⟨r_1, e_1, hf⟩ := bo hf
  refine pcallV (W0 := (wC c0 h k0 x0 d0 ++ (wS g h a1 a2 a3 a4 σ))) (As := []) (rest := []) [1, 2, 3, 4, 5] 3 0 ⟨hx, hb, hml, hown, hts⟩ hP hE hZ hS (cX4_gapWidth_ok l g h a1 a2 a3 a4 σ e_1) (cwV 0 hts gX6_gap_X4_gapWidth rfl rfl rfl hdX4_gapWidth ⟨(Nat.le_of_ble_eq_true rfl), (Nat.le_of_ble_eq_true rfl)⟩) rfl rfl rfl rfl rfl hl.1 rfl (Nat.le_of_ble_eq_true rfl) ⟨(Nat.le_of_ble_eq_true rfl), (Nat.le_of_ble_eq_true rfl)⟩ dX6_gap_4 ?_
  exact p_iret (v := r_1) hx hb hr hlocks (Option.some.inj hf) dX6_gap_7

def fX6_labels (σ : Sh) : Option (Int32) := ((fX4_labelCount σ).bind fun r_1 => (some r_1))
abbrev rmX6_labels : Room := { frames := 2, cells := 0, slots := 0, locals := 43 }
theorem hdX6_labels : yX6_labels.cls = RX6 ∧ yX6_labels.cls ≠ "java/lang/invoke/MethodHandle" ∧ yX6_labels.cls ≠ "java/lang/invoke/VarHandle" ∧ (parseMethodDescriptor yX6_labels.desc).map (fun d => d.parameters.length) = some 0 := by decide +kernel
theorem fiX6_labels_X6 : ∀ w ∈ wsX60, w ∈ wsX6_labels := by decide +kernel
theorem flX6_labels_10 : (.fieldLink RX6 10 "ContourLabels" "sheet" "LContourLabels$Sheet;" : Cond) ∈ wsX6_labels := by decide +kernel
set_option maxHeartbeats 4000000 in
set_option maxRecDepth 100000 in
theorem cX6_labels_ok (l : Launch) (g : Gg) (c0 h k0 x0 d0 a1 a2 a3 a4 : Nat) (σ : Sh) {r : Int32} (hf : fX6_labels σ = some r) : Met l yX6_labels wsX6_labels rmX6_labels (va_Pc [.ref c0] (PP g (wC c0 h k0 x0 d0 ++ (wS g h a1 a2 a3 a4 σ)))) (vp_Si (fun r' => r' = r)) 0 0 (fun _ => False) := by
  refine Met.ofW (cc := cX6_labels) (maxL := 1) (ret := (some .int)) (by decide) rfl ?_
  intro p e s m args below meth c s₁ B hml hv
  obtain ⟨rfl, hP, hE, hZ⟩ := hv
  have hx := B.exec
  have hb := B.bytes
  have hr := B.returns
  have hts := atoms_spec (ws := wsX6_labels) B.pre
  have hown : s.vm.findClass RX6 = some m.cls := findClass_of_methodNamed B.named
  have hlocks := B.notSynchronized
  have hS : va_S (fun _ => False) s.heap s.heap [] := va_S.rf
  have hl := lv_entry ([.ref c0]) (n := 1) (Nat.le_of_ble_eq_true rfl)
  rw [lg_entry_eq]
  generalize (lg_sl ([.ref c0]) ++ List.replicate (1 - (lg_sl ([.ref c0])).length) Slot.unset).toArray = ls at hl ⊢
  have hl : lv_has ls 1 [(0, .ref c0)] := hl
  unfold fX6_labels at hf
  refine lv_aload_n hx hb dX6_labels_0 rfl (lv_at hl 0 rfl) ?_
  refine va_get (v := .ref h) (C := RX6) (T := TX6) (N := 4) hx hb hts fiX6_labels_X6 hown hE.1 hP 0 rfl rfl 0 (by decide) (hts _ flX6_labels_10) (fun _ h9 => h9) rfl dX6_labels_1 ?_
  obtain ⟨r_1, e_1, hf⟩ := bo hf
  refine pcallV (W0 := (wC c0 h k0 x0 d0 ++ (wS g h a1 a2 a3 a4 σ))) (As := []) (rest := []) [1, 2, 3, 4, 5] 3 0 ⟨hx, hb, hml, hown, hts⟩ hP hE hZ hS (cX4_labelCount_ok l g h a1 a2 a3 a4 σ e_1) (cwV 0 hts gX6_labels_X4_labelCount rfl rfl rfl hdX4_labelCount ⟨(Nat.le_of_ble_eq_true rfl), (Nat.le_of_ble_eq_true rfl)⟩) rfl rfl rfl rfl rfl hl.1 rfl (Nat.le_of_ble_eq_true rfl) ⟨(Nat.le_of_ble_eq_true rfl), (Nat.le_of_ble_eq_true rfl)⟩ dX6_labels_4 ?_
  exact p_iret (v := r_1) hx hb hr hlocks (Option.some.inj hf) dX6_labels_7

def fX6_tooNear (σ : Sh) : Option (Int32) := ((fX2_countPairsTooNear σ).bind fun r_1 => (some r_1))
abbrev rmX6_tooNear : Room := { frames := 5, cells := 0, slots := 0, locals := 120 }
theorem hdX6_tooNear : yX6_tooNear.cls = RX6 ∧ yX6_tooNear.cls ≠ "java/lang/invoke/MethodHandle" ∧ yX6_tooNear.cls ≠ "java/lang/invoke/VarHandle" ∧ (parseMethodDescriptor yX6_tooNear.desc).map (fun d => d.parameters.length) = some 0 := by decide +kernel
theorem fiX6_tooNear_X6 : ∀ w ∈ wsX60, w ∈ wsX6_tooNear := by decide +kernel
theorem flX6_tooNear_10 : (.fieldLink RX6 10 "ContourLabels" "sheet" "LContourLabels$Sheet;" : Cond) ∈ wsX6_tooNear := by decide +kernel
set_option maxHeartbeats 4000000 in
set_option maxRecDepth 100000 in
theorem cX6_tooNear_ok (l : Launch) (g : Gg) (c0 h k0 x0 d0 a1 a2 a3 a4 : Nat) (σ : Sh) {r : Int32} (hf : fX6_tooNear σ = some r) : Met l yX6_tooNear wsX6_tooNear rmX6_tooNear (va_Pc [.ref c0] (PP g (wC c0 h k0 x0 d0 ++ (wS g h a1 a2 a3 a4 σ)))) (vp_Si (fun r' => r' = r)) 0 0 (fun _ => False) := by
  refine Met.ofW (cc := cX6_tooNear) (maxL := 1) (ret := (some .int)) (by decide) rfl ?_
  intro p e s m args below meth c s₁ B hml hv
  obtain ⟨rfl, hP, hE, hZ⟩ := hv
  have hx := B.exec
  have hb := B.bytes
  have hr := B.returns
  have hts := atoms_spec (ws := wsX6_tooNear) B.pre
  have hown : s.vm.findClass RX6 = some m.cls := findClass_of_methodNamed B.named
  have hlocks := B.notSynchronized
  have hS : va_S (fun _ => False) s.heap s.heap [] := va_S.rf
  have hl := lv_entry ([.ref c0]) (n := 1) (Nat.le_of_ble_eq_true rfl)
  rw [lg_entry_eq]
  generalize (lg_sl ([.ref c0]) ++ List.replicate (1 - (lg_sl ([.ref c0])).length) Slot.unset).toArray = ls at hl ⊢
  have hl : lv_has ls 1 [(0, .ref c0)] := hl
  unfold fX6_tooNear at hf
  refine lv_aload_n hx hb dX6_tooNear_0 rfl (lv_at hl 0 rfl) ?_
  refine va_get (v := .ref h) (C := RX6) (T := TX6) (N := 4) hx hb hts fiX6_tooNear_X6 hown hE.1 hP 0 rfl rfl 0 (by decide) (hts _ flX6_tooNear_10) (fun _ h9 => h9) rfl dX6_tooNear_1 ?_
  obtain ⟨r_1, e_1, hf⟩ := bo hf
  refine pcallS (W0 := (wC c0 h k0 x0 d0 ++ (wS g h a1 a2 a3 a4 σ))) (As := [.ref h]) (rest := []) [1, 2, 3, 4, 5] ⟨hx, hb, hml, hown, hts⟩ hP hE hZ hS (cX2_countPairsTooNear_ok l g h a1 a2 a3 a4 σ e_1) (va_cwS 1 hts gX6_tooNear_X2_countPairsTooNear rfl rfl rfl hdX2_countPairsTooNear.2 ⟨(Nat.le_of_ble_eq_true rfl), (Nat.le_of_ble_eq_true rfl)⟩) rfl rfl hl.1 rfl (Nat.le_of_ble_eq_true rfl) ⟨(Nat.le_of_ble_eq_true rfl), (Nat.le_of_ble_eq_true rfl)⟩ dX6_tooNear_4 ?_
  exact p_iret (v := r_1) hx hb hr hlocks (Option.some.inj hf) dX6_tooNear_7

def fX6_labelAll (σ : Sh) (η : Hi) : Option (Int32 × Sh × Hi) := ((fX1_save σ η).bind fun r_1 => ((fX2_setAll σ).bind fun r_2 => ((fX4_labelCount r_2).bind fun r_3 => (some (r_3, r_2, r_1)))))
abbrev rmX6_labelAll : Room := { frames := 6, cells := 0, slots := 0, locals := 150 }
theorem hdX6_labelAll : yX6_labelAll.cls = RX6 ∧ yX6_labelAll.cls ≠ "java/lang/invoke/MethodHandle" ∧ yX6_labelAll.cls ≠ "java/lang/invoke/VarHandle" ∧ (parseMethodDescriptor yX6_labelAll.desc).map (fun d => d.parameters.length) = some 0 := by decide +kernel
theorem fiX6_labelAll_X6 : ∀ w ∈ wsX60, w ∈ wsX6_labelAll := by decide +kernel
theorem flX6_labelAll_19 : (.fieldLink RX6 19 "ContourLabels" "history" "LContourLabels$History;" : Cond) ∈ wsX6_labelAll := by decide +kernel
theorem flX6_labelAll_10 : (.fieldLink RX6 10 "ContourLabels" "sheet" "LContourLabels$Sheet;" : Cond) ∈ wsX6_labelAll := by decide +kernel
set_option maxHeartbeats 4000000 in
set_option maxRecDepth 100000 in
theorem cX6_labelAll_ok (l : Launch) (g : Gg) (c0 h k0 x0 d0 a1 a2 a3 a4 k1 : Nat) (γ : Nat → Nat → Nat) (σ : Sh) (η : Hi) (sz : Nat) {o : Int32 × Sh × Hi} (hf : fX6_labelAll σ η = some o) : Met l yX6_labelAll wsX6_labelAll rmX6_labelAll (va_Pc [.ref c0] (PM g (wC c0 h k0 x0 d0 ++ (wS g h a1 a2 a3 a4 σ ++ (wH g k0 k1 γ η))) sz)) (va_Qi (fun r' (_ : Unit) => r' = o.1) (fun _ t => PQ g (wC c0 h k0 x0 d0 ++ (wS g h a1 a2 a3 a4 o.2.1 ++ (wH g k0 k1 γ o.2.2))) (va_A (wC c0 h k0 x0 d0 ++ (wS g h a1 a2 a3 a4 σ ++ (wH g k0 k1 γ η))) sz) t) (va_A (wC c0 h k0 x0 d0 ++ (wS g h a1 a2 a3 a4 σ ++ (wH g k0 k1 γ η))) sz)) 0 0 (va_A (wC c0 h k0 x0 d0 ++ (wS g h a1 a2 a3 a4 σ ++ (wH g k0 k1 γ η))) sz) := by
  refine Met.ofW (cc := cX6_labelAll) (maxL := 1) (ret := (some .int)) (by decide) rfl ?_
  intro p e s m args below meth c s₁ B hml hv
  obtain ⟨rfl, rfl, hP, hD0, hE, hZ⟩ := hv
  have hx := B.exec
  have hb := B.bytes
  have hr := B.returns
  have hts := atoms_spec (ws := wsX6_labelAll) B.pre
  have hown : s.vm.findClass RX6 = some m.cls := findClass_of_methodNamed B.named
  have hlocks := B.notSynchronized
  have hD := hD0.self (sz := s.heap.size)
  generalize hAe : (va_A (wC c0 h k0 x0 d0 ++ (wS g h a1 a2 a3 a4 σ ++ (wH g k0 k1 γ η))) s.heap.size) = A at hD hZ ⊢
  have hA : ∀ q : Nat, s.heap.size ≤ q → A q := fun q h => by rw [← hAe]; exact Or.inr h
  have hS : va_S A s.heap s.heap [] := va_S.rf
  have hP : va_P g.1 vwCl (wC c0 h k0 x0 d0 ++ (wS g h a1 a2 a3 a4 σ ++ (wH g k0 k1 γ η))) s.heap := hP
  have hl := lv_entry ([.ref c0]) (n := 1) (Nat.le_of_ble_eq_true rfl)
  rw [lg_entry_eq]
  generalize (lg_sl ([.ref c0]) ++ List.replicate (1 - (lg_sl ([.ref c0])).length) Slot.unset).toArray = ls at hl ⊢
  have hl : lv_has ls 1 [(0, .ref c0)] := hl
  unfold fX6_labelAll at hf
  refine lv_aload_n hx hb dX6_labelAll_0 rfl (lv_at hl 0 rfl) ?_
  refine va_get (v := .ref k0) (C := RX6) (T := TX6) (N := 4) hx hb hts fiX6_labelAll_X6 hown hE.1 hP 0 rfl rfl 1 (by decide) (hts _ flX6_labelAll_19) (fun _ h9 => h9) rfl dX6_labelAll_1 ?_
  refine lv_aload_n hx hb dX6_labelAll_4 rfl (lv_at hl 0 rfl) ?_
  refine va_get (v := .ref h) (C := RX6) (T := TX6) (N := 4) hx hb hts fiX6_labelAll_X6 hown hE.1 hP 0 rfl rfl 0 (by decide) (hts _ flX6_labelAll_10) (fun _ h9 => h9) rfl dX6_labelAll_5 ?_
  obtain ⟨r_1, e_1, hf⟩ := bo hf
  refine mcallVv (W0 := (wC c0 h k0 x0 d0 ++ (wS g h a1 a2 a3 a4 σ ++ (wH g k0 k1 γ η)))) (Wc := (wS g h a1 a2 a3 a4 σ ++ (wH g k0 k1 γ η))) (Wr := (wC c0 h k0 x0 d0)) (W1 := (wS g h a1 a2 a3 a4 σ ++ (wH g k0 k1 γ r_1))) (W2 := (wC c0 h k0 x0 d0 ++ (wS g h a1 a2 a3 a4 σ ++ (wH g k0 k1 γ r_1)))) (As := [.ref h]) (rest := []) [1, 2, 3, 4, 5, 6, 7, 8, 9, 10, 11, 12, 13, 14, 15, 16, 17, 18, 19, 20, 21, 22, 23, 24, 25, 26, 27, 28, 29, 30, 31, 32, 33, 34, 35, 36, 37] [0] [0, 1, 2, 3, 4, 5, 6, 7, 8, 9, 10, 11, 12, 13, 14, 15, 16, 17, 18, 19, 20, 21, 22, 23, 24, 25, 26, 27, 28, 29, 30, 31, 32, 33, 34, 35, 36, 37] 1 5 ⟨hx, hb, hml, hown, hts⟩ hP hD hE hZ hS hA (cX1_save_ok l g h a1 a2 a3 a4 k0 k1 γ σ η _ e_1) (cwV 1 hts gX6_labelAll_X1_save rfl rfl rfl hdX1_save ⟨(Nat.le_of_ble_eq_true rfl), (Nat.le_of_ble_eq_true rfl)⟩) rfl rfl rfl (by decide) (by decide) (by decide) (by decide) rfl rfl rfl rfl hl.1 rfl (Nat.le_of_ble_eq_true rfl) ⟨(Nat.le_of_ble_eq_true rfl), (Nat.le_of_ble_eq_true rfl)⟩ dX6_labelAll_8 (fun H locs hP hD hS => ?_)
  refine lv_aload_n hx hb dX6_labelAll_11 rfl (lv_at hl 0 rfl) ?_
  refine va_get (v := .ref h) (C := RX6) (T := TX6) (N := 4) hx hb hts fiX6_labelAll_X6 hown hE.1 hP 0 rfl rfl 0 (by decide) (hts _ flX6_labelAll_10) (fun _ h9 => h9) rfl dX6_labelAll_12 ?_
  obtain ⟨r_2, e_2, hf⟩ := bo hf
  refine mcallSv (W0 := (wC c0 h k0 x0 d0 ++ (wS g h a1 a2 a3 a4 σ ++ (wH g k0 k1 γ r_1)))) (Wc := (wS g h a1 a2 a3 a4 σ)) (Wr := (wC c0 h k0 x0 d0 ++ (wH g k0 k1 γ r_1))) (W1 := (wS g h a1 a2 a3 a4 r_2)) (W2 := (wC c0 h k0 x0 d0 ++ (wS g h a1 a2 a3 a4 r_2 ++ (wH g k0 k1 γ r_1)))) (As := [.ref h]) (rest := []) [1, 2, 3, 4, 5] [0, 6, 7, 8, 9, 10, 11, 12, 13, 14, 15, 16, 17, 18, 19, 20, 21, 22, 23, 24, 25, 26, 27, 28, 29, 30, 31, 32, 33, 34, 35, 36, 37] [0, 33, 34, 35, 36, 37, 1, 2, 3, 4, 5, 6, 7, 8, 9, 10, 11, 12, 13, 14, 15, 16, 17, 18, 19, 20, 21, 22, 23, 24, 25, 26, 27, 28, 29, 30, 31, 32] ⟨hx, hb, hml, hown, hts⟩ hP hD hE hZ hS hA (cX2_setAll_ok l g h a1 a2 a3 a4 σ _ e_2) (va_cwS 1 hts gX6_labelAll_X2_setAll rfl rfl rfl hdX2_setAll.2 ⟨(Nat.le_of_ble_eq_true rfl), (Nat.le_of_ble_eq_true rfl)⟩) rfl rfl rfl (by decide) (by decide) (by decide) (by decide) rfl hl.1 rfl (Nat.le_of_ble_eq_true rfl) ⟨(Nat.le_of_ble_eq_true rfl), (Nat.le_of_ble_eq_true rfl)⟩ dX6_labelAll_15 (fun H locs hP hD hS => ?_)
  refine lv_aload_n hx hb dX6_labelAll_18 rfl (lv_at hl 0 rfl) ?_
  refine va_get (v := .ref h) (C := RX6) (T := TX6) (N := 4) hx hb hts fiX6_labelAll_X6 hown hE.1 hP 0 rfl rfl 0 (by decide) (hts _ flX6_labelAll_10) (fun _ h9 => h9) rfl dX6_labelAll_19 ?_
  obtain ⟨r_3, e_3, hf⟩ := bo hf
  refine pcallV (W0 := (wC c0 h k0 x0 d0 ++ (wS g h a1 a2 a3 a4 r_2 ++ (wH g k0 k1 γ r_1)))) (As := []) (rest := []) [1, 2, 3, 4, 5] 3 0 ⟨hx, hb, hml, hown, hts⟩ hP hE hZ hS (cX4_labelCount_ok l g h a1 a2 a3 a4 r_2 e_3) (cwV 0 hts gX6_labelAll_X4_labelCount rfl rfl rfl hdX4_labelCount ⟨(Nat.le_of_ble_eq_true rfl), (Nat.le_of_ble_eq_true rfl)⟩) rfl rfl rfl rfl rfl hl.1 rfl (Nat.le_of_ble_eq_true rfl) ⟨(Nat.le_of_ble_eq_true rfl), (Nat.le_of_ble_eq_true rfl)⟩ dX6_labelAll_22 ?_
  have ho := Option.some.inj hf
  subst ho
  exact m_iret (v := r_3) hx hb hr hlocks hP hD hS rfl dX6_labelAll_25

def fX6_slantingLength  : Option (UInt64) := (some (0x3ff6a09e667f3bcd : UInt64))
abbrev rmX6_slantingLength : Room := { frames := 0, cells := 0, slots := 0, locals := 0 }
theorem hdX6_slantingLength : yX6_slantingLength.cls = RX6 ∧ yX6_slantingLength.cls ≠ "java/lang/invoke/MethodHandle" ∧ yX6_slantingLength.cls ≠ "java/lang/invoke/VarHandle" ∧ (parseMethodDescriptor yX6_slantingLength.desc).map (fun d => d.parameters.length) = some 0 := by decide +kernel
theorem kdX6_slantingLength_329 : (.constantDouble RX6 329 0x3ff6a09e667f3bcd : Cond) ∈ wsX6_slantingLength := by decide +kernel
set_option maxHeartbeats 4000000 in
set_option maxRecDepth 100000 in
theorem cX6_slantingLength_ok (l : Launch) (g : Gg) {r : UInt64} (hf : fX6_slantingLength = some r) : Met l yX6_slantingLength wsX6_slantingLength rmX6_slantingLength (va_Pc [] (PP g ([] : va_W))) (vp_Sd (fun r' => r' = r)) 0 0 (fun _ => False) := by
  refine Met.ofW (cc := cX6_slantingLength) (maxL := 0) (ret := (some .double)) (by decide) rfl ?_
  intro p e s m args below meth c s₁ B hml hv
  obtain ⟨rfl, hP, hE, hZ⟩ := hv
  have hx := B.exec
  have hb := B.bytes
  have hr := B.returns
  have hts := atoms_spec (ws := wsX6_slantingLength) B.pre
  have hown : s.vm.findClass RX6 = some m.cls := findClass_of_methodNamed B.named
  have hlocks := B.notSynchronized
  have hS : va_S (fun _ => False) s.heap s.heap [] := va_S.rf
  have hl := lv_entry ([]) (n := 0) (Nat.le_of_ble_eq_true rfl)
  rw [lg_entry_eq]
  generalize (lg_sl ([]) ++ List.replicate (0 - (lg_sl ([])).length) Slot.unset).toArray = ls at hl ⊢
  have hl : lv_has ls 0 [] := hl
  unfold fX6_slantingLength at hf
  refine lv_ldc2d hx hb hown (hts _ kdX6_slantingLength_329) dX6_slantingLength_0 ?_
  exact p_dret (v := (0x3ff6a09e667f3bcd : UInt64)) hx hb hr hlocks (Option.some.inj hf) dX6_slantingLength_3
