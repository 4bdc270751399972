def fX6_lines (σ : Sh) : Option (Int32) := ((fX4_lineCount σ).bind fun r_1 => (some r_1))
abbrev rmX6_lines : Room := { frames := 1, cells := 0, slots := 0, locals := 20 }
theorem hdX6_lines : yX6_lines.cls = RX6 ∧ yX6_lines.cls ≠ "java/lang/invoke/MethodHandle" ∧ yX6_lines.cls ≠ "java/lang/invoke/VarHandle" ∧ (parseMethodDescriptor yX6_lines.desc).map (fun d => d.parameters.length) = some 0 := by decide +kernel
theorem fiX6_lines_X6 : ∀ w ∈ wsX60, w ∈ wsX6_lines := by decide +kernel
theorem flX6_lines_10 : (.fieldLink RX6 10 "ContourLabels" "sheet" "LContourLabels$Sheet;" : Cond) ∈ wsX6_lines := by decide +kernel
set_option maxHeartbeats 4000000 in
set_option maxRecDepth 100000 in
theorem cX6_lines_ok (l : Launch) (g : Gg) (c0 h k0 x0 d0 a1 a2 a3 a4 : Nat) (σ : Sh) {r : Int32} (hf : fX6_lines σ = some r) : Met l yX6_lines wsX6_lines rmX6_lines (va_Pc [.ref c0] (PP g (wC c0 h k0 x0 d0 ++ (wS g h a1 a2 a3 a4 σ)))) (vp_Si (fun r' => r' = r)) 0 0 (fun _ => False) := by
  refine Met.ofW (cc := cX6_lines) (maxL := 1) (ret := (some .int)) (by decide) rfl ?_
  intro p e s m args below meth c s₁ B hml hv
  obtain ⟨rfl, hP, hE, hZ⟩ := hv
  have hx := B.exec
  have hb := B.bytes
  have hr := B.returns
  have hts := atoms_spec (ws := wsX6_lines) B.pre
  have hown : s.vm.findClass RX6 = some m.cls := findClass_of_methodNamed B.named
  have hlocks := B.notSynchronized
  have hS : va_S (fun _ => False) s.heap s.heap [] := va_S.rf
  have hl := lv_entry ([.ref c0]) (n := 1) (Nat.le_of_ble_eq_true rfl)
  rw [lg_entry_eq]
  generalize (lg_sl ([.ref c0]) ++ List.replicate (1 - (lg_sl ([.ref c0])).length) Slot.unset).toArray = ls at hl ⊢
  have hl : lv_has ls 1 [(0, .ref c0)] := hl
  unfold fX6_lines at hf
  refine lv_aload_n hx hb dX6_lines_0 rfl (lv_at hl 0 rfl) ?_
  refine va_get (v := .ref h) (C := RX6) (T := TX6) (N := 4) hx hb hts fiX6_lines_X6 hown hE.1 hP 0 rfl rfl 0 (by decide) (hts _ flX6_lines_10) (fun _ h9 => h9) rfl dX6_lines_1 ?_
  obtain ⟨r_1, e_1, hf⟩ := bo hf
  refine pcallV (W0 := (wC c0 h k0 x0 d0 ++ (wS g h a1 a2 a3 a4 σ))) (As := []) (rest := []) [1, 2, 3, 4, 5] 3 0 ⟨hx, hb, hml, hown, hts⟩ hP hE hZ hS (cX4_lineCount_ok l g h a1 a2 a3 a4 σ e_1) (cwV 0 hts gX6_lines_X4_lineCount rfl rfl rfl hdX4_lineCount ⟨(Nat.le_of_ble_eq_true rfl), (Nat.le_of_ble_eq_true rfl)⟩) rfl rfl rfl rfl rfl hl.1 rfl (Nat.le_of_ble_eq_true rfl) ⟨(Nat.le_of_ble_eq_true rfl), (Nat.le_of_ble_eq_true rfl)⟩ dX6_lines_4 ?_
  exact p_iret (v := r_1) hx hb hr hlocks (Option.some.inj hf) dX6_lines_7

def fX6_gap (σ : Sh) : Option (Int32) := ((fX4_gapWidth σ).bind fun r_1 => (some r_1))
abbrev rmX6_gap : Room := { frames := 1, cells := 0, slots := 0, locals := 20 }
theorem hdX6_gap : yX6_gap.cls = RX6 ∧ yX6_gap.cls ≠ "java/lang/invoke/MethodHandle" ∧ yX6_gap.cls ≠ "java/lang/invoke/VarHandle" ∧ (parseMethodDescriptor yX6_gap.desc).map (fun d => d.parameters.length) = some 0 := by decide +kernel
theorem fiX6_gap_X6 : ∀ w ∈ wsX60, w ∈ wsX6_gap := by decide +kernel
theorem flX6_gap_10 : (.fieldLink RX6 10 "ContourLabels" "sheet" "LContourLabels$Sheet;" : Cond) ∈ wsX6_gap := by decide +kernel
set_option maxHeartbeats 4000000 in
set_option maxRecDepth 100000 in
theorem cX6_gap_ok (l : Launch) (g : Gg) (c0 h k0 x0 d0 a1 a2 a3 a4 : Nat) (σ : Sh) {r : Int32} (hf : fX6_gap σ = some r) : Met l yX6_gap wsX6_gap rmX6_gap (va_Pc [.ref c0] (PP g (wC c0 h k0 x0 d0 ++ (wS g h a1 a2 a3 a4 σ)))) (vp_Si (fun r' => r' = r)) 0 0 (fun _ => False) := by
  refine Met.ofW (cc := cX6_gap) (maxL := 1) (ret := (some .int)) (by decide) rfl ?_
  intro p e s m args below meth c s₁ B hml hv
  obtain ⟨rfl, hP, hE, hZ⟩ := hv
  have hx := B.exec
  have hb := B.bytes
  have hr := B.returns
  have hts := atoms_spec (ws := wsX6_gap) B.pre
  have hown : s.vm.findClass RX6 = some m.cls := findClass_of_methodNamed B.named
  have hlocks := B.notSynchronized
  have hS : va_S (fun _ => False) s.heap s.heap [] := va_S.rf
  have hl := lv_entry ([.ref c0]) (n := 1) (Nat.le_of_ble_eq_true rfl)
  rw [lg_entry_eq]
  generalize (lg_sl ([.ref c0]) ++ List.replicate (1 - (lg_sl ([.ref c0])).length) Slot.unset).toArray = ls at hl ⊢
  have hl : lv_has ls 1 [(0, .ref c0)] := hl
  unfold fX6_gap at hf
  refine lv_aload_n hx hb dX6_gap_0 rfl (lv_at hl 0 rfl) ?_
  refine va_get (v := .ref h) (C := RX6) (T := TX6) (N := 4) hx hb hts fiX6_gap_X6 hown hE.1 hP 0 rfl rfl 0 (by decide) (hts _ flX6_gap_10) (fun _ h9 => h9) rfl dX6_gap_1 ?_
  obtain ⟨r_1, e_1, hf⟩ := bo hf
  refine pcallV (W0 := (wC c0 h k0 x0 d0 ++ (wS g h a1 a2 a3 a4 σ))) (As := []) (rest := []) [1, 2, 3, 4, 5] 3 0 ⟨hx, hb, hml, hown, hts⟩ hP hE hZ hS (cX4_gapWidth_ok l g h a1 a2 a3 a4 σ e_1) (cwV 0 hts gX6_gap_X4_gapWidth rfl rfl rfl hdX4_gapWidth ⟨(Nat.le_of_ble_eq_true rfl), (Nat.le_of_ble_eq_true rfl)⟩) rfl rfl rfl rfl rfl hl.1 rfl (Nat.le_of_ble_eq_true rfl) ⟨(Nat.le_of_ble_eq_true rfl), (Nat.le_of_ble_eq_true rfl)⟩ dX6_gap_4 ?_
  exact p_iret (v := r_1) hx hb hr hlocks (Option.some.inj hf) dX6_gap_7

def fX6_labels (σ : Sh) : Option (Int32) := ((fX4_labelCount σ).bind fun r_1 => (some r_1))
abbrev rmX6_labels : Room := { frames := 2, cells := 0, slots := 0, locals := 43 }
theorem hdX6_labels : yX6_labels.cls = RX6 ∧ yX6_labels.cls ≠ "java/lang/invoke/MethodHandle" ∧ yX6_labels.cls ≠ "java/lang/invoke/VarHandle" ∧ (parseMethodDescriptor yX6_labels.desc).map (fun d => d.parameters.length) = some 0 := by decide +kernel
theorem fiX6_labels_X6 : ∀ w ∈ wsX60, w ∈ wsX6_labels := by decide +kernel
theorem flX6_labels_10 : (.fieldLink RX6 10 "ContourLabels" "sheet" "LContourLabels$Sheet;" : Cond) ∈ wsX6_labels := by decide +kernel
set_option maxHeartbeats 4000000 in
set_option maxRecDepth 100000 in
theorem cX6_labels_ok (l : Launch) (g : Gg) (c0 h k0 x0 d0 a1 a2 a3 a4 : Nat) (σ : Sh) {r : Int32} (hf : fX6_labels σ = some r) : Met l yX6_labels wsX6_labels rmX6_labels (va_Pc [.ref c0] (PP g (wC c0 h k0 x0 d0 ++ (wS g h a1 a2 a3 a4 σ)))) (vp_Si (fun r' => r' = r)) 0 0 (fun _ => False) := by
  refine Met.ofW (cc := cX6_labels) (maxL := 1) (ret := (some .int)) (by decide) rfl ?_
  intro p e s m args below meth c s₁ B hml hv
  obtain ⟨rfl, hP, hE, hZ⟩ := hv
  have hx := B.exec
  have hb := B.bytes
  have hr := B.returns
  have hts := atoms_spec (ws := wsX6_labels) B.pre
  have hown : s.vm.findClass RX6 = some m.cls := findClass_of_methodNamed B.named
  have hlocks := B.notSynchronized
  have hS : va_S (fun _ => False) s.heap s.heap [] := va_S.rf
  have hl := lv_entry ([.ref c0]) (n := 1) (Nat.le_of_ble_eq_true rfl)
  rw [lg_entry_eq]
  generalize (lg_sl ([.ref c0]) ++ List.replicate (1 - (lg_sl ([.ref c0])).length) Slot.unset).toArray = ls at hl ⊢
  have hl : lv_has ls 1 [(0, .ref c0)] := hl
  unfold fX6_labels at hf
  refine lv_aload_n hx hb dX6_labels_0 rfl (lv_at hl 0 rfl) ?_
  refine va_get (v := .ref h) (C := RX6) (T := TX6) (N := 4) hx hb hts fiX6_labels_X6 hown hE.1 hP 0 rfl rfl 0 (by decide) (hts _ flX6_labels_10) (fun _ h9 => h9) rfl dX6_labels_1 ?_
  obtain ⟨r_1, e_1, hf⟩ := bo hf
  refine pcallV (W0 := (wC c0 h k0 x0 d0 ++ (wS g h a1 a2 a3 a4 σ))) (As := []) (rest := []) [1, 2, 3, 4, 5] 3 0 ⟨hx, hb, hml, hown, hts⟩ hP hE hZ hS (cX4_labelCount_ok l g h a1 a2 a3 a4 σ e_1) (cwV 0 hts gX6_labels_X4_labelCount rfl rfl rfl hdX4_labelCount ⟨(Nat.le_of_ble_eq_true rfl), (Nat.le_of_ble_eq_true rfl)⟩) rfl rfl rfl rfl rfl hl.1 rfl (Nat.le_of_ble_eq_true rfl) ⟨(Nat.le_of_ble_eq_true rfl), (Nat.le_of_ble_eq_true rfl)⟩ dX6_labels_4 ?_
  exact p_iret (v := r_1) hx hb hr hlocks (Option.some.inj hf) dX6_labels_7

def fX6_tooNear (σ : Sh) : Option (Int32) := ((fX2_countPairsTooNear σ).bind fun r_1 => (some r_1))
abbrev rmX6_tooNear : Room := { frames := 5, cells := 0, slots := 0, locals := 120 }
theorem hdX6_tooNear : yX6_tooNear.cls = RX6 ∧ yX6_tooNear.cls ≠ "java/lang/invoke/MethodHandle" ∧ yX6_tooNear.cls ≠ "java/lang/invoke/VarHandle" ∧ (parseMethodDescriptor yX6_tooNear.desc).map (fun d => d.parameters.length) = some 0 := by decide +kernel
theorem fiX6_tooNear_X6 : ∀ w ∈ wsX60, w ∈ wsX6_tooNear := by decide +kernel
theorem flX6_tooNear_10 : (.fieldLink RX6 10 "ContourLabels" "sheet" "LContourLabels$Sheet;" : Cond) ∈ wsX6_tooNear := by decide +kernel
set_option maxHeartbeats 4000000 in
set_option maxRecDepth 100000 in
theorem cX6_tooNear_ok (l : Launch) (g : Gg) (c0 h k0 x0 d0 a1 a2 a3 a4 : Nat) (σ : Sh) {r : Int32} (hf : fX6_tooNear σ = some r) : Met l yX6_tooNear wsX6_tooNear rmX6_tooNear (va_Pc [.ref c0] (PP g (wC c0 h k0 x0 d0 ++ (wS g h a1 a2 a3 a4 σ)))) (vp_Si (fun r' => r' = r)) 0 0 (fun _ => False) := by
  refine Met.ofW (cc := cX6_tooNear) (maxL := 1) (ret := (some .int)) (by decide) rfl ?_
  intro p e s m args below meth c s₁ B hml hv
  obtain ⟨rfl, hP, hE, hZ⟩ := hv
  have hx := B.exec
  have hb := B.bytes
  have hr := B.returns
  have hts := atoms_spec (ws := wsX6_tooNear) B.pre
  have hown : s.vm.findClass RX6 = some m.cls := findClass_of_methodNamed B.named
  have hlocks := B.notSynchronized
  have hS : va_S (fun _ => False) s.heap s.heap [] := va_S.rf
  have hl := lv_entry ([.ref c0]) (n := 1) (Nat.le_of_ble_eq_true rfl)
  rw [lg_entry_eq]
  generalize (lg_sl ([.ref c0]) ++ List.replicate (1 - (lg_sl ([.ref c0])).length) Slot.unset).toArray = ls at hl ⊢
  have hl : lv_has ls 1 [(0, .ref c0)] := hl
  unfold fX6_tooNear at hf
  refine lv_aload_n hx hb dX6_tooNear_0 rfl (lv_at hl 0 rfl) ?_
  refine va_get (v := .ref h) (C := RX6) (T := TX6) (N := 4) hx hb hts fiX6_tooNear_X6 hown hE.1 hP 0 rfl rfl 0 (by decide) (hts _ flX6_tooNear_10) (fun _ h9 => h9) rfl dX6_tooNear_1 ?_
  obtain ⟨r_1, e_1, hf⟩ := bo hf
  refine pcallS (W0 := (wC c0 h k0 x0 d0 ++ (wS g h a1 a2 a3 a4 σ))) (As := [.ref h]) (rest := []) [1, 2, 3, 4, 5] ⟨hx, hb, hml, hown, hts⟩ hP hE hZ hS (cX2_countPairsTooNear_ok l g h a1 a2 a3 a4 σ e_1) (va_cwS 1 hts gX6_tooNear_X2_countPairsTooNear rfl rfl rfl hdX2_countPairsTooNear.2 ⟨(Nat.le_of_ble_eq_true rfl), (Nat.le_of_ble_eq_true rfl)⟩) rfl rfl hl.1 rfl (Nat.le_of_ble_eq_true rfl) ⟨(Nat.le_of_ble_eq_true rfl), (Nat.le_of_ble_eq_true rfl)⟩ dX6_tooNear_4 ?_
  exact p_iret (v := r_1) hx hb hr hlocks (Option.some.inj hf) dX6_tooNear_7

def fX6_clearText (τ : Tx) : Option (Int32 × Tx) := ((fX3_size τ).bind fun r_1 => ((fX3_empty τ).bind fun r_2 => (some (r_1, r_2))))
abbrev rmX6_clearText : Room := { frames := 1, cells := 0, slots := 0, locals := 20 }
theorem hdX6_clearText : yX6_clearText.cls = RX6 ∧ yX6_clearText.cls ≠ "java/lang/invoke/MethodHandle" ∧ yX6_clearText.cls ≠ "java/lang/invoke/VarHandle" ∧ (parseMethodDescriptor yX6_clearText.desc).map (fun d => d.parameters.length) = some 0 := by decide +kernel
theorem fiX6_clearText_X6 : ∀ w ∈ wsX60, w ∈ wsX6_clearText := by decide +kernel
theorem flX6_clearText_26 : (.fieldLink RX6 26 "ContourLabels" "text" "LContourLabels$OrderText;" : Cond) ∈ wsX6_clearText := by decide +kernel
set_option maxHeartbeats 4000000 in
set_option maxRecDepth 100000 in
theorem cX6_clearText_ok (l : Launch) (g : Gg) (c0 h k0 x0 d0 x1 : Nat) (τ : Tx) (sz : Nat) {o : Int32 × Tx} (hf : fX6_clearText τ = some o) : Met l yX6_clearText wsX6_clearText rmX6_clearText (va_Pc [.ref c0] (PM g (wC c0 h k0 x0 d0 ++ (wX g x0 x1 τ)) sz)) (va_Qi (fun r' (_ : Unit) => r' = o.1) (fun _ t => PQ g (wC c0 h k0 x0 d0 ++ (wX g x0 x1 o.2)) (va_A (wC c0 h k0 x0 d0 ++ (wX g x0 x1 τ)) sz) t) (va_A (wC c0 h k0 x0 d0 ++ (wX g x0 x1 τ)) sz)) 0 0 (va_A (wC c0 h k0 x0 d0 ++ (wX g x0 x1 τ)) sz) := by
  refine Met.ofW (cc := cX6_clearText) (maxL := 2) (ret := (some .int)) (by decide) rfl ?_
  intro p e s m args below meth c s₁ B hml hv
  obtain ⟨rfl, rfl, hP, hD0, hE, hZ⟩ := hv
  have hx := B.exec
  have hb := B.bytes
  have hr := B.returns
  have hts := atoms_spec (ws := wsX6_clearText) B.pre
  have hown : s.vm.findClass RX6 = some m.cls := findClass_of_methodNamed B.named
  have hlocks := B.notSynchronized
  have hD := hD0.self (sz := s.heap.size)
  generalize hAe : (va_A (wC c0 h k0 x0 d0 ++ (wX g x0 x1 τ)) s.heap.size) = A at hD hZ ⊢
  have hA : ∀ q : Nat, s.heap.size ≤ q → A q := fun q h => by rw [← hAe]; exact Or.inr h
  have hS : va_S A s.heap s.heap [] := va_S.rf
  have hP : va_P g.1 vwCl (wC c0 h k0 x0 d0 ++ (wX g x0 x1 τ)) s.heap := hP
  have hl := lv_entry ([.ref c0]) (n := 2) (Nat.le_of_ble_eq_true rfl)
  rw [lg_entry_eq]
  generalize (lg_sl ([.ref c0]) ++ List.replicate (2 - (lg_sl ([.ref c0])).length) Slot.unset).toArray = ls at hl ⊢
  have hl : lv_has ls 2 [(0, .ref c0)] := hl
  unfold fX6_clearText at hf
  refine lv_aload_n hx hb dX6_clearText_0 rfl (lv_at hl 0 rfl) ?_
  refine va_get (v := .ref x0) (C := RX6) (T := TX6) (N := 4) hx hb hts fiX6_clearText_X6 hown hE.1 hP 0 rfl rfl 2 (by decide) (hts _ flX6_clearText_26) (fun _ h9 => h9) rfl dX6_clearText_1 ?_
  obtain ⟨r_1, e_1, hf⟩ := bo hf
  refine pcallV (W0 := (wC c0 h k0 x0 d0 ++ (wX g x0 x1 τ))) (As := []) (rest := []) [1, 2] 2 0 ⟨hx, hb, hml, hown, hts⟩ hP hE hZ hS (cX3_size_ok l g x0 x1 τ e_1) (cwV 0 hts gX6_clearText_X3_size rfl rfl rfl hdX3_size ⟨(Nat.le_of_ble_eq_true rfl), (Nat.le_of_ble_eq_true rfl)⟩) rfl rfl rfl rfl rfl hl.1 rfl (Nat.le_of_ble_eq_true rfl) ⟨(Nat.le_of_ble_eq_true rfl), (Nat.le_of_ble_eq_true rfl)⟩ dX6_clearText_4 ?_
  refine lv_istore_n (lv' := [(1, .int r_1), (0, .ref c0)]) hx hb dX6_clearText_7 rfl hl (by decide) rfl (fun ls hl => ?_)
  refine lv_aload_n hx hb dX6_clearText_8 rfl (lv_at hl 1 rfl) ?_
  refine va_get (v := .ref x0) (C := RX6) (T := TX6) (N := 4) hx hb hts fiX6_clearText_X6 hown hE.1 hP 0 rfl rfl 2 (by decide) (hts _ flX6_clearText_26) (fun _ h9 => h9) rfl dX6_clearText_9 ?_
  obtain ⟨r_2, e_2, hf⟩ := bo hf
  refine mcallVv (W0 := (wC c0 h k0 x0 d0 ++ (wX g x0 x1 τ))) (Wc := (wX g x0 x1 τ)) (Wr := (wC c0 h k0 x0 d0)) (W1 := (wX g x0 x1 r_2)) (W2 := (wC c0 h k0 x0 d0 ++ (wX g x0 x1 r_2))) (As := []) (rest := []) [1, 2] [0] [0, 1, 2] 2 0 ⟨hx, hb, hml, hown, hts⟩ hP hD hE hZ hS hA (cX3_empty_ok l g x0 x1 τ _ e_2) (cwV 0 hts gX6_clearText_X3_empty rfl rfl rfl hdX3_empty ⟨(Nat.le_of_ble_eq_true rfl), (Nat.le_of_ble_eq_true rfl)⟩) rfl rfl rfl (by decide) (by decide) (by decide) (by decide) rfl rfl rfl rfl hl.1 rfl (Nat.le_of_ble_eq_true rfl) ⟨(Nat.le_of_ble_eq_true rfl), (Nat.le_of_ble_eq_true rfl)⟩ dX6_clearText_12 (fun H locs hP hD hS => ?_)
  refine lv_iload_n hx hb dX6_clearText_15 rfl (lv_at hl 0 rfl) ?_
  have ho := Option.some.inj hf
  subst ho
  exact m_iret (v := r_1) hx hb hr hlocks hP hD hS rfl dX6_clearText_16

def fX6_errorPosition (τ : Tx) : Option (Int32 × Tx) := ((fX3_firstError τ).bind fun r_1 => (some (r_1.1, r_1.2)))
abbrev rmX6_errorPosition : Room := { frames := 7, cells := 0, slots := 0, locals := 151 }
theorem hdX6_errorPosition : yX6_errorPosition.cls = RX6 ∧ yX6_errorPosition.cls ≠ "java/lang/invoke/MethodHandle" ∧ yX6_errorPosition.cls ≠ "java/lang/invoke/VarHandle" ∧ (parseMethodDescriptor yX6_errorPosition.desc).map (fun d => d.parameters.length) = some 0 := by decide +kernel
theorem fiX6_errorPosition_X6 : ∀ w ∈ wsX60, w ∈ wsX6_errorPosition := by decide +kernel
theorem flX6_errorPosition_26 : (.fieldLink RX6 26 "ContourLabels" "text" "LContourLabels$OrderText;" : Cond) ∈ wsX6_errorPosition := by decide +kernel
set_option maxHeartbeats 4000000 in
set_option maxRecDepth 100000 in
theorem cX6_errorPosition_ok (l : Launch) (g : Gg) (c0 h k0 x0 d0 x1 : Nat) (τ : Tx) (sz : Nat) {o : Int32 × Tx} (hf : fX6_errorPosition τ = some o) : Met l yX6_errorPosition wsX6_errorPosition rmX6_errorPosition (va_Pc [.ref c0] (PM g (wC c0 h k0 x0 d0 ++ (wX g x0 x1 τ)) sz)) (va_Qi (fun r' (_ : Unit) => r' = o.1) (fun _ t => PQ g (wC c0 h k0 x0 d0 ++ (wX g x0 x1 o.2)) (va_A (wC c0 h k0 x0 d0 ++ (wX g x0 x1 τ)) sz) t) (va_A (wC c0 h k0 x0 d0 ++ (wX g x0 x1 τ)) sz)) 0 0 (va_A (wC c0 h k0 x0 d0 ++ (wX g x0 x1 τ)) sz) := by
  refine Met.ofW (cc := cX6_errorPosition) (maxL := 1) (ret := (some .int)) (by decide) rfl ?_
  intro p e s m args below meth c s₁ B hml hv
  obtain ⟨rfl, rfl, hP, hD0, hE, hZ⟩ := hv
  have hx := B.exec
  have hb := B.bytes
  have hr := B.returns
  have hts := atoms_spec (ws := wsX6_errorPosition) B.pre
  have hown : s.vm.findClass RX6 = some m.cls := findClass_of_methodNamed B.named
  have hlocks := B.notSynchronized
  have hD := hD0.self (sz := s.heap.size)
  generalize hAe : (va_A (wC c0 h k0 x0 d0 ++ (wX g x0 x1 τ)) s.heap.size) = A at hD hZ ⊢
  have hA : ∀ q : Nat, s.heap.size ≤ q → A q := fun q h => by rw [← hAe]; exact Or.inr h
  have hS : va_S A s.heap s.heap [] := va_S.rf
  have hP : va_P g.1 vwCl (wC c0 h k0 x0 d0 ++ (wX g x0 x1 τ)) s.heap := hP
  have hl := lv_entry ([.ref c0]) (n := 1) (Nat.le_of_ble_eq_true rfl)
  rw [lg_entry_eq]
  generalize (lg_sl ([.ref c0]) ++ List.replicate (1 - (lg_sl ([.ref c0])).length) Slot.unset).toArray = ls at hl ⊢
  have hl : lv_has ls 1 [(0, .ref c0)] := hl
  unfold fX6_errorPosition at hf
  refine lv_aload_n hx hb dX6_errorPosition_0 rfl (lv_at hl 0 rfl) ?_
  refine va_get (v := .ref x0) (C := RX6) (T := TX6) (N := 4) hx hb hts fiX6_errorPosition_X6 hown hE.1 hP 0 rfl rfl 2 (by decide) (hts _ flX6_errorPosition_26) (fun _ h9 => h9) rfl dX6_errorPosition_1 ?_
  obtain ⟨r_1, e_1, hf⟩ := bo hf
  refine mcallVi (W0 := (wC c0 h k0 x0 d0 ++ (wX g x0 x1 τ))) (Wc := (wX g x0 x1 τ)) (Wr := (wC c0 h k0 x0 d0)) (W1 := (wX g x0 x1 r_1.2)) (W2 := (wC c0 h k0 x0 d0 ++ (wX g x0 x1 r_1.2))) (As := []) (rest := []) [1, 2] [0] [0, 1, 2] 2 0 ⟨hx, hb, hml, hown, hts⟩ hP hD hE hZ hS hA (cX3_firstError_ok l g x0 x1 τ _ e_1) (cwV 0 hts gX6_errorPosition_X3_firstError rfl rfl rfl hdX3_firstError ⟨(Nat.le_of_ble_eq_true rfl), (Nat.le_of_ble_eq_true rfl)⟩) rfl rfl rfl (by decide) (by decide) (by decide) (by decide) rfl rfl rfl rfl hl.1 rfl (Nat.le_of_ble_eq_true rfl) ⟨(Nat.le_of_ble_eq_true rfl), (Nat.le_of_ble_eq_true rfl)⟩ dX6_errorPosition_4 (fun H locs hP hD hS => ?_)
  have ho := Option.some.inj hf
  subst ho
  exact m_iret (v := r_1.1) hx hb hr hlocks hP hD hS rfl dX6_errorPosition_7

def fX6_savedStates (η : Hi) : Option (Int32) := ((fX1_size η).bind fun r_1 => (some r_1))
abbrev rmX6_savedStates : Room := { frames := 1, cells := 0, slots := 0, locals := 20 }
theorem hdX6_savedStates : yX6_savedStates.cls = RX6 ∧ yX6_savedStates.cls ≠ "java/lang/invoke/MethodHandle" ∧ yX6_savedStates.cls ≠ "java/lang/invoke/VarHandle" ∧ (parseMethodDescriptor yX6_savedStates.desc).map (fun d => d.parameters.length) = some 0 := by decide +kernel
theorem fiX6_savedStates_X6 : ∀ w ∈ wsX60, w ∈ wsX6_savedStates := by decide +kernel
theorem flX6_savedStates_19 : (.fieldLink RX6 19 "ContourLabels" "history" "LContourLabels$History;" : Cond) ∈ wsX6_savedStates := by decide +kernel
set_option maxHeartbeats 4000000 in
set_option maxRecDepth 100000 in
theorem cX6_savedStates_ok (l : Launch) (g : Gg) (c0 h k0 x0 d0 k1 : Nat) (γ : Nat → Nat → Nat) (η : Hi) {r : Int32} (hf : fX6_savedStates η = some r) : Met l yX6_savedStates wsX6_savedStates rmX6_savedStates (va_Pc [.ref c0] (PP g (wC c0 h k0 x0 d0 ++ (wH g k0 k1 γ η)))) (vp_Si (fun r' => r' = r)) 0 0 (fun _ => False) := by
  refine Met.ofW (cc := cX6_savedStates) (maxL := 1) (ret := (some .int)) (by decide) rfl ?_
  intro p e s m args below meth c s₁ B hml hv
  obtain ⟨rfl, hP, hE, hZ⟩ := hv
  have hx := B.exec
  have hb := B.bytes
  have hr := B.returns
  have hts := atoms_spec (ws := wsX6_savedStates) B.pre
  have hown : s.vm.findClass RX6 = some m.cls := findClass_of_methodNamed B.named
  have hlocks := B.notSynchronized
  have hS : va_S (fun _ => False) s.heap s.heap [] := va_S.rf
  have hl := lv_entry ([.ref c0]) (n := 1) (Nat.le_of_ble_eq_true rfl)
  rw [lg_entry_eq]
  generalize (lg_sl ([.ref c0]) ++ List.replicate (1 - (lg_sl ([.ref c0])).length) Slot.unset).toArray = ls at hl ⊢
  have hl : lv_has ls 1 [(0, .ref c0)] := hl
  unfold fX6_savedStates at hf
  refine lv_aload_n hx hb dX6_savedStates_0 rfl (lv_at hl 0 rfl) ?_
  refine va_get (v := .ref k0) (C := RX6) (T := TX6) (N := 4) hx hb hts fiX6_savedStates_X6 hown hE.1 hP 0 rfl rfl 1 (by decide) (hts _ flX6_savedStates_19) (fun _ h9 => h9) rfl dX6_savedStates_1 ?_
  obtain ⟨r_1, e_1, hf⟩ := bo hf
  refine pcallV (W0 := (wC c0 h k0 x0 d0 ++ (wH g k0 k1 γ η))) (As := []) (rest := []) [1, 2, 3, 4, 5, 6, 7, 8, 9, 10, 11, 12, 13, 14, 15, 16, 17, 18, 19, 20, 21, 22, 23, 24, 25, 26, 27, 28, 29, 30, 31, 32] 1 0 ⟨hx, hb, hml, hown, hts⟩ hP hE hZ hS (cX1_size_ok l g k0 k1 γ η e_1) (cwV 0 hts gX6_savedStates_X1_size rfl rfl rfl hdX1_size ⟨(Nat.le_of_ble_eq_true rfl), (Nat.le_of_ble_eq_true rfl)⟩) rfl rfl rfl rfl rfl hl.1 rfl (Nat.le_of_ble_eq_true rfl) ⟨(Nat.le_of_ble_eq_true rfl), (Nat.le_of_ble_eq_true rfl)⟩ dX6_savedStates_4 ?_
  exact p_iret (v := r_1) hx hb hr hlocks (Option.some.inj hf) dX6_savedStates_7

def fX6_takeSnapshot (σ : Sh) (η : Hi) : Option (Int32 × Hi) := ((fX1_keepSnapshot σ η).bind fun r_1 => ((fX4_lineCount σ).bind fun r_2 => (some (r_2, r_1))))
abbrev rmX6_takeSnapshot : Room := { frames := 4, cells := 0, slots := 0, locals := 103 }
theorem hdX6_takeSnapshot : yX6_takeSnapshot.cls = RX6 ∧ yX6_takeSnapshot.cls ≠ "java/lang/invoke/MethodHandle" ∧ yX6_takeSnapshot.cls ≠ "java/lang/invoke/VarHandle" ∧ (parseMethodDescriptor yX6_takeSnapshot.desc).map (fun d => d.parameters.length) = some 0 := by decide +kernel
theorem fiX6_takeSnapshot_X6 : ∀ w ∈ wsX60, w ∈ wsX6_takeSnapshot := by decide +kernel
theorem flX6_takeSnapshot_19 : (.fieldLink RX6 19 "ContourLabels" "history" "LContourLabels$History;" : Cond) ∈ wsX6_takeSnapshot := by decide +kernel
theorem flX6_takeSnapshot_10 : (.fieldLink RX6 10 "ContourLabels" "sheet" "LContourLabels$Sheet;" : Cond) ∈ wsX6_takeSnapshot := by decide +kernel
set_option maxHeartbeats 4000000 in
set_option maxRecDepth 100000 in
theorem cX6_takeSnapshot_ok (l : Launch) (g : Gg) (c0 h k0 x0 d0 a1 a2 a3 a4 k1 : Nat) (γ : Nat → Nat → Nat) (σ : Sh) (η : Hi) (sz : Nat) {o : Int32 × Hi} (hf : fX6_takeSnapshot σ η = some o) : Met l yX6_takeSnapshot wsX6_takeSnapshot rmX6_takeSnapshot (va_Pc [.ref c0] (PM g (wC c0 h k0 x0 d0 ++ (wS g h a1 a2 a3 a4 σ ++ (wH g k0 k1 γ η))) sz)) (va_Qi (fun r' (_ : Unit) => r' = o.1) (fun _ t => PQ g (wC c0 h k0 x0 d0 ++ (wS g h a1 a2 a3 a4 σ ++ (wH g k0 k1 γ o.2))) (va_A (wC c0 h k0 x0 d0 ++ (wS g h a1 a2 a3 a4 σ ++ (wH g k0 k1 γ η))) sz) t) (va_A (wC c0 h k0 x0 d0 ++ (wS g h a1 a2 a3 a4 σ ++ (wH g k0 k1 γ η))) sz)) 0 0 (va_A (wC c0 h k0 x0 d0 ++ (wS g h a1 a2 a3 a4 σ ++ (wH g k0 k1 γ η))) sz) := by
  refine Met.ofW (cc := cX6_takeSnapshot) (maxL := 1) (ret := (some .int)) (by decide) rfl ?_
  intro p e s m args below meth c s₁ B hml hv
  obtain ⟨rfl, rfl, hP, hD0, hE, hZ⟩ := hv
  have hx := B.exec
  have hb := B.bytes
  have hr := B.returns
  have hts := atoms_spec (ws := wsX6_takeSnapshot) B.pre
  have hown : s.vm.findClass RX6 = some m.cls := findClass_of_methodNamed B.named
  have hlocks := B.notSynchronized
  have hD := hD0.self (sz := s.heap.size)
  generalize hAe : (va_A (wC c0 h k0 x0 d0 ++ (wS g h a1 a2 a3 a4 σ ++ (wH g k0 k1 γ η))) s.heap.size) = A at hD hZ ⊢
  have hA : ∀ q : Nat, s.heap.size ≤ q → A q := fun q h => by rw [← hAe]; exact Or.inr h
  have hS : va_S A s.heap s.heap [] := va_S.rf
  have hP : va_P g.1 vwCl (wC c0 h k0 x0 d0 ++ (wS g h a1 a2 a3 a4 σ ++ (wH g k0 k1 γ η))) s.heap := hP
  have hl := lv_entry ([.ref c0]) (n := 1) (Nat.le_of_ble_eq_true rfl)
  rw [lg_entry_eq]
  generalize (lg_sl ([.ref c0]) ++ List.replicate (1 - (lg_sl ([.ref c0])).length) Slot.unset).toArray = ls at hl ⊢
  have hl : lv_has ls 1 [(0, .ref c0)] := hl
  unfold fX6_takeSnapshot at hf
  refine lv_aload_n hx hb dX6_takeSnapshot_0 rfl (lv_at hl 0 rfl) ?_
  refine va_get (v := .ref k0) (C := RX6) (T := TX6) (N := 4) hx hb hts fiX6_takeSnapshot_X6 hown hE.1 hP 0 rfl rfl 1 (by decide) (hts _ flX6_takeSnapshot_19) (fun _ h9 => h9) rfl dX6_takeSnapshot_1 ?_
  refine lv_aload_n hx hb dX6_takeSnapshot_4 rfl (lv_at hl 0 rfl) ?_
  refine va_get (v := .ref h) (C := RX6) (T := TX6) (N := 4) hx hb hts fiX6_takeSnapshot_X6 hown hE.1 hP 0 rfl rfl 0 (by decide) (hts _ flX6_takeSnapshot_10) (fun _ h9 => h9) rfl dX6_takeSnapshot_5 ?_
  obtain ⟨r_1, e_1, hf⟩ := bo hf
  refine mcallVv (W0 := (wC c0 h k0 x0 d0 ++ (wS g h a1 a2 a3 a4 σ ++ (wH g k0 k1 γ η)))) (Wc := (wS g h a1 a2 a3 a4 σ ++ (wH g k0 k1 γ η))) (Wr := (wC c0 h k0 x0 d0)) (W1 := (wS g h a1 a2 a3 a4 σ ++ (wH g k0 k1 γ r_1))) (W2 := (wC c0 h k0 x0 d0 ++ (wS g h a1 a2 a3 a4 σ ++ (wH g k0 k1 γ r_1)))) (As := [.ref h]) (rest := []) [1, 2, 3, 4, 5, 6, 7, 8, 9, 10, 11, 12, 13, 14, 15, 16, 17, 18, 19, 20, 21, 22, 23, 24, 25, 26, 27, 28, 29, 30, 31, 32, 33, 34, 35, 36, 37] [0] [0, 1, 2, 3, 4, 5, 6, 7, 8, 9, 10, 11, 12, 13, 14, 15, 16, 17, 18, 19, 20, 21, 22, 23, 24, 25, 26, 27, 28, 29, 30, 31, 32, 33, 34, 35, 36, 37] 1 5 ⟨hx, hb, hml, hown, hts⟩ hP hD hE hZ hS hA (cX1_keepSnapshot_ok l g h a1 a2 a3 a4 k0 k1 γ σ η _ e_1) (cwV 1 hts gX6_takeSnapshot_X1_keepSnapshot rfl rfl rfl hdX1_keepSnapshot ⟨(Nat.le_of_ble_eq_true rfl), (Nat.le_of_ble_eq_true rfl)⟩) rfl rfl rfl (by decide) (by decide) (by decide) (by decide) rfl rfl rfl rfl hl.1 rfl (Nat.le_of_ble_eq_true rfl) ⟨(Nat.le_of_ble_eq_true rfl), (Nat.le_of_ble_eq_true rfl)⟩ dX6_takeSnapshot_8 (fun H locs hP hD hS => ?_)
  refine lv_aload_n hx hb dX6_takeSnapshot_11 rfl (lv_at hl 0 rfl) ?_
  refine va_get (v := .ref h) (C := RX6) (T := TX6) (N := 4) hx hb hts fiX6_takeSnapshot_X6 hown hE.1 hP 0 rfl rfl 0 (by decide) (hts _ flX6_takeSnapshot_10) (fun _ h9 => h9) rfl dX6_takeSnapshot_12 ?_
  obtain ⟨r_2, e_2, hf⟩ := bo hf
  refine pcallV (W0 := (wC c0 h k0 x0 d0 ++ (wS g h a1 a2 a3 a4 σ ++ (wH g k0 k1 γ r_1)))) (As := []) (rest := []) [1, 2, 3, 4, 5] 3 0 ⟨hx, hb, hml, hown, hts⟩ hP hE hZ hS (cX4_lineCount_ok l g h a1 a2 a3 a4 σ e_2) (cwV 0 hts gX6_takeSnapshot_X4_lineCount rfl rfl rfl hdX4_lineCount ⟨(Nat.le_of_ble_eq_true rfl), (Nat.le_of_ble_eq_true rfl)⟩) rfl rfl rfl rfl rfl hl.1 rfl (Nat.le_of_ble_eq_true rfl) ⟨(Nat.le_of_ble_eq_true rfl), (Nat.le_of_ble_eq_true rfl)⟩ dX6_takeSnapshot_15 ?_
  have ho := Option.some.inj hf
  subst ho
  exact m_iret (v := r_2) hx hb hr hlocks hP hD hS rfl dX6_takeSnapshot_18

def fX6_labelAll (σ : Sh) (η : Hi) : Option (Int32 × Sh × Hi) := ((fX1_save σ η).bind fun r_1 => ((fX2_setAll σ).bind fun r_2 => ((fX4_labelCount r_2).bind fun r_3 => (some (r_3, r_2, r_1)))))
abbrev rmX6_labelAll : Room := { frames := 6, cells := 0, slots := 0, locals := 150 }
theorem hdX6_labelAll : yX6_labelAll.cls = RX6 ∧ yX6_labelAll.cls ≠ "java/lang/invoke/MethodHandle" ∧ yX6_labelAll.cls ≠ "java/lang/invoke/VarHandle" ∧ (parseMethodDescriptor yX6_labelAll.desc).map (fun d => d.parameters.length) = some 0 := by decide +kernel
theorem fiX6_labelAll_X6 : ∀ w ∈ wsX60, w ∈ wsX6_labelAll := by decide +kernel
theorem flX6_labelAll_19 : (.fieldLink RX6 19 "ContourLabels" "history" "LContourLabels$History;" : Cond) ∈ wsX6_labelAll := by decide +kernel
theorem flX6_labelAll_10 : (.fieldLink RX6 10 "ContourLabels" "sheet" "LContourLabels$Sheet;" : Cond) ∈ wsX6_labelAll := by decide +kernel
set_option maxHeartbeats 4000000 in
set_option maxRecDepth 100000 in
theorem cX6_labelAll_ok (l : Launch) (g : Gg) (c0 h k0 x0 d0 a1 a2 a3 a4 k1 : Nat) (γ : Nat → Nat → Nat) (σ : Sh) (η : Hi) (sz : Nat) {o : Int32 × Sh × Hi} (hf : fX6_labelAll σ η = some o) : Met l yX6_labelAll wsX6_labelAll rmX6_labelAll (va_Pc [.ref c0] (PM g (wC c0 h k0 x0 d0 ++ (wS g h a1 a2 a3 a4 σ ++ (wH g k0 k1 γ η))) sz)) (va_Qi (fun r' (_ : Unit) => r' = o.1) (fun _ t => PQ g (wC c0 h k0 x0 d0 ++ (wS g h a1 a2 a3 a4 o.2.1 ++ (wH g k0 k1 γ o.2.2))) (va_A (wC c0 h k0 x0 d0 ++ (wS g h a1 a2 a3 a4 σ ++ (wH g k0 k1 γ η))) sz) t) (va_A (wC c0 h k0 x0 d0 ++ (wS g h a1 a2 a3 a4 σ ++ (wH g k0 k1 γ η))) sz)) 0 0 (va_A (wC c0 h k0 x0 d0 ++ (wS g h a1 a2 a3 a4 σ ++ (wH g k0 k1 γ η))) sz) := by
  refine Met.ofW (cc := cX6_labelAll) (maxL := 1) (ret := (some .int)) (by decide) rfl ?_
  intro p e s m args below meth c s₁ B hml hv
  obtain ⟨rfl, rfl, hP, hD0, hE, hZ⟩ := hv
  have hx := B.exec
  have hb := B.bytes
  have hr := B.returns
  have hts := atoms_spec (ws := wsX6_labelAll) B.pre
  have hown : s.vm.findClass RX6 = some m.cls := findClass_of_methodNamed B.named
  have hlocks := B.notSynchronized
  have hD := hD0.self (sz := s.heap.size)
  generalize hAe : (va_A (wC c0 h k0 x0 d0 ++ (wS g h a1 a2 a3 a4 σ ++ (wH g k0 k1 γ η))) s.heap.size) = A at hD hZ ⊢
  have hA : ∀ q : Nat, s.heap.size ≤ q → A q := fun q h => by rw [← hAe]; exact Or.inr h
  have hS : va_S A s.heap s.heap [] := va_S.rf
  have hP : va_P g.1 vwCl (wC c0 h k0 x0 d0 ++ (wS g h a1 a2 a3 a4 σ ++ (wH g k0 k1 γ η))) s.heap := hP
  have hl := lv_entry ([.ref c0]) (n := 1) (Nat.le_of_ble_eq_true rfl)
  rw [lg_entry_eq]
  generalize (lg_sl ([.ref c0]) ++ List.replicate (1 - (lg_sl ([.ref c0])).length) Slot.unset).toArray = ls at hl ⊢
  have hl : lv_has ls 1 [(0, .ref c0)] := hl
  unfold fX6_labelAll at hf
  refine lv_aload_n hx hb dX6_labelAll_0 rfl (lv_at hl 0 rfl) ?_
  refine va_get (v := .ref k0) (C := RX6) (T := TX6) (N := 4) hx hb hts fiX6_labelAll_X6 hown hE.1 hP 0 rfl rfl 1 (by decide) (hts _ flX6_labelAll_19) (fun _ h9 => h9) rfl dX6_labelAll_1 ?_
  refine lv_aload_n hx hb dX6_labelAll_4 rfl (lv_at hl 0 rfl) ?_
  refine va_get (v := .ref h) (C := RX6) (T := TX6) (N := 4) hx hb hts fiX6_labelAll_X6 hown hE.1 hP 0 rfl rfl 0 (by decide) (hts _ flX6_labelAll_10) (fun _ h9 => h9) rfl dX6_labelAll_5 ?_
  obtain ⟨r_1, e_1, hf⟩ := bo hf
  refine mcallVv (W0 := (wC c0 h k0 x0 d0 ++ (wS g h a1 a2 a3 a4 σ ++ (wH g k0 k1 γ η)))) (Wc := (wS g h a1 a2 a3 a4 σ ++ (wH g k0 k1 γ η))) (Wr := (wC c0 h k0 x0 d0)) (W1 := (wS g h a1 a2 a3 a4 σ ++ (wH g k0 k1 γ r_1))) (W2 := (wC c0 h k0 x0 d0 ++ (wS g h a1 a2 a3 a4 σ ++ (wH g k0 k1 γ r_1)))) (As := [.ref h]) (rest := []) [1, 2, 3, 4, 5, 6, 7, 8, 9, 10, 11, 12, 13, 14, 15, 16, 17, 18, 19, 20, 21, 22, 23, 24, 25, 26, 27, 28, 29, 30, 31, 32, 33, 34, 35, 36, 37] [0] [0, 1, 2, 3, 4, 5, 6, 7, 8, 9, 10, 11, 12, 13, 14, 15, 16, 17, 18, 19, 20, 21, 22, 23, 24, 25, 26, 27, 28, 29, 30, 31, 32, 33, 34, 35, 36, 37] 1 5 ⟨hx, hb, hml, hown, hts⟩ hP hD hE hZ hS hA (cX1_save_ok l g h a1 a2 a3 a4 k0 k1 γ σ η _ e_1) (cwV 1 hts gX6_labelAll_X1_save rfl rfl rfl hdX1_save ⟨(Nat.le_of_ble_eq_true rfl), (Nat.le_of_ble_eq_true rfl)⟩) rfl rfl rfl (by decide) (by decide) (by decide) (by decide) rfl rfl rfl rfl hl.1 rfl (Nat.le_of_ble_eq_true rfl) ⟨(Nat.le_of_ble_eq_true rfl), (Nat.le_of_ble_eq_true rfl)⟩ dX6_labelAll_8 (fun H locs hP hD hS => ?_)
  refine lv_aload_n hx hb dX6_labelAll_11 rfl (lv_at hl 0 rfl) ?_
  refine va_get (v := .ref h) (C := RX6) (T := TX6) (N := 4) hx hb hts fiX6_labelAll_X6 hown hE.1 hP 0 rfl rfl 0 (by decide) (hts _ flX6_labelAll_10) (fun _ h9 => h9) rfl dX6_labelAll_12 ?_
  obtain ⟨r_2, e_2, hf⟩ := bo hf
  refine mcallSv (W0 := (wC c0 h k0 x0 d0 ++ (wS g h a1 a2 a3 a4 σ ++ (wH g k0 k1 γ r_1)))) (Wc := (wS g h a1 a2 a3 a4 σ)) (Wr := (wC c0 h k0 x0 d0 ++ (wH g k0 k1 γ r_1))) (W1 := (wS g h a1 a2 a3 a4 r_2)) (W2 := (wC c0 h k0 x0 d0 ++ (wS g h a1 a2 a3 a4 r_2 ++ (wH g k0 k1 γ r_1)))) (As := [.ref h]) (rest := []) [1, 2, 3, 4, 5] [0, 6, 7, 8, 9, 10, 11, 12, 13, 14, 15, 16, 17, 18, 19, 20, 21, 22, 23, 24, 25, 26, 27, 28, 29, 30, 31, 32, 33, 34, 35, 36, 37] [0, 33, 34, 35, 36, 37, 1, 2, 3, 4, 5, 6, 7, 8, 9, 10, 11, 12, 13, 14, 15, 16, 17, 18, 19, 20, 21, 22, 23, 24, 25, 26, 27, 28, 29, 30, 31, 32] ⟨hx, hb, hml, hown, hts⟩ hP hD hE hZ hS hA (cX2_setAll_ok l g h a1 a2 a3 a4 σ _ e_2) (va_cwS 1 hts gX6_labelAll_X2_setAll rfl rfl rfl hdX2_setAll.2 ⟨(Nat.le_of_ble_eq_true rfl), (Nat.le_of_ble_eq_true rfl)⟩) rfl rfl rfl (by decide) (by decide) (by decide) (by decide) rfl hl.1 rfl (Nat.le_of_ble_eq_true rfl) ⟨(Nat.le_of_ble_eq_true rfl), (Nat.le_of_ble_eq_true rfl)⟩ dX6_labelAll_15 (fun H locs hP hD hS => ?_)
  refine lv_aload_n hx hb dX6_labelAll_18 rfl (lv_at hl 0 rfl) ?_
  refine va_get (v := .ref h) (C := RX6) (T := TX6) (N := 4) hx hb hts fiX6_labelAll_X6 hown hE.1 hP 0 rfl rfl 0 (by decide) (hts _ flX6_labelAll_10) (fun _ h9 => h9) rfl dX6_labelAll_19 ?_
  obtain ⟨r_3, e_3, hf⟩ := bo hf
  refine pcallV (W0 := (wC c0 h k0 x0 d0 ++ (wS g h a1 a2 a3 a4 r_2 ++ (wH g k0 k1 γ r_1)))) (As := []) (rest := []) [1, 2, 3, 4, 5] 3 0 ⟨hx, hb, hml, hown, hts⟩ hP hE hZ hS (cX4_labelCount_ok l g h a1 a2 a3 a4 r_2 e_3) (cwV 0 hts gX6_labelAll_X4_labelCount rfl rfl rfl hdX4_labelCount ⟨(Nat.le_of_ble_eq_true rfl), (Nat.le_of_ble_eq_true rfl)⟩) rfl rfl rfl rfl rfl hl.1 rfl (Nat.le_of_ble_eq_true rfl) ⟨(Nat.le_of_ble_eq_true rfl), (Nat.le_of_ble_eq_true rfl)⟩ dX6_labelAll_22 ?_
  have ho := Option.some.inj hf
  subst ho
  exact m_iret (v := r_3) hx hb hr hlocks hP hD hS rfl dX6_labelAll_25

def fX6_slantingLength  : Option (UInt64) := (some (0x3ff6a09e667f3bcd : UInt64))
abbrev rmX6_slantingLength : Room := { frames := 0, cells := 0, slots := 0, locals := 0 }
theorem hdX6_slantingLength : yX6_slantingLength.cls = RX6 ∧ yX6_slantingLength.cls ≠ "java/lang/invoke/MethodHandle" ∧ yX6_slantingLength.cls ≠ "java/lang/invoke/VarHandle" ∧ (parseMethodDescriptor yX6_slantingLength.desc).map (fun d => d.parameters.length) = some 0 := by decide +kernel
theorem kdX6_slantingLength_329 : (.constantDouble RX6 329 0x3ff6a09e667f3bcd : Cond) ∈ wsX6_slantingLength := by decide +kernel
set_option maxHeartbeats 4000000 in
set_option maxRecDepth 100000 in
theorem cX6_slantingLength_ok (l : Launch) (g : Gg) {r : UInt64} (hf : fX6_slantingLength = some r) : Met l yX6_slantingLength wsX6_slantingLength rmX6_slantingLength (va_Pc [] (PP g ([] : va_W))) (vp_Sd (fun r' => r' = r)) 0 0 (fun _ => False) := by
  refine Met.ofW (cc := cX6_slantingLength) (maxL := 0) (ret := (some .double)) (by decide) rfl ?_
  intro p e s m args below meth c s₁ B hml hv
  obtain ⟨rfl, hP, hE, hZ⟩ := hv
  have hx := B.exec
  have hb := B.bytes
  have hr := B.returns
  have hts := atoms_spec (ws := wsX6_slantingLength) B.pre
  have hown : s.vm.findClass RX6 = some m.cls := findClass_of_methodNamed B.named
  have hlocks := B.notSynchronized
  have hS : va_S (fun _ => False) s.heap s.heap [] := va_S.rf
  have hl := lv_entry ([]) (n := 0) (Nat.le_of_ble_eq_true rfl)
  rw [lg_entry_eq]
  generalize (lg_sl ([]) ++ List.replicate (0 - (lg_sl ([])).length) Slot.unset).toArray = ls at hl ⊢
  have hl : lv_has ls 0 [] := hl
  unfold fX6_slantingLength at hf
  refine lv_ldc2d hx hb hown (hts _ kdX6_slantingLength_329) dX6_slantingLength_0 ?_
  exact p_dret (v := (0x3ff6a09e667f3bcd : UInt64)) hx hb hr hlocks (Option.some.inj hf) dX6_slantingLength_3

def fX6_orderBegin (σ : Sh) (p0 p1 : Int32) : Option (Bool × Sh) := ((fX4_hasRoomAt σ p1).bind fun r_1 => (if r_1 = true then ((fX4_addLine σ p0 p1).bind fun r_3 => (some (true, r_3.2))) else (some (false, σ))))
abbrev rmX6_orderBegin : Room := { frames := 4, cells := 0, slots := 0, locals := 89 }
theorem hdX6_orderBegin : yX6_orderBegin.cls = RX6 ∧ yX6_orderBegin.cls ≠ "java/lang/invoke/MethodHandle" ∧ yX6_orderBegin.cls ≠ "java/lang/invoke/VarHandle" ∧ (parseMethodDescriptor yX6_orderBegin.desc).map (fun d => d.parameters.length) = some 2 := by decide +kernel
theorem fiX6_orderBegin_X6 : ∀ w ∈ wsX60, w ∈ wsX6_orderBegin := by decide +kernel
theorem flX6_orderBegin_10 : (.fieldLink RX6 10 "ContourLabels" "sheet" "LContourLabels$Sheet;" : Cond) ∈ wsX6_orderBegin := by decide +kernel
set_option maxHeartbeats 4000000 in
set_option maxRecDepth 100000 in
theorem cX6_orderBegin_ok (l : Launch) (g : Gg) (c0 h k0 x0 d0 a1 a2 a3 a4 : Nat) (σ : Sh) (p0 p1 : Int32) (sz : Nat) {o : Bool × Sh} (hf : fX6_orderBegin σ p0 p1 = some o) : Met l yX6_orderBegin wsX6_orderBegin rmX6_orderBegin (va_Pc [.ref c0, .int p0, .int p1] (PM g (wC c0 h k0 x0 d0 ++ (wS g h a1 a2 a3 a4 σ)) sz)) (va_Qi (fun r' (_ : Unit) => r' = b2i o.1) (fun _ t => PQ g (wC c0 h k0 x0 d0 ++ (wS g h a1 a2 a3 a4 o.2)) (va_A (wC c0 h k0 x0 d0 ++ (wS g h a1 a2 a3 a4 σ)) sz) t) (va_A (wC c0 h k0 x0 d0 ++ (wS g h a1 a2 a3 a4 σ)) sz)) 0 0 (va_A (wC c0 h k0 x0 d0 ++ (wS g h a1 a2 a3 a4 σ)) sz) := by
  refine Met.ofW (cc := cX6_orderBegin) (maxL := 3) (ret := (some .boolean)) (by decide) rfl ?_
  intro p e s m args below meth c s₁ B hml hv
  obtain ⟨rfl, rfl, hP, hD0, hE, hZ⟩ := hv
  have hx := B.exec
  have hb := B.bytes
  have hr := B.returns
  have hts := atoms_spec (ws := wsX6_orderBegin) B.pre
  have hown : s.vm.findClass RX6 = some m.cls := findClass_of_methodNamed B.named
  have hlocks := B.notSynchronized
  have hD := hD0.self (sz := s.heap.size)
  generalize hAe : (va_A (wC c0 h k0 x0 d0 ++ (wS g h a1 a2 a3 a4 σ)) s.heap.size) = A at hD hZ ⊢
  have hA : ∀ q : Nat, s.heap.size ≤ q → A q := fun q h => by rw [← hAe]; exact Or.inr h
  have hS : va_S A s.heap s.heap [] := va_S.rf
  have hP : va_P g.1 vwCl (wC c0 h k0 x0 d0 ++ (wS g h a1 a2 a3 a4 σ)) s.heap := hP
  have hl := lv_entry ([.ref c0, .int p0, .int p1]) (n := 3) (Nat.le_of_ble_eq_true rfl)
  rw [lg_entry_eq]
  generalize (lg_sl ([.ref c0, .int p0, .int p1]) ++ List.replicate (3 - (lg_sl ([.ref c0, .int p0, .int p1])).length) Slot.unset).toArray = ls at hl ⊢
  have hl : lv_has ls 3 [(0, .ref c0), (1, .int p0), (2, .int p1)] := hl
  unfold fX6_orderBegin at hf
  refine lv_aload_n hx hb dX6_orderBegin_0 rfl (lv_at hl 0 rfl) ?_
  refine va_get (v := .ref h) (C := RX6) (T := TX6) (N := 4) hx hb hts fiX6_orderBegin_X6 hown hE.1 hP 0 rfl rfl 0 (by decide) (hts _ flX6_orderBegin_10) (fun _ h9 => h9) rfl dX6_orderBegin_1 ?_
  refine lv_iload_n hx hb dX6_orderBegin_4 rfl (lv_at hl 2 rfl) ?_
  obtain ⟨r_1, e_1, hf⟩ := bo hf
  refine pcallV (W0 := (wC c0 h k0 x0 d0 ++ (wS g h a1 a2 a3 a4 σ))) (As := [.int p1]) (rest := []) [1, 2, 3, 4, 5] 3 0 ⟨hx, hb, hml, hown, hts⟩ hP hE hZ hS (cX4_hasRoomAt_ok l g h a1 a2 a3 a4 σ p1 e_1) (cwV 1 hts gX6_orderBegin_X4_hasRoomAt rfl rfl rfl hdX4_hasRoomAt ⟨(Nat.le_of_ble_eq_true rfl), (Nat.le_of_ble_eq_true rfl)⟩) rfl rfl rfl rfl rfl hl.1 rfl (Nat.le_of_ble_eq_true rfl) ⟨(Nat.le_of_ble_eq_true rfl), (Nat.le_of_ble_eq_true rfl)⟩ dX6_orderBegin_5 ?_
  refine lv_bne (tgt := 13) hx hb dX6_orderBegin_8 (by decide) (fun c_2 => ?_) (fun c_2 => ?_)
  · have hf := ip c_2 hf
    refine lv_aload_n hx hb dX6_orderBegin_13 rfl (lv_at hl 0 rfl) ?_
    refine va_get (v := .ref h) (C := RX6) (T := TX6) (N := 4) hx hb hts fiX6_orderBegin_X6 hown hE.1 hP 0 rfl rfl 0 (by decide) (hts _ flX6_orderBegin_10) (fun _ h9 => h9) rfl dX6_orderBegin_14 ?_
    refine lv_iload_n hx hb dX6_orderBegin_17 rfl (lv_at hl 1 rfl) ?_
    refine lv_iload_n hx hb dX6_orderBegin_18 rfl (lv_at hl 2 rfl) ?_
    obtain ⟨r_3, e_3, hf⟩ := bo hf
    refine mcallVi (W0 := (wC c0 h k0 x0 d0 ++ (wS g h a1 a2 a3 a4 σ))) (Wc := (wS g h a1 a2 a3 a4 σ)) (Wr := (wC c0 h k0 x0 d0)) (W1 := (wS g h a1 a2 a3 a4 r_3.2)) (W2 := (wC c0 h k0 x0 d0 ++ (wS g h a1 a2 a3 a4 r_3.2))) (As := [.int p0, .int p1]) (rest := []) [1, 2, 3, 4, 5] [0] [0, 1, 2, 3, 4, 5] 3 0 ⟨hx, hb, hml, hown, hts⟩ hP hD hE hZ hS hA (cX4_addLine_ok l g h a1 a2 a3 a4 σ p0 p1 _ e_3) (cwV 2 hts gX6_orderBegin_X4_addLine rfl rfl rfl hdX4_addLine ⟨(Nat.le_of_ble_eq_true rfl), (Nat.le_of_ble_eq_true rfl)⟩) rfl rfl rfl (by decide) (by decide) (by decide) (by decide) rfl rfl rfl rfl hl.1 rfl (Nat.le_of_ble_eq_true rfl) ⟨(Nat.le_of_ble_eq_true rfl), (Nat.le_of_ble_eq_true rfl)⟩ dX6_orderBegin_19 (fun H locs hP hD hS => ?_)
    refine lv_pop hx hb dX6_orderBegin_22 rfl ?_
    refine lv_iconst (v := (1 : Int32)) hx hb dX6_orderBegin_23 (by decide) ?_
    have ho := Option.some.inj hf
    subst ho
    exact m_zret (v := true) hx hb hr hlocks hP hD hS rfl dX6_orderBegin_24
  · have hf := iq c_2 hf
    refine lv_iconst (v := (0 : Int32)) hx hb dX6_orderBegin_11 (by decide) ?_
    have ho := Option.some.inj hf
    subst ho
    exact m_zret (v := false) hx hb hr hlocks hP hD hS rfl dX6_orderBegin_12

def fX6_orderSteps_25 (τ : Tx) (v1_25 : Int32) : Nat → Int32 → Sh → Option (Bool × Sh)
  | 0, _, _ => none
  | n + 1, v2_25, σ_25 => ((fX3_directionCount τ).bind fun r_1 => (if r_1 ≤ v2_25 then (some (true, σ_25)) else ((fX3_directionAt τ v2_25).bind fun r_3 => ((fX4_reasonAgainstStep σ_25 v1_25 r_3).bind fun r_4 => (if r_4 = 0 then ((fX4_addStep σ_25 v1_25 r_3).bind fun r_6 => fX6_orderSteps_25 τ v1_25 n (v2_25 + 1) r_6) else (some (false, σ_25)))))))
def fX6_orderSteps (σ : Sh) (τ : Tx) : Option (Bool × Sh) := ((fX4_lineCount σ).bind fun r_7 => ((fX4_hasLine σ (r_7 - (1 : Int32))).bind fun r_8 => (if r_8 = true then fX6_orderSteps_25 τ (r_7 - (1 : Int32)) FU (0 : Int32) σ else (some (false, σ)))))
abbrev rmX6_orderSteps : Room := { frames := 4, cells := 0, slots := 0, locals := 100 }
theorem hdX6_orderSteps : yX6_orderSteps.cls = RX6 ∧ yX6_orderSteps.cls ≠ "java/lang/invoke/MethodHandle" ∧ yX6_orderSteps.cls ≠ "java/lang/invoke/VarHandle" ∧ (parseMethodDescriptor yX6_orderSteps.desc).map (fun d => d.parameters.length) = some 0 := by decide +kernel
theorem fiX6_orderSteps_X6 : ∀ w ∈ wsX60, w ∈ wsX6_orderSteps := by decide +kernel
theorem flX6_orderSteps_26 : (.fieldLink RX6 26 "ContourLabels" "text" "LContourLabels$OrderText;" : Cond) ∈ wsX6_orderSteps := by decide +kernel
theorem flX6_orderSteps_10 : (.fieldLink RX6 10 "ContourLabels" "sheet" "LContourLabels$Sheet;" : Cond) ∈ wsX6_orderSteps := by decide +kernel
set_option maxHeartbeats 4000000 in
set_option maxRecDepth 100000 in
theorem cX6_orderSteps_ok (l : Launch) (g : Gg) (c0 h k0 x0 d0 a1 a2 a3 a4 x1 : Nat) (σ : Sh) (τ : Tx) (sz : Nat) {o : Bool × Sh} (hf : fX6_orderSteps σ τ = some o) : Met l yX6_orderSteps wsX6_orderSteps rmX6_orderSteps (va_Pc [.ref c0] (PM g (wC c0 h k0 x0 d0 ++ (wS g h a1 a2 a3 a4 σ ++ (wX g x0 x1 τ))) sz)) (va_Qi (fun r' (_ : Unit) => r' = b2i o.1) (fun _ t => PQ g (wC c0 h k0 x0 d0 ++ (wS g h a1 a2 a3 a4 o.2 ++ (wX g x0 x1 τ))) (va_A (wC c0 h k0 x0 d0 ++ (wS g h a1 a2 a3 a4 σ ++ (wX g x0 x1 τ))) sz) t) (va_A (wC c0 h k0 x0 d0 ++ (wS g h a1 a2 a3 a4 σ ++ (wX g x0 x1 τ))) sz)) 0 0 (va_A (wC c0 h k0 x0 d0 ++ (wS g h a1 a2 a3 a4 σ ++ (wX g x0 x1 τ))) sz) := by
  refine Met.ofW (cc := cX6_orderSteps) (maxL := 4) (ret := (some .boolean)) (by decide) rfl ?_
  intro p e s m args below meth c s₁ B hml hv
  obtain ⟨rfl, rfl, hP, hD0, hE, hZ⟩ := hv
  have hx := B.exec
  have hb := B.bytes
  have hr := B.returns
  have hts := atoms_spec (ws := wsX6_orderSteps) B.pre
  have hown : s.vm.findClass RX6 = some m.cls := findClass_of_methodNamed B.named
  have hlocks := B.notSynchronized
  have hD := hD0.self (sz := s.heap.size)
  generalize hAe : (va_A (wC c0 h k0 x0 d0 ++ (wS g h a1 a2 a3 a4 σ ++ (wX g x0 x1 τ))) s.heap.size) = A at hD hZ ⊢
  have hA : ∀ q : Nat, s.heap.size ≤ q → A q := fun q h => by rw [← hAe]; exact Or.inr h
  have hS : va_S A s.heap s.heap [] := va_S.rf
  have hP : va_P g.1 vwCl (wC c0 h k0 x0 d0 ++ (wS g h a1 a2 a3 a4 σ ++ (wX g x0 x1 τ))) s.heap := hP
  have hl := lv_entry ([.ref c0]) (n := 4) (Nat.le_of_ble_eq_true rfl)
  rw [lg_entry_eq]
  generalize (lg_sl ([.ref c0]) ++ List.replicate (4 - (lg_sl ([.ref c0])).length) Slot.unset).toArray = ls at hl ⊢
  have hl : lv_has ls 4 [(0, .ref c0)] := hl
  have hB25 : ∀ (v1_25 : Int32) (n25 : Nat) (v2_25 : Int32) (σ_25 : Sh) (H : Heap) (locs : List Loc) (ls : Array Slot), va_P g.1 vwCl (wC c0 h k0 x0 d0 ++ (wS g h a1 a2 a3 a4 σ_25 ++ (wX g x0 x1 τ))) H → va_D A (wC c0 h k0 x0 d0 ++ (wS g h a1 a2 a3 a4 σ_25 ++ (wX g x0 x1 τ))) → va_S A s.heap H locs → lv_has ls 4 [(0, .ref c0), (1, .int v1_25), (2, .int v2_25)] → fX6_orderSteps_25 τ v1_25 n25 v2_25 σ_25 = some o → W p l e (headSpec wsX6_orderSteps rmX6_orderSteps).room s m ([.ref c0] : List Value).toArray below meth c H locs 0 0 (MQ below (va_Qi (fun r' (_ : Unit) => r' = b2i o.1) (fun _ t => PQ g (wC c0 h k0 x0 d0 ++ (wS g h a1 a2 a3 a4 o.2 ++ (wX g x0 x1 τ))) A t) A) ([.ref c0] : List Value).toArray s 0 0 A) (F0 m 25 ls []) := by
    intro v1_25 n25
    induction n25 with
    | zero => intro v2_25 σ_25 H locs ls hP hD hS hl hf; exact nomatch (show (none : Option (Bool × Sh)) = some _ from hf)
    | succ n25 ih25 =>
      intro v2_25 σ_25 H locs ls hP hD hS hl hf
      rw [fX6_orderSteps_25] at hf
      refine lv_iload_n hx hb dX6_orderSteps_25 rfl (lv_at hl 2 rfl) ?_
      refine lv_aload_n hx hb dX6_orderSteps_26 rfl (lv_at hl 0 rfl) ?_
      refine va_get (v := .ref x0) (C := RX6) (T := TX6) (N := 4) hx hb hts fiX6_orderSteps_X6 hown hE.1 hP 0 rfl rfl 2 (by decide) (hts _ flX6_orderSteps_26) (fun _ h9 => h9) rfl dX6_orderSteps_27 ?_
      obtain ⟨r_1, e_1, hf⟩ := bo hf
      refine pcallV (W0 := (wC c0 h k0 x0 d0 ++ (wS g h a1 a2 a3 a4 σ_25 ++ (wX g x0 x1 τ)))) (As := []) (rest := [.int v2_25]) [6, 7] 2 0 ⟨hx, hb, hml, hown, hts⟩ hP hE hZ hS (cX3_directionCount_ok l g x0 x1 τ e_1) (cwV 0 hts gX6_orderSteps_X3_directionCount rfl rfl rfl hdX3_directionCount ⟨(Nat.le_of_ble_eq_true rfl), (Nat.le_of_ble_eq_true rfl)⟩) rfl rfl rfl rfl rfl hl.1 rfl (Nat.le_of_ble_eq_true rfl) ⟨(Nat.le_of_ble_eq_true rfl), (Nat.le_of_ble_eq_true rfl)⟩ dX6_orderSteps_30 ?_
      refine lv_icmp_ge (tgt := 74) hx hb dX6_orderSteps_33 (by decide) (fun c_2 => ?_) (fun c_2 => ?_)
      · have hf := ip c_2 hf
        refine lv_iconst (v := (1 : Int32)) hx hb dX6_orderSteps_74 (by decide) ?_
        have ho := Option.some.inj hf
        subst ho
        exact m_zret (v := true) hx hb hr hlocks hP hD hS rfl dX6_orderSteps_75
      · have hf := iq c_2 hf
        refine lv_aload_n hx hb dX6_orderSteps_36 rfl (lv_at hl 0 rfl) ?_
        refine va_get (v := .ref x0) (C := RX6) (T := TX6) (N := 4) hx hb hts fiX6_orderSteps_X6 hown hE.1 hP 0 rfl rfl 2 (by decide) (hts _ flX6_orderSteps_26) (fun _ h9 => h9) rfl dX6_orderSteps_37 ?_
        refine lv_iload_n hx hb dX6_orderSteps_40 rfl (lv_at hl 2 rfl) ?_
        obtain ⟨r_3, e_3, hf⟩ := bo hf
        refine pcallV (W0 := (wC c0 h k0 x0 d0 ++ (wS g h a1 a2 a3 a4 σ_25 ++ (wX g x0 x1 τ)))) (As := [.int v2_25]) (rest := []) [6, 7] 2 0 ⟨hx, hb, hml, hown, hts⟩ hP hE hZ hS (cX3_directionAt_ok l g x0 x1 τ v2_25 e_3) (cwV 1 hts gX6_orderSteps_X3_directionAt rfl rfl rfl hdX3_directionAt ⟨(Nat.le_of_ble_eq_true rfl), (Nat.le_of_ble_eq_true rfl)⟩) rfl rfl rfl rfl rfl hl.1 rfl (Nat.le_of_ble_eq_true rfl) ⟨(Nat.le_of_ble_eq_true rfl), (Nat.le_of_ble_eq_true rfl)⟩ dX6_orderSteps_41 ?_
        refine lv_istore_n (lv' := [(3, .int r_3), (0, .ref c0), (1, .int v1_25), (2, .int v2_25)]) hx hb dX6_orderSteps_44 rfl hl (by decide) rfl (fun ls hl => ?_)
        refine lv_aload_n hx hb dX6_orderSteps_45 rfl (lv_at hl 1 rfl) ?_
        refine va_get (v := .ref h) (C := RX6) (T := TX6) (N := 4) hx hb hts fiX6_orderSteps_X6 hown hE.1 hP 0 rfl rfl 0 (by decide) (hts _ flX6_orderSteps_10) (fun _ h9 => h9) rfl dX6_orderSteps_46 ?_
        refine lv_iload_n hx hb dX6_orderSteps_49 rfl (lv_at hl 2 rfl) ?_
        refine lv_iload_n hx hb dX6_orderSteps_50 rfl (lv_at hl 0 rfl) ?_
        obtain ⟨r_4, e_4, hf⟩ := bo hf
        refine pcallV (W0 := (wC c0 h k0 x0 d0 ++ (wS g h a1 a2 a3 a4 σ_25 ++ (wX g x0 x1 τ)))) (As := [.int v1_25, .int r_3]) (rest := []) [1, 2, 3, 4, 5] 3 0 ⟨hx, hb, hml, hown, hts⟩ hP hE hZ hS (cX4_reasonAgainstStep_ok l g h a1 a2 a3 a4 σ_25 v1_25 r_3 e_4) (cwV 2 hts gX6_orderSteps_X4_reasonAgainstStep rfl rfl rfl hdX4_reasonAgainstStep ⟨(Nat.le_of_ble_eq_true rfl), (Nat.le_of_ble_eq_true rfl)⟩) rfl rfl rfl rfl rfl hl.1 rfl (Nat.le_of_ble_eq_true rfl) ⟨(Nat.le_of_ble_eq_true rfl), (Nat.le_of_ble_eq_true rfl)⟩ dX6_orderSteps_51 ?_
        refine lv_if_eq (tgt := 59) hx hb dX6_orderSteps_54 (by decide) (fun c_5 => ?_) (fun c_5 => ?_)
        · have hf := ip c_5 hf
          refine lv_aload_n hx hb dX6_orderSteps_59 rfl (lv_at hl 1 rfl) ?_
          refine va_get (v := .ref h) (C := RX6) (T := TX6) (N := 4) hx hb hts fiX6_orderSteps_X6 hown hE.1 hP 0 rfl rfl 0 (by decide) (hts _ flX6_orderSteps_10) (fun _ h9 => h9) rfl dX6_orderSteps_60 ?_
          refine lv_iload_n hx hb dX6_orderSteps_63 rfl (lv_at hl 2 rfl) ?_
          refine lv_iload_n hx hb dX6_orderSteps_64 rfl (lv_at hl 0 rfl) ?_
          obtain ⟨r_6, e_6, hf⟩ := bo hf
          refine mcallVv (W0 := (wC c0 h k0 x0 d0 ++ (wS g h a1 a2 a3 a4 σ_25 ++ (wX g x0 x1 τ)))) (Wc := (wS g h a1 a2 a3 a4 σ_25)) (Wr := (wC c0 h k0 x0 d0 ++ (wX g x0 x1 τ))) (W1 := (wS g h a1 a2 a3 a4 r_6)) (W2 := (wC c0 h k0 x0 d0 ++ (wS g h a1 a2 a3 a4 r_6 ++ (wX g x0 x1 τ)))) (As := [.int v1_25, .int r_3]) (rest := []) [1, 2, 3, 4, 5] [0, 6, 7] [0, 3, 4, 5, 6, 7, 1, 2] 3 0 ⟨hx, hb, hml, hown, hts⟩ hP hD hE hZ hS hA (cX4_addStep_ok l g h a1 a2 a3 a4 σ_25 v1_25 r_3 _ e_6) (cwV 2 hts gX6_orderSteps_X4_addStep rfl rfl rfl hdX4_addStep ⟨(Nat.le_of_ble_eq_true rfl), (Nat.le_of_ble_eq_true rfl)⟩) rfl rfl rfl (by decide) (by decide) (by decide) (by decide) rfl rfl rfl rfl hl.1 rfl (Nat.le_of_ble_eq_true rfl) ⟨(Nat.le_of_ble_eq_true rfl), (Nat.le_of_ble_eq_true rfl)⟩ dX6_orderSteps_65 (fun H locs hP hD hS => ?_)
          refine lv_iinc (v := (v2_25 + 1)) (lv' := [(2, .int (v2_25 + 1)), (3, .int r_3), (0, .ref c0), (1, .int v1_25)]) hx hb dX6_orderSteps_68 hl (k := 3) rfl rfl (by decide) rfl (fun ls hl => ?_)
          refine lv_goto (tgt := 25) hx hb dX6_orderSteps_71 (by decide) ?_
          exact ih25 (v2_25 + 1) r_6 _ _ ls hP hD hS (lv_sub hl [2, 3, 0] rfl) hf
        · have hf := iq c_5 hf
          refine lv_iconst (v := (0 : Int32)) hx hb dX6_orderSteps_57 (by decide) ?_
          have ho := Option.some.inj hf
          subst ho
          exact m_zret (v := false) hx hb hr hlocks hP hD hS rfl dX6_orderSteps_58
  unfold fX6_orderSteps at hf
  refine lv_aload_n hx hb dX6_orderSteps_0 rfl (lv_at hl 0 rfl) ?_
  refine va_get (v := .ref h) (C := RX6) (T := TX6) (N := 4) hx hb hts fiX6_orderSteps_X6 hown hE.1 hP 0 rfl rfl 0 (by decide) (hts _ flX6_orderSteps_10) (fun _ h9 => h9) rfl dX6_orderSteps_1 ?_
  obtain ⟨r_7, e_7, hf⟩ := bo hf
  refine pcallV (W0 := (wC c0 h k0 x0 d0 ++ (wS g h a1 a2 a3 a4 σ ++ (wX g x0 x1 τ)))) (As := []) (rest := []) [1, 2, 3, 4, 5] 3 0 ⟨hx, hb, hml, hown, hts⟩ hP hE hZ hS (cX4_lineCount_ok l g h a1 a2 a3 a4 σ e_7) (cwV 0 hts gX6_orderSteps_X4_lineCount rfl rfl rfl hdX4_lineCount ⟨(Nat.le_of_ble_eq_true rfl), (Nat.le_of_ble_eq_true rfl)⟩) rfl rfl rfl rfl rfl hl.1 rfl (Nat.le_of_ble_eq_true rfl) ⟨(Nat.le_of_ble_eq_true rfl), (Nat.le_of_ble_eq_true rfl)⟩ dX6_orderSteps_4 ?_
  refine lv_iconst (v := (1 : Int32)) hx hb dX6_orderSteps_7 (by decide) ?_
  refine lv_isub hx hb dX6_orderSteps_8 ?_
  refine lv_istore_n (lv' := [(1, .int (r_7 - (1 : Int32))), (0, .ref c0)]) hx hb dX6_orderSteps_9 rfl hl (by decide) rfl (fun ls hl => ?_)
  refine lv_aload_n hx hb dX6_orderSteps_10 rfl (lv_at hl 1 rfl) ?_
  refine va_get (v := .ref h) (C := RX6) (T := TX6) (N := 4) hx hb hts fiX6_orderSteps_X6 hown hE.1 hP 0 rfl rfl 0 (by decide) (hts _ flX6_orderSteps_10) (fun _ h9 => h9) rfl dX6_orderSteps_11 ?_
  refine lv_iload_n hx hb dX6_orderSteps_14 rfl (lv_at hl 0 rfl) ?_
  obtain ⟨r_8, e_8, hf⟩ := bo hf
  refine pcallV (W0 := (wC c0 h k0 x0 d0 ++ (wS g h a1 a2 a3 a4 σ ++ (wX g x0 x1 τ)))) (As := [.int (r_7 - (1 : Int32))]) (rest := []) [1, 2, 3, 4, 5] 3 0 ⟨hx, hb, hml, hown, hts⟩ hP hE hZ hS (cX4_hasLine_ok l g h a1 a2 a3 a4 σ (r_7 - (1 : Int32)) e_8) (cwV 1 hts gX6_orderSteps_X4_hasLine rfl rfl rfl hdX4_hasLine ⟨(Nat.le_of_ble_eq_true rfl), (Nat.le_of_ble_eq_true rfl)⟩) rfl rfl rfl rfl rfl hl.1 rfl (Nat.le_of_ble_eq_true rfl) ⟨(Nat.le_of_ble_eq_true rfl), (Nat.le_of_ble_eq_true rfl)⟩ dX6_orderSteps_15 ?_
  refine lv_bne (tgt := 23) hx hb dX6_orderSteps_18 (by decide) (fun c_9 => ?_) (fun c_9 => ?_)
  · have hf := ip c_9 hf
    refine lv_iconst (v := (0 : Int32)) hx hb dX6_orderSteps_23 (by decide) ?_
    refine lv_istore_n (lv' := [(2, .int (0 : Int32)), (1, .int (r_7 - (1 : Int32))), (0, .ref c0)]) hx hb dX6_orderSteps_24 rfl hl (by decide) rfl (fun ls hl => ?_)
    exact hB25 (r_7 - (1 : Int32)) FU (0 : Int32) σ _ _ ls hP hD hS (lv_sub hl [2, 1, 0] rfl) hf
  · have hf := iq c_9 hf
    refine lv_iconst (v := (0 : Int32)) hx hb dX6_orderSteps_21 (by decide) ?_
    have ho := Option.some.inj hf
    subst ho
    exact m_zret (v := false) hx hb hr hlocks hP hD hS rfl dX6_orderSteps_22

def fX6_orderPut (σ : Sh) (p0 p1 : Int32) : Option (Bool × Sh) := ((fX4_hasLine σ p0).bind fun r_1 => (if r_1 = true then (if p1 = (-1 : Int32) then (some (false, σ)) else ((fX4_putLabel σ p0 p1).bind fun r_4 => (some (true, r_4)))) else (some (false, σ))))
abbrev rmX6_orderPut : Room := { frames := 1, cells := 0, slots := 0, locals := 22 }
theorem hdX6_orderPut : yX6_orderPut.cls = RX6 ∧ yX6_orderPut.cls ≠ "java/lang/invoke/MethodHandle" ∧ yX6_orderPut.cls ≠ "java/lang/invoke/VarHandle" ∧ (parseMethodDescriptor yX6_orderPut.desc).map (fun d => d.parameters.length) = some 2 := by decide +kernel
theorem fiX6_orderPut_X6 : ∀ w ∈ wsX60, w ∈ wsX6_orderPut := by decide +kernel
theorem flX6_orderPut_10 : (.fieldLink RX6 10 "ContourLabels" "sheet" "LContourLabels$Sheet;" : Cond) ∈ wsX6_orderPut := by decide +kernel
set_option maxHeartbeats 4000000 in
set_option maxRecDepth 100000 in
theorem cX6_orderPut_ok (l : Launch) (g : Gg) (c0 h k0 x0 d0 a1 a2 a3 a4 : Nat) (σ : Sh) (p0 p1 : Int32) (sz : Nat) {o : Bool × Sh} (hf : fX6_orderPut σ p0 p1 = some o) : Met l yX6_orderPut wsX6_orderPut rmX6_orderPut (va_Pc [.ref c0, .int p0, .int p1] (PM g (wC c0 h k0 x0 d0 ++ (wS g h a1 a2 a3 a4 σ)) sz)) (va_Qi (fun r' (_ : Unit) => r' = b2i o.1) (fun _ t => PQ g (wC c0 h k0 x0 d0 ++ (wS g h a1 a2 a3 a4 o.2)) (va_A (wC c0 h k0 x0 d0 ++ (wS g h a1 a2 a3 a4 σ)) sz) t) (va_A (wC c0 h k0 x0 d0 ++ (wS g h a1 a2 a3 a4 σ)) sz)) 0 0 (va_A (wC c0 h k0 x0 d0 ++ (wS g h a1 a2 a3 a4 σ)) sz) := by
  refine Met.ofW (cc := cX6_orderPut) (maxL := 3) (ret := (some .boolean)) (by decide) rfl ?_
  intro p e s m args below meth c s₁ B hml hv
  obtain ⟨rfl, rfl, hP, hD0, hE, hZ⟩ := hv
  have hx := B.exec
  have hb := B.bytes
  have hr := B.returns
  have hts := atoms_spec (ws := wsX6_orderPut) B.pre
  have hown : s.vm.findClass RX6 = some m.cls := findClass_of_methodNamed B.named
  have hlocks := B.notSynchronized
  have hD := hD0.self (sz := s.heap.size)
  generalize hAe : (va_A (wC c0 h k0 x0 d0 ++ (wS g h a1 a2 a3 a4 σ)) s.heap.size) = A at hD hZ ⊢
  have hA : ∀ q : Nat, s.heap.size ≤ q → A q := fun q h => by rw [← hAe]; exact Or.inr h
  have hS : va_S A s.heap s.heap [] := va_S.rf
  have hP : va_P g.1 vwCl (wC c0 h k0 x0 d0 ++ (wS g h a1 a2 a3 a4 σ)) s.heap := hP
  have hl := lv_entry ([.ref c0, .int p0, .int p1]) (n := 3) (Nat.le_of_ble_eq_true rfl)
  rw [lg_entry_eq]
  generalize (lg_sl ([.ref c0, .int p0, .int p1]) ++ List.replicate (3 - (lg_sl ([.ref c0, .int p0, .int p1])).length) Slot.unset).toArray = ls at hl ⊢
  have hl : lv_has ls 3 [(0, .ref c0), (1, .int p0), (2, .int p1)] := hl
  unfold fX6_orderPut at hf
  refine lv_aload_n hx hb dX6_orderPut_0 rfl (lv_at hl 0 rfl) ?_
  refine va_get (v := .ref h) (C := RX6) (T := TX6) (N := 4) hx hb hts fiX6_orderPut_X6 hown hE.1 hP 0 rfl rfl 0 (by decide) (hts _ flX6_orderPut_10) (fun _ h9 => h9) rfl dX6_orderPut_1 ?_
  refine lv_iload_n hx hb dX6_orderPut_4 rfl (lv_at hl 1 rfl) ?_
  obtain ⟨r_1, e_1, hf⟩ := bo hf
  refine pcallV (W0 := (wC c0 h k0 x0 d0 ++ (wS g h a1 a2 a3 a4 σ))) (As := [.int p0]) (rest := []) [1, 2, 3, 4, 5] 3 0 ⟨hx, hb, hml, hown, hts⟩ hP hE hZ hS (cX4_hasLine_ok l g h a1 a2 a3 a4 σ p0 e_1) (cwV 1 hts gX6_orderPut_X4_hasLine rfl rfl rfl hdX4_hasLine ⟨(Nat.le_of_ble_eq_true rfl), (Nat.le_of_ble_eq_true rfl)⟩) rfl rfl rfl rfl rfl hl.1 rfl (Nat.le_of_ble_eq_true rfl) ⟨(Nat.le_of_ble_eq_true rfl), (Nat.le_of_ble_eq_true rfl)⟩ dX6_orderPut_5 ?_
  refine lv_beq (tgt := 16) hx hb dX6_orderPut_8 (by decide) (fun c_2 => ?_) (fun c_2 => ?_)
  · have hf := iq c_2 hf
    refine lv_iconst (v := (0 : Int32)) hx hb dX6_orderPut_16 (by decide) ?_
    have ho := Option.some.inj hf
    subst ho
    exact m_zret (v := false) hx hb hr hlocks hP hD hS rfl dX6_orderPut_17
  · have hf := ip c_2 hf
    refine lv_iload_n hx hb dX6_orderPut_11 rfl (lv_at hl 2 rfl) ?_
    refine lv_iconst (v := (-1 : Int32)) hx hb dX6_orderPut_12 (by decide) ?_
    refine lv_icmp_ne (tgt := 18) hx hb dX6_orderPut_13 (by decide) (fun c_3 => ?_) (fun c_3 => ?_)
    · have hf := iq c_3 hf
      refine lv_aload_n hx hb dX6_orderPut_18 rfl (lv_at hl 0 rfl) ?_
      refine va_get (v := .ref h) (C := RX6) (T := TX6) (N := 4) hx hb hts fiX6_orderPut_X6 hown hE.1 hP 0 rfl rfl 0 (by decide) (hts _ flX6_orderPut_10) (fun _ h9 => h9) rfl dX6_orderPut_19 ?_
      refine lv_iload_n hx hb dX6_orderPut_22 rfl (lv_at hl 1 rfl) ?_
      refine lv_iload_n hx hb dX6_orderPut_23 rfl (lv_at hl 2 rfl) ?_
      obtain ⟨r_4, e_4, hf⟩ := bo hf
      refine mcallVv (W0 := (wC c0 h k0 x0 d0 ++ (wS g h a1 a2 a3 a4 σ))) (Wc := (wS g h a1 a2 a3 a4 σ)) (Wr := (wC c0 h k0 x0 d0)) (W1 := (wS g h a1 a2 a3 a4 r_4)) (W2 := (wC c0 h k0 x0 d0 ++ (wS g h a1 a2 a3 a4 r_4))) (As := [.int p0, .int p1]) (rest := []) [1, 2, 3, 4, 5] [0] [0, 1, 2, 3, 4, 5] 3 0 ⟨hx, hb, hml, hown, hts⟩ hP hD hE hZ hS hA (cX4_putLabel_ok l g h a1 a2 a3 a4 σ p0 p1 _ e_4) (cwV 2 hts gX6_orderPut_X4_putLabel rfl rfl rfl hdX4_putLabel ⟨(Nat.le_of_ble_eq_true rfl), (Nat.le_of_ble_eq_true rfl)⟩) rfl rfl rfl (by decide) (by decide) (by decide) (by decide) rfl rfl rfl rfl hl.1 rfl (Nat.le_of_ble_eq_true rfl) ⟨(Nat.le_of_ble_eq_true rfl), (Nat.le_of_ble_eq_true rfl)⟩ dX6_orderPut_24 (fun H locs hP hD hS => ?_)
      refine lv_iconst (v := (1 : Int32)) hx hb dX6_orderPut_27 (by decide) ?_
      have ho := Option.some.inj hf
      subst ho
      exact m_zret (v := true) hx hb hr hlocks hP hD hS rfl dX6_orderPut_28
    · have hf := ip c_3 hf
      refine lv_iconst (v := (0 : Int32)) hx hb dX6_orderPut_16 (by decide) ?_
      have ho := Option.some.inj hf
      subst ho
      exact m_zret (v := false) hx hb hr hlocks hP hD hS rfl dX6_orderPut_17

def fX6_orderLabel (σ : Sh) (p0 p1 : Int32) : Option (Bool × Sh) := ((fX4_hasNumber σ p0 p1).bind fun r_1 => (if r_1 = true then ((fX2_reasonAgainst σ p0 p1).bind fun r_3 => (if r_3 = 0 then ((fX6_orderPut σ p0 p1).bind fun r_5 => (some (r_5.1, r_5.2))) else (some (false, σ)))) else (some (false, σ))))
abbrev rmX6_orderLabel : Room := { frames := 5, cells := 0, slots := 0, locals := 121 }
theorem hdX6_orderLabel : yX6_orderLabel.cls = RX6 ∧ yX6_orderLabel.cls ≠ "java/lang/invoke/MethodHandle" ∧ yX6_orderLabel.cls ≠ "java/lang/invoke/VarHandle" ∧ (parseMethodDescriptor yX6_orderLabel.desc).map (fun d => d.parameters.length) = some 2 := by decide +kernel
theorem fiX6_orderLabel_X6 : ∀ w ∈ wsX60, w ∈ wsX6_orderLabel := by decide +kernel
theorem flX6_orderLabel_10 : (.fieldLink RX6 10 "ContourLabels" "sheet" "LContourLabels$Sheet;" : Cond) ∈ wsX6_orderLabel := by decide +kernel
set_option maxHeartbeats 4000000 in
set_option maxRecDepth 100000 in
theorem cX6_orderLabel_ok (l : Launch) (g : Gg) (c0 h k0 x0 d0 a1 a2 a3 a4 : Nat) (σ : Sh) (p0 p1 : Int32) (sz : Nat) {o : Bool × Sh} (hf : fX6_orderLabel σ p0 p1 = some o) : Met l yX6_orderLabel wsX6_orderLabel rmX6_orderLabel (va_Pc [.ref c0, .int p0, .int p1] (PM g (wC c0 h k0 x0 d0 ++ (wS g h a1 a2 a3 a4 σ)) sz)) (va_Qi (fun r' (_ : Unit) => r' = b2i o.1) (fun _ t => PQ g (wC c0 h k0 x0 d0 ++ (wS g h a1 a2 a3 a4 o.2)) (va_A (wC c0 h k0 x0 d0 ++ (wS g h a1 a2 a3 a4 σ)) sz) t) (va_A (wC c0 h k0 x0 d0 ++ (wS g h a1 a2 a3 a4 σ)) sz)) 0 0 (va_A (wC c0 h k0 x0 d0 ++ (wS g h a1 a2 a3 a4 σ)) sz) := by
  refine Met.ofW (cc := cX6_orderLabel) (maxL := 3) (ret := (some .boolean)) (by decide) rfl ?_
  intro p e s m args below meth c s₁ B hml hv
  obtain ⟨rfl, rfl, hP, hD0, hE, hZ⟩ := hv
  have hx := B.exec
  have hb := B.bytes
  have hr := B.returns
  have hts := atoms_spec (ws := wsX6_orderLabel) B.pre
  have hown : s.vm.findClass RX6 = some m.cls := findClass_of_methodNamed B.named
  have hlocks := B.notSynchronized
  have hD := hD0.self (sz := s.heap.size)
  generalize hAe : (va_A (wC c0 h k0 x0 d0 ++ (wS g h a1 a2 a3 a4 σ)) s.heap.size) = A at hD hZ ⊢
  have hA : ∀ q : Nat, s.heap.size ≤ q → A q := fun q h => by rw [← hAe]; exact Or.inr h
  have hS : va_S A s.heap s.heap [] := va_S.rf
  have hP : va_P g.1 vwCl (wC c0 h k0 x0 d0 ++ (wS g h a1 a2 a3 a4 σ)) s.heap := hP
  have hl := lv_entry ([.ref c0, .int p0, .int p1]) (n := 3) (Nat.le_of_ble_eq_true rfl)
  rw [lg_entry_eq]
  generalize (lg_sl ([.ref c0, .int p0, .int p1]) ++ List.replicate (3 - (lg_sl ([.ref c0, .int p0, .int p1])).length) Slot.unset).toArray = ls at hl ⊢
  have hl : lv_has ls 3 [(0, .ref c0), (1, .int p0), (2, .int p1)] := hl
  unfold fX6_orderLabel at hf
  refine lv_aload_n hx hb dX6_orderLabel_0 rfl (lv_at hl 0 rfl) ?_
  refine va_get (v := .ref h) (C := RX6) (T := TX6) (N := 4) hx hb hts fiX6_orderLabel_X6 hown hE.1 hP 0 rfl rfl 0 (by decide) (hts _ flX6_orderLabel_10) (fun _ h9 => h9) rfl dX6_orderLabel_1 ?_
  refine lv_iload_n hx hb dX6_orderLabel_4 rfl (lv_at hl 1 rfl) ?_
  refine lv_iload_n hx hb dX6_orderLabel_5 rfl (lv_at hl 2 rfl) ?_
  obtain ⟨r_1, e_1, hf⟩ := bo hf
  refine pcallV (W0 := (wC c0 h k0 x0 d0 ++ (wS g h a1 a2 a3 a4 σ))) (As := [.int p0, .int p1]) (rest := []) [1, 2, 3, 4, 5] 3 0 ⟨hx, hb, hml, hown, hts⟩ hP hE hZ hS (cX4_hasNumber_ok l g h a1 a2 a3 a4 σ p0 p1 e_1) (cwV 2 hts gX6_orderLabel_X4_hasNumber rfl rfl rfl hdX4_hasNumber ⟨(Nat.le_of_ble_eq_true rfl), (Nat.le_of_ble_eq_true rfl)⟩) rfl rfl rfl rfl rfl hl.1 rfl (Nat.le_of_ble_eq_true rfl) ⟨(Nat.le_of_ble_eq_true rfl), (Nat.le_of_ble_eq_true rfl)⟩ dX6_orderLabel_6 ?_
  refine lv_beq (tgt := 24) hx hb dX6_orderLabel_9 (by decide) (fun c_2 => ?_) (fun c_2 => ?_)
  · have hf := iq c_2 hf
    refine lv_iconst (v := (0 : Int32)) hx hb dX6_orderLabel_24 (by decide) ?_
    have ho := Option.some.inj hf
    subst ho
    exact m_zret (v := false) hx hb hr hlocks hP hD hS rfl dX6_orderLabel_25
  · have hf := ip c_2 hf
    refine lv_aload_n hx hb dX6_orderLabel_12 rfl (lv_at hl 0 rfl) ?_
    refine va_get (v := .ref h) (C := RX6) (T := TX6) (N := 4) hx hb hts fiX6_orderLabel_X6 hown hE.1 hP 0 rfl rfl 0 (by decide) (hts _ flX6_orderLabel_10) (fun _ h9 => h9) rfl dX6_orderLabel_13 ?_
    refine lv_iload_n hx hb dX6_orderLabel_16 rfl (lv_at hl 1 rfl) ?_
    refine lv_iload_n hx hb dX6_orderLabel_17 rfl (lv_at hl 2 rfl) ?_
    obtain ⟨r_3, e_3, hf⟩ := bo hf
    refine pcallS (W0 := (wC c0 h k0 x0 d0 ++ (wS g h a1 a2 a3 a4 σ))) (As := [.ref h, .int p0, .int p1]) (rest := []) [1, 2, 3, 4, 5] ⟨hx, hb, hml, hown, hts⟩ hP hE hZ hS (cX2_reasonAgainst_ok l g h a1 a2 a3 a4 σ p0 p1 e_3) (va_cwS 3 hts gX6_orderLabel_X2_reasonAgainst rfl rfl rfl hdX2_reasonAgainst.2 ⟨(Nat.le_of_ble_eq_true rfl), (Nat.le_of_ble_eq_true rfl)⟩) rfl rfl hl.1 rfl (Nat.le_of_ble_eq_true rfl) ⟨(Nat.le_of_ble_eq_true rfl), (Nat.le_of_ble_eq_true rfl)⟩ dX6_orderLabel_18 ?_
    refine lv_if_eq (tgt := 26) hx hb dX6_orderLabel_21 (by decide) (fun c_4 => ?_) (fun c_4 => ?_)
    · have hf := ip c_4 hf
      refine lv_aload_n hx hb dX6_orderLabel_26 rfl (lv_at hl 0 rfl) ?_
      refine lv_iload_n hx hb dX6_orderLabel_27 rfl (lv_at hl 1 rfl) ?_
      refine lv_iload_n hx hb dX6_orderLabel_28 rfl (lv_at hl 2 rfl) ?_
      obtain ⟨r_5, e_5, hf⟩ := bo hf
      refine mcallVi (W0 := (wC c0 h k0 x0 d0 ++ (wS g h a1 a2 a3 a4 σ))) (Wc := (wC c0 h k0 x0 d0 ++ (wS g h a1 a2 a3 a4 σ))) (Wr := ([] : va_W)) (W1 := (wC c0 h k0 x0 d0 ++ (wS g h a1 a2 a3 a4 r_5.2))) (W2 := (wC c0 h k0 x0 d0 ++ (wS g h a1 a2 a3 a4 r_5.2))) (As := [.int p0, .int p1]) (rest := []) [0, 1, 2, 3, 4, 5] [] [0, 1, 2, 3, 4, 5] 4 0 ⟨hx, hb, hml, hown, hts⟩ hP hD hE hZ hS hA (cX6_orderPut_ok l g c0 h k0 x0 d0 a1 a2 a3 a4 σ p0 p1 _ e_5) (cwV 2 hts gX6_orderLabel_X6_orderPut rfl rfl rfl hdX6_orderPut ⟨(Nat.le_of_ble_eq_true rfl), (Nat.le_of_ble_eq_true rfl)⟩) rfl rfl rfl (by decide) (by decide) (by decide) (by decide) rfl rfl rfl rfl hl.1 rfl (Nat.le_of_ble_eq_true rfl) ⟨(Nat.le_of_ble_eq_true rfl), (Nat.le_of_ble_eq_true rfl)⟩ dX6_orderLabel_29 (fun H locs hP hD hS => ?_)
      have ho := Option.some.inj hf
      subst ho
      exact m_zret (v := r_5.1) hx hb hr hlocks hP hD hS rfl dX6_orderLabel_32
    · have hf := iq c_4 hf
      refine lv_iconst (v := (0 : Int32)) hx hb dX6_orderLabel_24 (by decide) ?_
      have ho := Option.some.inj hf
      subst ho
      exact m_zret (v := false) hx hb hr hlocks hP hD hS rfl dX6_orderLabel_25

def fX6_orderUnlabel (σ : Sh) (p0 : Int32) : Option (Bool × Sh) := ((fX4_labelIn σ p0).bind fun r_1 => (if r_1 = (-1 : Int32) then (some (false, σ)) else ((fX4_putLabel σ p0 (-1 : Int32)).bind fun r_3 => (some (true, r_3)))))
abbrev rmX6_orderUnlabel : Room := { frames := 1, cells := 0, slots := 0, locals := 22 }
theorem hdX6_orderUnlabel : yX6_orderUnlabel.cls = RX6 ∧ yX6_orderUnlabel.cls ≠ "java/lang/invoke/MethodHandle" ∧ yX6_orderUnlabel.cls ≠ "java/lang/invoke/VarHandle" ∧ (parseMethodDescriptor yX6_orderUnlabel.desc).map (fun d => d.parameters.length) = some 1 := by decide +kernel
theorem fiX6_orderUnlabel_X6 : ∀ w ∈ wsX60, w ∈ wsX6_orderUnlabel := by decide +kernel
theorem flX6_orderUnlabel_10 : (.fieldLink RX6 10 "ContourLabels" "sheet" "LContourLabels$Sheet;" : Cond) ∈ wsX6_orderUnlabel := by decide +kernel
set_option maxHeartbeats 4000000 in
set_option maxRecDepth 100000 in
theorem cX6_orderUnlabel_ok (l : Launch) (g : Gg) (c0 h k0 x0 d0 a1 a2 a3 a4 : Nat) (σ : Sh) (p0 : Int32) (sz : Nat) {o : Bool × Sh} (hf : fX6_orderUnlabel σ p0 = some o) : Met l yX6_orderUnlabel wsX6_orderUnlabel rmX6_orderUnlabel (va_Pc [.ref c0, .int p0] (PM g (wC c0 h k0 x0 d0 ++ (wS g h a1 a2 a3 a4 σ)) sz)) (va_Qi (fun r' (_ : Unit) => r' = b2i o.1) (fun _ t => PQ g (wC c0 h k0 x0 d0 ++ (wS g h a1 a2 a3 a4 o.2)) (va_A (wC c0 h k0 x0 d0 ++ (wS g h a1 a2 a3 a4 σ)) sz) t) (va_A (wC c0 h k0 x0 d0 ++ (wS g h a1 a2 a3 a4 σ)) sz)) 0 0 (va_A (wC c0 h k0 x0 d0 ++ (wS g h a1 a2 a3 a4 σ)) sz) := by
  refine Met.ofW (cc := cX6_orderUnlabel) (maxL := 2) (ret := (some .boolean)) (by decide) rfl ?_
  intro p e s m args below meth c s₁ B hml hv
  obtain ⟨rfl, rfl, hP, hD0, hE, hZ⟩ := hv
  have hx := B.exec
  have hb := B.bytes
  have hr := B.returns
  have hts := atoms_spec (ws := wsX6_orderUnlabel) B.pre
  have hown : s.vm.findClass RX6 = some m.cls := findClass_of_methodNamed B.named
  have hlocks := B.notSynchronized
  have hD := hD0.self (sz := s.heap.size)
  generalize hAe : (va_A (wC c0 h k0 x0 d0 ++ (wS g h a1 a2 a3 a4 σ)) s.heap.size) = A at hD hZ ⊢
  have hA : ∀ q : Nat, s.heap.size ≤ q → A q := fun q h => by rw [← hAe]; exact Or.inr h
  have hS : va_S A s.heap s.heap [] := va_S.rf
  have hP : va_P g.1 vwCl (wC c0 h k0 x0 d0 ++ (wS g h a1 a2 a3 a4 σ)) s.heap := hP
  have hl := lv_entry ([.ref c0, .int p0]) (n := 2) (Nat.le_of_ble_eq_true rfl)
  rw [lg_entry_eq]
  generalize (lg_sl ([.ref c0, .int p0]) ++ List.replicate (2 - (lg_sl ([.ref c0, .int p0])).length) Slot.unset).toArray = ls at hl ⊢
  have hl : lv_has ls 2 [(0, .ref c0), (1, .int p0)] := hl
  unfold fX6_orderUnlabel at hf
  refine lv_aload_n hx hb dX6_orderUnlabel_0 rfl (lv_at hl 0 rfl) ?_
  refine va_get (v := .ref h) (C := RX6) (T := TX6) (N := 4) hx hb hts fiX6_orderUnlabel_X6 hown hE.1 hP 0 rfl rfl 0 (by decide) (hts _ flX6_orderUnlabel_10) (fun _ h9 => h9) rfl dX6_orderUnlabel_1 ?_
  refine lv_iload_n hx hb dX6_orderUnlabel_4 rfl (lv_at hl 1 rfl) ?_
  obtain ⟨r_1, e_1, hf⟩ := bo hf
  refine pcallV (W0 := (wC c0 h k0 x0 d0 ++ (wS g h a1 a2 a3 a4 σ))) (As := [.int p0]) (rest := []) [1, 2, 3, 4, 5] 3 0 ⟨hx, hb, hml, hown, hts⟩ hP hE hZ hS (cX4_labelIn_ok l g h a1 a2 a3 a4 σ p0 e_1) (cwV 1 hts gX6_orderUnlabel_X4_labelIn rfl rfl rfl hdX4_labelIn ⟨(Nat.le_of_ble_eq_true rfl), (Nat.le_of_ble_eq_true rfl)⟩) rfl rfl rfl rfl rfl hl.1 rfl (Nat.le_of_ble_eq_true rfl) ⟨(Nat.le_of_ble_eq_true rfl), (Nat.le_of_ble_eq_true rfl)⟩ dX6_orderUnlabel_5 ?_
  refine lv_iconst (v := (-1 : Int32)) hx hb dX6_orderUnlabel_8 (by decide) ?_
  refine lv_icmp_ne (tgt := 14) hx hb dX6_orderUnlabel_9 (by decide) (fun c_2 => ?_) (fun c_2 => ?_)
  · have hf := iq c_2 hf
    refine lv_aload_n hx hb dX6_orderUnlabel_14 rfl (lv_at hl 0 rfl) ?_
    refine va_get (v := .ref h) (C := RX6) (T := TX6) (N := 4) hx hb hts fiX6_orderUnlabel_X6 hown hE.1 hP 0 rfl rfl 0 (by decide) (hts _ flX6_orderUnlabel_10) (fun _ h9 => h9) rfl dX6_orderUnlabel_15 ?_
    refine lv_iload_n hx hb dX6_orderUnlabel_18 rfl (lv_at hl 1 rfl) ?_
    refine lv_iconst (v := (-1 : Int32)) hx hb dX6_orderUnlabel_19 (by decide) ?_
    obtain ⟨r_3, e_3, hf⟩ := bo hf
    refine mcallVv (W0 := (wC c0 h k0 x0 d0 ++ (wS g h a1 a2 a3 a4 σ))) (Wc := (wS g h a1 a2 a3 a4 σ)) (Wr := (wC c0 h k0 x0 d0)) (W1 := (wS g h a1 a2 a3 a4 r_3)) (W2 := (wC c0 h k0 x0 d0 ++ (wS g h a1 a2 a3 a4 r_3))) (As := [.int p0, .int (-1 : Int32)]) (rest := []) [1, 2, 3, 4, 5] [0] [0, 1, 2, 3, 4, 5] 3 0 ⟨hx, hb, hml, hown, hts⟩ hP hD hE hZ hS hA (cX4_putLabel_ok l g h a1 a2 a3 a4 σ p0 (-1 : Int32) _ e_3) (cwV 2 hts gX6_orderUnlabel_X4_putLabel rfl rfl rfl hdX4_putLabel ⟨(Nat.le_of_ble_eq_true rfl), (Nat.le_of_ble_eq_true rfl)⟩) rfl rfl rfl (by decide) (by decide) (by decide) (by decide) rfl rfl rfl rfl hl.1 rfl (Nat.le_of_ble_eq_true rfl) ⟨(Nat.le_of_ble_eq_true rfl), (Nat.le_of_ble_eq_true rfl)⟩ dX6_orderUnlabel_20 (fun H locs hP hD hS => ?_)
    refine lv_iconst (v := (1 : Int32)) hx hb dX6_orderUnlabel_23 (by decide) ?_
    have ho := Option.some.inj hf
    subst ho
    exact m_zret (v := true) hx hb hr hlocks hP hD hS rfl dX6_orderUnlabel_24
  · have hf := ip c_2 hf
    refine lv_iconst (v := (0 : Int32)) hx hb dX6_orderUnlabel_12 (by decide) ?_
    have ho := Option.some.inj hf
    subst ho
    exact m_zret (v := false) hx hb hr hlocks hP hD hS rfl dX6_orderUnlabel_13

def fX6_carryOutOrder (σ : Sh) (τ : Tx) : Option (Bool × Sh) := ((fX3_firstNumber τ).bind fun r_1 => ((fX3_secondNumber τ).bind fun r_2 => ((fX3_kind τ).bind fun r_3 => (if r_3 = (97 : Int32) then ((fX2_setAll σ).bind fun r_5 => (some (true, r_5))) else (if r_3 = (98 : Int32) then ((fX2_best σ r_1).bind fun r_7 => ((fX6_orderPut σ r_1 r_7).bind fun r_8 => (some (r_8.1, r_8.2)))) else (if r_3 = (103 : Int32) then ((fX4_putGap σ r_1).bind fun r_10 => (some (true, r_10))) else (if r_3 = (108 : Int32) then ((fX6_orderLabel σ r_1 r_2).bind fun r_12 => (some (r_12.1, r_12.2))) else (if r_3 = (110 : Int32) then ((fX6_orderBegin σ r_1 r_2).bind fun r_14 => (some (r_14.1, r_14.2))) else (if r_3 = (115 : Int32) then ((fX6_orderSteps σ τ).bind fun r_16 => (some (r_16.1, r_16.2))) else (if r_3 = (117 : Int32) then ((fX6_orderUnlabel σ r_1).bind fun r_18 => (some (r_18.1, r_18.2))) else (if r_3 = (119 : Int32) then ((fX4_removeLine σ r_1).bind fun r_20 => (some (r_20.1, r_20.2))) else (some (false, σ)))))))))))))
abbrev rmX6_carryOutOrder : Room := { frames := 6, cells := 0, slots := 0, locals := 150 }
theorem hdX6_carryOutOrder : yX6_carryOutOrder.cls = RX6 ∧ yX6_carryOutOrder.cls ≠ "java/lang/invoke/MethodHandle" ∧ yX6_carryOutOrder.cls ≠ "java/lang/invoke/VarHandle" ∧ (parseMethodDescriptor yX6_carryOutOrder.desc).map (fun d => d.parameters.length) = some 0 := by decide +kernel
theorem fiX6_carryOutOrder_X6 : ∀ w ∈ wsX60, w ∈ wsX6_carryOutOrder := by decide +kernel
theorem flX6_carryOutOrder_26 : (.fieldLink RX6 26 "ContourLabels" "text" "LContourLabels$OrderText;" : Cond) ∈ wsX6_carryOutOrder := by decide +kernel
theorem flX6_carryOutOrder_10 : (.fieldLink RX6 10 "ContourLabels" "sheet" "LContourLabels$Sheet;" : Cond) ∈ wsX6_carryOutOrder := by decide +kernel
set_option maxHeartbeats 4000000 in
set_option maxRecDepth 100000 in
theorem cX6_carryOutOrder_ok (l : Launch) (g : Gg) (c0 h k0 x0 d0 a1 a2 a3 a4 x1 : Nat) (σ : Sh) (τ : Tx) (sz : Nat) {o : Bool × Sh} (hf : fX6_carryOutOrder σ τ = some o) : Met l yX6_carryOutOrder wsX6_carryOutOrder rmX6_carryOutOrder (va_Pc [.ref c0] (PM g (wC c0 h k0 x0 d0 ++ (wS g h a1 a2 a3 a4 σ ++ (wX g x0 x1 τ))) sz)) (va_Qi (fun r' (_ : Unit) => r' = b2i o.1) (fun _ t => PQ g (wC c0 h k0 x0 d0 ++ (wS g h a1 a2 a3 a4 o.2 ++ (wX g x0 x1 τ))) (va_A (wC c0 h k0 x0 d0 ++ (wS g h a1 a2 a3 a4 σ ++ (wX g x0 x1 τ))) sz) t) (va_A (wC c0 h k0 x0 d0 ++ (wS g h a1 a2 a3 a4 σ ++ (wX g x0 x1 τ))) sz)) 0 0 (va_A (wC c0 h k0 x0 d0 ++ (wS g h a1 a2 a3 a4 σ ++ (wX g x0 x1 τ))) sz) := by
  refine Met.ofW (cc := cX6_carryOutOrder) (maxL := 3) (ret := (some .boolean)) (by decide) rfl ?_
  intro p e s m args below meth c s₁ B hml hv
  obtain ⟨rfl, rfl, hP, hD0, hE, hZ⟩ := hv
  have hx := B.exec
  have hb := B.bytes
  have hr := B.returns
  have hts := atoms_spec (ws := wsX6_carryOutOrder) B.pre
  have hown : s.vm.findClass RX6 = some m.cls := findClass_of_methodNamed B.named
  have hlocks := B.notSynchronized
  have hD := hD0.self (sz := s.heap.size)
  generalize hAe : (va_A (wC c0 h k0 x0 d0 ++ (wS g h a1 a2 a3 a4 σ ++ (wX g x0 x1 τ))) s.heap.size) = A at hD hZ ⊢
  have hA : ∀ q : Nat, s.heap.size ≤ q → A q := fun q h => by rw [← hAe]; exact Or.inr h
  have hS : va_S A s.heap s.heap [] := va_S.rf
  have hP : va_P g.1 vwCl (wC c0 h k0 x0 d0 ++ (wS g h a1 a2 a3 a4 σ ++ (wX g x0 x1 τ))) s.heap := hP
  have hl := lv_entry ([.ref c0]) (n := 3) (Nat.le_of_ble_eq_true rfl)
  rw [lg_entry_eq]
  generalize (lg_sl ([.ref c0]) ++ List.replicate (3 - (lg_sl ([.ref c0])).length) Slot.unset).toArray = ls at hl ⊢
  have hl : lv_has ls 3 [(0, .ref c0)] := hl
  unfold fX6_carryOutOrder at hf
  refine lv_aload_n hx hb dX6_carryOutOrder_0 rfl (lv_at hl 0 rfl) ?_
  refine va_get (v := .ref x0) (C := RX6) (T := TX6) (N := 4) hx hb hts fiX6_carryOutOrder_X6 hown hE.1 hP 0 rfl rfl 2 (by decide) (hts _ flX6_carryOutOrder_26) (fun _ h9 => h9) rfl dX6_carryOutOrder_1 ?_
  obtain ⟨r_1, e_1, hf⟩ := bo hf
  refine pcallV (W0 := (wC c0 h k0 x0 d0 ++ (wS g h a1 a2 a3 a4 σ ++ (wX g x0 x1 τ)))) (As := []) (rest := []) [6, 7] 2 0 ⟨hx, hb, hml, hown, hts⟩ hP hE hZ hS (cX3_firstNumber_ok l g x0 x1 τ e_1) (cwV 0 hts gX6_carryOutOrder_X3_firstNumber rfl rfl rfl hdX3_firstNumber ⟨(Nat.le_of_ble_eq_true rfl), (Nat.le_of_ble_eq_true rfl)⟩) rfl rfl rfl rfl rfl hl.1 rfl (Nat.le_of_ble_eq_true rfl) ⟨(Nat.le_of_ble_eq_true rfl), (Nat.le_of_ble_eq_true rfl)⟩ dX6_carryOutOrder_4 ?_
  refine lv_istore_n (lv' := [(1, .int r_1), (0, .ref c0)]) hx hb dX6_carryOutOrder_7 rfl hl (by decide) rfl (fun ls hl => ?_)
  refine lv_aload_n hx hb dX6_carryOutOrder_8 rfl (lv_at hl 1 rfl) ?_
  refine va_get (v := .ref x0) (C := RX6) (T := TX6) (N := 4) hx hb hts fiX6_carryOutOrder_X6 hown hE.1 hP 0 rfl rfl 2 (by decide) (hts _ flX6_carryOutOrder_26) (fun _ h9 => h9) rfl dX6_carryOutOrder_9 ?_
  obtain ⟨r_2, e_2, hf⟩ := bo hf
  refine pcallV (W0 := (wC c0 h k0 x0 d0 ++ (wS g h a1 a2 a3 a4 σ ++ (wX g x0 x1 τ)))) (As := []) (rest := []) [6, 7] 2 0 ⟨hx, hb, hml, hown, hts⟩ hP hE hZ hS (cX3_secondNumber_ok l g x0 x1 τ e_2) (cwV 0 hts gX6_carryOutOrder_X3_secondNumber rfl rfl rfl hdX3_secondNumber ⟨(Nat.le_of_ble_eq_true rfl), (Nat.le_of_ble_eq_true rfl)⟩) rfl rfl rfl rfl rfl hl.1 rfl (Nat.le_of_ble_eq_true rfl) ⟨(Nat.le_of_ble_eq_true rfl), (Nat.le_of_ble_eq_true rfl)⟩ dX6_carryOutOrder_12 ?_
  refine lv_istore_n (lv' := [(2, .int r_2), (1, .int r_1), (0, .ref c0)]) hx hb dX6_carryOutOrder_15 rfl hl (by decide) rfl (fun ls hl => ?_)
  refine lv_aload_n hx hb dX6_carryOutOrder_16 rfl (lv_at hl 2 rfl) ?_
  refine va_get (v := .ref x0) (C := RX6) (T := TX6) (N := 4) hx hb hts fiX6_carryOutOrder_X6 hown hE.1 hP 0 rfl rfl 2 (by decide) (hts _ flX6_carryOutOrder_26) (fun _ h9 => h9) rfl dX6_carryOutOrder_17 ?_
  obtain ⟨r_3, e_3, hf⟩ := bo hf
  refine pcallV (W0 := (wC c0 h k0 x0 d0 ++ (wS g h a1 a2 a3 a4 σ ++ (wX g x0 x1 τ)))) (As := []) (rest := []) [6, 7] 2 0 ⟨hx, hb, hml, hown, hts⟩ hP hE hZ hS (cX3_kind_ok l g x0 x1 τ e_3) (cwV 0 hts gX6_carryOutOrder_X3_kind rfl rfl rfl hdX3_kind ⟨(Nat.le_of_ble_eq_true rfl), (Nat.le_of_ble_eq_true rfl)⟩) rfl rfl rfl rfl rfl hl.1 rfl (Nat.le_of_ble_eq_true rfl) ⟨(Nat.le_of_ble_eq_true rfl), (Nat.le_of_ble_eq_true rfl)⟩ dX6_carryOutOrder_20 ?_
  by_cases s_4 : r_3 = (97 : Int32)
  · have hf := ip s_4 hf
    refine lv_tableIn (off := 153) (tgt := 176) hx hb dX6_carryOutOrder_23 (by rw [s_4]; decide) (by rw [s_4]; decide) (by rw [s_4]; rfl) (by decide) ?_
    refine lv_aload_n hx hb dX6_carryOutOrder_176 rfl (lv_at hl 2 rfl) ?_
    refine va_get (v := .ref h) (C := RX6) (T := TX6) (N := 4) hx hb hts fiX6_carryOutOrder_X6 hown hE.1 hP 0 rfl rfl 0 (by decide) (hts _ flX6_carryOutOrder_10) (fun _ h9 => h9) rfl dX6_carryOutOrder_177 ?_
    obtain ⟨r_5, e_5, hf⟩ := bo hf
    refine mcallSv (W0 := (wC c0 h k0 x0 d0 ++ (wS g h a1 a2 a3 a4 σ ++ (wX g x0 x1 τ)))) (Wc := (wS g h a1 a2 a3 a4 σ)) (Wr := (wC c0 h k0 x0 d0 ++ (wX g x0 x1 τ))) (W1 := (wS g h a1 a2 a3 a4 r_5)) (W2 := (wC c0 h k0 x0 d0 ++ (wS g h a1 a2 a3 a4 r_5 ++ (wX g x0 x1 τ)))) (As := [.ref h]) (rest := []) [1, 2, 3, 4, 5] [0, 6, 7] [0, 3, 4, 5, 6, 7, 1, 2] ⟨hx, hb, hml, hown, hts⟩ hP hD hE hZ hS hA (cX2_setAll_ok l g h a1 a2 a3 a4 σ _ e_5) (va_cwS 1 hts gX6_carryOutOrder_X2_setAll rfl rfl rfl hdX2_setAll.2 ⟨(Nat.le_of_ble_eq_true rfl), (Nat.le_of_ble_eq_true rfl)⟩) rfl rfl rfl (by decide) (by decide) (by decide) (by decide) rfl hl.1 rfl (Nat.le_of_ble_eq_true rfl) ⟨(Nat.le_of_ble_eq_true rfl), (Nat.le_of_ble_eq_true rfl)⟩ dX6_carryOutOrder_180 (fun H locs hP hD hS => ?_)
    refine lv_iconst (v := (1 : Int32)) hx hb dX6_carryOutOrder_183 (by decide) ?_
    have ho := Option.some.inj hf
    subst ho
    exact m_zret (v := true) hx hb hr hlocks hP hD hS rfl dX6_carryOutOrder_184
  · have hf := iq s_4 hf
    by_cases s_6 : r_3 = (98 : Int32)
    · have hf := ip s_6 hf
      refine lv_tableIn (off := 139) (tgt := 162) hx hb dX6_carryOutOrder_23 (by rw [s_6]; decide) (by rw [s_6]; decide) (by rw [s_6]; rfl) (by decide) ?_
      refine lv_aload_n hx hb dX6_carryOutOrder_162 rfl (lv_at hl 2 rfl) ?_
      refine lv_iload_n hx hb dX6_carryOutOrder_163 rfl (lv_at hl 1 rfl) ?_
      refine lv_aload_n hx hb dX6_carryOutOrder_164 rfl (lv_at hl 2 rfl) ?_
      refine va_get (v := .ref h) (C := RX6) (T := TX6) (N := 4) hx hb hts fiX6_carryOutOrder_X6 hown hE.1 hP 0 rfl rfl 0 (by decide) (hts _ flX6_carryOutOrder_10) (fun _ h9 => h9) rfl dX6_carryOutOrder_165 ?_
      refine lv_iload_n hx hb dX6_carryOutOrder_168 rfl (lv_at hl 1 rfl) ?_
      obtain ⟨r_7, e_7, hf⟩ := bo hf
      refine pcallS (W0 := (wC c0 h k0 x0 d0 ++ (wS g h a1 a2 a3 a4 σ ++ (wX g x0 x1 τ)))) (As := [.ref h, .int r_1]) (rest := [.int r_1, .ref c0]) [1, 2, 3, 4, 5] ⟨hx, hb, hml, hown, hts⟩ hP hE hZ hS (cX2_best_ok l g h a1 a2 a3 a4 σ r_1 e_7) (va_cwS 2 hts gX6_carryOutOrder_X2_best rfl rfl rfl hdX2_best.2 ⟨(Nat.le_of_ble_eq_true rfl), (Nat.le_of_ble_eq_true rfl)⟩) rfl rfl hl.1 rfl (Nat.le_of_ble_eq_true rfl) ⟨(Nat.le_of_ble_eq_true rfl), (Nat.le_of_ble_eq_true rfl)⟩ dX6_carryOutOrder_169 ?_
      obtain ⟨r_8, e_8, hf⟩ := bo hf
      refine mcallVi (W0 := (wC c0 h k0 x0 d0 ++ (wS g h a1 a2 a3 a4 σ ++ (wX g x0 x1 τ)))) (Wc := (wC c0 h k0 x0 d0 ++ (wS g h a1 a2 a3 a4 σ))) (Wr := (wX g x0 x1 τ)) (W1 := (wC c0 h k0 x0 d0 ++ (wS g h a1 a2 a3 a4 r_8.2))) (W2 := (wC c0 h k0 x0 d0 ++ (wS g h a1 a2 a3 a4 r_8.2 ++ (wX g x0 x1 τ)))) (As := [.int r_1, .int r_7]) (rest := []) [0, 1, 2, 3, 4, 5] [6, 7] [2, 3, 4, 5, 6, 7, 0, 1] 4 0 ⟨hx, hb, hml, hown, hts⟩ hP hD hE hZ hS hA (cX6_orderPut_ok l g c0 h k0 x0 d0 a1 a2 a3 a4 σ r_1 r_7 _ e_8) (cwV 2 hts gX6_carryOutOrder_X6_orderPut rfl rfl rfl hdX6_orderPut ⟨(Nat.le_of_ble_eq_true rfl), (Nat.le_of_ble_eq_true rfl)⟩) rfl rfl rfl (by decide) (by decide) (by decide) (by decide) rfl rfl rfl rfl hl.1 rfl (Nat.le_of_ble_eq_true rfl) ⟨(Nat.le_of_ble_eq_true rfl), (Nat.le_of_ble_eq_true rfl)⟩ dX6_carryOutOrder_172 (fun H locs hP hD hS => ?_)
      have ho := Option.some.inj hf
      subst ho
      exact m_zret (v := r_8.1) hx hb hr hlocks hP hD hS rfl dX6_carryOutOrder_175
    · have hf := iq s_6 hf
      by_cases s_9 : r_3 = (103 : Int32)
      · have hf := ip s_9 hf
        refine lv_tableIn (off := 162) (tgt := 185) hx hb dX6_carryOutOrder_23 (by rw [s_9]; decide) (by rw [s_9]; decide) (by rw [s_9]; rfl) (by decide) ?_
        refine lv_aload_n hx hb dX6_carryOutOrder_185 rfl (lv_at hl 2 rfl) ?_
        refine va_get (v := .ref h) (C := RX6) (T := TX6) (N := 4) hx hb hts fiX6_carryOutOrder_X6 hown hE.1 hP 0 rfl rfl 0 (by decide) (hts _ flX6_carryOutOrder_10) (fun _ h9 => h9) rfl dX6_carryOutOrder_186 ?_
        refine lv_iload_n hx hb dX6_carryOutOrder_189 rfl (lv_at hl 1 rfl) ?_
        obtain ⟨r_10, e_10, hf⟩ := bo hf
        refine mcallVv (W0 := (wC c0 h k0 x0 d0 ++ (wS g h a1 a2 a3 a4 σ ++ (wX g x0 x1 τ)))) (Wc := (wS g h a1 a2 a3 a4 σ)) (Wr := (wC c0 h k0 x0 d0 ++ (wX g x0 x1 τ))) (W1 := (wS g h a1 a2 a3 a4 r_10)) (W2 := (wC c0 h k0 x0 d0 ++ (wS g h a1 a2 a3 a4 r_10 ++ (wX g x0 x1 τ)))) (As := [.int r_1]) (rest := []) [1, 2, 3, 4, 5] [0, 6, 7] [0, 3, 4, 5, 6, 7, 1, 2] 3 0 ⟨hx, hb, hml, hown, hts⟩ hP hD hE hZ hS hA (cX4_putGap_ok l g h a1 a2 a3 a4 σ r_1 _ e_10) (cwV 1 hts gX6_carryOutOrder_X4_putGap rfl rfl rfl hdX4_putGap ⟨(Nat.le_of_ble_eq_true rfl), (Nat.le_of_ble_eq_true rfl)⟩) rfl rfl rfl (by decide) (by decide) (by decide) (by decide) rfl rfl rfl rfl hl.1 rfl (Nat.le_of_ble_eq_true rfl) ⟨(Nat.le_of_ble_eq_true rfl), (Nat.le_of_ble_eq_true rfl)⟩ dX6_carryOutOrder_190 (fun H locs hP hD hS => ?_)
        refine lv_iconst (v := (1 : Int32)) hx hb dX6_carryOutOrder_193 (by decide) ?_
        have ho := Option.some.inj hf
        subst ho
        exact m_zret (v := true) hx hb hr hlocks hP hD hS rfl dX6_carryOutOrder_194
      · have hf := iq s_9 hf
        by_cases s_11 : r_3 = (108 : Int32)
        · have hf := ip s_11 hf
          refine lv_tableIn (off := 126) (tgt := 149) hx hb dX6_carryOutOrder_23 (by rw [s_11]; decide) (by rw [s_11]; decide) (by rw [s_11]; rfl) (by decide) ?_
          refine lv_aload_n hx hb dX6_carryOutOrder_149 rfl (lv_at hl 2 rfl) ?_
          refine lv_iload_n hx hb dX6_carryOutOrder_150 rfl (lv_at hl 1 rfl) ?_
          refine lv_iload_n hx hb dX6_carryOutOrder_151 rfl (lv_at hl 0 rfl) ?_
          obtain ⟨r_12, e_12, hf⟩ := bo hf
          refine mcallVi (W0 := (wC c0 h k0 x0 d0 ++ (wS g h a1 a2 a3 a4 σ ++ (wX g x0 x1 τ)))) (Wc := (wC c0 h k0 x0 d0 ++ (wS g h a1 a2 a3 a4 σ))) (Wr := (wX g x0 x1 τ)) (W1 := (wC c0 h k0 x0 d0 ++ (wS g h a1 a2 a3 a4 r_12.2))) (W2 := (wC c0 h k0 x0 d0 ++ (wS g h a1 a2 a3 a4 r_12.2 ++ (wX g x0 x1 τ)))) (As := [.int r_1, .int r_2]) (rest := []) [0, 1, 2, 3, 4, 5] [6, 7] [2, 3, 4, 5, 6, 7, 0, 1] 4 0 ⟨hx, hb, hml, hown, hts⟩ hP hD hE hZ hS hA (cX6_orderLabel_ok l g c0 h k0 x0 d0 a1 a2 a3 a4 σ r_1 r_2 _ e_12) (cwV 2 hts gX6_carryOutOrder_X6_orderLabel rfl rfl rfl hdX6_orderLabel ⟨(Nat.le_of_ble_eq_true rfl), (Nat.le_of_ble_eq_true rfl)⟩) rfl rfl rfl (by decide) (by decide) (by decide) (by decide) rfl rfl rfl rfl hl.1 rfl (Nat.le_of_ble_eq_true rfl) ⟨(Nat.le_of_ble_eq_true rfl), (Nat.le_of_ble_eq_true rfl)⟩ dX6_carryOutOrder_152 (fun H locs hP hD hS => ?_)
          have ho := Option.some.inj hf
          subst ho
          exact m_zret (v := r_12.1) hx hb hr hlocks hP hD hS rfl dX6_carryOutOrder_155
        · have hf := iq s_11 hf
          by_cases s_13 : r_3 = (110 : Int32)
          · have hf := ip s_13 hf
            refine lv_tableIn (off := 105) (tgt := 128) hx hb dX6_carryOutOrder_23 (by rw [s_13]; decide) (by rw [s_13]; decide) (by rw [s_13]; rfl) (by decide) ?_
            refine lv_aload_n hx hb dX6_carryOutOrder_128 rfl (lv_at hl 2 rfl) ?_
            refine lv_iload_n hx hb dX6_carryOutOrder_129 rfl (lv_at hl 1 rfl) ?_
            refine lv_iload_n hx hb dX6_carryOutOrder_130 rfl (lv_at hl 0 rfl) ?_
            obtain ⟨r_14, e_14, hf⟩ := bo hf
            refine mcallVi (W0 := (wC c0 h k0 x0 d0 ++ (wS g h a1 a2 a3 a4 σ ++ (wX g x0 x1 τ)))) (Wc := (wC c0 h k0 x0 d0 ++ (wS g h a1 a2 a3 a4 σ))) (Wr := (wX g x0 x1 τ)) (W1 := (wC c0 h k0 x0 d0 ++ (wS g h a1 a2 a3 a4 r_14.2))) (W2 := (wC c0 h k0 x0 d0 ++ (wS g h a1 a2 a3 a4 r_14.2 ++ (wX g x0 x1 τ)))) (As := [.int r_1, .int r_2]) (rest := []) [0, 1, 2, 3, 4, 5] [6, 7] [2, 3, 4, 5, 6, 7, 0, 1] 4 0 ⟨hx, hb, hml, hown, hts⟩ hP hD hE hZ hS hA (cX6_orderBegin_ok l g c0 h k0 x0 d0 a1 a2 a3 a4 σ r_1 r_2 _ e_14) (cwV 2 hts gX6_carryOutOrder_X6_orderBegin rfl rfl rfl hdX6_orderBegin ⟨(Nat.le_of_ble_eq_true rfl), (Nat.le_of_ble_eq_true rfl)⟩) rfl rfl rfl (by decide) (by decide) (by decide) (by decide) rfl rfl rfl rfl hl.1 rfl (Nat.le_of_ble_eq_true rfl) ⟨(Nat.le_of_ble_eq_true rfl), (Nat.le_of_ble_eq_true rfl)⟩ dX6_carryOutOrder_131 (fun H locs hP hD hS => ?_)
            have ho := Option.some.inj hf
            subst ho
            exact m_zret (v := r_14.1) hx hb hr hlocks hP hD hS rfl dX6_carryOutOrder_134
          · have hf := iq s_13 hf
            by_cases s_15 : r_3 = (115 : Int32)
            · have hf := ip s_15 hf
              refine lv_tableIn (off := 112) (tgt := 135) hx hb dX6_carryOutOrder_23 (by rw [s_15]; decide) (by rw [s_15]; decide) (by rw [s_15]; rfl) (by decide) ?_
              refine lv_aload_n hx hb dX6_carryOutOrder_135 rfl (lv_at hl 2 rfl) ?_
              obtain ⟨r_16, e_16, hf⟩ := bo hf
              refine mcallVi (W0 := (wC c0 h k0 x0 d0 ++ (wS g h a1 a2 a3 a4 σ ++ (wX g x0 x1 τ)))) (Wc := (wC c0 h k0 x0 d0 ++ (wS g h a1 a2 a3 a4 σ ++ (wX g x0 x1 τ)))) (Wr := ([] : va_W)) (W1 := (wC c0 h k0 x0 d0 ++ (wS g h a1 a2 a3 a4 r_16.2 ++ (wX g x0 x1 τ)))) (W2 := (wC c0 h k0 x0 d0 ++ (wS g h a1 a2 a3 a4 r_16.2 ++ (wX g x0 x1 τ)))) (As := []) (rest := []) [0, 1, 2, 3, 4, 5, 6, 7] [] [0, 1, 2, 3, 4, 5, 6, 7] 4 0 ⟨hx, hb, hml, hown, hts⟩ hP hD hE hZ hS hA (cX6_orderSteps_ok l g c0 h k0 x0 d0 a1 a2 a3 a4 x1 σ τ _ e_16) (cwV 0 hts gX6_carryOutOrder_X6_orderSteps rfl rfl rfl hdX6_orderSteps ⟨(Nat.le_of_ble_eq_true rfl), (Nat.le_of_ble_eq_true rfl)⟩) rfl rfl rfl (by decide) (by decide) (by decide) (by decide) rfl rfl rfl rfl hl.1 rfl (Nat.le_of_ble_eq_true rfl) ⟨(Nat.le_of_ble_eq_true rfl), (Nat.le_of_ble_eq_true rfl)⟩ dX6_carryOutOrder_136 (fun H locs hP hD hS => ?_)
              have ho := Option.some.inj hf
              subst ho
              exact m_zret (v := r_16.1) hx hb hr hlocks hP hD hS rfl dX6_carryOutOrder_139
            · have hf := iq s_15 hf
              by_cases s_17 : r_3 = (117 : Int32)
              · have hf := ip s_17 hf
                refine lv_tableIn (off := 133) (tgt := 156) hx hb dX6_carryOutOrder_23 (by rw [s_17]; decide) (by rw [s_17]; decide) (by rw [s_17]; rfl) (by decide) ?_
                refine lv_aload_n hx hb dX6_carryOutOrder_156 rfl (lv_at hl 2 rfl) ?_
                refine lv_iload_n hx hb dX6_carryOutOrder_157 rfl (lv_at hl 1 rfl) ?_
                obtain ⟨r_18, e_18, hf⟩ := bo hf
                refine mcallVi (W0 := (wC c0 h k0 x0 d0 ++ (wS g h a1 a2 a3 a4 σ ++ (wX g x0 x1 τ)))) (Wc := (wC c0 h k0 x0 d0 ++ (wS g h a1 a2 a3 a4 σ))) (Wr := (wX g x0 x1 τ)) (W1 := (wC c0 h k0 x0 d0 ++ (wS g h a1 a2 a3 a4 r_18.2))) (W2 := (wC c0 h k0 x0 d0 ++ (wS g h a1 a2 a3 a4 r_18.2 ++ (wX g x0 x1 τ)))) (As := [.int r_1]) (rest := []) [0, 1, 2, 3, 4, 5] [6, 7] [2, 3, 4, 5, 6, 7, 0, 1] 4 0 ⟨hx, hb, hml, hown, hts⟩ hP hD hE hZ hS hA (cX6_orderUnlabel_ok l g c0 h k0 x0 d0 a1 a2 a3 a4 σ r_1 _ e_18) (cwV 1 hts gX6_carryOutOrder_X6_orderUnlabel rfl rfl rfl hdX6_orderUnlabel ⟨(Nat.le_of_ble_eq_true rfl), (Nat.le_of_ble_eq_true rfl)⟩) rfl rfl rfl (by decide) (by decide) (by decide) (by decide) rfl rfl rfl rfl hl.1 rfl (Nat.le_of_ble_eq_true rfl) ⟨(Nat.le_of_ble_eq_true rfl), (Nat.le_of_ble_eq_true rfl)⟩ dX6_carryOutOrder_158 (fun H locs hP hD hS => ?_)
                have ho := Option.some.inj hf
                subst ho
                exact m_zret (v := r_18.1) hx hb hr hlocks hP hD hS rfl dX6_carryOutOrder_161
              · have hf := iq s_17 hf
                by_cases s_19 : r_3 = (119 : Int32)
                · have hf := ip s_19 hf
                  refine lv_tableIn (off := 117) (tgt := 140) hx hb dX6_carryOutOrder_23 (by rw [s_19]; decide) (by rw [s_19]; decide) (by rw [s_19]; rfl) (by decide) ?_
                  refine lv_aload_n hx hb dX6_carryOutOrder_140 rfl (lv_at hl 2 rfl) ?_
                  refine va_get (v := .ref h) (C := RX6) (T := TX6) (N := 4) hx hb hts fiX6_carryOutOrder_X6 hown hE.1 hP 0 rfl rfl 0 (by decide) (hts _ flX6_carryOutOrder_10) (fun _ h9 => h9) rfl dX6_carryOutOrder_141 ?_
                  refine lv_iload_n hx hb dX6_carryOutOrder_144 rfl (lv_at hl 1 rfl) ?_
                  obtain ⟨r_20, e_20, hf⟩ := bo hf
                  refine mcallVi (W0 := (wC c0 h k0 x0 d0 ++ (wS g h a1 a2 a3 a4 σ ++ (wX g x0 x1 τ)))) (Wc := (wS g h a1 a2 a3 a4 σ)) (Wr := (wC c0 h k0 x0 d0 ++ (wX g x0 x1 τ))) (W1 := (wS g h a1 a2 a3 a4 r_20.2)) (W2 := (wC c0 h k0 x0 d0 ++ (wS g h a1 a2 a3 a4 r_20.2 ++ (wX g x0 x1 τ)))) (As := [.int r_1]) (rest := []) [1, 2, 3, 4, 5] [0, 6, 7] [0, 3, 4, 5, 6, 7, 1, 2] 3 0 ⟨hx, hb, hml, hown, hts⟩ hP hD hE hZ hS hA (cX4_removeLine_ok l g h a1 a2 a3 a4 σ r_1 _ e_20) (cwV 1 hts gX6_carryOutOrder_X4_removeLine rfl rfl rfl hdX4_removeLine ⟨(Nat.le_of_ble_eq_true rfl), (Nat.le_of_ble_eq_true rfl)⟩) rfl rfl rfl (by decide) (by decide) (by decide) (by decide) rfl rfl rfl rfl hl.1 rfl (Nat.le_of_ble_eq_true rfl) ⟨(Nat.le_of_ble_eq_true rfl), (Nat.le_of_ble_eq_true rfl)⟩ dX6_carryOutOrder_145 (fun H locs hP hD hS => ?_)
                  have ho := Option.some.inj hf
                  subst ho
                  exact m_zret (v := r_20.1) hx hb hr hlocks hP hD hS rfl dX6_carryOutOrder_148
                · have hf := iq s_19 hf
                  refine lv_tabD (tgt := 195) hx hb dX6_carryOutOrder_23 [97, 98, 103, 108, 110, 115, 117, 119] (by decide) (by decide +kernel) (fun v hv => ?_) (by decide) ?_
                  · simp only [List.mem_cons, List.not_mem_nil, or_false] at hv
                    rcases hv with rfl | rfl | rfl | rfl | rfl | rfl | rfl | rfl
                    · exact lv_neT s_4 (by decide)
                    · exact lv_neT s_6 (by decide)
                    · exact lv_neT s_9 (by decide)
                    · exact lv_neT s_11 (by decide)
                    · exact lv_neT s_13 (by decide)
                    · exact lv_neT s_15 (by decide)
                    · exact lv_neT s_17 (by decide)
                    · exact lv_neT s_19 (by decide)
                  refine lv_iconst (v := (0 : Int32)) hx hb dX6_carryOutOrder_195 (by decide) ?_
                  have ho := Option.some.inj hf
                  subst ho
                  exact m_zret (v := false) hx hb hr hlocks hP hD hS rfl dX6_carryOutOrder_196
