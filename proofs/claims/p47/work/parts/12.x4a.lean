def fX4_lineCount (σ : Sh) : Option (Int32) := (some (S_n σ))
abbrev rmX4_lineCount : Room := { frames := 0, cells := 0, slots := 0, locals := 0 }
theorem hdX4_lineCount : yX4_lineCount.cls = RX4 ∧ yX4_lineCount.cls ≠ "java/lang/invoke/MethodHandle" ∧ yX4_lineCount.cls ≠ "java/lang/invoke/VarHandle" ∧ (parseMethodDescriptor yX4_lineCount.desc).map (fun d => d.parameters.length) = some 0 := by decide +kernel
theorem fiX4_lineCount_X4 : ∀ w ∈ wsX40, w ∈ wsX4_lineCount := by decide +kernel
theorem flX4_lineCount_28 : (.fieldLink RX4 28 "ContourLabels$Sheet" "count" "I" : Cond) ∈ wsX4_lineCount := by decide +kernel
set_option maxHeartbeats 4000000 in
set_option maxRecDepth 100000 in
theorem cX4_lineCount_ok (l : Launch) (g : Gg) (h a1 a2 a3 a4 : Nat) (σ : Sh) {r : Int32} (hf : fX4_lineCount σ = some r) : Met l yX4_lineCount wsX4_lineCount rmX4_lineCount (va_Pc [.ref h] (PP g (wS g h a1 a2 a3 a4 σ))) (vp_Si (fun r' => r' = r)) 0 0 (fun _ => False) := by
  refine Met.ofW (cc := cX4_lineCount) (maxL := 1) (ret := (some .int)) (by decide) rfl ?_
  intro p e s m args below meth c s₁ B hml hv
  obtain ⟨rfl, hP, hE, hZ⟩ := hv
  have hx := B.exec
  have hb := B.bytes
  have hr := B.returns
  have hts := atoms_spec (ws := wsX4_lineCount) B.pre
  have hown : s.vm.findClass RX4 = some m.cls := findClass_of_methodNamed B.named
  have hlocks := B.notSynchronized
  have hS : va_S (fun _ => False) s.heap s.heap [] := va_S.rf
  have hl := lv_entry ([.ref h]) (n := 1) (Nat.le_of_ble_eq_true rfl)
  rw [lg_entry_eq]
  generalize (lg_sl ([.ref h]) ++ List.replicate (1 - (lg_sl ([.ref h])).length) Slot.unset).toArray = ls at hl ⊢
  have hl : lv_has ls 1 [(0, .ref h)] := hl
  unfold fX4_lineCount at hf
  refine lv_aload_n hx hb dX4_lineCount_0 rfl (lv_at hl 0 rfl) ?_
  refine va_get (v := .int (S_n σ)) (C := RX4) (T := TX4) (N := 6) hx hb hts fiX4_lineCount_X4 hown hE.1 hP 0 rfl rfl 0 (by decide) (hts _ flX4_lineCount_28) (fun _ h9 => h9) rfl dX4_lineCount_1 ?_
  exact p_iret (v := (S_n σ)) hx hb hr hlocks (Option.some.inj hf) dX4_lineCount_4

def fX4_gapWidth (σ : Sh) : Option (Int32) := (some (S_gap σ))
abbrev rmX4_gapWidth : Room := { frames := 0, cells := 0, slots := 0, locals := 0 }
theorem hdX4_gapWidth : yX4_gapWidth.cls = RX4 ∧ yX4_gapWidth.cls ≠ "java/lang/invoke/MethodHandle" ∧ yX4_gapWidth.cls ≠ "java/lang/invoke/VarHandle" ∧ (parseMethodDescriptor yX4_gapWidth.desc).map (fun d => d.parameters.length) = some 0 := by decide +kernel
theorem fiX4_gapWidth_X4 : ∀ w ∈ wsX40, w ∈ wsX4_gapWidth := by decide +kernel
theorem flX4_gapWidth_9 : (.fieldLink RX4 9 "ContourLabels$Sheet" "gap" "I" : Cond) ∈ wsX4_gapWidth := by decide +kernel
set_option maxHeartbeats 4000000 in
set_option maxRecDepth 100000 in
theorem cX4_gapWidth_ok (l : Launch) (g : Gg) (h a1 a2 a3 a4 : Nat) (σ : Sh) {r : Int32} (hf : fX4_gapWidth σ = some r) : Met l yX4_gapWidth wsX4_gapWidth rmX4_gapWidth (va_Pc [.ref h] (PP g (wS g h a1 a2 a3 a4 σ))) (vp_Si (fun r' => r' = r)) 0 0 (fun _ => False) := by
  refine Met.ofW (cc := cX4_gapWidth) (maxL := 1) (ret := (some .int)) (by decide) rfl ?_
  intro p e s m args below meth c s₁ B hml hv
  obtain ⟨rfl, hP, hE, hZ⟩ := hv
  have hx := B.exec
  have hb := B.bytes
  have hr := B.returns
  have hts := atoms_spec (ws := wsX4_gapWidth) B.pre
  have hown : s.vm.findClass RX4 = some m.cls := findClass_of_methodNamed B.named
  have hlocks := B.notSynchronized
  have hS : va_S (fun _ => False) s.heap s.heap [] := va_S.rf
  have hl := lv_entry ([.ref h]) (n := 1) (Nat.le_of_ble_eq_true rfl)
  rw [lg_entry_eq]
  generalize (lg_sl ([.ref h]) ++ List.replicate (1 - (lg_sl ([.ref h])).length) Slot.unset).toArray = ls at hl ⊢
  have hl : lv_has ls 1 [(0, .ref h)] := hl
  unfold fX4_gapWidth at hf
  refine lv_aload_n hx hb dX4_gapWidth_0 rfl (lv_at hl 0 rfl) ?_
  refine va_get (v := .int (S_gap σ)) (C := RX4) (T := TX4) (N := 6) hx hb hts fiX4_gapWidth_X4 hown hE.1 hP 0 rfl rfl 1 (by decide) (hts _ flX4_gapWidth_9) (fun _ h9 => h9) rfl dX4_gapWidth_1 ?_
  exact p_iret (v := (S_gap σ)) hx hb hr hlocks (Option.some.inj hf) dX4_gapWidth_4

def fX4_hasLine (σ : Sh) (p0 : Int32) : Option (Bool) := (if p0 < 0 then (some false) else (if (S_n σ) ≤ p0 then (some false) else (some true)))
abbrev rmX4_hasLine : Room := { frames := 0, cells := 0, slots := 0, locals := 0 }
theorem hdX4_hasLine : yX4_hasLine.cls = RX4 ∧ yX4_hasLine.cls ≠ "java/lang/invoke/MethodHandle" ∧ yX4_hasLine.cls ≠ "java/lang/invoke/VarHandle" ∧ (parseMethodDescriptor yX4_hasLine.desc).map (fun d => d.parameters.length) = some 1 := by decide +kernel
theorem fiX4_hasLine_X4 : ∀ w ∈ wsX40, w ∈ wsX4_hasLine := by decide +kernel
theorem flX4_hasLine_28 : (.fieldLink RX4 28 "ContourLabels$Sheet" "count" "I" : Cond) ∈ wsX4_hasLine := by decide +kernel
set_option maxHeartbeats 4000000 in
set_option maxRecDepth 100000 in
theorem cX4_hasLine_ok (l : Launch) (g : Gg) (h a1 a2 a3 a4 : Nat) (σ : Sh) (p0 : Int32) {r : Bool} (hf : fX4_hasLine σ p0 = some r) : Met l yX4_hasLine wsX4_hasLine rmX4_hasLine (va_Pc [.ref h, .int p0] (PP g (wS g h a1 a2 a3 a4 σ))) (vp_Si (fun r' => r' = b2i r)) 0 0 (fun _ => False) := by
  refine Met.ofW (cc := cX4_hasLine) (maxL := 2) (ret := (some .boolean)) (by decide) rfl ?_
  intro p e s m args below meth c s₁ B hml hv
  obtain ⟨rfl, hP, hE, hZ⟩ := hv
  have hx := B.exec
  have hb := B.bytes
  have hr := B.returns
  have hts := atoms_spec (ws := wsX4_hasLine) B.pre
  have hown : s.vm.findClass RX4 = some m.cls := findClass_of_methodNamed B.named
  have hlocks := B.notSynchronized
  have hS : va_S (fun _ => False) s.heap s.heap [] := va_S.rf
  have hl := lv_entry ([.ref h, .int p0]) (n := 2) (Nat.le_of_ble_eq_true rfl)
  rw [lg_entry_eq]
  generalize (lg_sl ([.ref h, .int p0]) ++ List.replicate (2 - (lg_sl ([.ref h, .int p0])).length) Slot.unset).toArray = ls at hl ⊢
  have hl : lv_has ls 2 [(0, .ref h), (1, .int p0)] := hl
  unfold fX4_hasLine at hf
  refine lv_iload_n hx hb dX4_hasLine_0 rfl (lv_at hl 1 rfl) ?_
  refine lv_if_lt (tgt := 16) hx hb dX4_hasLine_1 (by decide) (fun c_1 => ?_) (fun c_1 => ?_)
  · have hf := ip c_1 hf
    refine lv_iconst (v := (0 : Int32)) hx hb dX4_hasLine_16 (by decide) ?_
    exact p_zret (v := false) hx hb hr hlocks (Option.some.inj hf) dX4_hasLine_17
  · have hf := iq c_1 hf
    refine lv_iload_n hx hb dX4_hasLine_4 rfl (lv_at hl 1 rfl) ?_
    refine lv_aload_n hx hb dX4_hasLine_5 rfl (lv_at hl 0 rfl) ?_
    refine va_get (v := .int (S_n σ)) (C := RX4) (T := TX4) (N := 6) hx hb hts fiX4_hasLine_X4 hown hE.1 hP 0 rfl rfl 0 (by decide) (hts _ flX4_hasLine_28) (fun _ h9 => h9) rfl dX4_hasLine_6 ?_
    refine lv_icmp_ge (tgt := 16) hx hb dX4_hasLine_9 (by decide) (fun c_2 => ?_) (fun c_2 => ?_)
    · have hf := ip c_2 hf
      refine lv_iconst (v := (0 : Int32)) hx hb dX4_hasLine_16 (by decide) ?_
      exact p_zret (v := false) hx hb hr hlocks (Option.some.inj hf) dX4_hasLine_17
    · have hf := iq c_2 hf
      refine lv_iconst (v := (1 : Int32)) hx hb dX4_hasLine_12 (by decide) ?_
      refine lv_goto (tgt := 17) hx hb dX4_hasLine_13 (by decide) ?_
      exact p_zret (v := true) hx hb hr hlocks (Option.some.inj hf) dX4_hasLine_17

def fX4_hasNumber (σ : Sh) (p0 p1 : Int32) : Option (Bool) := (if p0 < 0 then (some false) else (if (S_n σ) ≤ p0 then (some false) else (if p1 < 0 then (some false) else (if inR p0 8 then (if (S_sc σ (Int32.toNatClampNeg p0)) < p1 then (some false) else (some true)) else none))))
abbrev rmX4_hasNumber : Room := { frames := 0, cells := 0, slots := 0, locals := 0 }
theorem hdX4_hasNumber : yX4_hasNumber.cls = RX4 ∧ yX4_hasNumber.cls ≠ "java/lang/invoke/MethodHandle" ∧ yX4_hasNumber.cls ≠ "java/lang/invoke/VarHandle" ∧ (parseMethodDescriptor yX4_hasNumber.desc).map (fun d => d.parameters.length) = some 2 := by decide +kernel
theorem fiX4_hasNumber_X4 : ∀ w ∈ wsX40, w ∈ wsX4_hasNumber := by decide +kernel
theorem flX4_hasNumber_28 : (.fieldLink RX4 28 "ContourLabels$Sheet" "count" "I" : Cond) ∈ wsX4_hasNumber := by decide +kernel
theorem flX4_hasNumber_19 : (.fieldLink RX4 19 "ContourLabels$Sheet" "stepCounts" "[I" : Cond) ∈ wsX4_hasNumber := by decide +kernel
set_option maxHeartbeats 4000000 in
set_option maxRecDepth 100000 in
theorem cX4_hasNumber_ok (l : Launch) (g : Gg) (h a1 a2 a3 a4 : Nat) (σ : Sh) (p0 p1 : Int32) {r : Bool} (hf : fX4_hasNumber σ p0 p1 = some r) : Met l yX4_hasNumber wsX4_hasNumber rmX4_hasNumber (va_Pc [.ref h, .int p0, .int p1] (PP g (wS g h a1 a2 a3 a4 σ))) (vp_Si (fun r' => r' = b2i r)) 0 0 (fun _ => False) := by
  refine Met.ofW (cc := cX4_hasNumber) (maxL := 3) (ret := (some .boolean)) (by decide) rfl ?_
  intro p e s m args below meth c s₁ B hml hv
  obtain ⟨rfl, hP, hE, hZ⟩ := hv
  have hx := B.exec
  have hb := B.bytes
  have hr := B.returns
  have hts := atoms_spec (ws := wsX4_hasNumber) B.pre
  have hown : s.vm.findClass RX4 = some m.cls := findClass_of_methodNamed B.named
  have hlocks := B.notSynchronized
  have hS : va_S (fun _ => False) s.heap s.heap [] := va_S.rf
  have hl := lv_entry ([.ref h, .int p0, .int p1]) (n := 3) (Nat.le_of_ble_eq_true rfl)
  rw [lg_entry_eq]
  generalize (lg_sl ([.ref h, .int p0, .int p1]) ++ List.replicate (3 - (lg_sl ([.ref h, .int p0, .int p1])).length) Slot.unset).toArray = ls at hl ⊢
  have hl : lv_has ls 3 [(0, .ref h), (1, .int p0), (2, .int p1)] := hl
  unfold fX4_hasNumber at hf
  refine lv_iload_n hx hb dX4_hasNumber_0 rfl (lv_at hl 1 rfl) ?_
  refine lv_if_lt (tgt := 30) hx hb dX4_hasNumber_1 (by decide) (fun c_1 => ?_) (fun c_1 => ?_)
  · have hf := ip c_1 hf
    refine lv_iconst (v := (0 : Int32)) hx hb dX4_hasNumber_30 (by decide) ?_
    exact p_zret (v := false) hx hb hr hlocks (Option.some.inj hf) dX4_hasNumber_31
  · have hf := iq c_1 hf
    refine lv_iload_n hx hb dX4_hasNumber_4 rfl (lv_at hl 1 rfl) ?_
    refine lv_aload_n hx hb dX4_hasNumber_5 rfl (lv_at hl 0 rfl) ?_
    refine va_get (v := .int (S_n σ)) (C := RX4) (T := TX4) (N := 6) hx hb hts fiX4_hasNumber_X4 hown hE.1 hP 0 rfl rfl 0 (by decide) (hts _ flX4_hasNumber_28) (fun _ h9 => h9) rfl dX4_hasNumber_6 ?_
    refine lv_icmp_ge (tgt := 30) hx hb dX4_hasNumber_9 (by decide) (fun c_2 => ?_) (fun c_2 => ?_)
    · have hf := ip c_2 hf
      refine lv_iconst (v := (0 : Int32)) hx hb dX4_hasNumber_30 (by decide) ?_
      exact p_zret (v := false) hx hb hr hlocks (Option.some.inj hf) dX4_hasNumber_31
    · have hf := iq c_2 hf
      refine lv_iload_n hx hb dX4_hasNumber_12 rfl (lv_at hl 2 rfl) ?_
      refine lv_if_lt (tgt := 30) hx hb dX4_hasNumber_13 (by decide) (fun c_3 => ?_) (fun c_3 => ?_)
      · have hf := ip c_3 hf
        refine lv_iconst (v := (0 : Int32)) hx hb dX4_hasNumber_30 (by decide) ?_
        exact p_zret (v := false) hx hb hr hlocks (Option.some.inj hf) dX4_hasNumber_31
      · have hf := iq c_3 hf
        refine lv_iload_n hx hb dX4_hasNumber_16 rfl (lv_at hl 2 rfl) ?_
        refine lv_aload_n hx hb dX4_hasNumber_17 rfl (lv_at hl 0 rfl) ?_
        refine va_get (v := .ref a2) (C := RX4) (T := TX4) (N := 6) hx hb hts fiX4_hasNumber_X4 hown hE.1 hP 0 rfl rfl 3 (by decide) (hts _ flX4_hasNumber_19) (fun _ h9 => h9) rfl dX4_hasNumber_18 ?_
        refine lv_iload_n hx hb dX4_hasNumber_21 rfl (lv_at hl 1 rfl) ?_
        obtain ⟨h_4, hf⟩ := ck hf
        refine va_iald hx hb hE.1 hP 2 0 rfl rfl (vin h_4) dX4_hasNumber_22 ?_
        refine lv_icmp_gt (tgt := 30) hx hb dX4_hasNumber_23 (by decide) (fun c_5 => ?_) (fun c_5 => ?_)
        · have hf := ip c_5 hf
          refine lv_iconst (v := (0 : Int32)) hx hb dX4_hasNumber_30 (by decide) ?_
          exact p_zret (v := false) hx hb hr hlocks (Option.some.inj hf) dX4_hasNumber_31
        · have hf := iq c_5 hf
          refine lv_iconst (v := (1 : Int32)) hx hb dX4_hasNumber_26 (by decide) ?_
          refine lv_goto (tgt := 31) hx hb dX4_hasNumber_27 (by decide) ?_
          exact p_zret (v := true) hx hb hr hlocks (Option.some.inj hf) dX4_hasNumber_31

def fX4_levelIn (σ : Sh) (p0 : Int32) : Option (Int32) := (if p0 < 0 then (some (-1 : Int32)) else (if (S_n σ) ≤ p0 then (some (-1 : Int32)) else (if inR p0 8 then (some (S_lv σ (Int32.toNatClampNeg p0))) else none)))
abbrev rmX4_levelIn : Room := { frames := 0, cells := 0, slots := 0, locals := 0 }
theorem hdX4_levelIn : yX4_levelIn.cls = RX4 ∧ yX4_levelIn.cls ≠ "java/lang/invoke/MethodHandle" ∧ yX4_levelIn.cls ≠ "java/lang/invoke/VarHandle" ∧ (parseMethodDescriptor yX4_levelIn.desc).map (fun d => d.parameters.length) = some 1 := by decide +kernel
theorem fiX4_levelIn_X4 : ∀ w ∈ wsX40, w ∈ wsX4_levelIn := by decide +kernel
theorem flX4_levelIn_28 : (.fieldLink RX4 28 "ContourLabels$Sheet" "count" "I" : Cond) ∈ wsX4_levelIn := by decide +kernel
theorem flX4_levelIn_15 : (.fieldLink RX4 15 "ContourLabels$Sheet" "levels" "[I" : Cond) ∈ wsX4_levelIn := by decide +kernel
set_option maxHeartbeats 4000000 in
set_option maxRecDepth 100000 in
theorem cX4_levelIn_ok (l : Launch) (g : Gg) (h a1 a2 a3 a4 : Nat) (σ : Sh) (p0 : Int32) {r : Int32} (hf : fX4_levelIn σ p0 = some r) : Met l yX4_levelIn wsX4_levelIn rmX4_levelIn (va_Pc [.ref h, .int p0] (PP g (wS g h a1 a2 a3 a4 σ))) (vp_Si (fun r' => r' = r)) 0 0 (fun _ => False) := by
  refine Met.ofW (cc := cX4_levelIn) (maxL := 2) (ret := (some .int)) (by decide) rfl ?_
  intro p e s m args below meth c s₁ B hml hv
  obtain ⟨rfl, hP, hE, hZ⟩ := hv
  have hx := B.exec
  have hb := B.bytes
  have hr := B.returns
  have hts := atoms_spec (ws := wsX4_levelIn) B.pre
  have hown : s.vm.findClass RX4 = some m.cls := findClass_of_methodNamed B.named
  have hlocks := B.notSynchronized
  have hS : va_S (fun _ => False) s.heap s.heap [] := va_S.rf
  have hl := lv_entry ([.ref h, .int p0]) (n := 2) (Nat.le_of_ble_eq_true rfl)
  rw [lg_entry_eq]
  generalize (lg_sl ([.ref h, .int p0]) ++ List.replicate (2 - (lg_sl ([.ref h, .int p0])).length) Slot.unset).toArray = ls at hl ⊢
  have hl : lv_has ls 2 [(0, .ref h), (1, .int p0)] := hl
  unfold fX4_levelIn at hf
  refine lv_iload_n hx hb dX4_levelIn_0 rfl (lv_at hl 1 rfl) ?_
  refine lv_if_lt (tgt := 21) hx hb dX4_levelIn_1 (by decide) (fun c_1 => ?_) (fun c_1 => ?_)
  · have hf := ip c_1 hf
    refine lv_iconst (v := (-1 : Int32)) hx hb dX4_levelIn_21 (by decide) ?_
    exact p_iret (v := (-1 : Int32)) hx hb hr hlocks (Option.some.inj hf) dX4_levelIn_22
  · have hf := iq c_1 hf
    refine lv_iload_n hx hb dX4_levelIn_4 rfl (lv_at hl 1 rfl) ?_
    refine lv_aload_n hx hb dX4_levelIn_5 rfl (lv_at hl 0 rfl) ?_
    refine va_get (v := .int (S_n σ)) (C := RX4) (T := TX4) (N := 6) hx hb hts fiX4_levelIn_X4 hown hE.1 hP 0 rfl rfl 0 (by decide) (hts _ flX4_levelIn_28) (fun _ h9 => h9) rfl dX4_levelIn_6 ?_
    refine lv_icmp_ge (tgt := 21) hx hb dX4_levelIn_9 (by decide) (fun c_2 => ?_) (fun c_2 => ?_)
    · have hf := ip c_2 hf
      refine lv_iconst (v := (-1 : Int32)) hx hb dX4_levelIn_21 (by decide) ?_
      exact p_iret (v := (-1 : Int32)) hx hb hr hlocks (Option.some.inj hf) dX4_levelIn_22
    · have hf := iq c_2 hf
      refine lv_aload_n hx hb dX4_levelIn_12 rfl (lv_at hl 0 rfl) ?_
      refine va_get (v := .ref a1) (C := RX4) (T := TX4) (N := 6) hx hb hts fiX4_levelIn_X4 hown hE.1 hP 0 rfl rfl 2 (by decide) (hts _ flX4_levelIn_15) (fun _ h9 => h9) rfl dX4_levelIn_13 ?_
      refine lv_iload_n hx hb dX4_levelIn_16 rfl (lv_at hl 1 rfl) ?_
      obtain ⟨h_3, hf⟩ := ck hf
      refine va_iald hx hb hE.1 hP 1 0 rfl rfl (vin h_3) dX4_levelIn_17 ?_
      refine lv_goto (tgt := 22) hx hb dX4_levelIn_18 (by decide) ?_
      exact p_iret (v := (S_lv σ (Int32.toNatClampNeg p0))) hx hb hr hlocks (Option.some.inj hf) dX4_levelIn_22

def fX4_sizeIn (σ : Sh) (p0 : Int32) : Option (Int32) := (if p0 < 0 then (some (2 : Int32)) else (if (S_n σ) ≤ p0 then (some (2 : Int32)) else (if inR p0 8 then (if (S_lv σ (Int32.toNatClampNeg p0)) < (10 : Int32) then (some (2 : Int32)) else (some (3 : Int32))) else none)))
abbrev rmX4_sizeIn : Room := { frames := 0, cells := 0, slots := 0, locals := 0 }
theorem hdX4_sizeIn : yX4_sizeIn.cls = RX4 ∧ yX4_sizeIn.cls ≠ "java/lang/invoke/MethodHandle" ∧ yX4_sizeIn.cls ≠ "java/lang/invoke/VarHandle" ∧ (parseMethodDescriptor yX4_sizeIn.desc).map (fun d => d.parameters.length) = some 1 := by decide +kernel
theorem fiX4_sizeIn_X4 : ∀ w ∈ wsX40, w ∈ wsX4_sizeIn := by decide +kernel
theorem flX4_sizeIn_28 : (.fieldLink RX4 28 "ContourLabels$Sheet" "count" "I" : Cond) ∈ wsX4_sizeIn := by decide +kernel
theorem flX4_sizeIn_15 : (.fieldLink RX4 15 "ContourLabels$Sheet" "levels" "[I" : Cond) ∈ wsX4_sizeIn := by decide +kernel
set_option maxHeartbeats 4000000 in
set_option maxRecDepth 100000 in
theorem cX4_sizeIn_ok (l : Launch) (g : Gg) (h a1 a2 a3 a4 : Nat) (σ : Sh) (p0 : Int32) {r : Int32} (hf : fX4_sizeIn σ p0 = some r) : Met l yX4_sizeIn wsX4_sizeIn rmX4_sizeIn (va_Pc [.ref h, .int p0] (PP g (wS g h a1 a2 a3 a4 σ))) (vp_Si (fun r' => r' = r)) 0 0 (fun _ => False) := by
  refine Met.ofW (cc := cX4_sizeIn) (maxL := 2) (ret := (some .int)) (by decide) rfl ?_
  intro p e s m args below meth c s₁ B hml hv
  obtain ⟨rfl, hP, hE, hZ⟩ := hv
  have hx := B.exec
  have hb := B.bytes
  have hr := B.returns
  have hts := atoms_spec (ws := wsX4_sizeIn) B.pre
  have hown : s.vm.findClass RX4 = some m.cls := findClass_of_methodNamed B.named
  have hlocks := B.notSynchronized
  have hS : va_S (fun _ => False) s.heap s.heap [] := va_S.rf
  have hl := lv_entry ([.ref h, .int p0]) (n := 2) (Nat.le_of_ble_eq_true rfl)
  rw [lg_entry_eq]
  generalize (lg_sl ([.ref h, .int p0]) ++ List.replicate (2 - (lg_sl ([.ref h, .int p0])).length) Slot.unset).toArray = ls at hl ⊢
  have hl : lv_has ls 2 [(0, .ref h), (1, .int p0)] := hl
  unfold fX4_sizeIn at hf
  refine lv_iload_n hx hb dX4_sizeIn_0 rfl (lv_at hl 1 rfl) ?_
  refine lv_if_lt (tgt := 27) hx hb dX4_sizeIn_1 (by decide) (fun c_1 => ?_) (fun c_1 => ?_)
  · have hf := ip c_1 hf
    refine lv_iconst (v := (2 : Int32)) hx hb dX4_sizeIn_27 (by decide) ?_
    exact p_iret (v := (2 : Int32)) hx hb hr hlocks (Option.some.inj hf) dX4_sizeIn_28
  · have hf := iq c_1 hf
    refine lv_iload_n hx hb dX4_sizeIn_4 rfl (lv_at hl 1 rfl) ?_
    refine lv_aload_n hx hb dX4_sizeIn_5 rfl (lv_at hl 0 rfl) ?_
    refine va_get (v := .int (S_n σ)) (C := RX4) (T := TX4) (N := 6) hx hb hts fiX4_sizeIn_X4 hown hE.1 hP 0 rfl rfl 0 (by decide) (hts _ flX4_sizeIn_28) (fun _ h9 => h9) rfl dX4_sizeIn_6 ?_
    refine lv_icmp_ge (tgt := 27) hx hb dX4_sizeIn_9 (by decide) (fun c_2 => ?_) (fun c_2 => ?_)
    · have hf := ip c_2 hf
      refine lv_iconst (v := (2 : Int32)) hx hb dX4_sizeIn_27 (by decide) ?_
      exact p_iret (v := (2 : Int32)) hx hb hr hlocks (Option.some.inj hf) dX4_sizeIn_28
    · have hf := iq c_2 hf
      refine lv_aload_n hx hb dX4_sizeIn_12 rfl (lv_at hl 0 rfl) ?_
      refine va_get (v := .ref a1) (C := RX4) (T := TX4) (N := 6) hx hb hts fiX4_sizeIn_X4 hown hE.1 hP 0 rfl rfl 2 (by decide) (hts _ flX4_sizeIn_15) (fun _ h9 => h9) rfl dX4_sizeIn_13 ?_
      refine lv_iload_n hx hb dX4_sizeIn_16 rfl (lv_at hl 1 rfl) ?_
      obtain ⟨h_3, hf⟩ := ck hf
      refine va_iald hx hb hE.1 hP 1 0 rfl rfl (vin h_3) dX4_sizeIn_17 ?_
      refine lv_bipush (v := (10 : Int32)) hx hb dX4_sizeIn_18 (by decide) ?_
      refine lv_icmp_lt (tgt := 27) hx hb dX4_sizeIn_20 (by decide) (fun c_4 => ?_) (fun c_4 => ?_)
      · have hf := ip c_4 hf
        refine lv_iconst (v := (2 : Int32)) hx hb dX4_sizeIn_27 (by decide) ?_
        exact p_iret (v := (2 : Int32)) hx hb hr hlocks (Option.some.inj hf) dX4_sizeIn_28
      · have hf := iq c_4 hf
        refine lv_iconst (v := (3 : Int32)) hx hb dX4_sizeIn_23 (by decide) ?_
        refine lv_goto (tgt := 28) hx hb dX4_sizeIn_24 (by decide) ?_
        exact p_iret (v := (3 : Int32)) hx hb hr hlocks (Option.some.inj hf) dX4_sizeIn_28

def fX4_labelIn (σ : Sh) (p0 : Int32) : Option (Int32) := (if p0 < 0 then (some (-1 : Int32)) else (if (S_n σ) ≤ p0 then (some (-1 : Int32)) else (if inR p0 8 then (some (S_lb σ (Int32.toNatClampNeg p0))) else none)))
abbrev rmX4_labelIn : Room := { frames := 0, cells := 0, slots := 0, locals := 0 }
theorem hdX4_labelIn : yX4_labelIn.cls = RX4 ∧ yX4_labelIn.cls ≠ "java/lang/invoke/MethodHandle" ∧ yX4_labelIn.cls ≠ "java/lang/invoke/VarHandle" ∧ (parseMethodDescriptor yX4_labelIn.desc).map (fun d => d.parameters.length) = some 1 := by decide +kernel
theorem fiX4_labelIn_X4 : ∀ w ∈ wsX40, w ∈ wsX4_labelIn := by decide +kernel
theorem flX4_labelIn_28 : (.fieldLink RX4 28 "ContourLabels$Sheet" "count" "I" : Cond) ∈ wsX4_labelIn := by decide +kernel
theorem flX4_labelIn_22 : (.fieldLink RX4 22 "ContourLabels$Sheet" "labelPlaces" "[I" : Cond) ∈ wsX4_labelIn := by decide +kernel
set_option maxHeartbeats 4000000 in
set_option maxRecDepth 100000 in
theorem cX4_labelIn_ok (l : Launch) (g : Gg) (h a1 a2 a3 a4 : Nat) (σ : Sh) (p0 : Int32) {r : Int32} (hf : fX4_labelIn σ p0 = some r) : Met l yX4_labelIn wsX4_labelIn rmX4_labelIn (va_Pc [.ref h, .int p0] (PP g (wS g h a1 a2 a3 a4 σ))) (vp_Si (fun r' => r' = r)) 0 0 (fun _ => False) := by
  refine Met.ofW (cc := cX4_labelIn) (maxL := 2) (ret := (some .int)) (by decide) rfl ?_
  intro p e s m args below meth c s₁ B hml hv
  obtain ⟨rfl, hP, hE, hZ⟩ := hv
  have hx := B.exec
  have hb := B.bytes
  have hr := B.returns
  have hts := atoms_spec (ws := wsX4_labelIn) B.pre
  have hown : s.vm.findClass RX4 = some m.cls := findClass_of_methodNamed B.named
  have hlocks := B.notSynchronized
  have hS : va_S (fun _ => False) s.heap s.heap [] := va_S.rf
  have hl := lv_entry ([.ref h, .int p0]) (n := 2) (Nat.le_of_ble_eq_true rfl)
  rw [lg_entry_eq]
  generalize (lg_sl ([.ref h, .int p0]) ++ List.replicate (2 - (lg_sl ([.ref h, .int p0])).length) Slot.unset).toArray = ls at hl ⊢
  have hl : lv_has ls 2 [(0, .ref h), (1, .int p0)] := hl
  unfold fX4_labelIn at hf
  refine lv_iload_n hx hb dX4_labelIn_0 rfl (lv_at hl 1 rfl) ?_
  refine lv_if_lt (tgt := 21) hx hb dX4_labelIn_1 (by decide) (fun c_1 => ?_) (fun c_1 => ?_)
  · have hf := ip c_1 hf
    refine lv_iconst (v := (-1 : Int32)) hx hb dX4_labelIn_21 (by decide) ?_
    exact p_iret (v := (-1 : Int32)) hx hb hr hlocks (Option.some.inj hf) dX4_labelIn_22
  · have hf := iq c_1 hf
    refine lv_iload_n hx hb dX4_labelIn_4 rfl (lv_at hl 1 rfl) ?_
    refine lv_aload_n hx hb dX4_labelIn_5 rfl (lv_at hl 0 rfl) ?_
    refine va_get (v := .int (S_n σ)) (C := RX4) (T := TX4) (N := 6) hx hb hts fiX4_labelIn_X4 hown hE.1 hP 0 rfl rfl 0 (by decide) (hts _ flX4_labelIn_28) (fun _ h9 => h9) rfl dX4_labelIn_6 ?_
    refine lv_icmp_ge (tgt := 21) hx hb dX4_labelIn_9 (by decide) (fun c_2 => ?_) (fun c_2 => ?_)
    · have hf := ip c_2 hf
      refine lv_iconst (v := (-1 : Int32)) hx hb dX4_labelIn_21 (by decide) ?_
      exact p_iret (v := (-1 : Int32)) hx hb hr hlocks (Option.some.inj hf) dX4_labelIn_22
    · have hf := iq c_2 hf
      refine lv_aload_n hx hb dX4_labelIn_12 rfl (lv_at hl 0 rfl) ?_
      refine va_get (v := .ref a3) (C := RX4) (T := TX4) (N := 6) hx hb hts fiX4_labelIn_X4 hown hE.1 hP 0 rfl rfl 4 (by decide) (hts _ flX4_labelIn_22) (fun _ h9 => h9) rfl dX4_labelIn_13 ?_
      refine lv_iload_n hx hb dX4_labelIn_16 rfl (lv_at hl 1 rfl) ?_
      obtain ⟨h_3, hf⟩ := ck hf
      refine va_iald hx hb hE.1 hP 3 0 rfl rfl (vin h_3) dX4_labelIn_17 ?_
      refine lv_goto (tgt := 22) hx hb dX4_labelIn_18 (by decide) ?_
      exact p_iret (v := (S_lb σ (Int32.toNatClampNeg p0))) hx hb hr hlocks (Option.some.inj hf) dX4_labelIn_22

def fX4_labelCount_4 (σ : Sh) : Nat → Int32 → Int32 → Option (Int32)
  | 0, _, _ => none
  | n + 1, v1_4, v2_4 => (if (S_n σ) ≤ v2_4 then (some v1_4) else ((fX4_labelIn σ v2_4).bind fun r_2 => (if r_2 = (-1 : Int32) then fX4_labelCount_4 σ n v1_4 (v2_4 + 1) else fX4_labelCount_4 σ n (v1_4 + 1) (v2_4 + 1))))
def fX4_labelCount (σ : Sh) : Option (Int32) := fX4_labelCount_4 σ FU (0 : Int32) (0 : Int32)
abbrev rmX4_labelCount : Room := { frames := 1, cells := 0, slots := 0, locals := 21 }
theorem hdX4_labelCount : yX4_labelCount.cls = RX4 ∧ yX4_labelCount.cls ≠ "java/lang/invoke/MethodHandle" ∧ yX4_labelCount.cls ≠ "java/lang/invoke/VarHandle" ∧ (parseMethodDescriptor yX4_labelCount.desc).map (fun d => d.parameters.length) = some 0 := by decide +kernel
theorem fiX4_labelCount_X4 : ∀ w ∈ wsX40, w ∈ wsX4_labelCount := by decide +kernel
theorem flX4_labelCount_28 : (.fieldLink RX4 28 "ContourLabels$Sheet" "count" "I" : Cond) ∈ wsX4_labelCount := by decide +kernel
set_option maxHeartbeats 4000000 in
set_option maxRecDepth 100000 in
theorem cX4_labelCount_ok (l : Launch) (g : Gg) (h a1 a2 a3 a4 : Nat) (σ : Sh) {r : Int32} (hf : fX4_labelCount σ = some r) : Met l yX4_labelCount wsX4_labelCount rmX4_labelCount (va_Pc [.ref h] (PP g (wS g h a1 a2 a3 a4 σ))) (vp_Si (fun r' => r' = r)) 0 0 (fun _ => False) := by
  refine Met.ofW (cc := cX4_labelCount) (maxL := 3) (ret := (some .int)) (by decide) rfl ?_
  intro p e s m args below meth c s₁ B hml hv
  obtain ⟨rfl, hP, hE, hZ⟩ := hv
  have hx := B.exec
  have hb := B.bytes
  have hr := B.returns
  have hts := atoms_spec (ws := wsX4_labelCount) B.pre
  have hown : s.vm.findClass RX4 = some m.cls := findClass_of_methodNamed B.named
  have hlocks := B.notSynchronized
  have hS : va_S (fun _ => False) s.heap s.heap [] := va_S.rf
  have hl := lv_entry ([.ref h]) (n := 3) (Nat.le_of_ble_eq_true rfl)
  rw [lg_entry_eq]
  generalize (lg_sl ([.ref h]) ++ List.replicate (3 - (lg_sl ([.ref h])).length) Slot.unset).toArray = ls at hl ⊢
  have hl : lv_has ls 3 [(0, .ref h)] := hl
  have hB4 : ∀ (n4 : Nat) (v1_4 : Int32) (v2_4 : Int32) (ls : Array Slot), lv_has ls 3 [(0, .ref h), (1, .int v1_4), (2, .int v2_4)] → fX4_labelCount_4 σ n4 v1_4 v2_4 = some r → W p l e (headSpec wsX4_labelCount rmX4_labelCount).room s m ([.ref h] : List Value).toArray below meth c s.heap [] 0 0 (MQ below (vp_Si (fun r' => r' = r)) ([.ref h] : List Value).toArray s 0 0 (fun _ => False)) (F0 m 4 ls []) := by
    intro  n4
    induction n4 with
    | zero => intro v1_4 v2_4 ls hl hf; exact nomatch (show (none : Option (Int32)) = some _ from hf)
    | succ n4 ih4 =>
      intro v1_4 v2_4 ls hl hf
      rw [fX4_labelCount_4] at hf
      refine lv_iload_n hx hb dX4_labelCount_4 rfl (lv_at hl 2 rfl) ?_
      refine lv_aload_n hx hb dX4_labelCount_5 rfl (lv_at hl 0 rfl) ?_
      refine va_get (v := .int (S_n σ)) (C := RX4) (T := TX4) (N := 6) hx hb hts fiX4_labelCount_X4 hown hE.1 hP 0 rfl rfl 0 (by decide) (hts _ flX4_labelCount_28) (fun _ h9 => h9) rfl dX4_labelCount_6 ?_
      refine lv_icmp_ge (tgt := 30) hx hb dX4_labelCount_9 (by decide) (fun c_1 => ?_) (fun c_1 => ?_)
      · have hf := ip c_1 hf
        refine lv_iload_n hx hb dX4_labelCount_30 rfl (lv_at hl 1 rfl) ?_
        exact p_iret (v := v1_4) hx hb hr hlocks (Option.some.inj hf) dX4_labelCount_31
      · have hf := iq c_1 hf
        refine lv_aload_n hx hb dX4_labelCount_12 rfl (lv_at hl 0 rfl) ?_
        refine lv_iload_n hx hb dX4_labelCount_13 rfl (lv_at hl 2 rfl) ?_
        obtain ⟨r_2, e_2, hf⟩ := bo hf
        refine pcallV (W0 := (wS g h a1 a2 a3 a4 σ)) (As := [.int v2_4]) (rest := []) [0, 1, 2, 3, 4] 3 0 ⟨hx, hb, hml, hown, hts⟩ hP hE hZ hS (cX4_labelIn_ok l g h a1 a2 a3 a4 σ v2_4 e_2) (cwV 1 hts gX4_labelCount_X4_labelIn rfl rfl rfl hdX4_labelIn ⟨(Nat.le_of_ble_eq_true rfl), (Nat.le_of_ble_eq_true rfl)⟩) rfl rfl rfl rfl rfl hl.1 rfl (Nat.le_of_ble_eq_true rfl) ⟨(Nat.le_of_ble_eq_true rfl), (Nat.le_of_ble_eq_true rfl)⟩ dX4_labelCount_14 ?_
        refine lv_iconst (v := (-1 : Int32)) hx hb dX4_labelCount_17 (by decide) ?_
        refine lv_icmp_eq (tgt := 24) hx hb dX4_labelCount_18 (by decide) (fun c_3 => ?_) (fun c_3 => ?_)
        · have hf := ip c_3 hf
          refine lv_iinc (v := (v2_4 + 1)) (lv' := [(2, .int (v2_4 + 1)), (0, .ref h), (1, .int v1_4)]) hx hb dX4_labelCount_24 hl (k := 2) rfl rfl (by decide) rfl (fun ls hl => ?_)
          refine lv_goto (tgt := 4) hx hb dX4_labelCount_27 (by decide) ?_
          exact ih4 v1_4 (v2_4 + 1) ls (lv_sub hl [1, 2, 0] rfl) hf
        · have hf := iq c_3 hf
          refine lv_iinc (v := (v1_4 + 1)) (lv' := [(1, .int (v1_4 + 1)), (0, .ref h), (2, .int v2_4)]) hx hb dX4_labelCount_21 hl (k := 1) rfl rfl (by decide) rfl (fun ls hl => ?_)
          refine lv_iinc (v := (v2_4 + 1)) (lv' := [(2, .int (v2_4 + 1)), (1, .int (v1_4 + 1)), (0, .ref h)]) hx hb dX4_labelCount_24 hl (k := 2) rfl rfl (by decide) rfl (fun ls hl => ?_)
          refine lv_goto (tgt := 4) hx hb dX4_labelCount_27 (by decide) ?_
          exact ih4 (v1_4 + 1) (v2_4 + 1) ls (lv_sub hl [2, 1, 0] rfl) hf
  unfold fX4_labelCount at hf
  refine lv_iconst (v := (0 : Int32)) hx hb dX4_labelCount_0 (by decide) ?_
  refine lv_istore_n (lv' := [(1, .int (0 : Int32)), (0, .ref h)]) hx hb dX4_labelCount_1 rfl hl (by decide) rfl (fun ls hl => ?_)
  refine lv_iconst (v := (0 : Int32)) hx hb dX4_labelCount_2 (by decide) ?_
  refine lv_istore_n (lv' := [(2, .int (0 : Int32)), (1, .int (0 : Int32)), (0, .ref h)]) hx hb dX4_labelCount_3 rfl hl (by decide) rfl (fun ls hl => ?_)
  exact hB4 FU (0 : Int32) (0 : Int32) ls (lv_sub hl [2, 1, 0] rfl) hf

def fX4_stepCount (σ : Sh) (p0 : Int32) : Option (Int32) := (if p0 < 0 then (some (-1 : Int32)) else (if (S_n σ) ≤ p0 then (some (-1 : Int32)) else (if inR p0 8 then (some (S_sc σ (Int32.toNatClampNeg p0))) else none)))
abbrev rmX4_stepCount : Room := { frames := 0, cells := 0, slots := 0, locals := 0 }
theorem hdX4_stepCount : yX4_stepCount.cls = RX4 ∧ yX4_stepCount.cls ≠ "java/lang/invoke/MethodHandle" ∧ yX4_stepCount.cls ≠ "java/lang/invoke/VarHandle" ∧ (parseMethodDescriptor yX4_stepCount.desc).map (fun d => d.parameters.length) = some 1 := by decide +kernel
theorem fiX4_stepCount_X4 : ∀ w ∈ wsX40, w ∈ wsX4_stepCount := by decide +kernel
theorem flX4_stepCount_28 : (.fieldLink RX4 28 "ContourLabels$Sheet" "count" "I" : Cond) ∈ wsX4_stepCount := by decide +kernel
theorem flX4_stepCount_19 : (.fieldLink RX4 19 "ContourLabels$Sheet" "stepCounts" "[I" : Cond) ∈ wsX4_stepCount := by decide +kernel
set_option maxHeartbeats 4000000 in
set_option maxRecDepth 100000 in
theorem cX4_stepCount_ok (l : Launch) (g : Gg) (h a1 a2 a3 a4 : Nat) (σ : Sh) (p0 : Int32) {r : Int32} (hf : fX4_stepCount σ p0 = some r) : Met l yX4_stepCount wsX4_stepCount rmX4_stepCount (va_Pc [.ref h, .int p0] (PP g (wS g h a1 a2 a3 a4 σ))) (vp_Si (fun r' => r' = r)) 0 0 (fun _ => False) := by
  refine Met.ofW (cc := cX4_stepCount) (maxL := 2) (ret := (some .int)) (by decide) rfl ?_
  intro p e s m args below meth c s₁ B hml hv
  obtain ⟨rfl, hP, hE, hZ⟩ := hv
  have hx := B.exec
  have hb := B.bytes
  have hr := B.returns
  have hts := atoms_spec (ws := wsX4_stepCount) B.pre
  have hown : s.vm.findClass RX4 = some m.cls := findClass_of_methodNamed B.named
  have hlocks := B.notSynchronized
  have hS : va_S (fun _ => False) s.heap s.heap [] := va_S.rf
  have hl := lv_entry ([.ref h, .int p0]) (n := 2) (Nat.le_of_ble_eq_true rfl)
  rw [lg_entry_eq]
  generalize (lg_sl ([.ref h, .int p0]) ++ List.replicate (2 - (lg_sl ([.ref h, .int p0])).length) Slot.unset).toArray = ls at hl ⊢
  have hl : lv_has ls 2 [(0, .ref h), (1, .int p0)] := hl
  unfold fX4_stepCount at hf
  refine lv_iload_n hx hb dX4_stepCount_0 rfl (lv_at hl 1 rfl) ?_
  refine lv_if_lt (tgt := 21) hx hb dX4_stepCount_1 (by decide) (fun c_1 => ?_) (fun c_1 => ?_)
  · have hf := ip c_1 hf
    refine lv_iconst (v := (-1 : Int32)) hx hb dX4_stepCount_21 (by decide) ?_
    exact p_iret (v := (-1 : Int32)) hx hb hr hlocks (Option.some.inj hf) dX4_stepCount_22
  · have hf := iq c_1 hf
    refine lv_iload_n hx hb dX4_stepCount_4 rfl (lv_at hl 1 rfl) ?_
    refine lv_aload_n hx hb dX4_stepCount_5 rfl (lv_at hl 0 rfl) ?_
    refine va_get (v := .int (S_n σ)) (C := RX4) (T := TX4) (N := 6) hx hb hts fiX4_stepCount_X4 hown hE.1 hP 0 rfl rfl 0 (by decide) (hts _ flX4_stepCount_28) (fun _ h9 => h9) rfl dX4_stepCount_6 ?_
    refine lv_icmp_ge (tgt := 21) hx hb dX4_stepCount_9 (by decide) (fun c_2 => ?_) (fun c_2 => ?_)
    · have hf := ip c_2 hf
      refine lv_iconst (v := (-1 : Int32)) hx hb dX4_stepCount_21 (by decide) ?_
      exact p_iret (v := (-1 : Int32)) hx hb hr hlocks (Option.some.inj hf) dX4_stepCount_22
    · have hf := iq c_2 hf
      refine lv_aload_n hx hb dX4_stepCount_12 rfl (lv_at hl 0 rfl) ?_
      refine va_get (v := .ref a2) (C := RX4) (T := TX4) (N := 6) hx hb hts fiX4_stepCount_X4 hown hE.1 hP 0 rfl rfl 3 (by decide) (hts _ flX4_stepCount_19) (fun _ h9 => h9) rfl dX4_stepCount_13 ?_
      refine lv_iload_n hx hb dX4_stepCount_16 rfl (lv_at hl 1 rfl) ?_
      obtain ⟨h_3, hf⟩ := ck hf
      refine va_iald hx hb hE.1 hP 2 0 rfl rfl (vin h_3) dX4_stepCount_17 ?_
      refine lv_goto (tgt := 22) hx hb dX4_stepCount_18 (by decide) ?_
      exact p_iret (v := (S_sc σ (Int32.toNatClampNeg p0))) hx hb hr hlocks (Option.some.inj hf) dX4_stepCount_22

def fX4_pointAt (σ : Sh) (p0 p1 : Int32) : Option (Int32) := (if p0 < 0 then (some (-1 : Int32)) else (if (S_n σ) ≤ p0 then (some (-1 : Int32)) else (if p1 < 0 then (some (-1 : Int32)) else (if inR p0 8 then (if p1 ≤ (S_sc σ (Int32.toNatClampNeg p0)) then (if inR ((p0 * (61 : Int32)) + p1) 488 then (some (S_pt σ (Int32.toNatClampNeg ((p0 * (61 : Int32)) + p1)))) else none) else (some (-1 : Int32))) else none))))
abbrev rmX4_pointAt : Room := { frames := 0, cells := 0, slots := 0, locals := 0 }
theorem hdX4_pointAt : yX4_pointAt.cls = RX4 ∧ yX4_pointAt.cls ≠ "java/lang/invoke/MethodHandle" ∧ yX4_pointAt.cls ≠ "java/lang/invoke/VarHandle" ∧ (parseMethodDescriptor yX4_pointAt.desc).map (fun d => d.parameters.length) = some 2 := by decide +kernel
theorem fiX4_pointAt_X4 : ∀ w ∈ wsX40, w ∈ wsX4_pointAt := by decide +kernel
theorem flX4_pointAt_28 : (.fieldLink RX4 28 "ContourLabels$Sheet" "count" "I" : Cond) ∈ wsX4_pointAt := by decide +kernel
theorem flX4_pointAt_19 : (.fieldLink RX4 19 "ContourLabels$Sheet" "stepCounts" "[I" : Cond) ∈ wsX4_pointAt := by decide +kernel
theorem flX4_pointAt_25 : (.fieldLink RX4 25 "ContourLabels$Sheet" "points" "[I" : Cond) ∈ wsX4_pointAt := by decide +kernel
set_option maxHeartbeats 4000000 in
set_option maxRecDepth 100000 in
theorem cX4_pointAt_ok (l : Launch) (g : Gg) (h a1 a2 a3 a4 : Nat) (σ : Sh) (p0 p1 : Int32) {r : Int32} (hf : fX4_pointAt σ p0 p1 = some r) : Met l yX4_pointAt wsX4_pointAt rmX4_pointAt (va_Pc [.ref h, .int p0, .int p1] (PP g (wS g h a1 a2 a3 a4 σ))) (vp_Si (fun r' => r' = r)) 0 0 (fun _ => False) := by
  refine Met.ofW (cc := cX4_pointAt) (maxL := 3) (ret := (some .int)) (by decide) rfl ?_
  intro p e s m args below meth c s₁ B hml hv
  obtain ⟨rfl, hP, hE, hZ⟩ := hv
  have hx := B.exec
  have hb := B.bytes
  have hr := B.returns
  have hts := atoms_spec (ws := wsX4_pointAt) B.pre
  have hown : s.vm.findClass RX4 = some m.cls := findClass_of_methodNamed B.named
  have hlocks := B.notSynchronized
  have hS : va_S (fun _ => False) s.heap s.heap [] := va_S.rf
  have hl := lv_entry ([.ref h, .int p0, .int p1]) (n := 3) (Nat.le_of_ble_eq_true rfl)
  rw [lg_entry_eq]
  generalize (lg_sl ([.ref h, .int p0, .int p1]) ++ List.replicate (3 - (lg_sl ([.ref h, .int p0, .int p1])).length) Slot.unset).toArray = ls at hl ⊢
  have hl : lv_has ls 3 [(0, .ref h), (1, .int p0), (2, .int p1)] := hl
  unfold fX4_pointAt at hf
  refine lv_iload_n hx hb dX4_pointAt_0 rfl (lv_at hl 1 rfl) ?_
  refine lv_if_lt (tgt := 26) hx hb dX4_pointAt_1 (by decide) (fun c_1 => ?_) (fun c_1 => ?_)
  · have hf := ip c_1 hf
    refine lv_iconst (v := (-1 : Int32)) hx hb dX4_pointAt_26 (by decide) ?_
    exact p_iret (v := (-1 : Int32)) hx hb hr hlocks (Option.some.inj hf) dX4_pointAt_27
  · have hf := iq c_1 hf
    refine lv_iload_n hx hb dX4_pointAt_4 rfl (lv_at hl 1 rfl) ?_
    refine lv_aload_n hx hb dX4_pointAt_5 rfl (lv_at hl 0 rfl) ?_
    refine va_get (v := .int (S_n σ)) (C := RX4) (T := TX4) (N := 6) hx hb hts fiX4_pointAt_X4 hown hE.1 hP 0 rfl rfl 0 (by decide) (hts _ flX4_pointAt_28) (fun _ h9 => h9) rfl dX4_pointAt_6 ?_
    refine lv_icmp_ge (tgt := 26) hx hb dX4_pointAt_9 (by decide) (fun c_2 => ?_) (fun c_2 => ?_)
    · have hf := ip c_2 hf
      refine lv_iconst (v := (-1 : Int32)) hx hb dX4_pointAt_26 (by decide) ?_
      exact p_iret (v := (-1 : Int32)) hx hb hr hlocks (Option.some.inj hf) dX4_pointAt_27
    · have hf := iq c_2 hf
      refine lv_iload_n hx hb dX4_pointAt_12 rfl (lv_at hl 2 rfl) ?_
      refine lv_if_lt (tgt := 26) hx hb dX4_pointAt_13 (by decide) (fun c_3 => ?_) (fun c_3 => ?_)
      · have hf := ip c_3 hf
        refine lv_iconst (v := (-1 : Int32)) hx hb dX4_pointAt_26 (by decide) ?_
        exact p_iret (v := (-1 : Int32)) hx hb hr hlocks (Option.some.inj hf) dX4_pointAt_27
      · have hf := iq c_3 hf
        refine lv_iload_n hx hb dX4_pointAt_16 rfl (lv_at hl 2 rfl) ?_
        refine lv_aload_n hx hb dX4_pointAt_17 rfl (lv_at hl 0 rfl) ?_
        refine va_get (v := .ref a2) (C := RX4) (T := TX4) (N := 6) hx hb hts fiX4_pointAt_X4 hown hE.1 hP 0 rfl rfl 3 (by decide) (hts _ flX4_pointAt_19) (fun _ h9 => h9) rfl dX4_pointAt_18 ?_
        refine lv_iload_n hx hb dX4_pointAt_21 rfl (lv_at hl 1 rfl) ?_
        obtain ⟨h_4, hf⟩ := ck hf
        refine va_iald hx hb hE.1 hP 2 0 rfl rfl (vin h_4) dX4_pointAt_22 ?_
        refine lv_icmp_le (tgt := 28) hx hb dX4_pointAt_23 (by decide) (fun c_5 => ?_) (fun c_5 => ?_)
        · have hf := ip c_5 hf
          refine lv_aload_n hx hb dX4_pointAt_28 rfl (lv_at hl 0 rfl) ?_
          refine va_get (v := .ref a4) (C := RX4) (T := TX4) (N := 6) hx hb hts fiX4_pointAt_X4 hown hE.1 hP 0 rfl rfl 5 (by decide) (hts _ flX4_pointAt_25) (fun _ h9 => h9) rfl dX4_pointAt_29 ?_
          refine lv_iload_n hx hb dX4_pointAt_32 rfl (lv_at hl 1 rfl) ?_
          refine lv_bipush (v := (61 : Int32)) hx hb dX4_pointAt_33 (by decide) ?_
          refine lv_imul hx hb dX4_pointAt_35 ?_
          refine lv_iload_n hx hb dX4_pointAt_36 rfl (lv_at hl 2 rfl) ?_
          refine lv_iadd hx hb dX4_pointAt_37 ?_
          obtain ⟨h_6, hf⟩ := ck hf
          refine va_iald hx hb hE.1 hP 4 0 rfl rfl (vin h_6) dX4_pointAt_38 ?_
          exact p_iret (v := (S_pt σ (Int32.toNatClampNeg ((p0 * (61 : Int32)) + p1)))) hx hb hr hlocks (Option.some.inj hf) dX4_pointAt_39
        · have hf := iq c_5 hf
          refine lv_iconst (v := (-1 : Int32)) hx hb dX4_pointAt_26 (by decide) ?_
          exact p_iret (v := (-1 : Int32)) hx hb hr hlocks (Option.some.inj hf) dX4_pointAt_27

def fX4_directionAt (σ : Sh) (p0 p1 : Int32) : Option (Int32) := (if p0 < 0 then (some (-1 : Int32)) else (if (S_n σ) ≤ p0 then (some (-1 : Int32)) else (if p1 < 0 then (some (-1 : Int32)) else (if inR p0 8 then (if p1 < (S_sc σ (Int32.toNatClampNeg p0)) then (if inR (((p0 * (61 : Int32)) + p1) + (1 : Int32)) 488 then (if inR ((p0 * (61 : Int32)) + p1) 488 then (if ((S_pt σ (Int32.toNatClampNeg (((p0 * (61 : Int32)) + p1) + (1 : Int32)))) - (S_pt σ (Int32.toNatClampNeg ((p0 * (61 : Int32)) + p1)))) = (-25 : Int32) then (some (5 : Int32)) else (if ((S_pt σ (Int32.toNatClampNeg (((p0 * (61 : Int32)) + p1) + (1 : Int32)))) - (S_pt σ (Int32.toNatClampNeg ((p0 * (61 : Int32)) + p1)))) = (-24 : Int32) then (some (6 : Int32)) else (if ((S_pt σ (Int32.toNatClampNeg (((p0 * (61 : Int32)) + p1) + (1 : Int32)))) - (S_pt σ (Int32.toNatClampNeg ((p0 * (61 : Int32)) + p1)))) = (-1 : Int32) then (some (4 : Int32)) else (if ((S_pt σ (Int32.toNatClampNeg (((p0 * (61 : Int32)) + p1) + (1 : Int32)))) - (S_pt σ (Int32.toNatClampNeg ((p0 * (61 : Int32)) + p1)))) = (1 : Int32) then (some (0 : Int32)) else (if ((S_pt σ (Int32.toNatClampNeg (((p0 * (61 : Int32)) + p1) + (1 : Int32)))) - (S_pt σ (Int32.toNatClampNeg ((p0 * (61 : Int32)) + p1)))) = (23 : Int32) then (some (3 : Int32)) else (if ((S_pt σ (Int32.toNatClampNeg (((p0 * (61 : Int32)) + p1) + (1 : Int32)))) - (S_pt σ (Int32.toNatClampNeg ((p0 * (61 : Int32)) + p1)))) = (24 : Int32) then (some (2 : Int32)) else (if ((S_pt σ (Int32.toNatClampNeg (((p0 * (61 : Int32)) + p1) + (1 : Int32)))) - (S_pt σ (Int32.toNatClampNeg ((p0 * (61 : Int32)) + p1)))) = (25 : Int32) then (some (1 : Int32)) else (some (7 : Int32))))))))) else none) else none) else (some (-1 : Int32))) else none))))
abbrev rmX4_directionAt : Room := { frames := 0, cells := 0, slots := 0, locals := 0 }
theorem hdX4_directionAt : yX4_directionAt.cls = RX4 ∧ yX4_directionAt.cls ≠ "java/lang/invoke/MethodHandle" ∧ yX4_directionAt.cls ≠ "java/lang/invoke/VarHandle" ∧ (parseMethodDescriptor yX4_directionAt.desc).map (fun d => d.parameters.length) = some 2 := by decide +kernel
theorem fiX4_directionAt_X4 : ∀ w ∈ wsX40, w ∈ wsX4_directionAt := by decide +kernel
theorem flX4_directionAt_28 : (.fieldLink RX4 28 "ContourLabels$Sheet" "count" "I" : Cond) ∈ wsX4_directionAt := by decide +kernel
theorem flX4_directionAt_19 : (.fieldLink RX4 19 "ContourLabels$Sheet" "stepCounts" "[I" : Cond) ∈ wsX4_directionAt := by decide +kernel
theorem flX4_directionAt_25 : (.fieldLink RX4 25 "ContourLabels$Sheet" "points" "[I" : Cond) ∈ wsX4_directionAt := by decide +kernel
set_option maxHeartbeats 4000000 in
set_option maxRecDepth 100000 in
theorem cX4_directionAt_ok (l : Launch) (g : Gg) (h a1 a2 a3 a4 : Nat) (σ : Sh) (p0 p1 : Int32) {r : Int32} (hf : fX4_directionAt σ p0 p1 = some r) : Met l yX4_directionAt wsX4_directionAt rmX4_directionAt (va_Pc [.ref h, .int p0, .int p1] (PP g (wS g h a1 a2 a3 a4 σ))) (vp_Si (fun r' => r' = r)) 0 0 (fun _ => False) := by
  refine Met.ofW (cc := cX4_directionAt) (maxL := 4) (ret := (some .int)) (by decide) rfl ?_
  intro p e s m args below meth c s₁ B hml hv
  obtain ⟨rfl, hP, hE, hZ⟩ := hv
  have hx := B.exec
  have hb := B.bytes
  have hr := B.returns
  have hts := atoms_spec (ws := wsX4_directionAt) B.pre
  have hown : s.vm.findClass RX4 = some m.cls := findClass_of_methodNamed B.named
  have hlocks := B.notSynchronized
  have hS : va_S (fun _ => False) s.heap s.heap [] := va_S.rf
  have hl := lv_entry ([.ref h, .int p0, .int p1]) (n := 4) (Nat.le_of_ble_eq_true rfl)
  rw [lg_entry_eq]
  generalize (lg_sl ([.ref h, .int p0, .int p1]) ++ List.replicate (4 - (lg_sl ([.ref h, .int p0, .int p1])).length) Slot.unset).toArray = ls at hl ⊢
  have hl : lv_has ls 4 [(0, .ref h), (1, .int p0), (2, .int p1)] := hl
  unfold fX4_directionAt at hf
  refine lv_iload_n hx hb dX4_directionAt_0 rfl (lv_at hl 1 rfl) ?_
  refine lv_if_lt (tgt := 26) hx hb dX4_directionAt_1 (by decide) (fun c_1 => ?_) (fun c_1 => ?_)
  · have hf := ip c_1 hf
    refine lv_iconst (v := (-1 : Int32)) hx hb dX4_directionAt_26 (by decide) ?_
    exact p_iret (v := (-1 : Int32)) hx hb hr hlocks (Option.some.inj hf) dX4_directionAt_27
  · have hf := iq c_1 hf
    refine lv_iload_n hx hb dX4_directionAt_4 rfl (lv_at hl 1 rfl) ?_
    refine lv_aload_n hx hb dX4_directionAt_5 rfl (lv_at hl 0 rfl) ?_
    refine va_get (v := .int (S_n σ)) (C := RX4) (T := TX4) (N := 6) hx hb hts fiX4_directionAt_X4 hown hE.1 hP 0 rfl rfl 0 (by decide) (hts _ flX4_directionAt_28) (fun _ h9 => h9) rfl dX4_directionAt_6 ?_
    refine lv_icmp_ge (tgt := 26) hx hb dX4_directionAt_9 (by decide) (fun c_2 => ?_) (fun c_2 => ?_)
    · have hf := ip c_2 hf
      refine lv_iconst (v := (-1 : Int32)) hx hb dX4_directionAt_26 (by decide) ?_
      exact p_iret (v := (-1 : Int32)) hx hb hr hlocks (Option.some.inj hf) dX4_directionAt_27
    · have hf := iq c_2 hf
      refine lv_iload_n hx hb dX4_directionAt_12 rfl (lv_at hl 2 rfl) ?_
      refine lv_if_lt (tgt := 26) hx hb dX4_directionAt_13 (by decide) (fun c_3 => ?_) (fun c_3 => ?_)
      · have hf := ip c_3 hf
        refine lv_iconst (v := (-1 : Int32)) hx hb dX4_directionAt_26 (by decide) ?_
        exact p_iret (v := (-1 : Int32)) hx hb hr hlocks (Option.some.inj hf) dX4_directionAt_27
      · have hf := iq c_3 hf
        refine lv_iload_n hx hb dX4_directionAt_16 rfl (lv_at hl 2 rfl) ?_
        refine lv_aload_n hx hb dX4_directionAt_17 rfl (lv_at hl 0 rfl) ?_
        refine va_get (v := .ref a2) (C := RX4) (T := TX4) (N := 6) hx hb hts fiX4_directionAt_X4 hown hE.1 hP 0 rfl rfl 3 (by decide) (hts _ flX4_directionAt_19) (fun _ h9 => h9) rfl dX4_directionAt_18 ?_
        refine lv_iload_n hx hb dX4_directionAt_21 rfl (lv_at hl 1 rfl) ?_
        obtain ⟨h_4, hf⟩ := ck hf
        refine va_iald hx hb hE.1 hP 2 0 rfl rfl (vin h_4) dX4_directionAt_22 ?_
        refine lv_icmp_lt (tgt := 28) hx hb dX4_directionAt_23 (by decide) (fun c_5 => ?_) (fun c_5 => ?_)
        · have hf := ip c_5 hf
          refine lv_iload_n hx hb dX4_directionAt_28 rfl (lv_at hl 1 rfl) ?_
          refine lv_bipush (v := (61 : Int32)) hx hb dX4_directionAt_29 (by decide) ?_
          refine lv_imul hx hb dX4_directionAt_31 ?_
          refine lv_iload_n hx hb dX4_directionAt_32 rfl (lv_at hl 2 rfl) ?_
          refine lv_iadd hx hb dX4_directionAt_33 ?_
          refine lv_istore_n (lv' := [(3, .int ((p0 * (61 : Int32)) + p1)), (0, .ref h), (1, .int p0), (2, .int p1)]) hx hb dX4_directionAt_34 rfl hl (by decide) rfl (fun ls hl => ?_)
          refine lv_aload_n hx hb dX4_directionAt_35 rfl (lv_at hl 1 rfl) ?_
          refine va_get (v := .ref a4) (C := RX4) (T := TX4) (N := 6) hx hb hts fiX4_directionAt_X4 hown hE.1 hP 0 rfl rfl 5 (by decide) (hts _ flX4_directionAt_25) (fun _ h9 => h9) rfl dX4_directionAt_36 ?_
          refine lv_iload_n hx hb dX4_directionAt_39 rfl (lv_at hl 0 rfl) ?_
          refine lv_iconst (v := (1 : Int32)) hx hb dX4_directionAt_40 (by decide) ?_
          refine lv_iadd hx hb dX4_directionAt_41 ?_
          obtain ⟨h_6, hf⟩ := ck hf
          refine va_iald hx hb hE.1 hP 4 0 rfl rfl (vin h_6) dX4_directionAt_42 ?_
          refine lv_aload_n hx hb dX4_directionAt_43 rfl (lv_at hl 1 rfl) ?_
          refine va_get (v := .ref a4) (C := RX4) (T := TX4) (N := 6) hx hb hts fiX4_directionAt_X4 hown hE.1 hP 0 rfl rfl 5 (by decide) (hts _ flX4_directionAt_25) (fun _ h9 => h9) rfl dX4_directionAt_44 ?_
          refine lv_iload_n hx hb dX4_directionAt_47 rfl (lv_at hl 0 rfl) ?_
          obtain ⟨h_7, hf⟩ := ck hf
          refine va_iald hx hb hE.1 hP 4 0 rfl rfl (vin h_7) dX4_directionAt_48 ?_
          refine lv_isub hx hb dX4_directionAt_49 ?_
          by_cases s_8 : ((S_pt σ (Int32.toNatClampNeg (((p0 * (61 : Int32)) + p1) + (1 : Int32)))) - (S_pt σ (Int32.toNatClampNeg ((p0 * (61 : Int32)) + p1)))) = (-25 : Int32)
          · have hf := ip s_8 hf
            refine lv_lookup (off := 76) (tgt := 126) hx hb dX4_directionAt_50 (by decide +kernel) (by rw [s_8]; rfl) (by decide) ?_
            refine lv_iconst (v := (5 : Int32)) hx hb dX4_directionAt_126 (by decide) ?_
            exact p_iret (v := (5 : Int32)) hx hb hr hlocks (Option.some.inj hf) dX4_directionAt_127
          · have hf := iq s_8 hf
            by_cases s_9 : ((S_pt σ (Int32.toNatClampNeg (((p0 * (61 : Int32)) + p1) + (1 : Int32)))) - (S_pt σ (Int32.toNatClampNeg ((p0 * (61 : Int32)) + p1)))) = (-24 : Int32)
            · have hf := ip s_9 hf
              refine lv_lookup (off := 78) (tgt := 128) hx hb dX4_directionAt_50 (by decide +kernel) (by rw [s_9]; rfl) (by decide) ?_
              refine lv_bipush (v := (6 : Int32)) hx hb dX4_directionAt_128 (by decide) ?_
              exact p_iret (v := (6 : Int32)) hx hb hr hlocks (Option.some.inj hf) dX4_directionAt_130
            · have hf := iq s_9 hf
              by_cases s_10 : ((S_pt σ (Int32.toNatClampNeg (((p0 * (61 : Int32)) + p1) + (1 : Int32)))) - (S_pt σ (Int32.toNatClampNeg ((p0 * (61 : Int32)) + p1)))) = (-1 : Int32)
              · have hf := ip s_10 hf
                refine lv_lookup (off := 74) (tgt := 124) hx hb dX4_directionAt_50 (by decide +kernel) (by rw [s_10]; rfl) (by decide) ?_
                refine lv_iconst (v := (4 : Int32)) hx hb dX4_directionAt_124 (by decide) ?_
                exact p_iret (v := (4 : Int32)) hx hb hr hlocks (Option.some.inj hf) dX4_directionAt_125
              · have hf := iq s_10 hf
                by_cases s_11 : ((S_pt σ (Int32.toNatClampNeg (((p0 * (61 : Int32)) + p1) + (1 : Int32)))) - (S_pt σ (Int32.toNatClampNeg ((p0 * (61 : Int32)) + p1)))) = (1 : Int32)
                · have hf := ip s_11 hf
                  refine lv_lookup (off := 66) (tgt := 116) hx hb dX4_directionAt_50 (by decide +kernel) (by rw [s_11]; rfl) (by decide) ?_
                  refine lv_iconst (v := (0 : Int32)) hx hb dX4_directionAt_116 (by decide) ?_
                  exact p_iret (v := (0 : Int32)) hx hb hr hlocks (Option.some.inj hf) dX4_directionAt_117
                · have hf := iq s_11 hf
                  by_cases s_12 : ((S_pt σ (Int32.toNatClampNeg (((p0 * (61 : Int32)) + p1) + (1 : Int32)))) - (S_pt σ (Int32.toNatClampNeg ((p0 * (61 : Int32)) + p1)))) = (23 : Int32)
                  · have hf := ip s_12 hf
                    refine lv_lookup (off := 72) (tgt := 122) hx hb dX4_directionAt_50 (by decide +kernel) (by rw [s_12]; rfl) (by decide) ?_
                    refine lv_iconst (v := (3 : Int32)) hx hb dX4_directionAt_122 (by decide) ?_
                    exact p_iret (v := (3 : Int32)) hx hb hr hlocks (Option.some.inj hf) dX4_directionAt_123
                  · have hf := iq s_12 hf
                    by_cases s_13 : ((S_pt σ (Int32.toNatClampNeg (((p0 * (61 : Int32)) + p1) + (1 : Int32)))) - (S_pt σ (Int32.toNatClampNeg ((p0 * (61 : Int32)) + p1)))) = (24 : Int32)
                    · have hf := ip s_13 hf
                      refine lv_lookup (off := 70) (tgt := 120) hx hb dX4_directionAt_50 (by decide +kernel) (by rw [s_13]; rfl) (by decide) ?_
                      refine lv_iconst (v := (2 : Int32)) hx hb dX4_directionAt_120 (by decide) ?_
                      exact p_iret (v := (2 : Int32)) hx hb hr hlocks (Option.some.inj hf) dX4_directionAt_121
                    · have hf := iq s_13 hf
                      by_cases s_14 : ((S_pt σ (Int32.toNatClampNeg (((p0 * (61 : Int32)) + p1) + (1 : Int32)))) - (S_pt σ (Int32.toNatClampNeg ((p0 * (61 : Int32)) + p1)))) = (25 : Int32)
                      · have hf := ip s_14 hf
                        refine lv_lookup (off := 68) (tgt := 118) hx hb dX4_directionAt_50 (by decide +kernel) (by rw [s_14]; rfl) (by decide) ?_
                        refine lv_iconst (v := (1 : Int32)) hx hb dX4_directionAt_118 (by decide) ?_
                        exact p_iret (v := (1 : Int32)) hx hb hr hlocks (Option.some.inj hf) dX4_directionAt_119
                      · have hf := iq s_14 hf
                        refine lv_lookup (off := 81) (tgt := 131) hx hb dX4_directionAt_50 (by decide +kernel) ?_ (by decide) ?_
                        · show Op.lookupswitch.offset [(-25, 76), (-24, 78), (-1, 74), (1, 66), (23, 72), (24, 70), (25, 68)] _ _ = _
                          rw [lv_osw s_8 (by decide), lv_osw s_9 (by decide), lv_osw s_10 (by decide), lv_osw s_11 (by decide), lv_osw s_12 (by decide), lv_osw s_13 (by decide), lv_osw s_14 (by decide)]; rfl
                        refine lv_bipush (v := (7 : Int32)) hx hb dX4_directionAt_131 (by decide) ?_
                        exact p_iret (v := (7 : Int32)) hx hb hr hlocks (Option.some.inj hf) dX4_directionAt_133
        · have hf := iq c_5 hf
          refine lv_iconst (v := (-1 : Int32)) hx hb dX4_directionAt_26 (by decide) ?_
          exact p_iret (v := (-1 : Int32)) hx hb hr hlocks (Option.some.inj hf) dX4_directionAt_27

def fX4_isOn_9 (σ : Sh) (p0 p1 : Int32) (v3_9 : Int32) : Nat → Int32 → Option (Bool)
  | 0, _ => none
  | n + 1, v4_9 => (if v3_9 < v4_9 then (some false) else ((fX4_pointAt σ p0 v4_9).bind fun r_2 => (if r_2 = p1 then (some true) else fX4_isOn_9 σ p0 p1 v3_9 n (v4_9 + 1))))
def fX4_isOn (σ : Sh) (p0 p1 : Int32) : Option (Bool) := ((fX4_stepCount σ p0).bind fun r_4 => fX4_isOn_9 σ p0 p1 r_4 FU (0 : Int32))
abbrev rmX4_isOn : Room := { frames := 1, cells := 0, slots := 0, locals := 22 }
theorem hdX4_isOn : yX4_isOn.cls = RX4 ∧ yX4_isOn.cls ≠ "java/lang/invoke/MethodHandle" ∧ yX4_isOn.cls ≠ "java/lang/invoke/VarHandle" ∧ (parseMethodDescriptor yX4_isOn.desc).map (fun d => d.parameters.length) = some 2 := by decide +kernel
set_option maxHeartbeats 4000000 in
set_option maxRecDepth 100000 in
theorem cX4_isOn_ok (l : Launch) (g : Gg) (h a1 a2 a3 a4 : Nat) (σ : Sh) (p0 p1 : Int32) {r : Bool} (hf : fX4_isOn σ p0 p1 = some r) : Met l yX4_isOn wsX4_isOn rmX4_isOn (va_Pc [.ref h, .int p0, .int p1] (PP g (wS g h a1 a2 a3 a4 σ))) (vp_Si (fun r' => r' = b2i r)) 0 0 (fun _ => False) := by
  refine Met.ofW (cc := cX4_isOn) (maxL := 5) (ret := (some .boolean)) (by decide) rfl ?_
  intro p e s m args below meth c s₁ B hml hv
  obtain ⟨rfl, hP, hE, hZ⟩ := hv
  have hx := B.exec
  have hb := B.bytes
  have hr := B.returns
  have hts := atoms_spec (ws := wsX4_isOn) B.pre
  have hown : s.vm.findClass RX4 = some m.cls := findClass_of_methodNamed B.named
  have hlocks := B.notSynchronized
  have hS : va_S (fun _ => False) s.heap s.heap [] := va_S.rf
  have hl := lv_entry ([.ref h, .int p0, .int p1]) (n := 5) (Nat.le_of_ble_eq_true rfl)
  rw [lg_entry_eq]
  generalize (lg_sl ([.ref h, .int p0, .int p1]) ++ List.replicate (5 - (lg_sl ([.ref h, .int p0, .int p1])).length) Slot.unset).toArray = ls at hl ⊢
  have hl : lv_has ls 5 [(0, .ref h), (1, .int p0), (2, .int p1)] := hl
  have hB9 : ∀ (v3_9 : Int32) (n9 : Nat) (v4_9 : Int32) (ls : Array Slot), lv_has ls 5 [(0, .ref h), (1, .int p0), (2, .int p1), (3, .int v3_9), (4, .int v4_9)] → fX4_isOn_9 σ p0 p1 v3_9 n9 v4_9 = some r → W p l e (headSpec wsX4_isOn rmX4_isOn).room s m ([.ref h, .int p0, .int p1] : List Value).toArray below meth c s.heap [] 0 0 (MQ below (vp_Si (fun r' => r' = b2i r)) ([.ref h, .int p0, .int p1] : List Value).toArray s 0 0 (fun _ => False)) (F0 m 9 ls []) := by
    intro v3_9 n9
    induction n9 with
    | zero => intro v4_9 ls hl hf; exact nomatch (show (none : Option (Bool)) = some _ from hf)
    | succ n9 ih9 =>
      intro v4_9 ls hl hf
      rw [fX4_isOn_9] at hf
      refine lv_iload hx hb dX4_isOn_9 (lv_at hl 4 rfl) ?_
      refine lv_iload_n hx hb dX4_isOn_11 rfl (lv_at hl 3 rfl) ?_
      refine lv_icmp_gt (tgt := 34) hx hb dX4_isOn_12 (by decide) (fun c_1 => ?_) (fun c_1 => ?_)
      · have hf := ip c_1 hf
        refine lv_iconst (v := (0 : Int32)) hx hb dX4_isOn_34 (by decide) ?_
        exact p_zret (v := false) hx hb hr hlocks (Option.some.inj hf) dX4_isOn_35
      · have hf := iq c_1 hf
        refine lv_aload_n hx hb dX4_isOn_15 rfl (lv_at hl 0 rfl) ?_
        refine lv_iload_n hx hb dX4_isOn_16 rfl (lv_at hl 1 rfl) ?_
        refine lv_iload hx hb dX4_isOn_17 (lv_at hl 4 rfl) ?_
        obtain ⟨r_2, e_2, hf⟩ := bo hf
        refine pcallV (W0 := (wS g h a1 a2 a3 a4 σ)) (As := [.int p0, .int v4_9]) (rest := []) [0, 1, 2, 3, 4] 3 0 ⟨hx, hb, hml, hown, hts⟩ hP hE hZ hS (cX4_pointAt_ok l g h a1 a2 a3 a4 σ p0 v4_9 e_2) (cwV 2 hts gX4_isOn_X4_pointAt rfl rfl rfl hdX4_pointAt ⟨(Nat.le_of_ble_eq_true rfl), (Nat.le_of_ble_eq_true rfl)⟩) rfl rfl rfl rfl rfl hl.1 rfl (Nat.le_of_ble_eq_true rfl) ⟨(Nat.le_of_ble_eq_true rfl), (Nat.le_of_ble_eq_true rfl)⟩ dX4_isOn_19 ?_
        refine lv_iload_n hx hb dX4_isOn_22 rfl (lv_at hl 2 rfl) ?_
        refine lv_icmp_ne (tgt := 28) hx hb dX4_isOn_23 (by decide) (fun c_3 => ?_) (fun c_3 => ?_)
        · have hf := iq c_3 hf
          refine lv_iinc (v := (v4_9 + 1)) (lv' := [(4, .int (v4_9 + 1)), (0, .ref h), (1, .int p0), (2, .int p1), (3, .int v3_9)]) hx hb dX4_isOn_28 hl (k := 4) rfl rfl (by decide) rfl (fun ls hl => ?_)
          refine lv_goto (tgt := 9) hx hb dX4_isOn_31 (by decide) ?_
          exact ih9 (v4_9 + 1) ls (lv_sub hl [1, 2, 3, 4, 0] rfl) hf
        · have hf := ip c_3 hf
          refine lv_iconst (v := (1 : Int32)) hx hb dX4_isOn_26 (by decide) ?_
          exact p_zret (v := true) hx hb hr hlocks (Option.some.inj hf) dX4_isOn_27
  unfold fX4_isOn at hf
  refine lv_aload_n hx hb dX4_isOn_0 rfl (lv_at hl 0 rfl) ?_
  refine lv_iload_n hx hb dX4_isOn_1 rfl (lv_at hl 1 rfl) ?_
  obtain ⟨r_4, e_4, hf⟩ := bo hf
  refine pcallV (W0 := (wS g h a1 a2 a3 a4 σ)) (As := [.int p0]) (rest := []) [0, 1, 2, 3, 4] 3 0 ⟨hx, hb, hml, hown, hts⟩ hP hE hZ hS (cX4_stepCount_ok l g h a1 a2 a3 a4 σ p0 e_4) (cwV 1 hts gX4_isOn_X4_stepCount rfl rfl rfl hdX4_stepCount ⟨(Nat.le_of_ble_eq_true rfl), (Nat.le_of_ble_eq_true rfl)⟩) rfl rfl rfl rfl rfl hl.1 rfl (Nat.le_of_ble_eq_true rfl) ⟨(Nat.le_of_ble_eq_true rfl), (Nat.le_of_ble_eq_true rfl)⟩ dX4_isOn_2 ?_
  refine lv_istore_n (lv' := [(3, .int r_4), (0, .ref h), (1, .int p0), (2, .int p1)]) hx hb dX4_isOn_5 rfl hl (by decide) rfl (fun ls hl => ?_)
  refine lv_iconst (v := (0 : Int32)) hx hb dX4_isOn_6 (by decide) ?_
  refine lv_istore (lv' := [(4, .int (0 : Int32)), (3, .int r_4), (0, .ref h), (1, .int p0), (2, .int p1)]) hx hb dX4_isOn_7 hl (by decide) rfl (fun ls hl => ?_)
  exact hB9 r_4 FU (0 : Int32) ls (lv_sub hl [2, 3, 4, 1, 0] rfl) hf

def fX4_lineOn_2 (σ : Sh) (p0 : Int32) : Nat → Int32 → Option (Int32)
  | 0, _ => none
  | n + 1, v2_2 => (if (S_n σ) ≤ v2_2 then (some (-1 : Int32)) else ((fX4_isOn σ v2_2 p0).bind fun r_2 => (if r_2 = true then (some v2_2) else fX4_lineOn_2 σ p0 n (v2_2 + 1))))
def fX4_lineOn (σ : Sh) (p0 : Int32) : Option (Int32) := fX4_lineOn_2 σ p0 FU (0 : Int32)
abbrev rmX4_lineOn : Room := { frames := 2, cells := 0, slots := 0, locals := 46 }
theorem hdX4_lineOn : yX4_lineOn.cls = RX4 ∧ yX4_lineOn.cls ≠ "java/lang/invoke/MethodHandle" ∧ yX4_lineOn.cls ≠ "java/lang/invoke/VarHandle" ∧ (parseMethodDescriptor yX4_lineOn.desc).map (fun d => d.parameters.length) = some 1 := by decide +kernel
theorem fiX4_lineOn_X4 : ∀ w ∈ wsX40, w ∈ wsX4_lineOn := by decide +kernel
theorem flX4_lineOn_28 : (.fieldLink RX4 28 "ContourLabels$Sheet" "count" "I" : Cond) ∈ wsX4_lineOn := by decide +kernel
set_option maxHeartbeats 4000000 in
set_option maxRecDepth 100000 in
theorem cX4_lineOn_ok (l : Launch) (g : Gg) (h a1 a2 a3 a4 : Nat) (σ : Sh) (p0 : Int32) {r : Int32} (hf : fX4_lineOn σ p0 = some r) : Met l yX4_lineOn wsX4_lineOn rmX4_lineOn (va_Pc [.ref h, .int p0] (PP g (wS g h a1 a2 a3 a4 σ))) (vp_Si (fun r' => r' = r)) 0 0 (fun _ => False) := by
  refine Met.ofW (cc := cX4_lineOn) (maxL := 3) (ret := (some .int)) (by decide) rfl ?_
  intro p e s m args below meth c s₁ B hml hv
  obtain ⟨rfl, hP, hE, hZ⟩ := hv
  have hx := B.exec
  have hb := B.bytes
  have hr := B.returns
  have hts := atoms_spec (ws := wsX4_lineOn) B.pre
  have hown : s.vm.findClass RX4 = some m.cls := findClass_of_methodNamed B.named
  have hlocks := B.notSynchronized
  have hS : va_S (fun _ => False) s.heap s.heap [] := va_S.rf
  have hl := lv_entry ([.ref h, .int p0]) (n := 3) (Nat.le_of_ble_eq_true rfl)
  rw [lg_entry_eq]
  generalize (lg_sl ([.ref h, .int p0]) ++ List.replicate (3 - (lg_sl ([.ref h, .int p0])).length) Slot.unset).toArray = ls at hl ⊢
  have hl : lv_has ls 3 [(0, .ref h), (1, .int p0)] := hl
  have hB2 : ∀ (n2 : Nat) (v2_2 : Int32) (ls : Array Slot), lv_has ls 3 [(0, .ref h), (1, .int p0), (2, .int v2_2)] → fX4_lineOn_2 σ p0 n2 v2_2 = some r → W p l e (headSpec wsX4_lineOn rmX4_lineOn).room s m ([.ref h, .int p0] : List Value).toArray below meth c s.heap [] 0 0 (MQ below (vp_Si (fun r' => r' = r)) ([.ref h, .int p0] : List Value).toArray s 0 0 (fun _ => False)) (F0 m 2 ls []) := by
    intro  n2
    induction n2 with
    | zero => intro v2_2 ls hl hf; exact nomatch (show (none : Option (Int32)) = some _ from hf)
    | succ n2 ih2 =>
      intro v2_2 ls hl hf
      rw [fX4_lineOn_2] at hf
      refine lv_iload_n hx hb dX4_lineOn_2 rfl (lv_at hl 2 rfl) ?_
      refine lv_aload_n hx hb dX4_lineOn_3 rfl (lv_at hl 0 rfl) ?_
      refine va_get (v := .int (S_n σ)) (C := RX4) (T := TX4) (N := 6) hx hb hts fiX4_lineOn_X4 hown hE.1 hP 0 rfl rfl 0 (by decide) (hts _ flX4_lineOn_28) (fun _ h9 => h9) rfl dX4_lineOn_4 ?_
      refine lv_icmp_ge (tgt := 27) hx hb dX4_lineOn_7 (by decide) (fun c_1 => ?_) (fun c_1 => ?_)
      · have hf := ip c_1 hf
        refine lv_iconst (v := (-1 : Int32)) hx hb dX4_lineOn_27 (by decide) ?_
        exact p_iret (v := (-1 : Int32)) hx hb hr hlocks (Option.some.inj hf) dX4_lineOn_28
      · have hf := iq c_1 hf
        refine lv_aload_n hx hb dX4_lineOn_10 rfl (lv_at hl 0 rfl) ?_
        refine lv_iload_n hx hb dX4_lineOn_11 rfl (lv_at hl 2 rfl) ?_
        refine lv_iload_n hx hb dX4_lineOn_12 rfl (lv_at hl 1 rfl) ?_
        obtain ⟨r_2, e_2, hf⟩ := bo hf
        refine pcallV (W0 := (wS g h a1 a2 a3 a4 σ)) (As := [.int v2_2, .int p0]) (rest := []) [0, 1, 2, 3, 4] 3 0 ⟨hx, hb, hml, hown, hts⟩ hP hE hZ hS (cX4_isOn_ok l g h a1 a2 a3 a4 σ v2_2 p0 e_2) (cwV 2 hts gX4_lineOn_X4_isOn rfl rfl rfl hdX4_isOn ⟨(Nat.le_of_ble_eq_true rfl), (Nat.le_of_ble_eq_true rfl)⟩) rfl rfl rfl rfl rfl hl.1 rfl (Nat.le_of_ble_eq_true rfl) ⟨(Nat.le_of_ble_eq_true rfl), (Nat.le_of_ble_eq_true rfl)⟩ dX4_lineOn_13 ?_
        refine lv_beq (tgt := 21) hx hb dX4_lineOn_16 (by decide) (fun c_3 => ?_) (fun c_3 => ?_)
        · have hf := iq c_3 hf
          refine lv_iinc (v := (v2_2 + 1)) (lv' := [(2, .int (v2_2 + 1)), (0, .ref h), (1, .int p0)]) hx hb dX4_lineOn_21 hl (k := 2) rfl rfl (by decide) rfl (fun ls hl => ?_)
          refine lv_goto (tgt := 2) hx hb dX4_lineOn_24 (by decide) ?_
          exact ih2 (v2_2 + 1) ls (lv_sub hl [1, 2, 0] rfl) hf
        · have hf := ip c_3 hf
          refine lv_iload_n hx hb dX4_lineOn_19 rfl (lv_at hl 2 rfl) ?_
          exact p_iret (v := v2_2) hx hb hr hlocks (Option.some.inj hf) dX4_lineOn_20
  unfold fX4_lineOn at hf
  refine lv_iconst (v := (0 : Int32)) hx hb dX4_lineOn_0 (by decide) ?_
  refine lv_istore_n (lv' := [(2, .int (0 : Int32)), (0, .ref h), (1, .int p0)]) hx hb dX4_lineOn_1 rfl hl (by decide) rfl (fun ls hl => ?_)
  exact hB2 FU (0 : Int32) ls (lv_sub hl [1, 2, 0] rfl) hf

def fX4_isRing (σ : Sh) (p0 : Int32) : Option (Bool) := (if p0 < 0 then (some false) else (if (S_n σ) ≤ p0 then (some false) else (if inR p0 8 then (if (4 : Int32) ≤ (S_sc σ (Int32.toNatClampNeg p0)) then (if inR ((p0 * (61 : Int32)) + (S_sc σ (Int32.toNatClampNeg p0))) 488 then (if inR (p0 * (61 : Int32)) 488 then (if (S_pt σ (Int32.toNatClampNeg ((p0 * (61 : Int32)) + (S_sc σ (Int32.toNatClampNeg p0))))) = (S_pt σ (Int32.toNatClampNeg (p0 * (61 : Int32)))) then (some true) else (some false)) else none) else none) else (some false)) else none)))
abbrev rmX4_isRing : Room := { frames := 0, cells := 0, slots := 0, locals := 0 }
theorem hdX4_isRing : yX4_isRing.cls = RX4 ∧ yX4_isRing.cls ≠ "java/lang/invoke/MethodHandle" ∧ yX4_isRing.cls ≠ "java/lang/invoke/VarHandle" ∧ (parseMethodDescriptor yX4_isRing.desc).map (fun d => d.parameters.length) = some 1 := by decide +kernel
theorem fiX4_isRing_X4 : ∀ w ∈ wsX40, w ∈ wsX4_isRing := by decide +kernel
theorem flX4_isRing_28 : (.fieldLink RX4 28 "ContourLabels$Sheet" "count" "I" : Cond) ∈ wsX4_isRing := by decide +kernel
theorem flX4_isRing_19 : (.fieldLink RX4 19 "ContourLabels$Sheet" "stepCounts" "[I" : Cond) ∈ wsX4_isRing := by decide +kernel
theorem flX4_isRing_25 : (.fieldLink RX4 25 "ContourLabels$Sheet" "points" "[I" : Cond) ∈ wsX4_isRing := by decide +kernel
set_option maxHeartbeats 4000000 in
set_option maxRecDepth 100000 in
theorem cX4_isRing_ok (l : Launch) (g : Gg) (h a1 a2 a3 a4 : Nat) (σ : Sh) (p0 : Int32) {r : Bool} (hf : fX4_isRing σ p0 = some r) : Met l yX4_isRing wsX4_isRing rmX4_isRing (va_Pc [.ref h, .int p0] (PP g (wS g h a1 a2 a3 a4 σ))) (vp_Si (fun r' => r' = b2i r)) 0 0 (fun _ => False) := by
  refine Met.ofW (cc := cX4_isRing) (maxL := 3) (ret := (some .boolean)) (by decide) rfl ?_
  intro p e s m args below meth c s₁ B hml hv
  obtain ⟨rfl, hP, hE, hZ⟩ := hv
  have hx := B.exec
  have hb := B.bytes
  have hr := B.returns
  have hts := atoms_spec (ws := wsX4_isRing) B.pre
  have hown : s.vm.findClass RX4 = some m.cls := findClass_of_methodNamed B.named
  have hlocks := B.notSynchronized
  have hS : va_S (fun _ => False) s.heap s.heap [] := va_S.rf
  have hl := lv_entry ([.ref h, .int p0]) (n := 3) (Nat.le_of_ble_eq_true rfl)
  rw [lg_entry_eq]
  generalize (lg_sl ([.ref h, .int p0]) ++ List.replicate (3 - (lg_sl ([.ref h, .int p0])).length) Slot.unset).toArray = ls at hl ⊢
  have hl : lv_has ls 3 [(0, .ref h), (1, .int p0)] := hl
  unfold fX4_isRing at hf
  refine lv_iload_n hx hb dX4_isRing_0 rfl (lv_at hl 1 rfl) ?_
  refine lv_if_lt (tgt := 22) hx hb dX4_isRing_1 (by decide) (fun c_1 => ?_) (fun c_1 => ?_)
  · have hf := ip c_1 hf
    refine lv_iconst (v := (0 : Int32)) hx hb dX4_isRing_22 (by decide) ?_
    exact p_zret (v := false) hx hb hr hlocks (Option.some.inj hf) dX4_isRing_23
  · have hf := iq c_1 hf
    refine lv_iload_n hx hb dX4_isRing_4 rfl (lv_at hl 1 rfl) ?_
    refine lv_aload_n hx hb dX4_isRing_5 rfl (lv_at hl 0 rfl) ?_
    refine va_get (v := .int (S_n σ)) (C := RX4) (T := TX4) (N := 6) hx hb hts fiX4_isRing_X4 hown hE.1 hP 0 rfl rfl 0 (by decide) (hts _ flX4_isRing_28) (fun _ h9 => h9) rfl dX4_isRing_6 ?_
    refine lv_icmp_ge (tgt := 22) hx hb dX4_isRing_9 (by decide) (fun c_2 => ?_) (fun c_2 => ?_)
    · have hf := ip c_2 hf
      refine lv_iconst (v := (0 : Int32)) hx hb dX4_isRing_22 (by decide) ?_
      exact p_zret (v := false) hx hb hr hlocks (Option.some.inj hf) dX4_isRing_23
    · have hf := iq c_2 hf
      refine lv_aload_n hx hb dX4_isRing_12 rfl (lv_at hl 0 rfl) ?_
      refine va_get (v := .ref a2) (C := RX4) (T := TX4) (N := 6) hx hb hts fiX4_isRing_X4 hown hE.1 hP 0 rfl rfl 3 (by decide) (hts _ flX4_isRing_19) (fun _ h9 => h9) rfl dX4_isRing_13 ?_
      refine lv_iload_n hx hb dX4_isRing_16 rfl (lv_at hl 1 rfl) ?_
      obtain ⟨h_3, hf⟩ := ck hf
      refine va_iald hx hb hE.1 hP 2 0 rfl rfl (vin h_3) dX4_isRing_17 ?_
      refine lv_iconst (v := (4 : Int32)) hx hb dX4_isRing_18 (by decide) ?_
      refine lv_icmp_ge (tgt := 24) hx hb dX4_isRing_19 (by decide) (fun c_4 => ?_) (fun c_4 => ?_)
      · have hf := ip c_4 hf
        refine lv_iload_n hx hb dX4_isRing_24 rfl (lv_at hl 1 rfl) ?_
        refine lv_bipush (v := (61 : Int32)) hx hb dX4_isRing_25 (by decide) ?_
        refine lv_imul hx hb dX4_isRing_27 ?_
        refine lv_istore_n (lv' := [(2, .int (p0 * (61 : Int32))), (0, .ref h), (1, .int p0)]) hx hb dX4_isRing_28 rfl hl (by decide) rfl (fun ls hl => ?_)
        refine lv_aload_n hx hb dX4_isRing_29 rfl (lv_at hl 1 rfl) ?_
        refine va_get (v := .ref a4) (C := RX4) (T := TX4) (N := 6) hx hb hts fiX4_isRing_X4 hown hE.1 hP 0 rfl rfl 5 (by decide) (hts _ flX4_isRing_25) (fun _ h9 => h9) rfl dX4_isRing_30 ?_
        refine lv_iload_n hx hb dX4_isRing_33 rfl (lv_at hl 0 rfl) ?_
        refine lv_aload_n hx hb dX4_isRing_34 rfl (lv_at hl 1 rfl) ?_
        refine va_get (v := .ref a2) (C := RX4) (T := TX4) (N := 6) hx hb hts fiX4_isRing_X4 hown hE.1 hP 0 rfl rfl 3 (by decide) (hts _ flX4_isRing_19) (fun _ h9 => h9) rfl dX4_isRing_35 ?_
        refine lv_iload_n hx hb dX4_isRing_38 rfl (lv_at hl 2 rfl) ?_
        refine va_iald hx hb hE.1 hP 2 0 rfl rfl (vin h_3) dX4_isRing_39 ?_
        refine lv_iadd hx hb dX4_isRing_40 ?_
        obtain ⟨h_5, hf⟩ := ck hf
        refine va_iald hx hb hE.1 hP 4 0 rfl rfl (vin h_5) dX4_isRing_41 ?_
        refine lv_aload_n hx hb dX4_isRing_42 rfl (lv_at hl 1 rfl) ?_
        refine va_get (v := .ref a4) (C := RX4) (T := TX4) (N := 6) hx hb hts fiX4_isRing_X4 hown hE.1 hP 0 rfl rfl 5 (by decide) (hts _ flX4_isRing_25) (fun _ h9 => h9) rfl dX4_isRing_43 ?_
        refine lv_iload_n hx hb dX4_isRing_46 rfl (lv_at hl 0 rfl) ?_
        obtain ⟨h_6, hf⟩ := ck hf
        refine va_iald hx hb hE.1 hP 4 0 rfl rfl (vin h_6) dX4_isRing_47 ?_
        refine lv_icmp_ne (tgt := 55) hx hb dX4_isRing_48 (by decide) (fun c_7 => ?_) (fun c_7 => ?_)
        · have hf := iq c_7 hf
          refine lv_iconst (v := (0 : Int32)) hx hb dX4_isRing_55 (by decide) ?_
          exact p_zret (v := false) hx hb hr hlocks (Option.some.inj hf) dX4_isRing_56
        · have hf := ip c_7 hf
          refine lv_iconst (v := (1 : Int32)) hx hb dX4_isRing_51 (by decide) ?_
          refine lv_goto (tgt := 56) hx hb dX4_isRing_52 (by decide) ?_
          exact p_zret (v := true) hx hb hr hlocks (Option.some.inj hf) dX4_isRing_56
      · have hf := iq c_4 hf
        refine lv_iconst (v := (0 : Int32)) hx hb dX4_isRing_22 (by decide) ?_
        exact p_zret (v := false) hx hb hr hlocks (Option.some.inj hf) dX4_isRing_23

def fX4_hasRoomAt (σ : Sh) (p0 : Int32) : Option (Bool) := (if (8 : Int32) ≤ (S_n σ) then (some false) else ((fX4_lineOn σ p0).bind fun r_2 => (if r_2 = (-1 : Int32) then (some true) else (some false))))
abbrev rmX4_hasRoomAt : Room := { frames := 3, cells := 0, slots := 0, locals := 68 }
theorem hdX4_hasRoomAt : yX4_hasRoomAt.cls = RX4 ∧ yX4_hasRoomAt.cls ≠ "java/lang/invoke/MethodHandle" ∧ yX4_hasRoomAt.cls ≠ "java/lang/invoke/VarHandle" ∧ (parseMethodDescriptor yX4_hasRoomAt.desc).map (fun d => d.parameters.length) = some 1 := by decide +kernel
theorem fiX4_hasRoomAt_X4 : ∀ w ∈ wsX40, w ∈ wsX4_hasRoomAt := by decide +kernel
theorem flX4_hasRoomAt_28 : (.fieldLink RX4 28 "ContourLabels$Sheet" "count" "I" : Cond) ∈ wsX4_hasRoomAt := by decide +kernel
set_option maxHeartbeats 4000000 in
set_option maxRecDepth 100000 in
theorem cX4_hasRoomAt_ok (l : Launch) (g : Gg) (h a1 a2 a3 a4 : Nat) (σ : Sh) (p0 : Int32) {r : Bool} (hf : fX4_hasRoomAt σ p0 = some r) : Met l yX4_hasRoomAt wsX4_hasRoomAt rmX4_hasRoomAt (va_Pc [.ref h, .int p0] (PP g (wS g h a1 a2 a3 a4 σ))) (vp_Si (fun r' => r' = b2i r)) 0 0 (fun _ => False) := by
  refine Met.ofW (cc := cX4_hasRoomAt) (maxL := 2) (ret := (some .boolean)) (by decide) rfl ?_
  intro p e s m args below meth c s₁ B hml hv
  obtain ⟨rfl, hP, hE, hZ⟩ := hv
  have hx := B.exec
  have hb := B.bytes
  have hr := B.returns
  have hts := atoms_spec (ws := wsX4_hasRoomAt) B.pre
  have hown : s.vm.findClass RX4 = some m.cls := findClass_of_methodNamed B.named
  have hlocks := B.notSynchronized
  have hS : va_S (fun _ => False) s.heap s.heap [] := va_S.rf
  have hl := lv_entry ([.ref h, .int p0]) (n := 2) (Nat.le_of_ble_eq_true rfl)
  rw [lg_entry_eq]
  generalize (lg_sl ([.ref h, .int p0]) ++ List.replicate (2 - (lg_sl ([.ref h, .int p0])).length) Slot.unset).toArray = ls at hl ⊢
  have hl : lv_has ls 2 [(0, .ref h), (1, .int p0)] := hl
  unfold fX4_hasRoomAt at hf
  refine lv_aload_n hx hb dX4_hasRoomAt_0 rfl (lv_at hl 0 rfl) ?_
  refine va_get (v := .int (S_n σ)) (C := RX4) (T := TX4) (N := 6) hx hb hts fiX4_hasRoomAt_X4 hown hE.1 hP 0 rfl rfl 0 (by decide) (hts _ flX4_hasRoomAt_28) (fun _ h9 => h9) rfl dX4_hasRoomAt_1 ?_
  refine lv_bipush (v := (8 : Int32)) hx hb dX4_hasRoomAt_4 (by decide) ?_
  refine lv_icmp_ge (tgt := 22) hx hb dX4_hasRoomAt_6 (by decide) (fun c_1 => ?_) (fun c_1 => ?_)
  · have hf := ip c_1 hf
    refine lv_iconst (v := (0 : Int32)) hx hb dX4_hasRoomAt_22 (by decide) ?_
    exact p_zret (v := false) hx hb hr hlocks (Option.some.inj hf) dX4_hasRoomAt_23
  · have hf := iq c_1 hf
    refine lv_aload_n hx hb dX4_hasRoomAt_9 rfl (lv_at hl 0 rfl) ?_
    refine lv_iload_n hx hb dX4_hasRoomAt_10 rfl (lv_at hl 1 rfl) ?_
    obtain ⟨r_2, e_2, hf⟩ := bo hf
    refine pcallV (W0 := (wS g h a1 a2 a3 a4 σ)) (As := [.int p0]) (rest := []) [0, 1, 2, 3, 4] 3 0 ⟨hx, hb, hml, hown, hts⟩ hP hE hZ hS (cX4_lineOn_ok l g h a1 a2 a3 a4 σ p0 e_2) (cwV 1 hts gX4_hasRoomAt_X4_lineOn rfl rfl rfl hdX4_lineOn ⟨(Nat.le_of_ble_eq_true rfl), (Nat.le_of_ble_eq_true rfl)⟩) rfl rfl rfl rfl rfl hl.1 rfl (Nat.le_of_ble_eq_true rfl) ⟨(Nat.le_of_ble_eq_true rfl), (Nat.le_of_ble_eq_true rfl)⟩ dX4_hasRoomAt_11 ?_
    refine lv_iconst (v := (-1 : Int32)) hx hb dX4_hasRoomAt_14 (by decide) ?_
    refine lv_icmp_ne (tgt := 22) hx hb dX4_hasRoomAt_15 (by decide) (fun c_3 => ?_) (fun c_3 => ?_)
    · have hf := iq c_3 hf
      refine lv_iconst (v := (0 : Int32)) hx hb dX4_hasRoomAt_22 (by decide) ?_
      exact p_zret (v := false) hx hb hr hlocks (Option.some.inj hf) dX4_hasRoomAt_23
    · have hf := ip c_3 hf
      refine lv_iconst (v := (1 : Int32)) hx hb dX4_hasRoomAt_18 (by decide) ?_
      refine lv_goto (tgt := 23) hx hb dX4_hasRoomAt_19 (by decide) ?_
      exact p_zret (v := true) hx hb hr hlocks (Option.some.inj hf) dX4_hasRoomAt_23

def fX4_joins_10 (σ : Sh) (p0 p1 p2 : Int32) (v4_10 : Int32) : Nat → Int32 → Option (Bool)
  | 0, _ => none
  | n + 1, v5_10 => (if v4_10 ≤ v5_10 then (some false) else ((fX4_pointAt σ p0 v5_10).bind fun r_2 => ((fX4_pointAt σ p0 (v5_10 + (1 : Int32))).bind fun r_3 => (if r_2 = p1 then (if r_3 = p2 then (some true) else (if r_2 = p2 then (if r_3 = p1 then (some true) else fX4_joins_10 σ p0 p1 p2 v4_10 n (v5_10 + 1)) else fX4_joins_10 σ p0 p1 p2 v4_10 n (v5_10 + 1))) else (if r_2 = p2 then (if r_3 = p1 then (some true) else fX4_joins_10 σ p0 p1 p2 v4_10 n (v5_10 + 1)) else fX4_joins_10 σ p0 p1 p2 v4_10 n (v5_10 + 1))))))
def fX4_joins (σ : Sh) (p0 p1 p2 : Int32) : Option (Bool) := ((fX4_stepCount σ p0).bind fun r_10 => fX4_joins_10 σ p0 p1 p2 r_10 FU (0 : Int32))
abbrev rmX4_joins : Room := { frames := 1, cells := 0, slots := 0, locals := 22 }
theorem hdX4_joins : yX4_joins.cls = RX4 ∧ yX4_joins.cls ≠ "java/lang/invoke/MethodHandle" ∧ yX4_joins.cls ≠ "java/lang/invoke/VarHandle" ∧ (parseMethodDescriptor yX4_joins.desc).map (fun d => d.parameters.length) = some 3 := by decide +kernel
set_option maxHeartbeats 4000000 in
set_option maxRecDepth 100000 in
theorem cX4_joins_ok (l : Launch) (g : Gg) (h a1 a2 a3 a4 : Nat) (σ : Sh) (p0 p1 p2 : Int32) {r : Bool} (hf : fX4_joins σ p0 p1 p2 = some r) : Met l yX4_joins wsX4_joins rmX4_joins (va_Pc [.ref h, .int p0, .int p1, .int p2] (PP g (wS g h a1 a2 a3 a4 σ))) (vp_Si (fun r' => r' = b2i r)) 0 0 (fun _ => False) := by
  refine Met.ofW (cc := cX4_joins) (maxL := 8) (ret := (some .boolean)) (by decide) rfl ?_
  intro p e s m args below meth c s₁ B hml hv
  obtain ⟨rfl, hP, hE, hZ⟩ := hv
  have hx := B.exec
  have hb := B.bytes
  have hr := B.returns
  have hts := atoms_spec (ws := wsX4_joins) B.pre
  have hown : s.vm.findClass RX4 = some m.cls := findClass_of_methodNamed B.named
  have hlocks := B.notSynchronized
  have hS : va_S (fun _ => False) s.heap s.heap [] := va_S.rf
  have hl := lv_entry ([.ref h, .int p0, .int p1, .int p2]) (n := 8) (Nat.le_of_ble_eq_true rfl)
  rw [lg_entry_eq]
  generalize (lg_sl ([.ref h, .int p0, .int p1, .int p2]) ++ List.replicate (8 - (lg_sl ([.ref h, .int p0, .int p1, .int p2])).length) Slot.unset).toArray = ls at hl ⊢
  have hl : lv_has ls 8 [(0, .ref h), (1, .int p0), (2, .int p1), (3, .int p2)] := hl
  have hB10 : ∀ (v4_10 : Int32) (n10 : Nat) (v5_10 : Int32) (ls : Array Slot), lv_has ls 8 [(0, .ref h), (1, .int p0), (2, .int p1), (3, .int p2), (4, .int v4_10), (5, .int v5_10)] → fX4_joins_10 σ p0 p1 p2 v4_10 n10 v5_10 = some r → W p l e (headSpec wsX4_joins rmX4_joins).room s m ([.ref h, .int p0, .int p1, .int p2] : List Value).toArray below meth c s.heap [] 0 0 (MQ below (vp_Si (fun r' => r' = b2i r)) ([.ref h, .int p0, .int p1, .int p2] : List Value).toArray s 0 0 (fun _ => False)) (F0 m 10 ls []) := by
    intro v4_10 n10
    induction n10 with
    | zero => intro v5_10 ls hl hf; exact nomatch (show (none : Option (Bool)) = some _ from hf)
    | succ n10 ih10 =>
      intro v5_10 ls hl hf
      rw [fX4_joins_10] at hf
      refine lv_iload hx hb dX4_joins_10 (lv_at hl 5 rfl) ?_
      refine lv_iload hx hb dX4_joins_12 (lv_at hl 4 rfl) ?_
      refine lv_icmp_ge (tgt := 69) hx hb dX4_joins_14 (by decide) (fun c_1 => ?_) (fun c_1 => ?_)
      · have hf := ip c_1 hf
        refine lv_iconst (v := (0 : Int32)) hx hb dX4_joins_69 (by decide) ?_
        exact p_zret (v := false) hx hb hr hlocks (Option.some.inj hf) dX4_joins_70
      · have hf := iq c_1 hf
        refine lv_aload_n hx hb dX4_joins_17 rfl (lv_at hl 0 rfl) ?_
        refine lv_iload_n hx hb dX4_joins_18 rfl (lv_at hl 1 rfl) ?_
        refine lv_iload hx hb dX4_joins_19 (lv_at hl 5 rfl) ?_
        obtain ⟨r_2, e_2, hf⟩ := bo hf
        refine pcallV (W0 := (wS g h a1 a2 a3 a4 σ)) (As := [.int p0, .int v5_10]) (rest := []) [0, 1, 2, 3, 4] 3 0 ⟨hx, hb, hml, hown, hts⟩ hP hE hZ hS (cX4_pointAt_ok l g h a1 a2 a3 a4 σ p0 v5_10 e_2) (cwV 2 hts gX4_joins_X4_pointAt rfl rfl rfl hdX4_pointAt ⟨(Nat.le_of_ble_eq_true rfl), (Nat.le_of_ble_eq_true rfl)⟩) rfl rfl rfl rfl rfl hl.1 rfl (Nat.le_of_ble_eq_true rfl) ⟨(Nat.le_of_ble_eq_true rfl), (Nat.le_of_ble_eq_true rfl)⟩ dX4_joins_21 ?_
        refine lv_istore (lv' := [(6, .int r_2), (0, .ref h), (1, .int p0), (2, .int p1), (3, .int p2), (4, .int v4_10), (5, .int v5_10)]) hx hb dX4_joins_24 hl (by decide) rfl (fun ls hl => ?_)
        refine lv_aload_n hx hb dX4_joins_26 rfl (lv_at hl 1 rfl) ?_
        refine lv_iload_n hx hb dX4_joins_27 rfl (lv_at hl 2 rfl) ?_
        refine lv_iload hx hb dX4_joins_28 (lv_at hl 6 rfl) ?_
        refine lv_iconst (v := (1 : Int32)) hx hb dX4_joins_30 (by decide) ?_
        refine lv_iadd hx hb dX4_joins_31 ?_
        obtain ⟨r_3, e_3, hf⟩ := bo hf
        refine pcallV (W0 := (wS g h a1 a2 a3 a4 σ)) (As := [.int p0, .int (v5_10 + (1 : Int32))]) (rest := []) [0, 1, 2, 3, 4] 3 0 ⟨hx, hb, hml, hown, hts⟩ hP hE hZ hS (cX4_pointAt_ok l g h a1 a2 a3 a4 σ p0 (v5_10 + (1 : Int32)) e_3) (cwV 2 hts gX4_joins_X4_pointAt rfl rfl rfl hdX4_pointAt ⟨(Nat.le_of_ble_eq_true rfl), (Nat.le_of_ble_eq_true rfl)⟩) rfl rfl rfl rfl rfl hl.1 rfl (Nat.le_of_ble_eq_true rfl) ⟨(Nat.le_of_ble_eq_true rfl), (Nat.le_of_ble_eq_true rfl)⟩ dX4_joins_32 ?_
        refine lv_istore (lv' := [(7, .int r_3), (6, .int r_2), (0, .ref h), (1, .int p0), (2, .int p1), (3, .int p2), (4, .int v4_10), (5, .int v5_10)]) hx hb dX4_joins_35 hl (by decide) rfl (fun ls hl => ?_)
        refine lv_iload hx hb dX4_joins_37 (lv_at hl 1 rfl) ?_
        refine lv_iload_n hx hb dX4_joins_39 rfl (lv_at hl 4 rfl) ?_
        refine lv_icmp_ne (tgt := 49) hx hb dX4_joins_40 (by decide) (fun c_4 => ?_) (fun c_4 => ?_)
        · have hf := iq c_4 hf
          refine lv_iload hx hb dX4_joins_49 (lv_at hl 1 rfl) ?_
          refine lv_iload_n hx hb dX4_joins_51 rfl (lv_at hl 5 rfl) ?_
          refine lv_icmp_ne (tgt := 63) hx hb dX4_joins_52 (by decide) (fun c_5 => ?_) (fun c_5 => ?_)
          · have hf := iq c_5 hf
            refine lv_iinc (v := (v5_10 + 1)) (lv' := [(5, .int (v5_10 + 1)), (7, .int r_3), (6, .int r_2), (0, .ref h), (1, .int p0), (2, .int p1), (3, .int p2), (4, .int v4_10)]) hx hb dX4_joins_63 hl (k := 7) rfl rfl (by decide) rfl (fun ls hl => ?_)
            refine lv_goto (tgt := 10) hx hb dX4_joins_66 (by decide) ?_
            exact ih10 (v5_10 + 1) ls (lv_sub hl [3, 4, 5, 6, 7, 0] rfl) hf
          · have hf := ip c_5 hf
            refine lv_iload hx hb dX4_joins_55 (lv_at hl 0 rfl) ?_
            refine lv_iload_n hx hb dX4_joins_57 rfl (lv_at hl 4 rfl) ?_
            refine lv_icmp_ne (tgt := 63) hx hb dX4_joins_58 (by decide) (fun c_6 => ?_) (fun c_6 => ?_)
            · have hf := iq c_6 hf
              refine lv_iinc (v := (v5_10 + 1)) (lv' := [(5, .int (v5_10 + 1)), (7, .int r_3), (6, .int r_2), (0, .ref h), (1, .int p0), (2, .int p1), (3, .int p2), (4, .int v4_10)]) hx hb dX4_joins_63 hl (k := 7) rfl rfl (by decide) rfl (fun ls hl => ?_)
              refine lv_goto (tgt := 10) hx hb dX4_joins_66 (by decide) ?_
              exact ih10 (v5_10 + 1) ls (lv_sub hl [3, 4, 5, 6, 7, 0] rfl) hf
            · have hf := ip c_6 hf
              refine lv_iconst (v := (1 : Int32)) hx hb dX4_joins_61 (by decide) ?_
              exact p_zret (v := true) hx hb hr hlocks (Option.some.inj hf) dX4_joins_62
        · have hf := ip c_4 hf
          refine lv_iload hx hb dX4_joins_43 (lv_at hl 0 rfl) ?_
          refine lv_iload_n hx hb dX4_joins_45 rfl (lv_at hl 5 rfl) ?_
          refine lv_icmp_eq (tgt := 61) hx hb dX4_joins_46 (by decide) (fun c_7 => ?_) (fun c_7 => ?_)
          · have hf := ip c_7 hf
            refine lv_iconst (v := (1 : Int32)) hx hb dX4_joins_61 (by decide) ?_
            exact p_zret (v := true) hx hb hr hlocks (Option.some.inj hf) dX4_joins_62
          · have hf := iq c_7 hf
            refine lv_iload hx hb dX4_joins_49 (lv_at hl 1 rfl) ?_
            refine lv_iload_n hx hb dX4_joins_51 rfl (lv_at hl 5 rfl) ?_
            refine lv_icmp_ne (tgt := 63) hx hb dX4_joins_52 (by decide) (fun c_8 => ?_) (fun c_8 => ?_)
            · have hf := iq c_8 hf
              refine lv_iinc (v := (v5_10 + 1)) (lv' := [(5, .int (v5_10 + 1)), (7, .int r_3), (6, .int r_2), (0, .ref h), (1, .int p0), (2, .int p1), (3, .int p2), (4, .int v4_10)]) hx hb dX4_joins_63 hl (k := 7) rfl rfl (by decide) rfl (fun ls hl => ?_)
              refine lv_goto (tgt := 10) hx hb dX4_joins_66 (by decide) ?_
              exact ih10 (v5_10 + 1) ls (lv_sub hl [3, 4, 5, 6, 7, 0] rfl) hf
            · have hf := ip c_8 hf
              refine lv_iload hx hb dX4_joins_55 (lv_at hl 0 rfl) ?_
              refine lv_iload_n hx hb dX4_joins_57 rfl (lv_at hl 4 rfl) ?_
              refine lv_icmp_ne (tgt := 63) hx hb dX4_joins_58 (by decide) (fun c_9 => ?_) (fun c_9 => ?_)
              · have hf := iq c_9 hf
                refine lv_iinc (v := (v5_10 + 1)) (lv' := [(5, .int (v5_10 + 1)), (7, .int r_3), (6, .int r_2), (0, .ref h), (1, .int p0), (2, .int p1), (3, .int p2), (4, .int v4_10)]) hx hb dX4_joins_63 hl (k := 7) rfl rfl (by decide) rfl (fun ls hl => ?_)
                refine lv_goto (tgt := 10) hx hb dX4_joins_66 (by decide) ?_
                exact ih10 (v5_10 + 1) ls (lv_sub hl [3, 4, 5, 6, 7, 0] rfl) hf
              · have hf := ip c_9 hf
                refine lv_iconst (v := (1 : Int32)) hx hb dX4_joins_61 (by decide) ?_
                exact p_zret (v := true) hx hb hr hlocks (Option.some.inj hf) dX4_joins_62
  unfold fX4_joins at hf
  refine lv_aload_n hx hb dX4_joins_0 rfl (lv_at hl 0 rfl) ?_
  refine lv_iload_n hx hb dX4_joins_1 rfl (lv_at hl 1 rfl) ?_
  obtain ⟨r_10, e_10, hf⟩ := bo hf
  refine pcallV (W0 := (wS g h a1 a2 a3 a4 σ)) (As := [.int p0]) (rest := []) [0, 1, 2, 3, 4] 3 0 ⟨hx, hb, hml, hown, hts⟩ hP hE hZ hS (cX4_stepCount_ok l g h a1 a2 a3 a4 σ p0 e_10) (cwV 1 hts gX4_joins_X4_stepCount rfl rfl rfl hdX4_stepCount ⟨(Nat.le_of_ble_eq_true rfl), (Nat.le_of_ble_eq_true rfl)⟩) rfl rfl rfl rfl rfl hl.1 rfl (Nat.le_of_ble_eq_true rfl) ⟨(Nat.le_of_ble_eq_true rfl), (Nat.le_of_ble_eq_true rfl)⟩ dX4_joins_2 ?_
  refine lv_istore (lv' := [(4, .int r_10), (0, .ref h), (1, .int p0), (2, .int p1), (3, .int p2)]) hx hb dX4_joins_5 hl (by decide) rfl (fun ls hl => ?_)
  refine lv_iconst (v := (0 : Int32)) hx hb dX4_joins_7 (by decide) ?_
  refine lv_istore (lv' := [(5, .int (0 : Int32)), (4, .int r_10), (0, .ref h), (1, .int p0), (2, .int p1), (3, .int p2)]) hx hb dX4_joins_8 hl (by decide) rfl (fun ls hl => ?_)
  exact hB10 r_10 FU (0 : Int32) ls (lv_sub hl [2, 3, 4, 5, 1, 0] rfl) hf

def fX4_crosses_39 (σ : Sh) (p0 p1 : Int32) (v3_39 : Int32) (v4_39 : Int32) : Nat → Int32 → Option (Bool)
  | 0, _ => none
  | n + 1, v5_39 => (if (S_n σ) ≤ v5_39 then (some false) else ((fX4_joins σ v5_39 v3_39 v4_39).bind fun r_2 => (if r_2 = true then (some true) else fX4_crosses_39 σ p0 p1 v3_39 v4_39 n (v5_39 + 1))))
def fX4_crosses (σ : Sh) (p0 p1 : Int32) : Option (Bool) := ((fX6_isDirection p1).bind fun r_4 => (if r_4 = true then ((fX6_isSlanting p1).bind fun r_6 => (if r_6 = true then (if inR p1 8 then fX4_crosses_39 σ p0 p1 (p0 + (tac p1)) (p0 + ((24 : Int32) * (tdn p1))) FU (0 : Int32) else none) else (some false))) else (some false)))
abbrev rmX4_crosses : Room := { frames := 2, cells := 0, slots := 0, locals := 49 }
theorem hdX4_crosses : yX4_crosses.cls = RX4 ∧ yX4_crosses.cls ≠ "java/lang/invoke/MethodHandle" ∧ yX4_crosses.cls ≠ "java/lang/invoke/VarHandle" ∧ (parseMethodDescriptor yX4_crosses.desc).map (fun d => d.parameters.length) = some 2 := by decide +kernel
theorem fiX4_crosses_X4 : ∀ w ∈ wsX40, w ∈ wsX4_crosses := by decide +kernel
theorem flX4_crosses_28 : (.fieldLink RX4 28 "ContourLabels$Sheet" "count" "I" : Cond) ∈ wsX4_crosses := by decide +kernel
theorem inX4_crosses_X6 : (.initialized RX6 : Cond) ∈ wsX4_crosses := by decide +kernel
theorem stX4_crosses_X6_isDirection : (.static yX6_isDirection : Cond) ∈ wsX4_crosses := by decide +kernel
theorem stX4_crosses_X6_isSlanting : (.static yX6_isSlanting : Cond) ∈ wsX4_crosses := by decide +kernel
set_option maxHeartbeats 4000000 in
set_option maxRecDepth 100000 in
theorem cX4_crosses_ok (l : Launch) (g : Gg) (h a1 a2 a3 a4 : Nat) (σ : Sh) (p0 p1 : Int32) {r : Bool} (hf : fX4_crosses σ p0 p1 = some r) : Met l yX4_crosses wsX4_crosses rmX4_crosses (va_Pc [.ref h, .int p0, .int p1] (PP g (wS g h a1 a2 a3 a4 σ))) (vp_Si (fun r' => r' = b2i r)) 0 0 (fun _ => False) := by
  refine Met.ofW (cc := cX4_crosses) (maxL := 6) (ret := (some .boolean)) (by decide) rfl ?_
  intro p e s m args below meth c s₁ B hml hv
  obtain ⟨rfl, hP, hE, hZ⟩ := hv
  have hx := B.exec
  have hb := B.bytes
  have hr := B.returns
  have hts := atoms_spec (ws := wsX4_crosses) B.pre
  have hown : s.vm.findClass RX4 = some m.cls := findClass_of_methodNamed B.named
  have hlocks := B.notSynchronized
  have hS : va_S (fun _ => False) s.heap s.heap [] := va_S.rf
  have hl := lv_entry ([.ref h, .int p0, .int p1]) (n := 6) (Nat.le_of_ble_eq_true rfl)
  rw [lg_entry_eq]
  generalize (lg_sl ([.ref h, .int p0, .int p1]) ++ List.replicate (6 - (lg_sl ([.ref h, .int p0, .int p1])).length) Slot.unset).toArray = ls at hl ⊢
  have hl : lv_has ls 6 [(0, .ref h), (1, .int p0), (2, .int p1)] := hl
  have hB39 : ∀ (v3_39 : Int32) (v4_39 : Int32) (n39 : Nat) (v5_39 : Int32) (ls : Array Slot), lv_has ls 6 [(0, .ref h), (3, .int v3_39), (4, .int v4_39), (5, .int v5_39)] → fX4_crosses_39 σ p0 p1 v3_39 v4_39 n39 v5_39 = some r → W p l e (headSpec wsX4_crosses rmX4_crosses).room s m ([.ref h, .int p0, .int p1] : List Value).toArray below meth c s.heap [] 0 0 (MQ below (vp_Si (fun r' => r' = b2i r)) ([.ref h, .int p0, .int p1] : List Value).toArray s 0 0 (fun _ => False)) (F0 m 39 ls []) := by
    intro v3_39 v4_39 n39
    induction n39 with
    | zero => intro v5_39 ls hl hf; exact nomatch (show (none : Option (Bool)) = some _ from hf)
    | succ n39 ih39 =>
      intro v5_39 ls hl hf
      rw [fX4_crosses_39] at hf
      refine lv_iload hx hb dX4_crosses_39 (lv_at hl 3 rfl) ?_
      refine lv_aload_n hx hb dX4_crosses_41 rfl (lv_at hl 0 rfl) ?_
      refine va_get (v := .int (S_n σ)) (C := RX4) (T := TX4) (N := 6) hx hb hts fiX4_crosses_X4 hown hE.1 hP 0 rfl rfl 0 (by decide) (hts _ flX4_crosses_28) (fun _ h9 => h9) rfl dX4_crosses_42 ?_
      refine lv_icmp_ge (tgt := 68) hx hb dX4_crosses_45 (by decide) (fun c_1 => ?_) (fun c_1 => ?_)
      · have hf := ip c_1 hf
        refine lv_iconst (v := (0 : Int32)) hx hb dX4_crosses_68 (by decide) ?_
        exact p_zret (v := false) hx hb hr hlocks (Option.some.inj hf) dX4_crosses_69
      · have hf := iq c_1 hf
        refine lv_aload_n hx hb dX4_crosses_48 rfl (lv_at hl 0 rfl) ?_
        refine lv_iload hx hb dX4_crosses_49 (lv_at hl 3 rfl) ?_
        refine lv_iload_n hx hb dX4_crosses_51 rfl (lv_at hl 1 rfl) ?_
        refine lv_iload hx hb dX4_crosses_52 (lv_at hl 2 rfl) ?_
        obtain ⟨r_2, e_2, hf⟩ := bo hf
        refine pcallV (W0 := (wS g h a1 a2 a3 a4 σ)) (As := [.int v5_39, .int v3_39, .int v4_39]) (rest := []) [0, 1, 2, 3, 4] 3 0 ⟨hx, hb, hml, hown, hts⟩ hP hE hZ hS (cX4_joins_ok l g h a1 a2 a3 a4 σ v5_39 v3_39 v4_39 e_2) (cwV 3 hts gX4_crosses_X4_joins rfl rfl rfl hdX4_joins ⟨(Nat.le_of_ble_eq_true rfl), (Nat.le_of_ble_eq_true rfl)⟩) rfl rfl rfl rfl rfl hl.1 rfl (Nat.le_of_ble_eq_true rfl) ⟨(Nat.le_of_ble_eq_true rfl), (Nat.le_of_ble_eq_true rfl)⟩ dX4_crosses_54 ?_
        refine lv_beq (tgt := 62) hx hb dX4_crosses_57 (by decide) (fun c_3 => ?_) (fun c_3 => ?_)
        · have hf := iq c_3 hf
          refine lv_iinc (v := (v5_39 + 1)) (lv' := [(5, .int (v5_39 + 1)), (0, .ref h), (3, .int v3_39), (4, .int v4_39)]) hx hb dX4_crosses_62 hl (k := 3) rfl rfl (by decide) rfl (fun ls hl => ?_)
          refine lv_goto (tgt := 39) hx hb dX4_crosses_65 (by decide) ?_
          exact ih39 (v5_39 + 1) ls (lv_sub hl [1, 2, 3, 0] rfl) hf
        · have hf := ip c_3 hf
          refine lv_iconst (v := (1 : Int32)) hx hb dX4_crosses_60 (by decide) ?_
          exact p_zret (v := true) hx hb hr hlocks (Option.some.inj hf) dX4_crosses_61
  unfold fX4_crosses at hf
  refine lv_iload_n hx hb dX4_crosses_0 rfl (lv_at hl 2 rfl) ?_
  obtain ⟨r_4, e_4, hf⟩ := bo hf
  refine pcallN (W0 := (wS g h a1 a2 a3 a4 σ)) (As := [.int p1]) (rest := []) [] ⟨hx, hb, hml, hown, hts⟩ hP hE hZ hS (cX6_isDirection_ok l g  p1 e_4) ⟨va_cnB (host := RX6) 1 hts gX4_crosses_X6_isDirection_n72 rfl rfl rfl (hE.2.1 (.methodLinkNest RX4 72 yX6_isDirection RX6) (by decide +kernel)) (hts _ inX4_crosses_X6) hdX6_isDirection.2 ⟨(Nat.le_of_ble_eq_true rfl), (Nat.le_of_ble_eq_true rfl)⟩, hts _ stX4_crosses_X6_isDirection, trivial⟩ rfl rfl hl.1 rfl (Nat.le_of_ble_eq_true rfl) ⟨(Nat.le_of_ble_eq_true rfl), (Nat.le_of_ble_eq_true rfl)⟩ dX4_crosses_1 ?_
  refine lv_beq (tgt := 14) hx hb dX4_crosses_4 (by decide) (fun c_5 => ?_) (fun c_5 => ?_)
  · have hf := iq c_5 hf
    refine lv_iconst (v := (0 : Int32)) hx hb dX4_crosses_14 (by decide) ?_
    exact p_zret (v := false) hx hb hr hlocks (Option.some.inj hf) dX4_crosses_15
  · have hf := ip c_5 hf
    refine lv_iload_n hx hb dX4_crosses_7 rfl (lv_at hl 2 rfl) ?_
    obtain ⟨r_6, e_6, hf⟩ := bo hf
    refine pcallN (W0 := (wS g h a1 a2 a3 a4 σ)) (As := [.int p1]) (rest := []) [] ⟨hx, hb, hml, hown, hts⟩ hP hE hZ hS (cX6_isSlanting_ok l g  p1 e_6) ⟨va_cnB (host := RX6) 1 hts gX4_crosses_X6_isSlanting_n75 rfl rfl rfl (hE.2.1 (.methodLinkNest RX4 75 yX6_isSlanting RX6) (by decide +kernel)) (hts _ inX4_crosses_X6) hdX6_isSlanting.2 ⟨(Nat.le_of_ble_eq_true rfl), (Nat.le_of_ble_eq_true rfl)⟩, hts _ stX4_crosses_X6_isSlanting, trivial⟩ rfl rfl hl.1 rfl (Nat.le_of_ble_eq_true rfl) ⟨(Nat.le_of_ble_eq_true rfl), (Nat.le_of_ble_eq_true rfl)⟩ dX4_crosses_8 ?_
    refine lv_bne (tgt := 16) hx hb dX4_crosses_11 (by decide) (fun c_7 => ?_) (fun c_7 => ?_)
    · have hf := ip c_7 hf
      refine lv_iload_n hx hb dX4_crosses_16 rfl (lv_at hl 1 rfl) ?_
      refine va_getsN hx hb hZ.1 hS hown (va_Nw.use rfl (hE.2.1 (.fieldLinkNest RX4 78 "ContourLabels" "ACROSS" "[I" RX6) (by decide +kernel))) (fun _ h9 => h9) dX4_crosses_17 ?_
      refine lv_iload_n hx hb dX4_crosses_20 rfl (lv_at hl 2 rfl) ?_
      obtain ⟨h_8, hf⟩ := ck hf
      refine va_ti (v := .int (tac p1)) hx hb hZ.2.1 hS (vin h_8) rfl dX4_crosses_21 ?_
      refine lv_iadd hx hb dX4_crosses_22 ?_
      refine lv_istore_n (lv' := [(3, .int (p0 + (tac p1))), (0, .ref h), (1, .int p0), (2, .int p1)]) hx hb dX4_crosses_23 rfl hl (by decide) rfl (fun ls hl => ?_)
      refine lv_iload_n hx hb dX4_crosses_24 rfl (lv_at hl 2 rfl) ?_
      refine lv_bipush (v := (24 : Int32)) hx hb dX4_crosses_25 (by decide) ?_
      refine va_getsN hx hb hZ.2.2.1 hS hown (va_Nw.use rfl (hE.2.1 (.fieldLinkNest RX4 81 "ContourLabels" "DOWN" "[I" RX6) (by decide +kernel))) (fun _ h9 => h9) dX4_crosses_27 ?_
      refine lv_iload_n hx hb dX4_crosses_30 rfl (lv_at hl 3 rfl) ?_
      refine va_ti (v := .int (tdn p1)) hx hb hZ.2.2.2.1 hS (vin h_8) rfl dX4_crosses_31 ?_
      refine lv_imul hx hb dX4_crosses_32 ?_
      refine lv_iadd hx hb dX4_crosses_33 ?_
      refine lv_istore (lv' := [(4, .int (p0 + ((24 : Int32) * (tdn p1)))), (3, .int (p0 + (tac p1))), (0, .ref h), (1, .int p0), (2, .int p1)]) hx hb dX4_crosses_34 hl (by decide) rfl (fun ls hl => ?_)
      refine lv_iconst (v := (0 : Int32)) hx hb dX4_crosses_36 (by decide) ?_
      refine lv_istore (lv' := [(5, .int (0 : Int32)), (4, .int (p0 + ((24 : Int32) * (tdn p1)))), (3, .int (p0 + (tac p1))), (0, .ref h), (1, .int p0), (2, .int p1)]) hx hb dX4_crosses_37 hl (by decide) rfl (fun ls hl => ?_)
      exact hB39 (p0 + (tac p1)) (p0 + ((24 : Int32) * (tdn p1))) FU (0 : Int32) ls (lv_sub hl [3, 2, 1, 0] rfl) hf
    · have hf := iq c_7 hf
      refine lv_iconst (v := (0 : Int32)) hx hb dX4_crosses_14 (by decide) ?_
      exact p_zret (v := false) hx hb hr hlocks (Option.some.inj hf) dX4_crosses_15

def fX4_reasonAgainstStep_71 (σ : Sh) (p0 p1 : Int32) (v4_71 : Int32) (v5_71 : Int32) (t0_71 : Bool) : Option (Int32) := (if t0_71 = true then ((fX4_crosses σ v4_71 p1).bind fun r_2 => (if r_2 = true then (some (5 : Int32)) else (some (0 : Int32)))) else ((fX4_lineOn σ v5_71).bind fun r_4 => (if r_4 = (-1 : Int32) then ((fX4_crosses σ v4_71 p1).bind fun r_6 => (if r_6 = true then (some (5 : Int32)) else (some (0 : Int32)))) else (some (4 : Int32)))))
def fX4_reasonAgainstStep (σ : Sh) (p0 p1 : Int32) : Option (Int32) := ((fX4_isRing σ p0).bind fun r_8 => (if r_8 = true then (some (1 : Int32)) else ((fX4_stepCount σ p0).bind fun r_10 => (if r_10 < (60 : Int32) then ((fX4_pointAt σ p0 r_10).bind fun r_12 => ((fX6_pointBeside r_12 p1).bind fun r_13 => (if r_13 = (-1 : Int32) then (some (3 : Int32)) else (if (r_10 + (1 : Int32)) < (4 : Int32) then fX4_reasonAgainstStep_71 σ p0 p1 r_12 r_13 false else ((fX4_pointAt σ p0 (0 : Int32)).bind fun r_16 => (if r_13 = r_16 then fX4_reasonAgainstStep_71 σ p0 p1 r_12 r_13 true else fX4_reasonAgainstStep_71 σ p0 p1 r_12 r_13 false)))))) else (some (2 : Int32))))))
abbrev rmX4_reasonAgainstStep : Room := { frames := 3, cells := 0, slots := 0, locals := 74 }
theorem hdX4_reasonAgainstStep : yX4_reasonAgainstStep.cls = RX4 ∧ yX4_reasonAgainstStep.cls ≠ "java/lang/invoke/MethodHandle" ∧ yX4_reasonAgainstStep.cls ≠ "java/lang/invoke/VarHandle" ∧ (parseMethodDescriptor yX4_reasonAgainstStep.desc).map (fun d => d.parameters.length) = some 2 := by decide +kernel
theorem inX4_reasonAgainstStep_X6 : (.initialized RX6 : Cond) ∈ wsX4_reasonAgainstStep := by decide +kernel
theorem stX4_reasonAgainstStep_X6_pointBeside : (.static yX6_pointBeside : Cond) ∈ wsX4_reasonAgainstStep := by decide +kernel
set_option maxHeartbeats 4000000 in
set_option maxRecDepth 100000 in
theorem cX4_reasonAgainstStep_ok (l : Launch) (g : Gg) (h a1 a2 a3 a4 : Nat) (σ : Sh) (p0 p1 : Int32) {r : Int32} (hf : fX4_reasonAgainstStep σ p0 p1 = some r) : Met l yX4_reasonAgainstStep wsX4_reasonAgainstStep rmX4_reasonAgainstStep (va_Pc [.ref h, .int p0, .int p1] (PP g (wS g h a1 a2 a3 a4 σ))) (vp_Si (fun r' => r' = r)) 0 0 (fun _ => False) := by
  refine Met.ofW (cc := cX4_reasonAgainstStep) (maxL := 7) (ret := (some .int)) (by decide) rfl ?_
  intro p e s m args below meth c s₁ B hml hv
  obtain ⟨rfl, hP, hE, hZ⟩ := hv
  have hx := B.exec
  have hb := B.bytes
  have hr := B.returns
  have hts := atoms_spec (ws := wsX4_reasonAgainstStep) B.pre
  have hown : s.vm.findClass RX4 = some m.cls := findClass_of_methodNamed B.named
  have hlocks := B.notSynchronized
  have hS : va_S (fun _ => False) s.heap s.heap [] := va_S.rf
  have hl := lv_entry ([.ref h, .int p0, .int p1]) (n := 7) (Nat.le_of_ble_eq_true rfl)
  rw [lg_entry_eq]
  generalize (lg_sl ([.ref h, .int p0, .int p1]) ++ List.replicate (7 - (lg_sl ([.ref h, .int p0, .int p1])).length) Slot.unset).toArray = ls at hl ⊢
  have hl : lv_has ls 7 [(0, .ref h), (1, .int p0), (2, .int p1)] := hl
  have hB71 : ∀ (v4_71 : Int32) (v5_71 : Int32) (t0_71 : Bool) (ls : Array Slot), lv_has ls 7 [(0, .ref h), (2, .int p1), (4, .int v4_71), (5, .int v5_71)] → fX4_reasonAgainstStep_71 σ p0 p1 v4_71 v5_71 t0_71 = some r → W p l e (headSpec wsX4_reasonAgainstStep rmX4_reasonAgainstStep).room s m ([.ref h, .int p0, .int p1] : List Value).toArray below meth c s.heap [] 0 0 (MQ below (vp_Si (fun r' => r' = r)) ([.ref h, .int p0, .int p1] : List Value).toArray s 0 0 (fun _ => False)) (F0 m 71 ls [.int (b2i t0_71)]) := by
    intro  v4_71 v5_71 t0_71 ls hl hf
    unfold fX4_reasonAgainstStep_71 at hf
    refine lv_istore (lv' := [(6, .int (b2i t0_71)), (0, .ref h), (2, .int p1), (4, .int v4_71), (5, .int v5_71)]) hx hb dX4_reasonAgainstStep_71 hl (by decide) rfl (fun ls hl => ?_)
    refine lv_iload hx hb dX4_reasonAgainstStep_73 (lv_at hl 0 rfl) ?_
    refine lv_bne (tgt := 90) hx hb dX4_reasonAgainstStep_75 (by decide) (fun c_1 => ?_) (fun c_1 => ?_)
    · have hf := ip c_1 hf
      refine lv_aload_n hx hb dX4_reasonAgainstStep_90 rfl (lv_at hl 1 rfl) ?_
      refine lv_iload hx hb dX4_reasonAgainstStep_91 (lv_at hl 3 rfl) ?_
      refine lv_iload_n hx hb dX4_reasonAgainstStep_93 rfl (lv_at hl 2 rfl) ?_
      obtain ⟨r_2, e_2, hf⟩ := bo hf
      refine pcallV (W0 := (wS g h a1 a2 a3 a4 σ)) (As := [.int v4_71, .int p1]) (rest := []) [0, 1, 2, 3, 4] 3 0 ⟨hx, hb, hml, hown, hts⟩ hP hE hZ hS (cX4_crosses_ok l g h a1 a2 a3 a4 σ v4_71 p1 e_2) (cwV 2 hts gX4_reasonAgainstStep_X4_crosses rfl rfl rfl hdX4_crosses ⟨(Nat.le_of_ble_eq_true rfl), (Nat.le_of_ble_eq_true rfl)⟩) rfl rfl rfl rfl rfl hl.1 rfl (Nat.le_of_ble_eq_true rfl) ⟨(Nat.le_of_ble_eq_true rfl), (Nat.le_of_ble_eq_true rfl)⟩ dX4_reasonAgainstStep_94 ?_
      refine lv_beq (tgt := 104) hx hb dX4_reasonAgainstStep_97 (by decide) (fun c_3 => ?_) (fun c_3 => ?_)
      · have hf := iq c_3 hf
        refine lv_iconst (v := (0 : Int32)) hx hb dX4_reasonAgainstStep_104 (by decide) ?_
        exact p_iret (v := (0 : Int32)) hx hb hr hlocks (Option.some.inj hf) dX4_reasonAgainstStep_105
      · have hf := ip c_3 hf
        refine lv_iconst (v := (5 : Int32)) hx hb dX4_reasonAgainstStep_100 (by decide) ?_
        refine lv_goto (tgt := 105) hx hb dX4_reasonAgainstStep_101 (by decide) ?_
        exact p_iret (v := (5 : Int32)) hx hb hr hlocks (Option.some.inj hf) dX4_reasonAgainstStep_105
    · have hf := iq c_1 hf
      refine lv_aload_n hx hb dX4_reasonAgainstStep_78 rfl (lv_at hl 1 rfl) ?_
      refine lv_iload hx hb dX4_reasonAgainstStep_79 (lv_at hl 4 rfl) ?_
      obtain ⟨r_4, e_4, hf⟩ := bo hf
      refine pcallV (W0 := (wS g h a1 a2 a3 a4 σ)) (As := [.int v5_71]) (rest := []) [0, 1, 2, 3, 4] 3 0 ⟨hx, hb, hml, hown, hts⟩ hP hE hZ hS (cX4_lineOn_ok l g h a1 a2 a3 a4 σ v5_71 e_4) (cwV 1 hts gX4_reasonAgainstStep_X4_lineOn rfl rfl rfl hdX4_lineOn ⟨(Nat.le_of_ble_eq_true rfl), (Nat.le_of_ble_eq_true rfl)⟩) rfl rfl rfl rfl rfl hl.1 rfl (Nat.le_of_ble_eq_true rfl) ⟨(Nat.le_of_ble_eq_true rfl), (Nat.le_of_ble_eq_true rfl)⟩ dX4_reasonAgainstStep_81 ?_
      refine lv_iconst (v := (-1 : Int32)) hx hb dX4_reasonAgainstStep_84 (by decide) ?_
      refine lv_icmp_eq (tgt := 90) hx hb dX4_reasonAgainstStep_85 (by decide) (fun c_5 => ?_) (fun c_5 => ?_)
      · have hf := ip c_5 hf
        refine lv_aload_n hx hb dX4_reasonAgainstStep_90 rfl (lv_at hl 1 rfl) ?_
        refine lv_iload hx hb dX4_reasonAgainstStep_91 (lv_at hl 3 rfl) ?_
        refine lv_iload_n hx hb dX4_reasonAgainstStep_93 rfl (lv_at hl 2 rfl) ?_
        obtain ⟨r_6, e_6, hf⟩ := bo hf
        refine pcallV (W0 := (wS g h a1 a2 a3 a4 σ)) (As := [.int v4_71, .int p1]) (rest := []) [0, 1, 2, 3, 4] 3 0 ⟨hx, hb, hml, hown, hts⟩ hP hE hZ hS (cX4_crosses_ok l g h a1 a2 a3 a4 σ v4_71 p1 e_6) (cwV 2 hts gX4_reasonAgainstStep_X4_crosses rfl rfl rfl hdX4_crosses ⟨(Nat.le_of_ble_eq_true rfl), (Nat.le_of_ble_eq_true rfl)⟩) rfl rfl rfl rfl rfl hl.1 rfl (Nat.le_of_ble_eq_true rfl) ⟨(Nat.le_of_ble_eq_true rfl), (Nat.le_of_ble_eq_true rfl)⟩ dX4_reasonAgainstStep_94 ?_
        refine lv_beq (tgt := 104) hx hb dX4_reasonAgainstStep_97 (by decide) (fun c_7 => ?_) (fun c_7 => ?_)
        · have hf := iq c_7 hf
          refine lv_iconst (v := (0 : Int32)) hx hb dX4_reasonAgainstStep_104 (by decide) ?_
          exact p_iret (v := (0 : Int32)) hx hb hr hlocks (Option.some.inj hf) dX4_reasonAgainstStep_105
        · have hf := ip c_7 hf
          refine lv_iconst (v := (5 : Int32)) hx hb dX4_reasonAgainstStep_100 (by decide) ?_
          refine lv_goto (tgt := 105) hx hb dX4_reasonAgainstStep_101 (by decide) ?_
          exact p_iret (v := (5 : Int32)) hx hb hr hlocks (Option.some.inj hf) dX4_reasonAgainstStep_105
      · have hf := iq c_5 hf
        refine lv_iconst (v := (4 : Int32)) hx hb dX4_reasonAgainstStep_88 (by decide) ?_
        exact p_iret (v := (4 : Int32)) hx hb hr hlocks (Option.some.inj hf) dX4_reasonAgainstStep_89
  unfold fX4_reasonAgainstStep at hf
  refine lv_aload_n hx hb dX4_reasonAgainstStep_0 rfl (lv_at hl 0 rfl) ?_
  refine lv_iload_n hx hb dX4_reasonAgainstStep_1 rfl (lv_at hl 1 rfl) ?_
  obtain ⟨r_8, e_8, hf⟩ := bo hf
  refine pcallV (W0 := (wS g h a1 a2 a3 a4 σ)) (As := [.int p0]) (rest := []) [0, 1, 2, 3, 4] 3 0 ⟨hx, hb, hml, hown, hts⟩ hP hE hZ hS (cX4_isRing_ok l g h a1 a2 a3 a4 σ p0 e_8) (cwV 1 hts gX4_reasonAgainstStep_X4_isRing rfl rfl rfl hdX4_isRing ⟨(Nat.le_of_ble_eq_true rfl), (Nat.le_of_ble_eq_true rfl)⟩) rfl rfl rfl rfl rfl hl.1 rfl (Nat.le_of_ble_eq_true rfl) ⟨(Nat.le_of_ble_eq_true rfl), (Nat.le_of_ble_eq_true rfl)⟩ dX4_reasonAgainstStep_2 ?_
  refine lv_beq (tgt := 10) hx hb dX4_reasonAgainstStep_5 (by decide) (fun c_9 => ?_) (fun c_9 => ?_)
  · have hf := iq c_9 hf
    refine lv_aload_n hx hb dX4_reasonAgainstStep_10 rfl (lv_at hl 0 rfl) ?_
    refine lv_iload_n hx hb dX4_reasonAgainstStep_11 rfl (lv_at hl 1 rfl) ?_
    obtain ⟨r_10, e_10, hf⟩ := bo hf
    refine pcallV (W0 := (wS g h a1 a2 a3 a4 σ)) (As := [.int p0]) (rest := []) [0, 1, 2, 3, 4] 3 0 ⟨hx, hb, hml, hown, hts⟩ hP hE hZ hS (cX4_stepCount_ok l g h a1 a2 a3 a4 σ p0 e_10) (cwV 1 hts gX4_reasonAgainstStep_X4_stepCount rfl rfl rfl hdX4_stepCount ⟨(Nat.le_of_ble_eq_true rfl), (Nat.le_of_ble_eq_true rfl)⟩) rfl rfl rfl rfl rfl hl.1 rfl (Nat.le_of_ble_eq_true rfl) ⟨(Nat.le_of_ble_eq_true rfl), (Nat.le_of_ble_eq_true rfl)⟩ dX4_reasonAgainstStep_12 ?_
    refine lv_istore_n (lv' := [(3, .int r_10), (0, .ref h), (1, .int p0), (2, .int p1)]) hx hb dX4_reasonAgainstStep_15 rfl hl (by decide) rfl (fun ls hl => ?_)
    refine lv_iload_n hx hb dX4_reasonAgainstStep_16 rfl (lv_at hl 0 rfl) ?_
    refine lv_bipush (v := (60 : Int32)) hx hb dX4_reasonAgainstStep_17 (by decide) ?_
    refine lv_icmp_lt (tgt := 24) hx hb dX4_reasonAgainstStep_19 (by decide) (fun c_11 => ?_) (fun c_11 => ?_)
    · have hf := ip c_11 hf
      refine lv_aload_n hx hb dX4_reasonAgainstStep_24 rfl (lv_at hl 1 rfl) ?_
      refine lv_iload_n hx hb dX4_reasonAgainstStep_25 rfl (lv_at hl 2 rfl) ?_
      refine lv_iload_n hx hb dX4_reasonAgainstStep_26 rfl (lv_at hl 0 rfl) ?_
      obtain ⟨r_12, e_12, hf⟩ := bo hf
      refine pcallV (W0 := (wS g h a1 a2 a3 a4 σ)) (As := [.int p0, .int r_10]) (rest := []) [0, 1, 2, 3, 4] 3 0 ⟨hx, hb, hml, hown, hts⟩ hP hE hZ hS (cX4_pointAt_ok l g h a1 a2 a3 a4 σ p0 r_10 e_12) (cwV 2 hts gX4_reasonAgainstStep_X4_pointAt rfl rfl rfl hdX4_pointAt ⟨(Nat.le_of_ble_eq_true rfl), (Nat.le_of_ble_eq_true rfl)⟩) rfl rfl rfl rfl rfl hl.1 rfl (Nat.le_of_ble_eq_true rfl) ⟨(Nat.le_of_ble_eq_true rfl), (Nat.le_of_ble_eq_true rfl)⟩ dX4_reasonAgainstStep_27 ?_
      refine lv_istore (lv' := [(4, .int r_12), (3, .int r_10), (0, .ref h), (1, .int p0), (2, .int p1)]) hx hb dX4_reasonAgainstStep_30 hl (by decide) rfl (fun ls hl => ?_)
      refine lv_iload hx hb dX4_reasonAgainstStep_32 (lv_at hl 0 rfl) ?_
      refine lv_iload_n hx hb dX4_reasonAgainstStep_34 rfl (lv_at hl 4 rfl) ?_
      obtain ⟨r_13, e_13, hf⟩ := bo hf
      refine pcallN (W0 := (wS g h a1 a2 a3 a4 σ)) (As := [.int r_12, .int p1]) (rest := []) [] ⟨hx, hb, hml, hown, hts⟩ hP hE hZ hS (cX6_pointBeside_ok l g  r_12 p1 e_13) ⟨va_cnB (host := RX6) 2 hts gX4_reasonAgainstStep_X6_pointBeside_n55 rfl rfl rfl (hE.2.1 (.methodLinkNest RX4 55 yX6_pointBeside RX6) (by decide +kernel)) (hts _ inX4_reasonAgainstStep_X6) hdX6_pointBeside.2 ⟨(Nat.le_of_ble_eq_true rfl), (Nat.le_of_ble_eq_true rfl)⟩, hts _ stX4_reasonAgainstStep_X6_pointBeside, trivial⟩ rfl rfl hl.1 rfl (Nat.le_of_ble_eq_true rfl) ⟨(Nat.le_of_ble_eq_true rfl), (Nat.le_of_ble_eq_true rfl)⟩ dX4_reasonAgainstStep_35 ?_
      refine lv_istore (lv' := [(5, .int r_13), (4, .int r_12), (3, .int r_10), (0, .ref h), (1, .int p0), (2, .int p1)]) hx hb dX4_reasonAgainstStep_38 hl (by decide) rfl (fun ls hl => ?_)
      refine lv_iload hx hb dX4_reasonAgainstStep_40 (lv_at hl 0 rfl) ?_
      refine lv_iconst (v := (-1 : Int32)) hx hb dX4_reasonAgainstStep_42 (by decide) ?_
      refine lv_icmp_ne (tgt := 48) hx hb dX4_reasonAgainstStep_43 (by decide) (fun c_14 => ?_) (fun c_14 => ?_)
      · have hf := iq c_14 hf
        refine lv_iload_n hx hb dX4_reasonAgainstStep_48 rfl (lv_at hl 2 rfl) ?_
        refine lv_iconst (v := (1 : Int32)) hx hb dX4_reasonAgainstStep_49 (by decide) ?_
        refine lv_iadd hx hb dX4_reasonAgainstStep_50 ?_
        refine lv_iconst (v := (4 : Int32)) hx hb dX4_reasonAgainstStep_51 (by decide) ?_
        refine lv_icmp_lt (tgt := 70) hx hb dX4_reasonAgainstStep_52 (by decide) (fun c_15 => ?_) (fun c_15 => ?_)
        · have hf := ip c_15 hf
          refine lv_iconst (v := (0 : Int32)) hx hb dX4_reasonAgainstStep_70 (by decide) ?_
          exact hB71 r_12 r_13 false ls (lv_sub hl [3, 5, 1, 0] rfl) hf
        · have hf := iq c_15 hf
          refine lv_iload hx hb dX4_reasonAgainstStep_55 (lv_at hl 0 rfl) ?_
          refine lv_aload_n hx hb dX4_reasonAgainstStep_57 rfl (lv_at hl 3 rfl) ?_
          refine lv_iload_n hx hb dX4_reasonAgainstStep_58 rfl (lv_at hl 4 rfl) ?_
          refine lv_iconst (v := (0 : Int32)) hx hb dX4_reasonAgainstStep_59 (by decide) ?_
          obtain ⟨r_16, e_16, hf⟩ := bo hf
          refine pcallV (W0 := (wS g h a1 a2 a3 a4 σ)) (As := [.int p0, .int (0 : Int32)]) (rest := [.int r_13]) [0, 1, 2, 3, 4] 3 0 ⟨hx, hb, hml, hown, hts⟩ hP hE hZ hS (cX4_pointAt_ok l g h a1 a2 a3 a4 σ p0 (0 : Int32) e_16) (cwV 2 hts gX4_reasonAgainstStep_X4_pointAt rfl rfl rfl hdX4_pointAt ⟨(Nat.le_of_ble_eq_true rfl), (Nat.le_of_ble_eq_true rfl)⟩) rfl rfl rfl rfl rfl hl.1 rfl (Nat.le_of_ble_eq_true rfl) ⟨(Nat.le_of_ble_eq_true rfl), (Nat.le_of_ble_eq_true rfl)⟩ dX4_reasonAgainstStep_60 ?_
          refine lv_icmp_ne (tgt := 70) hx hb dX4_reasonAgainstStep_63 (by decide) (fun c_17 => ?_) (fun c_17 => ?_)
          · have hf := iq c_17 hf
            refine lv_iconst (v := (0 : Int32)) hx hb dX4_reasonAgainstStep_70 (by decide) ?_
            exact hB71 r_12 r_13 false ls (lv_sub hl [3, 5, 1, 0] rfl) hf
          · have hf := ip c_17 hf
            refine lv_iconst (v := (1 : Int32)) hx hb dX4_reasonAgainstStep_66 (by decide) ?_
            refine lv_goto (tgt := 71) hx hb dX4_reasonAgainstStep_67 (by decide) ?_
            exact hB71 r_12 r_13 true ls (lv_sub hl [3, 5, 1, 0] rfl) hf
      · have hf := ip c_14 hf
        refine lv_iconst (v := (3 : Int32)) hx hb dX4_reasonAgainstStep_46 (by decide) ?_
        exact p_iret (v := (3 : Int32)) hx hb hr hlocks (Option.some.inj hf) dX4_reasonAgainstStep_47
    · have hf := iq c_11 hf
      refine lv_iconst (v := (2 : Int32)) hx hb dX4_reasonAgainstStep_22 (by decide) ?_
      exact p_iret (v := (2 : Int32)) hx hb hr hlocks (Option.some.inj hf) dX4_reasonAgainstStep_23
  · have hf := ip c_9 hf
    refine lv_iconst (v := (1 : Int32)) hx hb dX4_reasonAgainstStep_8 (by decide) ?_
    exact p_iret (v := (1 : Int32)) hx hb hr hlocks (Option.some.inj hf) dX4_reasonAgainstStep_9

def fX4_bendThere_63 (σ : Sh) (p0 p1 : Int32) (v3_63 : Int32) (v4_63 : Int32) : Option (Int32) := (if v3_63 = (-1 : Int32) then (some (0 : Int32)) else (if v4_63 = (-1 : Int32) then (some (0 : Int32)) else (some (imin (iabs (v4_63 - v3_63)) ((8 : Int32) - (iabs (v4_63 - v3_63)))))))
def fX4_bendThere (σ : Sh) (p0 p1 : Int32) : Option (Int32) := ((fX4_directionAt σ p0 (p1 - (1 : Int32))).bind fun r_3 => ((fX4_directionAt σ p0 p1).bind fun r_4 => ((fX4_isRing σ p0).bind fun r_5 => (if r_5 = true then ((fX4_stepCount σ p0).bind fun r_7 => (if p1 = 0 then ((fX4_directionAt σ p0 (r_7 - (1 : Int32))).bind fun r_11 => fX4_bendThere_63 σ p0 p1 r_11 r_4) else (if p1 = r_7 then ((fX4_directionAt σ p0 (0 : Int32)).bind fun r_10 => fX4_bendThere_63 σ p0 p1 r_3 r_10) else fX4_bendThere_63 σ p0 p1 r_3 r_4))) else fX4_bendThere_63 σ p0 p1 r_3 r_4))))
abbrev rmX4_bendThere : Room := { frames := 1, cells := 0, slots := 0, locals := 23 }
theorem hdX4_bendThere : yX4_bendThere.cls = RX4 ∧ yX4_bendThere.cls ≠ "java/lang/invoke/MethodHandle" ∧ yX4_bendThere.cls ≠ "java/lang/invoke/VarHandle" ∧ (parseMethodDescriptor yX4_bendThere.desc).map (fun d => d.parameters.length) = some 2 := by decide +kernel
theorem mlX4_bendThere_91 : (.methodLink RX4 91 Lib.Math.abs.name : Cond) ∈ wsX4_bendThere := by decide +kernel
theorem msX4_bendThere_abs : (.static Lib.Math.abs.name : Cond) ∈ wsX4_bendThere := by decide +kernel
theorem miX4_bendThere : (.initialized "java/lang/Math" : Cond) ∈ wsX4_bendThere := by decide +kernel
theorem mcX4_bendThere_abs : (.code Lib.Math.abs.name Lib.Math.abs.code 1 (some .int) : Cond) ∈ wsX4_bendThere := by decide +kernel
theorem mlX4_bendThere_96 : (.methodLink RX4 96 Lib.Math.min.name : Cond) ∈ wsX4_bendThere := by decide +kernel
theorem msX4_bendThere_min : (.static Lib.Math.min.name : Cond) ∈ wsX4_bendThere := by decide +kernel
theorem mcX4_bendThere_min : (.code Lib.Math.min.name Lib.Math.min.code 2 (some .int) : Cond) ∈ wsX4_bendThere := by decide +kernel
set_option maxHeartbeats 4000000 in
set_option maxRecDepth 100000 in
theorem cX4_bendThere_ok (l : Launch) (g : Gg) (h a1 a2 a3 a4 : Nat) (σ : Sh) (p0 p1 : Int32) {r : Int32} (hf : fX4_bendThere σ p0 p1 = some r) : Met l yX4_bendThere wsX4_bendThere rmX4_bendThere (va_Pc [.ref h, .int p0, .int p1] (PP g (wS g h a1 a2 a3 a4 σ))) (vp_Si (fun r' => r' = r)) 0 0 (fun _ => False) := by
  refine Met.ofW (cc := cX4_bendThere) (maxL := 6) (ret := (some .int)) (by decide) rfl ?_
  intro p e s m args below meth c s₁ B hml hv
  obtain ⟨rfl, hP, hE, hZ⟩ := hv
  have hx := B.exec
  have hb := B.bytes
  have hr := B.returns
  have hts := atoms_spec (ws := wsX4_bendThere) B.pre
  have hown : s.vm.findClass RX4 = some m.cls := findClass_of_methodNamed B.named
  have hlocks := B.notSynchronized
  have hS : va_S (fun _ => False) s.heap s.heap [] := va_S.rf
  have hl := lv_entry ([.ref h, .int p0, .int p1]) (n := 6) (Nat.le_of_ble_eq_true rfl)
  rw [lg_entry_eq]
  generalize (lg_sl ([.ref h, .int p0, .int p1]) ++ List.replicate (6 - (lg_sl ([.ref h, .int p0, .int p1])).length) Slot.unset).toArray = ls at hl ⊢
  have hl : lv_has ls 6 [(0, .ref h), (1, .int p0), (2, .int p1)] := hl
  have hB63 : ∀ (v3_63 : Int32) (v4_63 : Int32) (ls : Array Slot), lv_has ls 6 [(3, .int v3_63), (4, .int v4_63)] → fX4_bendThere_63 σ p0 p1 v3_63 v4_63 = some r → W p l e (headSpec wsX4_bendThere rmX4_bendThere).room s m ([.ref h, .int p0, .int p1] : List Value).toArray below meth c s.heap [] 0 0 (MQ below (vp_Si (fun r' => r' = r)) ([.ref h, .int p0, .int p1] : List Value).toArray s 0 0 (fun _ => False)) (F0 m 63 ls []) := by
    intro  v3_63 v4_63 ls hl hf
    unfold fX4_bendThere_63 at hf
    refine lv_iload_n hx hb dX4_bendThere_63 rfl (lv_at hl 0 rfl) ?_
    refine lv_iconst (v := (-1 : Int32)) hx hb dX4_bendThere_64 (by decide) ?_
    refine lv_icmp_eq (tgt := 74) hx hb dX4_bendThere_65 (by decide) (fun c_1 => ?_) (fun c_1 => ?_)
    · have hf := ip c_1 hf
      refine lv_iconst (v := (0 : Int32)) hx hb dX4_bendThere_74 (by decide) ?_
      exact p_iret (v := (0 : Int32)) hx hb hr hlocks (Option.some.inj hf) dX4_bendThere_75
    · have hf := iq c_1 hf
      refine lv_iload hx hb dX4_bendThere_68 (lv_at hl 1 rfl) ?_
      refine lv_iconst (v := (-1 : Int32)) hx hb dX4_bendThere_70 (by decide) ?_
      refine lv_icmp_ne (tgt := 76) hx hb dX4_bendThere_71 (by decide) (fun c_2 => ?_) (fun c_2 => ?_)
      · have hf := iq c_2 hf
        refine lv_iload hx hb dX4_bendThere_76 (lv_at hl 1 rfl) ?_
        refine lv_iload_n hx hb dX4_bendThere_78 rfl (lv_at hl 0 rfl) ?_
        refine lv_isub hx hb dX4_bendThere_79 ?_
        refine va_mabs hx hb (hml.trans hl.1.symm) hown (hts _ mlX4_bendThere_91) (hts _ msX4_bendThere_abs) (hts _ miX4_bendThere) (hts _ mcX4_bendThere_abs) (Nat.le_of_ble_eq_true rfl) (Nat.le_of_ble_eq_true rfl) (Nat.le_of_ble_eq_true rfl) (Nat.le_of_ble_eq_true rfl) dX4_bendThere_80 ?_
        refine W.eq (g2 := F0 m 83 ls [.int (iabs (v4_63 - v3_63))]) rfl ?_
        refine lv_istore (lv' := [(5, .int (iabs (v4_63 - v3_63))), (3, .int v3_63), (4, .int v4_63)]) hx hb dX4_bendThere_83 hl (by decide) rfl (fun ls hl => ?_)
        refine lv_iload hx hb dX4_bendThere_85 (lv_at hl 0 rfl) ?_
        refine lv_bipush (v := (8 : Int32)) hx hb dX4_bendThere_87 (by decide) ?_
        refine lv_iload hx hb dX4_bendThere_89 (lv_at hl 0 rfl) ?_
        refine lv_isub hx hb dX4_bendThere_91 ?_
        refine va_mmin hx hb (hml.trans hl.1.symm) hown (hts _ mlX4_bendThere_96) (hts _ msX4_bendThere_min) (hts _ miX4_bendThere) (hts _ mcX4_bendThere_min) (Nat.le_of_ble_eq_true rfl) (Nat.le_of_ble_eq_true rfl) (Nat.le_of_ble_eq_true rfl) (Nat.le_of_ble_eq_true rfl) dX4_bendThere_92 ?_
        refine W.eq (g2 := F0 m 95 ls [.int (imin (iabs (v4_63 - v3_63)) ((8 : Int32) - (iabs (v4_63 - v3_63))))]) rfl ?_
        exact p_iret (v := (imin (iabs (v4_63 - v3_63)) ((8 : Int32) - (iabs (v4_63 - v3_63))))) hx hb hr hlocks (Option.some.inj hf) dX4_bendThere_95
      · have hf := ip c_2 hf
        refine lv_iconst (v := (0 : Int32)) hx hb dX4_bendThere_74 (by decide) ?_
        exact p_iret (v := (0 : Int32)) hx hb hr hlocks (Option.some.inj hf) dX4_bendThere_75
  unfold fX4_bendThere at hf
  refine lv_aload_n hx hb dX4_bendThere_0 rfl (lv_at hl 0 rfl) ?_
  refine lv_iload_n hx hb dX4_bendThere_1 rfl (lv_at hl 1 rfl) ?_
  refine lv_iload_n hx hb dX4_bendThere_2 rfl (lv_at hl 2 rfl) ?_
  refine lv_iconst (v := (1 : Int32)) hx hb dX4_bendThere_3 (by decide) ?_
  refine lv_isub hx hb dX4_bendThere_4 ?_
  obtain ⟨r_3, e_3, hf⟩ := bo hf
  refine pcallV (W0 := (wS g h a1 a2 a3 a4 σ)) (As := [.int p0, .int (p1 - (1 : Int32))]) (rest := []) [0, 1, 2, 3, 4] 3 0 ⟨hx, hb, hml, hown, hts⟩ hP hE hZ hS (cX4_directionAt_ok l g h a1 a2 a3 a4 σ p0 (p1 - (1 : Int32)) e_3) (cwV 2 hts gX4_bendThere_X4_directionAt rfl rfl rfl hdX4_directionAt ⟨(Nat.le_of_ble_eq_true rfl), (Nat.le_of_ble_eq_true rfl)⟩) rfl rfl rfl rfl rfl hl.1 rfl (Nat.le_of_ble_eq_true rfl) ⟨(Nat.le_of_ble_eq_true rfl), (Nat.le_of_ble_eq_true rfl)⟩ dX4_bendThere_5 ?_
  refine lv_istore_n (lv' := [(3, .int r_3), (0, .ref h), (1, .int p0), (2, .int p1)]) hx hb dX4_bendThere_8 rfl hl (by decide) rfl (fun ls hl => ?_)
  refine lv_aload_n hx hb dX4_bendThere_9 rfl (lv_at hl 1 rfl) ?_
  refine lv_iload_n hx hb dX4_bendThere_10 rfl (lv_at hl 2 rfl) ?_
  refine lv_iload_n hx hb dX4_bendThere_11 rfl (lv_at hl 3 rfl) ?_
  obtain ⟨r_4, e_4, hf⟩ := bo hf
  refine pcallV (W0 := (wS g h a1 a2 a3 a4 σ)) (As := [.int p0, .int p1]) (rest := []) [0, 1, 2, 3, 4] 3 0 ⟨hx, hb, hml, hown, hts⟩ hP hE hZ hS (cX4_directionAt_ok l g h a1 a2 a3 a4 σ p0 p1 e_4) (cwV 2 hts gX4_bendThere_X4_directionAt rfl rfl rfl hdX4_directionAt ⟨(Nat.le_of_ble_eq_true rfl), (Nat.le_of_ble_eq_true rfl)⟩) rfl rfl rfl rfl rfl hl.1 rfl (Nat.le_of_ble_eq_true rfl) ⟨(Nat.le_of_ble_eq_true rfl), (Nat.le_of_ble_eq_true rfl)⟩ dX4_bendThere_12 ?_
  refine lv_istore (lv' := [(4, .int r_4), (3, .int r_3), (0, .ref h), (1, .int p0), (2, .int p1)]) hx hb dX4_bendThere_15 hl (by decide) rfl (fun ls hl => ?_)
  refine lv_aload_n hx hb dX4_bendThere_17 rfl (lv_at hl 2 rfl) ?_
  refine lv_iload_n hx hb dX4_bendThere_18 rfl (lv_at hl 3 rfl) ?_
  obtain ⟨r_5, e_5, hf⟩ := bo hf
  refine pcallV (W0 := (wS g h a1 a2 a3 a4 σ)) (As := [.int p0]) (rest := []) [0, 1, 2, 3, 4] 3 0 ⟨hx, hb, hml, hown, hts⟩ hP hE hZ hS (cX4_isRing_ok l g h a1 a2 a3 a4 σ p0 e_5) (cwV 1 hts gX4_bendThere_X4_isRing rfl rfl rfl hdX4_isRing ⟨(Nat.le_of_ble_eq_true rfl), (Nat.le_of_ble_eq_true rfl)⟩) rfl rfl rfl rfl rfl hl.1 rfl (Nat.le_of_ble_eq_true rfl) ⟨(Nat.le_of_ble_eq_true rfl), (Nat.le_of_ble_eq_true rfl)⟩ dX4_bendThere_19 ?_
  refine lv_beq (tgt := 63) hx hb dX4_bendThere_22 (by decide) (fun c_6 => ?_) (fun c_6 => ?_)
  · have hf := iq c_6 hf
    exact hB63 r_3 r_4 ls (lv_sub hl [1, 0] rfl) hf
  · have hf := ip c_6 hf
    refine lv_aload_n hx hb dX4_bendThere_25 rfl (lv_at hl 2 rfl) ?_
    refine lv_iload_n hx hb dX4_bendThere_26 rfl (lv_at hl 3 rfl) ?_
    obtain ⟨r_7, e_7, hf⟩ := bo hf
    refine pcallV (W0 := (wS g h a1 a2 a3 a4 σ)) (As := [.int p0]) (rest := []) [0, 1, 2, 3, 4] 3 0 ⟨hx, hb, hml, hown, hts⟩ hP hE hZ hS (cX4_stepCount_ok l g h a1 a2 a3 a4 σ p0 e_7) (cwV 1 hts gX4_bendThere_X4_stepCount rfl rfl rfl hdX4_stepCount ⟨(Nat.le_of_ble_eq_true rfl), (Nat.le_of_ble_eq_true rfl)⟩) rfl rfl rfl rfl rfl hl.1 rfl (Nat.le_of_ble_eq_true rfl) ⟨(Nat.le_of_ble_eq_true rfl), (Nat.le_of_ble_eq_true rfl)⟩ dX4_bendThere_27 ?_
    refine lv_istore (lv' := [(5, .int r_7), (4, .int r_4), (3, .int r_3), (0, .ref h), (1, .int p0), (2, .int p1)]) hx hb dX4_bendThere_30 hl (by decide) rfl (fun ls hl => ?_)
    refine lv_iload_n hx hb dX4_bendThere_32 rfl (lv_at hl 5 rfl) ?_
    refine lv_if_ne (tgt := 49) hx hb dX4_bendThere_33 (by decide) (fun c_8 => ?_) (fun c_8 => ?_)
    · have hf := iq c_8 hf
      refine lv_iload_n hx hb dX4_bendThere_49 rfl (lv_at hl 5 rfl) ?_
      refine lv_iload hx hb dX4_bendThere_50 (lv_at hl 0 rfl) ?_
      refine lv_icmp_ne (tgt := 63) hx hb dX4_bendThere_52 (by decide) (fun c_9 => ?_) (fun c_9 => ?_)
      · have hf := iq c_9 hf
        exact hB63 r_3 r_4 ls (lv_sub hl [2, 1] rfl) hf
      · have hf := ip c_9 hf
        refine lv_aload_n hx hb dX4_bendThere_55 rfl (lv_at hl 3 rfl) ?_
        refine lv_iload_n hx hb dX4_bendThere_56 rfl (lv_at hl 4 rfl) ?_
        refine lv_iconst (v := (0 : Int32)) hx hb dX4_bendThere_57 (by decide) ?_
        obtain ⟨r_10, e_10, hf⟩ := bo hf
        refine pcallV (W0 := (wS g h a1 a2 a3 a4 σ)) (As := [.int p0, .int (0 : Int32)]) (rest := []) [0, 1, 2, 3, 4] 3 0 ⟨hx, hb, hml, hown, hts⟩ hP hE hZ hS (cX4_directionAt_ok l g h a1 a2 a3 a4 σ p0 (0 : Int32) e_10) (cwV 2 hts gX4_bendThere_X4_directionAt rfl rfl rfl hdX4_directionAt ⟨(Nat.le_of_ble_eq_true rfl), (Nat.le_of_ble_eq_true rfl)⟩) rfl rfl rfl rfl rfl hl.1 rfl (Nat.le_of_ble_eq_true rfl) ⟨(Nat.le_of_ble_eq_true rfl), (Nat.le_of_ble_eq_true rfl)⟩ dX4_bendThere_58 ?_
        refine lv_istore (lv' := [(4, .int r_10), (5, .int r_7), (3, .int r_3), (0, .ref h), (1, .int p0), (2, .int p1)]) hx hb dX4_bendThere_61 hl (by decide) rfl (fun ls hl => ?_)
        exact hB63 r_3 r_10 ls (lv_sub hl [2, 0] rfl) hf
    · have hf := ip c_8 hf
      refine lv_aload_n hx hb dX4_bendThere_36 rfl (lv_at hl 3 rfl) ?_
      refine lv_iload_n hx hb dX4_bendThere_37 rfl (lv_at hl 4 rfl) ?_
      refine lv_iload hx hb dX4_bendThere_38 (lv_at hl 0 rfl) ?_
      refine lv_iconst (v := (1 : Int32)) hx hb dX4_bendThere_40 (by decide) ?_
      refine lv_isub hx hb dX4_bendThere_41 ?_
      obtain ⟨r_11, e_11, hf⟩ := bo hf
      refine pcallV (W0 := (wS g h a1 a2 a3 a4 σ)) (As := [.int p0, .int (r_7 - (1 : Int32))]) (rest := []) [0, 1, 2, 3, 4] 3 0 ⟨hx, hb, hml, hown, hts⟩ hP hE hZ hS (cX4_directionAt_ok l g h a1 a2 a3 a4 σ p0 (r_7 - (1 : Int32)) e_11) (cwV 2 hts gX4_bendThere_X4_directionAt rfl rfl rfl hdX4_directionAt ⟨(Nat.le_of_ble_eq_true rfl), (Nat.le_of_ble_eq_true rfl)⟩) rfl rfl rfl rfl rfl hl.1 rfl (Nat.le_of_ble_eq_true rfl) ⟨(Nat.le_of_ble_eq_true rfl), (Nat.le_of_ble_eq_true rfl)⟩ dX4_bendThere_42 ?_
      refine lv_istore_n (lv' := [(3, .int r_11), (5, .int r_7), (4, .int r_4), (0, .ref h), (1, .int p0), (2, .int p1)]) hx hb dX4_bendThere_45 rfl hl (by decide) rfl (fun ls hl => ?_)
      refine lv_goto (tgt := 63) hx hb dX4_bendThere_46 (by decide) ?_
      exact hB63 r_11 r_4 ls (lv_sub hl [0, 2] rfl) hf

def fX4_countAhead_11 (σ : Sh) (p0 : Int32) (v2_11 : Int32) : Nat → Int32 → Int32 → Option (Int32)
  | 0, _, _ => none
  | n + 1, v3_11, v4_11 => (if (S_n σ) ≤ v4_11 then (some v3_11) else ((fX4_levelIn σ v4_11).bind fun r_2 => (if r_2 < v2_11 then fX4_countAhead_11 σ p0 v2_11 n (v3_11 + 1) (v4_11 + 1) else (if r_2 = v2_11 then (if p0 ≤ v4_11 then fX4_countAhead_11 σ p0 v2_11 n v3_11 (v4_11 + 1) else fX4_countAhead_11 σ p0 v2_11 n (v3_11 + 1) (v4_11 + 1)) else fX4_countAhead_11 σ p0 v2_11 n v3_11 (v4_11 + 1)))))
def fX4_countAhead (σ : Sh) (p0 : Int32) : Option (Int32) := ((fX4_levelIn σ p0).bind fun r_6 => fX4_countAhead_11 σ p0 r_6 FU (0 : Int32) (0 : Int32))
abbrev rmX4_countAhead : Room := { frames := 1, cells := 0, slots := 0, locals := 21 }
theorem hdX4_countAhead : yX4_countAhead.cls = RX4 ∧ yX4_countAhead.cls ≠ "java/lang/invoke/MethodHandle" ∧ yX4_countAhead.cls ≠ "java/lang/invoke/VarHandle" ∧ (parseMethodDescriptor yX4_countAhead.desc).map (fun d => d.parameters.length) = some 1 := by decide +kernel
theorem fiX4_countAhead_X4 : ∀ w ∈ wsX40, w ∈ wsX4_countAhead := by decide +kernel
theorem flX4_countAhead_28 : (.fieldLink RX4 28 "ContourLabels$Sheet" "count" "I" : Cond) ∈ wsX4_countAhead := by decide +kernel
set_option maxHeartbeats 4000000 in
set_option maxRecDepth 100000 in
theorem cX4_countAhead_ok (l : Launch) (g : Gg) (h a1 a2 a3 a4 : Nat) (σ : Sh) (p0 : Int32) {r : Int32} (hf : fX4_countAhead σ p0 = some r) : Met l yX4_countAhead wsX4_countAhead rmX4_countAhead (va_Pc [.ref h, .int p0] (PP g (wS g h a1 a2 a3 a4 σ))) (vp_Si (fun r' => r' = r)) 0 0 (fun _ => False) := by
  refine Met.ofW (cc := cX4_countAhead) (maxL := 6) (ret := (some .int)) (by decide) rfl ?_
  intro p e s m args below meth c s₁ B hml hv
  obtain ⟨rfl, hP, hE, hZ⟩ := hv
  have hx := B.exec
  have hb := B.bytes
  have hr := B.returns
  have hts := atoms_spec (ws := wsX4_countAhead) B.pre
  have hown : s.vm.findClass RX4 = some m.cls := findClass_of_methodNamed B.named
  have hlocks := B.notSynchronized
  have hS : va_S (fun _ => False) s.heap s.heap [] := va_S.rf
  have hl := lv_entry ([.ref h, .int p0]) (n := 6) (Nat.le_of_ble_eq_true rfl)
  rw [lg_entry_eq]
  generalize (lg_sl ([.ref h, .int p0]) ++ List.replicate (6 - (lg_sl ([.ref h, .int p0])).length) Slot.unset).toArray = ls at hl ⊢
  have hl : lv_has ls 6 [(0, .ref h), (1, .int p0)] := hl
  have hB11 : ∀ (v2_11 : Int32) (n11 : Nat) (v3_11 : Int32) (v4_11 : Int32) (ls : Array Slot), lv_has ls 6 [(0, .ref h), (1, .int p0), (2, .int v2_11), (3, .int v3_11), (4, .int v4_11)] → fX4_countAhead_11 σ p0 v2_11 n11 v3_11 v4_11 = some r → W p l e (headSpec wsX4_countAhead rmX4_countAhead).room s m ([.ref h, .int p0] : List Value).toArray below meth c s.heap [] 0 0 (MQ below (vp_Si (fun r' => r' = r)) ([.ref h, .int p0] : List Value).toArray s 0 0 (fun _ => False)) (F0 m 11 ls []) := by
    intro v2_11 n11
    induction n11 with
    | zero => intro v3_11 v4_11 ls hl hf; exact nomatch (show (none : Option (Int32)) = some _ from hf)
    | succ n11 ih11 =>
      intro v3_11 v4_11 ls hl hf
      rw [fX4_countAhead_11] at hf
      refine lv_iload hx hb dX4_countAhead_11 (lv_at hl 4 rfl) ?_
      refine lv_aload_n hx hb dX4_countAhead_13 rfl (lv_at hl 0 rfl) ?_
      refine va_get (v := .int (S_n σ)) (C := RX4) (T := TX4) (N := 6) hx hb hts fiX4_countAhead_X4 hown hE.1 hP 0 rfl rfl 0 (by decide) (hts _ flX4_countAhead_28) (fun _ h9 => h9) rfl dX4_countAhead_14 ?_
      refine lv_icmp_ge (tgt := 55) hx hb dX4_countAhead_17 (by decide) (fun c_1 => ?_) (fun c_1 => ?_)
      · have hf := ip c_1 hf
        refine lv_iload_n hx hb dX4_countAhead_55 rfl (lv_at hl 3 rfl) ?_
        exact p_iret (v := v3_11) hx hb hr hlocks (Option.some.inj hf) dX4_countAhead_56
      · have hf := iq c_1 hf
        refine lv_aload_n hx hb dX4_countAhead_20 rfl (lv_at hl 0 rfl) ?_
        refine lv_iload hx hb dX4_countAhead_21 (lv_at hl 4 rfl) ?_
        obtain ⟨r_2, e_2, hf⟩ := bo hf
        refine pcallV (W0 := (wS g h a1 a2 a3 a4 σ)) (As := [.int v4_11]) (rest := []) [0, 1, 2, 3, 4] 3 0 ⟨hx, hb, hml, hown, hts⟩ hP hE hZ hS (cX4_levelIn_ok l g h a1 a2 a3 a4 σ v4_11 e_2) (cwV 1 hts gX4_countAhead_X4_levelIn rfl rfl rfl hdX4_levelIn ⟨(Nat.le_of_ble_eq_true rfl), (Nat.le_of_ble_eq_true rfl)⟩) rfl rfl rfl rfl rfl hl.1 rfl (Nat.le_of_ble_eq_true rfl) ⟨(Nat.le_of_ble_eq_true rfl), (Nat.le_of_ble_eq_true rfl)⟩ dX4_countAhead_23 ?_
        refine lv_istore (lv' := [(5, .int r_2), (0, .ref h), (1, .int p0), (2, .int v2_11), (3, .int v3_11), (4, .int v4_11)]) hx hb dX4_countAhead_26 hl (by decide) rfl (fun ls hl => ?_)
        refine lv_iload hx hb dX4_countAhead_28 (lv_at hl 0 rfl) ?_
        refine lv_iload_n hx hb dX4_countAhead_30 rfl (lv_at hl 3 rfl) ?_
        refine lv_icmp_lt (tgt := 46) hx hb dX4_countAhead_31 (by decide) (fun c_3 => ?_) (fun c_3 => ?_)
        · have hf := ip c_3 hf
          refine lv_iinc (v := (v3_11 + 1)) (lv' := [(3, .int (v3_11 + 1)), (5, .int r_2), (0, .ref h), (1, .int p0), (2, .int v2_11), (4, .int v4_11)]) hx hb dX4_countAhead_46 hl (k := 4) rfl rfl (by decide) rfl (fun ls hl => ?_)
          refine lv_iinc (v := (v4_11 + 1)) (lv' := [(4, .int (v4_11 + 1)), (3, .int (v3_11 + 1)), (5, .int r_2), (0, .ref h), (1, .int p0), (2, .int v2_11)]) hx hb dX4_countAhead_49 hl (k := 5) rfl rfl (by decide) rfl (fun ls hl => ?_)
          refine lv_goto (tgt := 11) hx hb dX4_countAhead_52 (by decide) ?_
          exact ih11 (v3_11 + 1) (v4_11 + 1) ls (lv_sub hl [3, 4, 5, 1, 0] rfl) hf
        · have hf := iq c_3 hf
          refine lv_iload hx hb dX4_countAhead_34 (lv_at hl 0 rfl) ?_
          refine lv_iload_n hx hb dX4_countAhead_36 rfl (lv_at hl 3 rfl) ?_
          refine lv_icmp_ne (tgt := 49) hx hb dX4_countAhead_37 (by decide) (fun c_4 => ?_) (fun c_4 => ?_)
          · have hf := iq c_4 hf
            refine lv_iinc (v := (v4_11 + 1)) (lv' := [(4, .int (v4_11 + 1)), (5, .int r_2), (0, .ref h), (1, .int p0), (2, .int v2_11), (3, .int v3_11)]) hx hb dX4_countAhead_49 hl (k := 5) rfl rfl (by decide) rfl (fun ls hl => ?_)
            refine lv_goto (tgt := 11) hx hb dX4_countAhead_52 (by decide) ?_
            exact ih11 v3_11 (v4_11 + 1) ls (lv_sub hl [2, 3, 4, 5, 0] rfl) hf
          · have hf := ip c_4 hf
            refine lv_iload hx hb dX4_countAhead_40 (lv_at hl 5 rfl) ?_
            refine lv_iload_n hx hb dX4_countAhead_42 rfl (lv_at hl 2 rfl) ?_
            refine lv_icmp_ge (tgt := 49) hx hb dX4_countAhead_43 (by decide) (fun c_5 => ?_) (fun c_5 => ?_)
            · have hf := ip c_5 hf
              refine lv_iinc (v := (v4_11 + 1)) (lv' := [(4, .int (v4_11 + 1)), (5, .int r_2), (0, .ref h), (1, .int p0), (2, .int v2_11), (3, .int v3_11)]) hx hb dX4_countAhead_49 hl (k := 5) rfl rfl (by decide) rfl (fun ls hl => ?_)
              refine lv_goto (tgt := 11) hx hb dX4_countAhead_52 (by decide) ?_
              exact ih11 v3_11 (v4_11 + 1) ls (lv_sub hl [2, 3, 4, 5, 0] rfl) hf
            · have hf := iq c_5 hf
              refine lv_iinc (v := (v3_11 + 1)) (lv' := [(3, .int (v3_11 + 1)), (5, .int r_2), (0, .ref h), (1, .int p0), (2, .int v2_11), (4, .int v4_11)]) hx hb dX4_countAhead_46 hl (k := 4) rfl rfl (by decide) rfl (fun ls hl => ?_)
              refine lv_iinc (v := (v4_11 + 1)) (lv' := [(4, .int (v4_11 + 1)), (3, .int (v3_11 + 1)), (5, .int r_2), (0, .ref h), (1, .int p0), (2, .int v2_11)]) hx hb dX4_countAhead_49 hl (k := 5) rfl rfl (by decide) rfl (fun ls hl => ?_)
              refine lv_goto (tgt := 11) hx hb dX4_countAhead_52 (by decide) ?_
              exact ih11 (v3_11 + 1) (v4_11 + 1) ls (lv_sub hl [3, 4, 5, 1, 0] rfl) hf
  unfold fX4_countAhead at hf
  refine lv_aload_n hx hb dX4_countAhead_0 rfl (lv_at hl 0 rfl) ?_
  refine lv_iload_n hx hb dX4_countAhead_1 rfl (lv_at hl 1 rfl) ?_
  obtain ⟨r_6, e_6, hf⟩ := bo hf
  refine pcallV (W0 := (wS g h a1 a2 a3 a4 σ)) (As := [.int p0]) (rest := []) [0, 1, 2, 3, 4] 3 0 ⟨hx, hb, hml, hown, hts⟩ hP hE hZ hS (cX4_levelIn_ok l g h a1 a2 a3 a4 σ p0 e_6) (cwV 1 hts gX4_countAhead_X4_levelIn rfl rfl rfl hdX4_levelIn ⟨(Nat.le_of_ble_eq_true rfl), (Nat.le_of_ble_eq_true rfl)⟩) rfl rfl rfl rfl rfl hl.1 rfl (Nat.le_of_ble_eq_true rfl) ⟨(Nat.le_of_ble_eq_true rfl), (Nat.le_of_ble_eq_true rfl)⟩ dX4_countAhead_2 ?_
  refine lv_istore_n (lv' := [(2, .int r_6), (0, .ref h), (1, .int p0)]) hx hb dX4_countAhead_5 rfl hl (by decide) rfl (fun ls hl => ?_)
  refine lv_iconst (v := (0 : Int32)) hx hb dX4_countAhead_6 (by decide) ?_
  refine lv_istore_n (lv' := [(3, .int (0 : Int32)), (2, .int r_6), (0, .ref h), (1, .int p0)]) hx hb dX4_countAhead_7 rfl hl (by decide) rfl (fun ls hl => ?_)
  refine lv_iconst (v := (0 : Int32)) hx hb dX4_countAhead_8 (by decide) ?_
  refine lv_istore (lv' := [(4, .int (0 : Int32)), (3, .int (0 : Int32)), (2, .int r_6), (0, .ref h), (1, .int p0)]) hx hb dX4_countAhead_9 hl (by decide) rfl (fun ls hl => ?_)
  exact hB11 r_6 FU (0 : Int32) (0 : Int32) ls (lv_sub hl [3, 4, 2, 1, 0] rfl) hf

def fX4_lineOfRank_2 (σ : Sh) (p0 : Int32) : Nat → Int32 → Option (Int32)
  | 0, _ => none
  | n + 1, v2_2 => (if (S_n σ) ≤ v2_2 then (some (-1 : Int32)) else ((fX4_countAhead σ v2_2).bind fun r_2 => (if r_2 = p0 then (some v2_2) else fX4_lineOfRank_2 σ p0 n (v2_2 + 1))))
def fX4_lineOfRank (σ : Sh) (p0 : Int32) : Option (Int32) := fX4_lineOfRank_2 σ p0 FU (0 : Int32)
abbrev rmX4_lineOfRank : Room := { frames := 2, cells := 0, slots := 0, locals := 46 }
theorem hdX4_lineOfRank : yX4_lineOfRank.cls = RX4 ∧ yX4_lineOfRank.cls ≠ "java/lang/invoke/MethodHandle" ∧ yX4_lineOfRank.cls ≠ "java/lang/invoke/VarHandle" ∧ (parseMethodDescriptor yX4_lineOfRank.desc).map (fun d => d.parameters.length) = some 1 := by decide +kernel
theorem fiX4_lineOfRank_X4 : ∀ w ∈ wsX40, w ∈ wsX4_lineOfRank := by decide +kernel
theorem flX4_lineOfRank_28 : (.fieldLink RX4 28 "ContourLabels$Sheet" "count" "I" : Cond) ∈ wsX4_lineOfRank := by decide +kernel
set_option maxHeartbeats 4000000 in
set_option maxRecDepth 100000 in
theorem cX4_lineOfRank_ok (l : Launch) (g : Gg) (h a1 a2 a3 a4 : Nat) (σ : Sh) (p0 : Int32) {r : Int32} (hf : fX4_lineOfRank σ p0 = some r) : Met l yX4_lineOfRank wsX4_lineOfRank rmX4_lineOfRank (va_Pc [.ref h, .int p0] (PP g (wS g h a1 a2 a3 a4 σ))) (vp_Si (fun r' => r' = r)) 0 0 (fun _ => False) := by
  refine Met.ofW (cc := cX4_lineOfRank) (maxL := 3) (ret := (some .int)) (by decide) rfl ?_
  intro p e s m args below meth c s₁ B hml hv
  obtain ⟨rfl, hP, hE, hZ⟩ := hv
  have hx := B.exec
  have hb := B.bytes
  have hr := B.returns
  have hts := atoms_spec (ws := wsX4_lineOfRank) B.pre
  have hown : s.vm.findClass RX4 = some m.cls := findClass_of_methodNamed B.named
  have hlocks := B.notSynchronized
  have hS : va_S (fun _ => False) s.heap s.heap [] := va_S.rf
  have hl := lv_entry ([.ref h, .int p0]) (n := 3) (Nat.le_of_ble_eq_true rfl)
  rw [lg_entry_eq]
  generalize (lg_sl ([.ref h, .int p0]) ++ List.replicate (3 - (lg_sl ([.ref h, .int p0])).length) Slot.unset).toArray = ls at hl ⊢
  have hl : lv_has ls 3 [(0, .ref h), (1, .int p0)] := hl
  have hB2 : ∀ (n2 : Nat) (v2_2 : Int32) (ls : Array Slot), lv_has ls 3 [(0, .ref h), (1, .int p0), (2, .int v2_2)] → fX4_lineOfRank_2 σ p0 n2 v2_2 = some r → W p l e (headSpec wsX4_lineOfRank rmX4_lineOfRank).room s m ([.ref h, .int p0] : List Value).toArray below meth c s.heap [] 0 0 (MQ below (vp_Si (fun r' => r' = r)) ([.ref h, .int p0] : List Value).toArray s 0 0 (fun _ => False)) (F0 m 2 ls []) := by
    intro  n2
    induction n2 with
    | zero => intro v2_2 ls hl hf; exact nomatch (show (none : Option (Int32)) = some _ from hf)
    | succ n2 ih2 =>
      intro v2_2 ls hl hf
      rw [fX4_lineOfRank_2] at hf
      refine lv_iload_n hx hb dX4_lineOfRank_2 rfl (lv_at hl 2 rfl) ?_
      refine lv_aload_n hx hb dX4_lineOfRank_3 rfl (lv_at hl 0 rfl) ?_
      refine va_get (v := .int (S_n σ)) (C := RX4) (T := TX4) (N := 6) hx hb hts fiX4_lineOfRank_X4 hown hE.1 hP 0 rfl rfl 0 (by decide) (hts _ flX4_lineOfRank_28) (fun _ h9 => h9) rfl dX4_lineOfRank_4 ?_
      refine lv_icmp_ge (tgt := 27) hx hb dX4_lineOfRank_7 (by decide) (fun c_1 => ?_) (fun c_1 => ?_)
      · have hf := ip c_1 hf
        refine lv_iconst (v := (-1 : Int32)) hx hb dX4_lineOfRank_27 (by decide) ?_
        exact p_iret (v := (-1 : Int32)) hx hb hr hlocks (Option.some.inj hf) dX4_lineOfRank_28
      · have hf := iq c_1 hf
        refine lv_aload_n hx hb dX4_lineOfRank_10 rfl (lv_at hl 0 rfl) ?_
        refine lv_iload_n hx hb dX4_lineOfRank_11 rfl (lv_at hl 2 rfl) ?_
        obtain ⟨r_2, e_2, hf⟩ := bo hf
        refine pcallV (W0 := (wS g h a1 a2 a3 a4 σ)) (As := [.int v2_2]) (rest := []) [0, 1, 2, 3, 4] 3 0 ⟨hx, hb, hml, hown, hts⟩ hP hE hZ hS (cX4_countAhead_ok l g h a1 a2 a3 a4 σ v2_2 e_2) (cwV 1 hts gX4_lineOfRank_X4_countAhead rfl rfl rfl hdX4_countAhead ⟨(Nat.le_of_ble_eq_true rfl), (Nat.le_of_ble_eq_true rfl)⟩) rfl rfl rfl rfl rfl hl.1 rfl (Nat.le_of_ble_eq_true rfl) ⟨(Nat.le_of_ble_eq_true rfl), (Nat.le_of_ble_eq_true rfl)⟩ dX4_lineOfRank_12 ?_
        refine lv_iload_n hx hb dX4_lineOfRank_15 rfl (lv_at hl 1 rfl) ?_
        refine lv_icmp_ne (tgt := 21) hx hb dX4_lineOfRank_16 (by decide) (fun c_3 => ?_) (fun c_3 => ?_)
        · have hf := iq c_3 hf
          refine lv_iinc (v := (v2_2 + 1)) (lv' := [(2, .int (v2_2 + 1)), (0, .ref h), (1, .int p0)]) hx hb dX4_lineOfRank_21 hl (k := 2) rfl rfl (by decide) rfl (fun ls hl => ?_)
          refine lv_goto (tgt := 2) hx hb dX4_lineOfRank_24 (by decide) ?_
          exact ih2 (v2_2 + 1) ls (lv_sub hl [1, 2, 0] rfl) hf
        · have hf := ip c_3 hf
          refine lv_iload_n hx hb dX4_lineOfRank_19 rfl (lv_at hl 2 rfl) ?_
          exact p_iret (v := v2_2) hx hb hr hlocks (Option.some.inj hf) dX4_lineOfRank_20
  unfold fX4_lineOfRank at hf
  refine lv_iconst (v := (0 : Int32)) hx hb dX4_lineOfRank_0 (by decide) ?_
  refine lv_istore_n (lv' := [(2, .int (0 : Int32)), (0, .ref h), (1, .int p0)]) hx hb dX4_lineOfRank_1 rfl hl (by decide) rfl (fun ls hl => ?_)
  exact hB2 FU (0 : Int32) ls (lv_sub hl [1, 2, 0] rfl) hf
