def fX4_putGap (σ : Sh) (p0 : Int32) : Option (Sh) := (some (S_gap' σ p0))
abbrev rmX4_putGap : Room := { frames := 0, cells := 0, slots := 0, locals := 0 }
theorem hdX4_putGap : yX4_putGap.cls = RX4 ∧ yX4_putGap.cls ≠ "java/lang/invoke/MethodHandle" ∧ yX4_putGap.cls ≠ "java/lang/invoke/VarHandle" ∧ (parseMethodDescriptor yX4_putGap.desc).map (fun d => d.parameters.length) = some 1 := by decide +kernel
theorem fiX4_putGap_X4 : ∀ w ∈ wsX40, w ∈ wsX4_putGap := by decide +kernel
theorem flX4_putGap_9 : (.fieldLink RX4 9 "ContourLabels$Sheet" "gap" "I" : Cond) ∈ wsX4_putGap := by decide +kernel
set_option maxHeartbeats 4000000 in
set_option maxRecDepth 100000 in
theorem cX4_putGap_ok (l : Launch) (g : Gg) (h a1 a2 a3 a4 : Nat) (σ : Sh) (p0 : Int32) (sz : Nat) {o : Sh} (hf : fX4_putGap σ p0 = some o) : Met l yX4_putGap wsX4_putGap rmX4_putGap (va_Pc [.ref h, .int p0] (PM g (wS g h a1 a2 a3 a4 σ) sz)) (va_Qv (fun _ : Unit => True) (fun _ t => PQ g (wS g h a1 a2 a3 a4 o) (va_A (wS g h a1 a2 a3 a4 σ) sz) t) (va_A (wS g h a1 a2 a3 a4 σ) sz)) 0 0 (va_A (wS g h a1 a2 a3 a4 σ) sz) := by
  refine Met.ofW (cc := cX4_putGap) (maxL := 2) (ret := none) (by decide) rfl ?_
  intro p e s m args below meth c s₁ B hml hv
  obtain ⟨rfl, rfl, hP, hD0, hE, hZ⟩ := hv
  have hx := B.exec
  have hb := B.bytes
  have hr := B.returns
  have hts := atoms_spec (ws := wsX4_putGap) B.pre
  have hown : s.vm.findClass RX4 = some m.cls := findClass_of_methodNamed B.named
  have hlocks := B.notSynchronized
  have hD := hD0.self (sz := s.heap.size)
  generalize hAe : (va_A (wS g h a1 a2 a3 a4 σ) s.heap.size) = A at hD hZ ⊢
  have hA : ∀ q : Nat, s.heap.size ≤ q → A q := fun q h => by rw [← hAe]; exact Or.inr h
  have hS : va_S A s.heap s.heap [] := va_S.rf
  have hP : va_P g.1 vwCl (wS g h a1 a2 a3 a4 σ) s.heap := hP
  have hl := lv_entry ([.ref h, .int p0]) (n := 2) (Nat.le_of_ble_eq_true rfl)
  rw [lg_entry_eq]
  generalize (lg_sl ([.ref h, .int p0]) ++ List.replicate (2 - (lg_sl ([.ref h, .int p0])).length) Slot.unset).toArray = ls at hl ⊢
  have hl : lv_has ls 2 [(0, .ref h), (1, .int p0)] := hl
  unfold fX4_putGap at hf
  refine lv_aload_n hx hb dX4_putGap_0 rfl (lv_at hl 0 rfl) ?_
  refine lv_iload_n hx hb dX4_putGap_1 rfl (lv_at hl 1 rfl) ?_
  refine va_put (v := .int p0) (ty := .int) (C := RX4) (T := TX4) (N := 6) hx hb hts fiX4_putGap_X4 tyX4 tyX4_ok nmX4 hown hE.1 hP hD hS 0 rfl rfl 1 (by decide) (hts _ flX4_putGap_9) (fun _ h9 => h9) rfl (by decide +kernel) rfl rfl (Nat.le_of_ble_eq_true rfl) dX4_putGap_2 (fun H locs hP hD hS => ?_)
  have hP : va_P g.1 vwCl (wS g h a1 a2 a3 a4 (S_gap' σ p0)) H := hP
  have hD : va_D A (wS g h a1 a2 a3 a4 (S_gap' σ p0)) := hD
  have ho := Option.some.inj hf
  subst ho
  exact m_vret hx hb hr hlocks hP hD hS dX4_putGap_5

def fX4_putLevel (σ : Sh) (p0 p1 : Int32) : Option (Sh) := (if p0 < 0 then (some σ) else (if (S_n σ) ≤ p0 then (some σ) else (if inR p0 8 then (some (S_lv' σ (upd (S_lv σ) (Int32.toNatClampNeg p0) p1))) else none)))
abbrev rmX4_putLevel : Room := { frames := 0, cells := 0, slots := 0, locals := 0 }
theorem hdX4_putLevel : yX4_putLevel.cls = RX4 ∧ yX4_putLevel.cls ≠ "java/lang/invoke/MethodHandle" ∧ yX4_putLevel.cls ≠ "java/lang/invoke/VarHandle" ∧ (parseMethodDescriptor yX4_putLevel.desc).map (fun d => d.parameters.length) = some 2 := by decide +kernel
theorem fiX4_putLevel_X4 : ∀ w ∈ wsX40, w ∈ wsX4_putLevel := by decide +kernel
theorem flX4_putLevel_28 : (.fieldLink RX4 28 "ContourLabels$Sheet" "count" "I" : Cond) ∈ wsX4_putLevel := by decide +kernel
theorem flX4_putLevel_15 : (.fieldLink RX4 15 "ContourLabels$Sheet" "levels" "[I" : Cond) ∈ wsX4_putLevel := by decide +kernel
set_option maxHeartbeats 4000000 in
set_option maxRecDepth 100000 in
theorem cX4_putLevel_ok (l : Launch) (g : Gg) (h a1 a2 a3 a4 : Nat) (σ : Sh) (p0 p1 : Int32) (sz : Nat) {o : Sh} (hf : fX4_putLevel σ p0 p1 = some o) : Met l yX4_putLevel wsX4_putLevel rmX4_putLevel (va_Pc [.ref h, .int p0, .int p1] (PM g (wS g h a1 a2 a3 a4 σ) sz)) (va_Qv (fun _ : Unit => True) (fun _ t => PQ g (wS g h a1 a2 a3 a4 o) (va_A (wS g h a1 a2 a3 a4 σ) sz) t) (va_A (wS g h a1 a2 a3 a4 σ) sz)) 0 0 (va_A (wS g h a1 a2 a3 a4 σ) sz) := by
  refine Met.ofW (cc := cX4_putLevel) (maxL := 3) (ret := none) (by decide) rfl ?_
  intro p e s m args below meth c s₁ B hml hv
  obtain ⟨rfl, rfl, hP, hD0, hE, hZ⟩ := hv
  have hx := B.exec
  have hb := B.bytes
  have hr := B.returns
  have hts := atoms_spec (ws := wsX4_putLevel) B.pre
  have hown : s.vm.findClass RX4 = some m.cls := findClass_of_methodNamed B.named
  have hlocks := B.notSynchronized
  have hD := hD0.self (sz := s.heap.size)
  generalize hAe : (va_A (wS g h a1 a2 a3 a4 σ) s.heap.size) = A at hD hZ ⊢
  have hA : ∀ q : Nat, s.heap.size ≤ q → A q := fun q h => by rw [← hAe]; exact Or.inr h
  have hS : va_S A s.heap s.heap [] := va_S.rf
  have hP : va_P g.1 vwCl (wS g h a1 a2 a3 a4 σ) s.heap := hP
  have hl := lv_entry ([.ref h, .int p0, .int p1]) (n := 3) (Nat.le_of_ble_eq_true rfl)
  rw [lg_entry_eq]
  generalize (lg_sl ([.ref h, .int p0, .int p1]) ++ List.replicate (3 - (lg_sl ([.ref h, .int p0, .int p1])).length) Slot.unset).toArray = ls at hl ⊢
  have hl : lv_has ls 3 [(0, .ref h), (1, .int p0), (2, .int p1)] := hl
  unfold fX4_putLevel at hf
  refine lv_iload_n hx hb dX4_putLevel_0 rfl (lv_at hl 1 rfl) ?_
  refine lv_if_lt (tgt := 19) hx hb dX4_putLevel_1 (by decide) (fun c_1 => ?_) (fun c_1 => ?_)
  · have hf := ip c_1 hf
    have ho := Option.some.inj hf
    subst ho
    exact m_vret hx hb hr hlocks hP hD hS dX4_putLevel_19
  · have hf := iq c_1 hf
    refine lv_iload_n hx hb dX4_putLevel_4 rfl (lv_at hl 1 rfl) ?_
    refine lv_aload_n hx hb dX4_putLevel_5 rfl (lv_at hl 0 rfl) ?_
    refine va_get (v := .int (S_n σ)) (C := RX4) (T := TX4) (N := 6) hx hb hts fiX4_putLevel_X4 hown hE.1 hP 0 rfl rfl 0 (by decide) (hts _ flX4_putLevel_28) (fun _ h9 => h9) rfl dX4_putLevel_6 ?_
    refine lv_icmp_ge (tgt := 19) hx hb dX4_putLevel_9 (by decide) (fun c_2 => ?_) (fun c_2 => ?_)
    · have hf := ip c_2 hf
      have ho := Option.some.inj hf
      subst ho
      exact m_vret hx hb hr hlocks hP hD hS dX4_putLevel_19
    · have hf := iq c_2 hf
      refine lv_aload_n hx hb dX4_putLevel_12 rfl (lv_at hl 0 rfl) ?_
      refine va_get (v := .ref a1) (C := RX4) (T := TX4) (N := 6) hx hb hts fiX4_putLevel_X4 hown hE.1 hP 0 rfl rfl 2 (by decide) (hts _ flX4_putLevel_15) (fun _ h9 => h9) rfl dX4_putLevel_13 ?_
      refine lv_iload_n hx hb dX4_putLevel_16 rfl (lv_at hl 1 rfl) ?_
      refine lv_iload_n hx hb dX4_putLevel_17 rfl (lv_at hl 2 rfl) ?_
      obtain ⟨h_3, hf⟩ := ck hf
      refine va_iast hx hb hE.1 hP hD hS 1 0 rfl rfl (vin h_3) dX4_putLevel_18 (fun H locs hP hD hS => ?_)
      have hP : va_P g.1 vwCl (wS g h a1 a2 a3 a4 (S_lv' σ (upd (S_lv σ) (Int32.toNatClampNeg p0) p1))) H := hP
      have hD : va_D A (wS g h a1 a2 a3 a4 (S_lv' σ (upd (S_lv σ) (Int32.toNatClampNeg p0) p1))) := hD
      have ho := Option.some.inj hf
      subst ho
      exact m_vret hx hb hr hlocks hP hD hS dX4_putLevel_19

def fX4_putLabel (σ : Sh) (p0 p1 : Int32) : Option (Sh) := (if p0 < 0 then (some σ) else (if (S_n σ) ≤ p0 then (some σ) else (if inR p0 8 then (some (S_lb' σ (upd (S_lb σ) (Int32.toNatClampNeg p0) p1))) else none)))
abbrev rmX4_putLabel : Room := { frames := 0, cells := 0, slots := 0, locals := 0 }
theorem hdX4_putLabel : yX4_putLabel.cls = RX4 ∧ yX4_putLabel.cls ≠ "java/lang/invoke/MethodHandle" ∧ yX4_putLabel.cls ≠ "java/lang/invoke/VarHandle" ∧ (parseMethodDescriptor yX4_putLabel.desc).map (fun d => d.parameters.length) = some 2 := by decide +kernel
theorem fiX4_putLabel_X4 : ∀ w ∈ wsX40, w ∈ wsX4_putLabel := by decide +kernel
theorem flX4_putLabel_28 : (.fieldLink RX4 28 "ContourLabels$Sheet" "count" "I" : Cond) ∈ wsX4_putLabel := by decide +kernel
theorem flX4_putLabel_22 : (.fieldLink RX4 22 "ContourLabels$Sheet" "labelPlaces" "[I" : Cond) ∈ wsX4_putLabel := by decide +kernel
set_option maxHeartbeats 4000000 in
set_option maxRecDepth 100000 in
theorem cX4_putLabel_ok (l : Launch) (g : Gg) (h a1 a2 a3 a4 : Nat) (σ : Sh) (p0 p1 : Int32) (sz : Nat) {o : Sh} (hf : fX4_putLabel σ p0 p1 = some o) : Met l yX4_putLabel wsX4_putLabel rmX4_putLabel (va_Pc [.ref h, .int p0, .int p1] (PM g (wS g h a1 a2 a3 a4 σ) sz)) (va_Qv (fun _ : Unit => True) (fun _ t => PQ g (wS g h a1 a2 a3 a4 o) (va_A (wS g h a1 a2 a3 a4 σ) sz) t) (va_A (wS g h a1 a2 a3 a4 σ) sz)) 0 0 (va_A (wS g h a1 a2 a3 a4 σ) sz) := by
  refine Met.ofW (cc := cX4_putLabel) (maxL := 3) (ret := none) (by decide) rfl ?_
  intro p e s m args below meth c s₁ B hml hv
  obtain ⟨rfl, rfl, hP, hD0, hE, hZ⟩ := hv
  have hx := B.exec
  have hb := B.bytes
  have hr := B.returns
  have hts := atoms_spec (ws := wsX4_putLabel) B.pre
  have hown : s.vm.findClass RX4 = some m.cls := findClass_of_methodNamed B.named
  have hlocks := B.notSynchronized
  have hD := hD0.self (sz := s.heap.size)
  generalize hAe : (va_A (wS g h a1 a2 a3 a4 σ) s.heap.size) = A at hD hZ ⊢
  have hA : ∀ q : Nat, s.heap.size ≤ q → A q := fun q h => by rw [← hAe]; exact Or.inr h
  have hS : va_S A s.heap s.heap [] := va_S.rf
  have hP : va_P g.1 vwCl (wS g h a1 a2 a3 a4 σ) s.heap := hP
  have hl := lv_entry ([.ref h, .int p0, .int p1]) (n := 3) (Nat.le_of_ble_eq_true rfl)
  rw [lg_entry_eq]
  generalize (lg_sl ([.ref h, .int p0, .int p1]) ++ List.replicate (3 - (lg_sl ([.ref h, .int p0, .int p1])).length) Slot.unset).toArray = ls at hl ⊢
  have hl : lv_has ls 3 [(0, .ref h), (1, .int p0), (2, .int p1)] := hl
  unfold fX4_putLabel at hf
  refine lv_iload_n hx hb dX4_putLabel_0 rfl (lv_at hl 1 rfl) ?_
  refine lv_if_lt (tgt := 19) hx hb dX4_putLabel_1 (by decide) (fun c_1 => ?_) (fun c_1 => ?_)
  · have hf := ip c_1 hf
    have ho := Option.some.inj hf
    subst ho
    exact m_vret hx hb hr hlocks hP hD hS dX4_putLabel_19
  · have hf := iq c_1 hf
    refine lv_iload_n hx hb dX4_putLabel_4 rfl (lv_at hl 1 rfl) ?_
    refine lv_aload_n hx hb dX4_putLabel_5 rfl (lv_at hl 0 rfl) ?_
    refine va_get (v := .int (S_n σ)) (C := RX4) (T := TX4) (N := 6) hx hb hts fiX4_putLabel_X4 hown hE.1 hP 0 rfl rfl 0 (by decide) (hts _ flX4_putLabel_28) (fun _ h9 => h9) rfl dX4_putLabel_6 ?_
    refine lv_icmp_ge (tgt := 19) hx hb dX4_putLabel_9 (by decide) (fun c_2 => ?_) (fun c_2 => ?_)
    · have hf := ip c_2 hf
      have ho := Option.some.inj hf
      subst ho
      exact m_vret hx hb hr hlocks hP hD hS dX4_putLabel_19
    · have hf := iq c_2 hf
      refine lv_aload_n hx hb dX4_putLabel_12 rfl (lv_at hl 0 rfl) ?_
      refine va_get (v := .ref a3) (C := RX4) (T := TX4) (N := 6) hx hb hts fiX4_putLabel_X4 hown hE.1 hP 0 rfl rfl 4 (by decide) (hts _ flX4_putLabel_22) (fun _ h9 => h9) rfl dX4_putLabel_13 ?_
      refine lv_iload_n hx hb dX4_putLabel_16 rfl (lv_at hl 1 rfl) ?_
      refine lv_iload_n hx hb dX4_putLabel_17 rfl (lv_at hl 2 rfl) ?_
      obtain ⟨h_3, hf⟩ := ck hf
      refine va_iast hx hb hE.1 hP hD hS 3 0 rfl rfl (vin h_3) dX4_putLabel_18 (fun H locs hP hD hS => ?_)
      have hP : va_P g.1 vwCl (wS g h a1 a2 a3 a4 (S_lb' σ (upd (S_lb σ) (Int32.toNatClampNeg p0) p1))) H := hP
      have hD : va_D A (wS g h a1 a2 a3 a4 (S_lb' σ (upd (S_lb σ) (Int32.toNatClampNeg p0) p1))) := hD
      have ho := Option.some.inj hf
      subst ho
      exact m_vret hx hb hr hlocks hP hD hS dX4_putLabel_19

def fX4_addLine (σ : Sh) (p0 p1 : Int32) : Option (Int32 × Sh) := (if (S_n σ) < (8 : Int32) then (if inR (S_n σ) 8 then (if inR ((S_n σ) * (61 : Int32)) 488 then (some ((S_n σ), (S_n' (S_pt' (S_lb' (S_sc' (S_lv' σ (upd (S_lv σ) (Int32.toNatClampNeg (S_n σ)) p0)) (upd (S_sc σ) (Int32.toNatClampNeg (S_n σ)) (0 : Int32))) (upd (S_lb σ) (Int32.toNatClampNeg (S_n σ)) (-1 : Int32))) (upd (S_pt σ) (Int32.toNatClampNeg ((S_n σ) * (61 : Int32))) p1)) ((S_n σ) + (1 : Int32))))) else none) else none) else (some ((-1 : Int32), σ)))
abbrev rmX4_addLine : Room := { frames := 0, cells := 0, slots := 0, locals := 0 }
theorem hdX4_addLine : yX4_addLine.cls = RX4 ∧ yX4_addLine.cls ≠ "java/lang/invoke/MethodHandle" ∧ yX4_addLine.cls ≠ "java/lang/invoke/VarHandle" ∧ (parseMethodDescriptor yX4_addLine.desc).map (fun d => d.parameters.length) = some 2 := by decide +kernel
theorem fiX4_addLine_X4 : ∀ w ∈ wsX40, w ∈ wsX4_addLine := by decide +kernel
theorem flX4_addLine_28 : (.fieldLink RX4 28 "ContourLabels$Sheet" "count" "I" : Cond) ∈ wsX4_addLine := by decide +kernel
theorem flX4_addLine_15 : (.fieldLink RX4 15 "ContourLabels$Sheet" "levels" "[I" : Cond) ∈ wsX4_addLine := by decide +kernel
theorem flX4_addLine_19 : (.fieldLink RX4 19 "ContourLabels$Sheet" "stepCounts" "[I" : Cond) ∈ wsX4_addLine := by decide +kernel
theorem flX4_addLine_22 : (.fieldLink RX4 22 "ContourLabels$Sheet" "labelPlaces" "[I" : Cond) ∈ wsX4_addLine := by decide +kernel
theorem flX4_addLine_25 : (.fieldLink RX4 25 "ContourLabels$Sheet" "points" "[I" : Cond) ∈ wsX4_addLine := by decide +kernel
set_option maxHeartbeats 4000000 in
set_option maxRecDepth 100000 in
theorem cX4_addLine_ok (l : Launch) (g : Gg) (h a1 a2 a3 a4 : Nat) (σ : Sh) (p0 p1 : Int32) (sz : Nat) {o : Int32 × Sh} (hf : fX4_addLine σ p0 p1 = some o) : Met l yX4_addLine wsX4_addLine rmX4_addLine (va_Pc [.ref h, .int p0, .int p1] (PM g (wS g h a1 a2 a3 a4 σ) sz)) (va_Qi (fun r' (_ : Unit) => r' = o.1) (fun _ t => PQ g (wS g h a1 a2 a3 a4 o.2) (va_A (wS g h a1 a2 a3 a4 σ) sz) t) (va_A (wS g h a1 a2 a3 a4 σ) sz)) 0 0 (va_A (wS g h a1 a2 a3 a4 σ) sz) := by
  refine Met.ofW (cc := cX4_addLine) (maxL := 4) (ret := (some .int)) (by decide) rfl ?_
  intro p e s m args below meth c s₁ B hml hv
  obtain ⟨rfl, rfl, hP, hD0, hE, hZ⟩ := hv
  have hx := B.exec
  have hb := B.bytes
  have hr := B.returns
  have hts := atoms_spec (ws := wsX4_addLine) B.pre
  have hown : s.vm.findClass RX4 = some m.cls := findClass_of_methodNamed B.named
  have hlocks := B.notSynchronized
  have hD := hD0.self (sz := s.heap.size)
  generalize hAe : (va_A (wS g h a1 a2 a3 a4 σ) s.heap.size) = A at hD hZ ⊢
  have hA : ∀ q : Nat, s.heap.size ≤ q → A q := fun q h => by rw [← hAe]; exact Or.inr h
  have hS : va_S A s.heap s.heap [] := va_S.rf
  have hP : va_P g.1 vwCl (wS g h a1 a2 a3 a4 σ) s.heap := hP
  have hl := lv_entry ([.ref h, .int p0, .int p1]) (n := 4) (Nat.le_of_ble_eq_true rfl)
  rw [lg_entry_eq]
  generalize (lg_sl ([.ref h, .int p0, .int p1]) ++ List.replicate (4 - (lg_sl ([.ref h, .int p0, .int p1])).length) Slot.unset).toArray = ls at hl ⊢
  have hl : lv_has ls 4 [(0, .ref h), (1, .int p0), (2, .int p1)] := hl
  unfold fX4_addLine at hf
  refine lv_aload_n hx hb dX4_addLine_0 rfl (lv_at hl 0 rfl) ?_
  refine va_get (v := .int (S_n σ)) (C := RX4) (T := TX4) (N := 6) hx hb hts fiX4_addLine_X4 hown hE.1 hP 0 rfl rfl 0 (by decide) (hts _ flX4_addLine_28) (fun _ h9 => h9) rfl dX4_addLine_1 ?_
  refine lv_bipush (v := (8 : Int32)) hx hb dX4_addLine_4 (by decide) ?_
  refine lv_icmp_lt (tgt := 11) hx hb dX4_addLine_6 (by decide) (fun c_1 => ?_) (fun c_1 => ?_)
  · have hf := ip c_1 hf
    refine lv_aload_n hx hb dX4_addLine_11 rfl (lv_at hl 0 rfl) ?_
    refine va_get (v := .int (S_n σ)) (C := RX4) (T := TX4) (N := 6) hx hb hts fiX4_addLine_X4 hown hE.1 hP 0 rfl rfl 0 (by decide) (hts _ flX4_addLine_28) (fun _ h9 => h9) rfl dX4_addLine_12 ?_
    refine lv_istore_n (lv' := [(3, .int (S_n σ)), (0, .ref h), (1, .int p0), (2, .int p1)]) hx hb dX4_addLine_15 rfl hl (by decide) rfl (fun ls hl => ?_)
    refine lv_aload_n hx hb dX4_addLine_16 rfl (lv_at hl 1 rfl) ?_
    refine va_get (v := .ref a1) (C := RX4) (T := TX4) (N := 6) hx hb hts fiX4_addLine_X4 hown hE.1 hP 0 rfl rfl 2 (by decide) (hts _ flX4_addLine_15) (fun _ h9 => h9) rfl dX4_addLine_17 ?_
    refine lv_iload_n hx hb dX4_addLine_20 rfl (lv_at hl 0 rfl) ?_
    refine lv_iload_n hx hb dX4_addLine_21 rfl (lv_at hl 2 rfl) ?_
    obtain ⟨h_2, hf⟩ := ck hf
    refine va_iast hx hb hE.1 hP hD hS 1 0 rfl rfl (vin h_2) dX4_addLine_22 (fun H locs hP hD hS => ?_)
    have hP : va_P g.1 vwCl (wS g h a1 a2 a3 a4 (S_lv' σ (upd (S_lv σ) (Int32.toNatClampNeg (S_n σ)) p0))) H := hP
    have hD : va_D A (wS g h a1 a2 a3 a4 (S_lv' σ (upd (S_lv σ) (Int32.toNatClampNeg (S_n σ)) p0))) := hD
    refine lv_aload_n hx hb dX4_addLine_23 rfl (lv_at hl 1 rfl) ?_
    refine va_get (v := .ref a2) (C := RX4) (T := TX4) (N := 6) hx hb hts fiX4_addLine_X4 hown hE.1 hP 0 rfl rfl 3 (by decide) (hts _ flX4_addLine_19) (fun _ h9 => h9) rfl dX4_addLine_24 ?_
    refine lv_iload_n hx hb dX4_addLine_27 rfl (lv_at hl 0 rfl) ?_
    refine lv_iconst (v := (0 : Int32)) hx hb dX4_addLine_28 (by decide) ?_
    refine va_iast hx hb hE.1 hP hD hS 2 0 rfl rfl (vin h_2) dX4_addLine_29 (fun H locs hP hD hS => ?_)
    have hP : va_P g.1 vwCl (wS g h a1 a2 a3 a4 (S_sc' (S_lv' σ (upd (S_lv σ) (Int32.toNatClampNeg (S_n σ)) p0)) (upd (S_sc σ) (Int32.toNatClampNeg (S_n σ)) (0 : Int32)))) H := hP
    have hD : va_D A (wS g h a1 a2 a3 a4 (S_sc' (S_lv' σ (upd (S_lv σ) (Int32.toNatClampNeg (S_n σ)) p0)) (upd (S_sc σ) (Int32.toNatClampNeg (S_n σ)) (0 : Int32)))) := hD
    refine lv_aload_n hx hb dX4_addLine_30 rfl (lv_at hl 1 rfl) ?_
    refine va_get (v := .ref a3) (C := RX4) (T := TX4) (N := 6) hx hb hts fiX4_addLine_X4 hown hE.1 hP 0 rfl rfl 4 (by decide) (hts _ flX4_addLine_22) (fun _ h9 => h9) rfl dX4_addLine_31 ?_
    refine lv_iload_n hx hb dX4_addLine_34 rfl (lv_at hl 0 rfl) ?_
    refine lv_iconst (v := (-1 : Int32)) hx hb dX4_addLine_35 (by decide) ?_
    refine va_iast hx hb hE.1 hP hD hS 3 0 rfl rfl (vin h_2) dX4_addLine_36 (fun H locs hP hD hS => ?_)
    have hP : va_P g.1 vwCl (wS g h a1 a2 a3 a4 (S_lb' (S_sc' (S_lv' σ (upd (S_lv σ) (Int32.toNatClampNeg (S_n σ)) p0)) (upd (S_sc σ) (Int32.toNatClampNeg (S_n σ)) (0 : Int32))) (upd (S_lb σ) (Int32.toNatClampNeg (S_n σ)) (-1 : Int32)))) H := hP
    have hD : va_D A (wS g h a1 a2 a3 a4 (S_lb' (S_sc' (S_lv' σ (upd (S_lv σ) (Int32.toNatClampNeg (S_n σ)) p0)) (upd (S_sc σ) (Int32.toNatClampNeg (S_n σ)) (0 : Int32))) (upd (S_lb σ) (Int32.toNatClampNeg (S_n σ)) (-1 : Int32)))) := hD
    refine lv_aload_n hx hb dX4_addLine_37 rfl (lv_at hl 1 rfl) ?_
    refine va_get (v := .ref a4) (C := RX4) (T := TX4) (N := 6) hx hb hts fiX4_addLine_X4 hown hE.1 hP 0 rfl rfl 5 (by decide) (hts _ flX4_addLine_25) (fun _ h9 => h9) rfl dX4_addLine_38 ?_
    refine lv_iload_n hx hb dX4_addLine_41 rfl (lv_at hl 0 rfl) ?_
    refine lv_bipush (v := (61 : Int32)) hx hb dX4_addLine_42 (by decide) ?_
    refine lv_imul hx hb dX4_addLine_44 ?_
    refine lv_iload_n hx hb dX4_addLine_45 rfl (lv_at hl 3 rfl) ?_
    obtain ⟨h_3, hf⟩ := ck hf
    refine va_iast hx hb hE.1 hP hD hS 4 0 rfl rfl (vin h_3) dX4_addLine_46 (fun H locs hP hD hS => ?_)
    have hP : va_P g.1 vwCl (wS g h a1 a2 a3 a4 (S_pt' (S_lb' (S_sc' (S_lv' σ (upd (S_lv σ) (Int32.toNatClampNeg (S_n σ)) p0)) (upd (S_sc σ) (Int32.toNatClampNeg (S_n σ)) (0 : Int32))) (upd (S_lb σ) (Int32.toNatClampNeg (S_n σ)) (-1 : Int32))) (upd (S_pt σ) (Int32.toNatClampNeg ((S_n σ) * (61 : Int32))) p1))) H := hP
    have hD : va_D A (wS g h a1 a2 a3 a4 (S_pt' (S_lb' (S_sc' (S_lv' σ (upd (S_lv σ) (Int32.toNatClampNeg (S_n σ)) p0)) (upd (S_sc σ) (Int32.toNatClampNeg (S_n σ)) (0 : Int32))) (upd (S_lb σ) (Int32.toNatClampNeg (S_n σ)) (-1 : Int32))) (upd (S_pt σ) (Int32.toNatClampNeg ((S_n σ) * (61 : Int32))) p1))) := hD
    refine lv_aload_n hx hb dX4_addLine_47 rfl (lv_at hl 1 rfl) ?_
    refine lv_dup hx hb dX4_addLine_48 rfl ?_
    refine va_get (v := .int (S_n σ)) (C := RX4) (T := TX4) (N := 6) hx hb hts fiX4_addLine_X4 hown hE.1 hP 0 rfl rfl 0 (by decide) (hts _ flX4_addLine_28) (fun _ h9 => h9) rfl dX4_addLine_49 ?_
    refine lv_iconst (v := (1 : Int32)) hx hb dX4_addLine_52 (by decide) ?_
    refine lv_iadd hx hb dX4_addLine_53 ?_
    refine va_put (v := .int ((S_n σ) + (1 : Int32))) (ty := .int) (C := RX4) (T := TX4) (N := 6) hx hb hts fiX4_addLine_X4 tyX4 tyX4_ok nmX4 hown hE.1 hP hD hS 0 rfl rfl 0 (by decide) (hts _ flX4_addLine_28) (fun _ h9 => h9) rfl (by decide +kernel) rfl rfl (Nat.le_of_ble_eq_true rfl) dX4_addLine_54 (fun H locs hP hD hS => ?_)
    have hP : va_P g.1 vwCl (wS g h a1 a2 a3 a4 (S_n' (S_pt' (S_lb' (S_sc' (S_lv' σ (upd (S_lv σ) (Int32.toNatClampNeg (S_n σ)) p0)) (upd (S_sc σ) (Int32.toNatClampNeg (S_n σ)) (0 : Int32))) (upd (S_lb σ) (Int32.toNatClampNeg (S_n σ)) (-1 : Int32))) (upd (S_pt σ) (Int32.toNatClampNeg ((S_n σ) * (61 : Int32))) p1)) ((S_n σ) + (1 : Int32)))) H := hP
    have hD : va_D A (wS g h a1 a2 a3 a4 (S_n' (S_pt' (S_lb' (S_sc' (S_lv' σ (upd (S_lv σ) (Int32.toNatClampNeg (S_n σ)) p0)) (upd (S_sc σ) (Int32.toNatClampNeg (S_n σ)) (0 : Int32))) (upd (S_lb σ) (Int32.toNatClampNeg (S_n σ)) (-1 : Int32))) (upd (S_pt σ) (Int32.toNatClampNeg ((S_n σ) * (61 : Int32))) p1)) ((S_n σ) + (1 : Int32)))) := hD
    refine lv_iload_n hx hb dX4_addLine_57 rfl (lv_at hl 0 rfl) ?_
    have ho := Option.some.inj hf
    subst ho
    exact m_iret (v := (S_n σ)) hx hb hr hlocks hP hD hS rfl dX4_addLine_58
  · have hf := iq c_1 hf
    refine lv_iconst (v := (-1 : Int32)) hx hb dX4_addLine_9 (by decide) ?_
    have ho := Option.some.inj hf
    subst ho
    exact m_iret (v := (-1 : Int32)) hx hb hr hlocks hP hD hS rfl dX4_addLine_10

def fX4_addStep (σ : Sh) (p0 p1 : Int32) : Option (Sh) := ((fX4_stepCount σ p0).bind fun r_1 => (if r_1 < 0 then (some σ) else (if r_1 < (60 : Int32) then ((fX4_pointAt σ p0 r_1).bind fun r_4 => ((fX6_pointBeside r_4 p1).bind fun r_5 => (if inR (((p0 * (61 : Int32)) + r_1) + (1 : Int32)) 488 then (if inR p0 8 then (some (S_sc' (S_pt' σ (upd (S_pt σ) (Int32.toNatClampNeg (((p0 * (61 : Int32)) + r_1) + (1 : Int32))) r_5)) (upd (S_sc σ) (Int32.toNatClampNeg p0) (r_1 + (1 : Int32))))) else none) else none))) else (some σ))))
abbrev rmX4_addStep : Room := { frames := 2, cells := 0, slots := 0, locals := 43 }
theorem hdX4_addStep : yX4_addStep.cls = RX4 ∧ yX4_addStep.cls ≠ "java/lang/invoke/MethodHandle" ∧ yX4_addStep.cls ≠ "java/lang/invoke/VarHandle" ∧ (parseMethodDescriptor yX4_addStep.desc).map (fun d => d.parameters.length) = some 2 := by decide +kernel
theorem fiX4_addStep_X4 : ∀ w ∈ wsX40, w ∈ wsX4_addStep := by decide +kernel
theorem flX4_addStep_25 : (.fieldLink RX4 25 "ContourLabels$Sheet" "points" "[I" : Cond) ∈ wsX4_addStep := by decide +kernel
theorem inX4_addStep_X6 : (.initialized RX6 : Cond) ∈ wsX4_addStep := by decide +kernel
theorem stX4_addStep_X6_pointBeside : (.static yX6_pointBeside : Cond) ∈ wsX4_addStep := by decide +kernel
theorem flX4_addStep_19 : (.fieldLink RX4 19 "ContourLabels$Sheet" "stepCounts" "[I" : Cond) ∈ wsX4_addStep := by decide +kernel
set_option maxHeartbeats 4000000 in
set_option maxRecDepth 100000 in
theorem cX4_addStep_ok (l : Launch) (g : Gg) (h a1 a2 a3 a4 : Nat) (σ : Sh) (p0 p1 : Int32) (sz : Nat) {o : Sh} (hf : fX4_addStep σ p0 p1 = some o) : Met l yX4_addStep wsX4_addStep rmX4_addStep (va_Pc [.ref h, .int p0, .int p1] (PM g (wS g h a1 a2 a3 a4 σ) sz)) (va_Qv (fun _ : Unit => True) (fun _ t => PQ g (wS g h a1 a2 a3 a4 o) (va_A (wS g h a1 a2 a3 a4 σ) sz) t) (va_A (wS g h a1 a2 a3 a4 σ) sz)) 0 0 (va_A (wS g h a1 a2 a3 a4 σ) sz) := by
  refine Met.ofW (cc := cX4_addStep) (maxL := 4) (ret := none) (by decide) rfl ?_
  intro p e s m args below meth c s₁ B hml hv
  obtain ⟨rfl, rfl, hP, hD0, hE, hZ⟩ := hv
  have hx := B.exec
  have hb := B.bytes
  have hr := B.returns
  have hts := atoms_spec (ws := wsX4_addStep) B.pre
  have hown : s.vm.findClass RX4 = some m.cls := findClass_of_methodNamed B.named
  have hlocks := B.notSynchronized
  have hD := hD0.self (sz := s.heap.size)
  generalize hAe : (va_A (wS g h a1 a2 a3 a4 σ) s.heap.size) = A at hD hZ ⊢
  have hA : ∀ q : Nat, s.heap.size ≤ q → A q := fun q h => by rw [← hAe]; exact Or.inr h
  have hS : va_S A s.heap s.heap [] := va_S.rf
  have hP : va_P g.1 vwCl (wS g h a1 a2 a3 a4 σ) s.heap := hP
  have hl := lv_entry ([.ref h, .int p0, .int p1]) (n := 4) (Nat.le_of_ble_eq_true rfl)
  rw [lg_entry_eq]
  generalize (lg_sl ([.ref h, .int p0, .int p1]) ++ List.replicate (4 - (lg_sl ([.ref h, .int p0, .int p1])).length) Slot.unset).toArray = ls at hl ⊢
  have hl : lv_has ls 4 [(0, .ref h), (1, .int p0), (2, .int p1)] := hl
  unfold fX4_addStep at hf
  refine lv_aload_n hx hb dX4_addStep_0 rfl (lv_at hl 0 rfl) ?_
  refine lv_iload_n hx hb dX4_addStep_1 rfl (lv_at hl 1 rfl) ?_
  obtain ⟨r_1, e_1, hf⟩ := bo hf
  refine pcallV (W0 := (wS g h a1 a2 a3 a4 σ)) (As := [.int p0]) (rest := []) [0, 1, 2, 3, 4] 3 0 ⟨hx, hb, hml, hown, hts⟩ hP hE hZ hS (cX4_stepCount_ok l g h a1 a2 a3 a4 σ p0 e_1) (cwV 1 hts gX4_addStep_X4_stepCount rfl rfl rfl hdX4_stepCount ⟨(Nat.le_of_ble_eq_true rfl), (Nat.le_of_ble_eq_true rfl)⟩) rfl rfl rfl rfl rfl hl.1 rfl (Nat.le_of_ble_eq_true rfl) ⟨(Nat.le_of_ble_eq_true rfl), (Nat.le_of_ble_eq_true rfl)⟩ dX4_addStep_2 ?_
  refine lv_istore_n (lv' := [(3, .int r_1), (0, .ref h), (1, .int p0), (2, .int p1)]) hx hb dX4_addStep_5 rfl hl (by decide) rfl (fun ls hl => ?_)
  refine lv_iload_n hx hb dX4_addStep_6 rfl (lv_at hl 0 rfl) ?_
  refine lv_if_lt (tgt := 16) hx hb dX4_addStep_7 (by decide) (fun c_2 => ?_) (fun c_2 => ?_)
  · have hf := ip c_2 hf
    have ho := Option.some.inj hf
    subst ho
    exact m_vret hx hb hr hlocks hP hD hS dX4_addStep_16
  · have hf := iq c_2 hf
    refine lv_iload_n hx hb dX4_addStep_10 rfl (lv_at hl 0 rfl) ?_
    refine lv_bipush (v := (60 : Int32)) hx hb dX4_addStep_11 (by decide) ?_
    refine lv_icmp_lt (tgt := 17) hx hb dX4_addStep_13 (by decide) (fun c_3 => ?_) (fun c_3 => ?_)
    · have hf := ip c_3 hf
      refine lv_aload_n hx hb dX4_addStep_17 rfl (lv_at hl 1 rfl) ?_
      refine va_get (v := .ref a4) (C := RX4) (T := TX4) (N := 6) hx hb hts fiX4_addStep_X4 hown hE.1 hP 0 rfl rfl 5 (by decide) (hts _ flX4_addStep_25) (fun _ h9 => h9) rfl dX4_addStep_18 ?_
      refine lv_iload_n hx hb dX4_addStep_21 rfl (lv_at hl 2 rfl) ?_
      refine lv_bipush (v := (61 : Int32)) hx hb dX4_addStep_22 (by decide) ?_
      refine lv_imul hx hb dX4_addStep_24 ?_
      refine lv_iload_n hx hb dX4_addStep_25 rfl (lv_at hl 0 rfl) ?_
      refine lv_iadd hx hb dX4_addStep_26 ?_
      refine lv_iconst (v := (1 : Int32)) hx hb dX4_addStep_27 (by decide) ?_
      refine lv_iadd hx hb dX4_addStep_28 ?_
      refine lv_aload_n hx hb dX4_addStep_29 rfl (lv_at hl 1 rfl) ?_
      refine lv_iload_n hx hb dX4_addStep_30 rfl (lv_at hl 2 rfl) ?_
      refine lv_iload_n hx hb dX4_addStep_31 rfl (lv_at hl 0 rfl) ?_
      obtain ⟨r_4, e_4, hf⟩ := bo hf
      refine pcallV (W0 := (wS g h a1 a2 a3 a4 σ)) (As := [.int p0, .int r_1]) (rest := [.int (((p0 * (61 : Int32)) + r_1) + (1 : Int32)), .ref a4]) [0, 1, 2, 3, 4] 3 0 ⟨hx, hb, hml, hown, hts⟩ hP hE hZ hS (cX4_pointAt_ok l g h a1 a2 a3 a4 σ p0 r_1 e_4) (cwV 2 hts gX4_addStep_X4_pointAt rfl rfl rfl hdX4_pointAt ⟨(Nat.le_of_ble_eq_true rfl), (Nat.le_of_ble_eq_true rfl)⟩) rfl rfl rfl rfl rfl hl.1 rfl (Nat.le_of_ble_eq_true rfl) ⟨(Nat.le_of_ble_eq_true rfl), (Nat.le_of_ble_eq_true rfl)⟩ dX4_addStep_32 ?_
      refine lv_iload_n hx hb dX4_addStep_35 rfl (lv_at hl 3 rfl) ?_
      obtain ⟨r_5, e_5, hf⟩ := bo hf
      refine pcallN (W0 := (wS g h a1 a2 a3 a4 σ)) (As := [.int r_4, .int p1]) (rest := [.int (((p0 * (61 : Int32)) + r_1) + (1 : Int32)), .ref a4]) [] ⟨hx, hb, hml, hown, hts⟩ hP hE hZ hS (cX6_pointBeside_ok l g  r_4 p1 e_5) ⟨va_cnB (host := RX6) 2 hts gX4_addStep_X6_pointBeside_n55 rfl rfl rfl (hE.2.1 (.methodLinkNest RX4 55 yX6_pointBeside RX6) (by decide +kernel)) (hts _ inX4_addStep_X6) hdX6_pointBeside.2 ⟨(Nat.le_of_ble_eq_true rfl), (Nat.le_of_ble_eq_true rfl)⟩, hts _ stX4_addStep_X6_pointBeside, trivial⟩ rfl rfl hl.1 rfl (Nat.le_of_ble_eq_true rfl) ⟨(Nat.le_of_ble_eq_true rfl), (Nat.le_of_ble_eq_true rfl)⟩ dX4_addStep_36 ?_
      obtain ⟨h_6, hf⟩ := ck hf
      refine va_iast hx hb hE.1 hP hD hS 4 0 rfl rfl (vin h_6) dX4_addStep_39 (fun H locs hP hD hS => ?_)
      have hP : va_P g.1 vwCl (wS g h a1 a2 a3 a4 (S_pt' σ (upd (S_pt σ) (Int32.toNatClampNeg (((p0 * (61 : Int32)) + r_1) + (1 : Int32))) r_5))) H := hP
      have hD : va_D A (wS g h a1 a2 a3 a4 (S_pt' σ (upd (S_pt σ) (Int32.toNatClampNeg (((p0 * (61 : Int32)) + r_1) + (1 : Int32))) r_5))) := hD
      refine lv_aload_n hx hb dX4_addStep_40 rfl (lv_at hl 1 rfl) ?_
      refine va_get (v := .ref a2) (C := RX4) (T := TX4) (N := 6) hx hb hts fiX4_addStep_X4 hown hE.1 hP 0 rfl rfl 3 (by decide) (hts _ flX4_addStep_19) (fun _ h9 => h9) rfl dX4_addStep_41 ?_
      refine lv_iload_n hx hb dX4_addStep_44 rfl (lv_at hl 2 rfl) ?_
      refine lv_iload_n hx hb dX4_addStep_45 rfl (lv_at hl 0 rfl) ?_
      refine lv_iconst (v := (1 : Int32)) hx hb dX4_addStep_46 (by decide) ?_
      refine lv_iadd hx hb dX4_addStep_47 ?_
      obtain ⟨h_7, hf⟩ := ck hf
      refine va_iast hx hb hE.1 hP hD hS 2 0 rfl rfl (vin h_7) dX4_addStep_48 (fun H locs hP hD hS => ?_)
      have hP : va_P g.1 vwCl (wS g h a1 a2 a3 a4 (S_sc' (S_pt' σ (upd (S_pt σ) (Int32.toNatClampNeg (((p0 * (61 : Int32)) + r_1) + (1 : Int32))) r_5)) (upd (S_sc σ) (Int32.toNatClampNeg p0) (r_1 + (1 : Int32))))) H := hP
      have hD : va_D A (wS g h a1 a2 a3 a4 (S_sc' (S_pt' σ (upd (S_pt σ) (Int32.toNatClampNeg (((p0 * (61 : Int32)) + r_1) + (1 : Int32))) r_5)) (upd (S_sc σ) (Int32.toNatClampNeg p0) (r_1 + (1 : Int32))))) := hD
      have ho := Option.some.inj hf
      subst ho
      exact m_vret hx hb hr hlocks hP hD hS dX4_addStep_49
    · have hf := iq c_3 hf
      have ho := Option.some.inj hf
      subst ho
      exact m_vret hx hb hr hlocks hP hD hS dX4_addStep_16

def fX4_copyFrom (σ : Sh) (ρ : Sh) : Option (Sh) := (some (S_pt' (S_lb' (S_sc' (S_lv' (S_gap' (S_n' σ (S_n ρ)) (S_gap ρ)) (va_cpy (S_lv ρ) (S_lv σ) (Int32.toNatClampNeg (0 : Int32)) (Int32.toNatClampNeg (0 : Int32)) (Int32.toNatClampNeg (8 : Int32)))) (va_cpy (S_sc ρ) (S_sc σ) (Int32.toNatClampNeg (0 : Int32)) (Int32.toNatClampNeg (0 : Int32)) (Int32.toNatClampNeg (8 : Int32)))) (va_cpy (S_lb ρ) (S_lb σ) (Int32.toNatClampNeg (0 : Int32)) (Int32.toNatClampNeg (0 : Int32)) (Int32.toNatClampNeg (8 : Int32)))) (va_cpy (S_pt ρ) (S_pt σ) (Int32.toNatClampNeg (0 : Int32)) (Int32.toNatClampNeg (0 : Int32)) (Int32.toNatClampNeg (488 : Int32)))))
abbrev rmX4_copyFrom : Room := { frames := 1, cells := 0, slots := 0, locals := 40 }
theorem hdX4_copyFrom : yX4_copyFrom.cls = RX4 ∧ yX4_copyFrom.cls ≠ "java/lang/invoke/MethodHandle" ∧ yX4_copyFrom.cls ≠ "java/lang/invoke/VarHandle" ∧ (parseMethodDescriptor yX4_copyFrom.desc).map (fun d => d.parameters.length) = some 1 := by decide +kernel
theorem fiX4_copyFrom_X4 : ∀ w ∈ wsX40, w ∈ wsX4_copyFrom := by decide +kernel
theorem flX4_copyFrom_28 : (.fieldLink RX4 28 "ContourLabels$Sheet" "count" "I" : Cond) ∈ wsX4_copyFrom := by decide +kernel
theorem flX4_copyFrom_9 : (.fieldLink RX4 9 "ContourLabels$Sheet" "gap" "I" : Cond) ∈ wsX4_copyFrom := by decide +kernel
theorem flX4_copyFrom_15 : (.fieldLink RX4 15 "ContourLabels$Sheet" "levels" "[I" : Cond) ∈ wsX4_copyFrom := by decide +kernel
theorem alX4_copyFrom : (.methodLink RX4 31 arraycopyName : Cond) ∈ wsX4_copyFrom := by decide +kernel
theorem anX4_copyFrom : (.native arraycopyName : Cond) ∈ wsX4_copyFrom := by decide +kernel
theorem asX4_copyFrom : (.static arraycopyName : Cond) ∈ wsX4_copyFrom := by decide +kernel
theorem aiX4_copyFrom : (.initialized "java/lang/System" : Cond) ∈ wsX4_copyFrom := by decide +kernel
theorem flX4_copyFrom_19 : (.fieldLink RX4 19 "ContourLabels$Sheet" "stepCounts" "[I" : Cond) ∈ wsX4_copyFrom := by decide +kernel
theorem flX4_copyFrom_22 : (.fieldLink RX4 22 "ContourLabels$Sheet" "labelPlaces" "[I" : Cond) ∈ wsX4_copyFrom := by decide +kernel
theorem flX4_copyFrom_25 : (.fieldLink RX4 25 "ContourLabels$Sheet" "points" "[I" : Cond) ∈ wsX4_copyFrom := by decide +kernel
set_option maxHeartbeats 4000000 in
set_option maxRecDepth 100000 in
theorem cX4_copyFrom_ok (l : Launch) (g : Gg) (h a1 a2 a3 a4 h2 b1 b2 b3 b4 : Nat) (σ : Sh) (ρ : Sh) (sz : Nat) {o : Sh} (hf : fX4_copyFrom σ ρ = some o) : Met l yX4_copyFrom wsX4_copyFrom rmX4_copyFrom (va_Pc [.ref h, .ref h2] (PM g (wS g h a1 a2 a3 a4 σ ++ (wS g h2 b1 b2 b3 b4 ρ)) sz)) (va_Qv (fun _ : Unit => True) (fun _ t => PQ g (wS g h a1 a2 a3 a4 o ++ (wS g h2 b1 b2 b3 b4 ρ)) (va_A (wS g h a1 a2 a3 a4 σ ++ (wS g h2 b1 b2 b3 b4 ρ)) sz) t) (va_A (wS g h a1 a2 a3 a4 σ ++ (wS g h2 b1 b2 b3 b4 ρ)) sz)) 0 0 (va_A (wS g h a1 a2 a3 a4 σ ++ (wS g h2 b1 b2 b3 b4 ρ)) sz) := by
  refine Met.ofW (cc := cX4_copyFrom) (maxL := 2) (ret := none) (by decide) rfl ?_
  intro p e s m args below meth c s₁ B hml hv
  obtain ⟨rfl, rfl, hP, hD0, hE, hZ⟩ := hv
  have hx := B.exec
  have hb := B.bytes
  have hr := B.returns
  have hts := atoms_spec (ws := wsX4_copyFrom) B.pre
  have hown : s.vm.findClass RX4 = some m.cls := findClass_of_methodNamed B.named
  have hlocks := B.notSynchronized
  have hD := hD0.self (sz := s.heap.size)
  generalize hAe : (va_A (wS g h a1 a2 a3 a4 σ ++ (wS g h2 b1 b2 b3 b4 ρ)) s.heap.size) = A at hD hZ ⊢
  have hA : ∀ q : Nat, s.heap.size ≤ q → A q := fun q h => by rw [← hAe]; exact Or.inr h
  have hS : va_S A s.heap s.heap [] := va_S.rf
  have hP : va_P g.1 vwCl (wS g h a1 a2 a3 a4 σ ++ (wS g h2 b1 b2 b3 b4 ρ)) s.heap := hP
  have hl := lv_entry ([.ref h, .ref h2]) (n := 2) (Nat.le_of_ble_eq_true rfl)
  rw [lg_entry_eq]
  generalize (lg_sl ([.ref h, .ref h2]) ++ List.replicate (2 - (lg_sl ([.ref h, .ref h2])).length) Slot.unset).toArray = ls at hl ⊢
  have hl : lv_has ls 2 [(0, .ref h), (1, .ref h2)] := hl
  unfold fX4_copyFrom at hf
  refine lv_aload_n hx hb dX4_copyFrom_0 rfl (lv_at hl 0 rfl) ?_
  refine lv_aload_n hx hb dX4_copyFrom_1 rfl (lv_at hl 1 rfl) ?_
  refine va_get (v := .int (S_n ρ)) (C := RX4) (T := TX4) (N := 6) hx hb hts fiX4_copyFrom_X4 hown hE.1 hP 5 rfl rfl 0 (by decide) (hts _ flX4_copyFrom_28) (fun _ h9 => h9) rfl dX4_copyFrom_2 ?_
  refine va_put (v := .int (S_n ρ)) (ty := .int) (C := RX4) (T := TX4) (N := 6) hx hb hts fiX4_copyFrom_X4 tyX4 tyX4_ok nmX4 hown hE.1 hP hD hS 0 rfl rfl 0 (by decide) (hts _ flX4_copyFrom_28) (fun _ h9 => h9) rfl (by decide +kernel) rfl rfl (Nat.le_of_ble_eq_true rfl) dX4_copyFrom_5 (fun H locs hP hD hS => ?_)
  have hP : va_P g.1 vwCl (wS g h a1 a2 a3 a4 (S_n' σ (S_n ρ)) ++ (wS g h2 b1 b2 b3 b4 ρ)) H := hP
  have hD : va_D A (wS g h a1 a2 a3 a4 (S_n' σ (S_n ρ)) ++ (wS g h2 b1 b2 b3 b4 ρ)) := hD
  refine lv_aload_n hx hb dX4_copyFrom_8 rfl (lv_at hl 0 rfl) ?_
  refine lv_aload_n hx hb dX4_copyFrom_9 rfl (lv_at hl 1 rfl) ?_
  refine va_get (v := .int (S_gap ρ)) (C := RX4) (T := TX4) (N := 6) hx hb hts fiX4_copyFrom_X4 hown hE.1 hP 5 rfl rfl 1 (by decide) (hts _ flX4_copyFrom_9) (fun _ h9 => h9) rfl dX4_copyFrom_10 ?_
  refine va_put (v := .int (S_gap ρ)) (ty := .int) (C := RX4) (T := TX4) (N := 6) hx hb hts fiX4_copyFrom_X4 tyX4 tyX4_ok nmX4 hown hE.1 hP hD hS 0 rfl rfl 1 (by decide) (hts _ flX4_copyFrom_9) (fun _ h9 => h9) rfl (by decide +kernel) rfl rfl (Nat.le_of_ble_eq_true rfl) dX4_copyFrom_13 (fun H locs hP hD hS => ?_)
  have hP : va_P g.1 vwCl (wS g h a1 a2 a3 a4 (S_gap' (S_n' σ (S_n ρ)) (S_gap ρ)) ++ (wS g h2 b1 b2 b3 b4 ρ)) H := hP
  have hD : va_D A (wS g h a1 a2 a3 a4 (S_gap' (S_n' σ (S_n ρ)) (S_gap ρ)) ++ (wS g h2 b1 b2 b3 b4 ρ)) := hD
  refine lv_aload_n hx hb dX4_copyFrom_16 rfl (lv_at hl 1 rfl) ?_
  refine va_get (v := .ref b1) (C := RX4) (T := TX4) (N := 6) hx hb hts fiX4_copyFrom_X4 hown hE.1 hP 5 rfl rfl 2 (by decide) (hts _ flX4_copyFrom_15) (fun _ h9 => h9) rfl dX4_copyFrom_17 ?_
  refine lv_iconst (v := (0 : Int32)) hx hb dX4_copyFrom_20 (by decide) ?_
  refine lv_aload_n hx hb dX4_copyFrom_21 rfl (lv_at hl 0 rfl) ?_
  refine va_get (v := .ref a1) (C := RX4) (T := TX4) (N := 6) hx hb hts fiX4_copyFrom_X4 hown hE.1 hP 0 rfl rfl 2 (by decide) (hts _ flX4_copyFrom_15) (fun _ h9 => h9) rfl dX4_copyFrom_22 ?_
  refine lv_iconst (v := (0 : Int32)) hx hb dX4_copyFrom_25 (by decide) ?_
  refine lv_bipush (v := (8 : Int32)) hx hb dX4_copyFrom_26 (by decide) ?_
  refine va_copyi hx hb (hml.trans hl.1.symm) hown (hts _ alX4_copyFrom) (hts _ anX4_copyFrom) (hts _ asX4_copyFrom) (hts _ aiX4_copyFrom) hE.1 hP hD hS 6 1 0 0 rfl rfl rfl rfl rfl (by decide) (by decide) (by decide) (by decide) (by decide) (fun _ _ => rfl) (Nat.le_of_ble_eq_true rfl) (Nat.le_of_ble_eq_true rfl) dX4_copyFrom_28 (fun H locs hP hD hS => ?_)
  have hP : va_P g.1 vwCl (wS g h a1 a2 a3 a4 (S_lv' (S_gap' (S_n' σ (S_n ρ)) (S_gap ρ)) (va_cpy (S_lv ρ) (S_lv σ) (Int32.toNatClampNeg (0 : Int32)) (Int32.toNatClampNeg (0 : Int32)) (Int32.toNatClampNeg (8 : Int32)))) ++ (wS g h2 b1 b2 b3 b4 ρ)) H := hP
  have hD : va_D A (wS g h a1 a2 a3 a4 (S_lv' (S_gap' (S_n' σ (S_n ρ)) (S_gap ρ)) (va_cpy (S_lv ρ) (S_lv σ) (Int32.toNatClampNeg (0 : Int32)) (Int32.toNatClampNeg (0 : Int32)) (Int32.toNatClampNeg (8 : Int32)))) ++ (wS g h2 b1 b2 b3 b4 ρ)) := hD
  refine lv_aload_n hx hb dX4_copyFrom_31 rfl (lv_at hl 1 rfl) ?_
  refine va_get (v := .ref b2) (C := RX4) (T := TX4) (N := 6) hx hb hts fiX4_copyFrom_X4 hown hE.1 hP 5 rfl rfl 3 (by decide) (hts _ flX4_copyFrom_19) (fun _ h9 => h9) rfl dX4_copyFrom_32 ?_
  refine lv_iconst (v := (0 : Int32)) hx hb dX4_copyFrom_35 (by decide) ?_
  refine lv_aload_n hx hb dX4_copyFrom_36 rfl (lv_at hl 0 rfl) ?_
  refine va_get (v := .ref a2) (C := RX4) (T := TX4) (N := 6) hx hb hts fiX4_copyFrom_X4 hown hE.1 hP 0 rfl rfl 3 (by decide) (hts _ flX4_copyFrom_19) (fun _ h9 => h9) rfl dX4_copyFrom_37 ?_
  refine lv_iconst (v := (0 : Int32)) hx hb dX4_copyFrom_40 (by decide) ?_
  refine lv_bipush (v := (8 : Int32)) hx hb dX4_copyFrom_41 (by decide) ?_
  refine va_copyi hx hb (hml.trans hl.1.symm) hown (hts _ alX4_copyFrom) (hts _ anX4_copyFrom) (hts _ asX4_copyFrom) (hts _ aiX4_copyFrom) hE.1 hP hD hS 7 2 0 0 rfl rfl rfl rfl rfl (by decide) (by decide) (by decide) (by decide) (by decide) (fun _ _ => rfl) (Nat.le_of_ble_eq_true rfl) (Nat.le_of_ble_eq_true rfl) dX4_copyFrom_43 (fun H locs hP hD hS => ?_)
  have hP : va_P g.1 vwCl (wS g h a1 a2 a3 a4 (S_sc' (S_lv' (S_gap' (S_n' σ (S_n ρ)) (S_gap ρ)) (va_cpy (S_lv ρ) (S_lv σ) (Int32.toNatClampNeg (0 : Int32)) (Int32.toNatClampNeg (0 : Int32)) (Int32.toNatClampNeg (8 : Int32)))) (va_cpy (S_sc ρ) (S_sc σ) (Int32.toNatClampNeg (0 : Int32)) (Int32.toNatClampNeg (0 : Int32)) (Int32.toNatClampNeg (8 : Int32)))) ++ (wS g h2 b1 b2 b3 b4 ρ)) H := hP
  have hD : va_D A (wS g h a1 a2 a3 a4 (S_sc' (S_lv' (S_gap' (S_n' σ (S_n ρ)) (S_gap ρ)) (va_cpy (S_lv ρ) (S_lv σ) (Int32.toNatClampNeg (0 : Int32)) (Int32.toNatClampNeg (0 : Int32)) (Int32.toNatClampNeg (8 : Int32)))) (va_cpy (S_sc ρ) (S_sc σ) (Int32.toNatClampNeg (0 : Int32)) (Int32.toNatClampNeg (0 : Int32)) (Int32.toNatClampNeg (8 : Int32)))) ++ (wS g h2 b1 b2 b3 b4 ρ)) := hD
  refine lv_aload_n hx hb dX4_copyFrom_46 rfl (lv_at hl 1 rfl) ?_
  refine va_get (v := .ref b3) (C := RX4) (T := TX4) (N := 6) hx hb hts fiX4_copyFrom_X4 hown hE.1 hP 5 rfl rfl 4 (by decide) (hts _ flX4_copyFrom_22) (fun _ h9 => h9) rfl dX4_copyFrom_47 ?_
  refine lv_iconst (v := (0 : Int32)) hx hb dX4_copyFrom_50 (by decide) ?_
  refine lv_aload_n hx hb dX4_copyFrom_51 rfl (lv_at hl 0 rfl) ?_
  refine va_get (v := .ref a3) (C := RX4) (T := TX4) (N := 6) hx hb hts fiX4_copyFrom_X4 hown hE.1 hP 0 rfl rfl 4 (by decide) (hts _ flX4_copyFrom_22) (fun _ h9 => h9) rfl dX4_copyFrom_52 ?_
  refine lv_iconst (v := (0 : Int32)) hx hb dX4_copyFrom_55 (by decide) ?_
  refine lv_bipush (v := (8 : Int32)) hx hb dX4_copyFrom_56 (by decide) ?_
  refine va_copyi hx hb (hml.trans hl.1.symm) hown (hts _ alX4_copyFrom) (hts _ anX4_copyFrom) (hts _ asX4_copyFrom) (hts _ aiX4_copyFrom) hE.1 hP hD hS 8 3 0 0 rfl rfl rfl rfl rfl (by decide) (by decide) (by decide) (by decide) (by decide) (fun _ _ => rfl) (Nat.le_of_ble_eq_true rfl) (Nat.le_of_ble_eq_true rfl) dX4_copyFrom_58 (fun H locs hP hD hS => ?_)
  have hP : va_P g.1 vwCl (wS g h a1 a2 a3 a4 (S_lb' (S_sc' (S_lv' (S_gap' (S_n' σ (S_n ρ)) (S_gap ρ)) (va_cpy (S_lv ρ) (S_lv σ) (Int32.toNatClampNeg (0 : Int32)) (Int32.toNatClampNeg (0 : Int32)) (Int32.toNatClampNeg (8 : Int32)))) (va_cpy (S_sc ρ) (S_sc σ) (Int32.toNatClampNeg (0 : Int32)) (Int32.toNatClampNeg (0 : Int32)) (Int32.toNatClampNeg (8 : Int32)))) (va_cpy (S_lb ρ) (S_lb σ) (Int32.toNatClampNeg (0 : Int32)) (Int32.toNatClampNeg (0 : Int32)) (Int32.toNatClampNeg (8 : Int32)))) ++ (wS g h2 b1 b2 b3 b4 ρ)) H := hP
  have hD : va_D A (wS g h a1 a2 a3 a4 (S_lb' (S_sc' (S_lv' (S_gap' (S_n' σ (S_n ρ)) (S_gap ρ)) (va_cpy (S_lv ρ) (S_lv σ) (Int32.toNatClampNeg (0 : Int32)) (Int32.toNatClampNeg (0 : Int32)) (Int32.toNatClampNeg (8 : Int32)))) (va_cpy (S_sc ρ) (S_sc σ) (Int32.toNatClampNeg (0 : Int32)) (Int32.toNatClampNeg (0 : Int32)) (Int32.toNatClampNeg (8 : Int32)))) (va_cpy (S_lb ρ) (S_lb σ) (Int32.toNatClampNeg (0 : Int32)) (Int32.toNatClampNeg (0 : Int32)) (Int32.toNatClampNeg (8 : Int32)))) ++ (wS g h2 b1 b2 b3 b4 ρ)) := hD
  refine lv_aload_n hx hb dX4_copyFrom_61 rfl (lv_at hl 1 rfl) ?_
  refine va_get (v := .ref b4) (C := RX4) (T := TX4) (N := 6) hx hb hts fiX4_copyFrom_X4 hown hE.1 hP 5 rfl rfl 5 (by decide) (hts _ flX4_copyFrom_25) (fun _ h9 => h9) rfl dX4_copyFrom_62 ?_
  refine lv_iconst (v := (0 : Int32)) hx hb dX4_copyFrom_65 (by decide) ?_
  refine lv_aload_n hx hb dX4_copyFrom_66 rfl (lv_at hl 0 rfl) ?_
  refine va_get (v := .ref a4) (C := RX4) (T := TX4) (N := 6) hx hb hts fiX4_copyFrom_X4 hown hE.1 hP 0 rfl rfl 5 (by decide) (hts _ flX4_copyFrom_25) (fun _ h9 => h9) rfl dX4_copyFrom_67 ?_
  refine lv_iconst (v := (0 : Int32)) hx hb dX4_copyFrom_70 (by decide) ?_
  refine lv_sipush (v := (488 : Int32)) hx hb dX4_copyFrom_71 (by decide) ?_
  refine va_copyi hx hb (hml.trans hl.1.symm) hown (hts _ alX4_copyFrom) (hts _ anX4_copyFrom) (hts _ asX4_copyFrom) (hts _ aiX4_copyFrom) hE.1 hP hD hS 9 4 0 0 rfl rfl rfl rfl rfl (by decide) (by decide) (by decide) (by decide) (by decide) (fun _ _ => rfl) (Nat.le_of_ble_eq_true rfl) (Nat.le_of_ble_eq_true rfl) dX4_copyFrom_74 (fun H locs hP hD hS => ?_)
  have hP : va_P g.1 vwCl (wS g h a1 a2 a3 a4 (S_pt' (S_lb' (S_sc' (S_lv' (S_gap' (S_n' σ (S_n ρ)) (S_gap ρ)) (va_cpy (S_lv ρ) (S_lv σ) (Int32.toNatClampNeg (0 : Int32)) (Int32.toNatClampNeg (0 : Int32)) (Int32.toNatClampNeg (8 : Int32)))) (va_cpy (S_sc ρ) (S_sc σ) (Int32.toNatClampNeg (0 : Int32)) (Int32.toNatClampNeg (0 : Int32)) (Int32.toNatClampNeg (8 : Int32)))) (va_cpy (S_lb ρ) (S_lb σ) (Int32.toNatClampNeg (0 : Int32)) (Int32.toNatClampNeg (0 : Int32)) (Int32.toNatClampNeg (8 : Int32)))) (va_cpy (S_pt ρ) (S_pt σ) (Int32.toNatClampNeg (0 : Int32)) (Int32.toNatClampNeg (0 : Int32)) (Int32.toNatClampNeg (488 : Int32)))) ++ (wS g h2 b1 b2 b3 b4 ρ)) H := hP
  have hD : va_D A (wS g h a1 a2 a3 a4 (S_pt' (S_lb' (S_sc' (S_lv' (S_gap' (S_n' σ (S_n ρ)) (S_gap ρ)) (va_cpy (S_lv ρ) (S_lv σ) (Int32.toNatClampNeg (0 : Int32)) (Int32.toNatClampNeg (0 : Int32)) (Int32.toNatClampNeg (8 : Int32)))) (va_cpy (S_sc ρ) (S_sc σ) (Int32.toNatClampNeg (0 : Int32)) (Int32.toNatClampNeg (0 : Int32)) (Int32.toNatClampNeg (8 : Int32)))) (va_cpy (S_lb ρ) (S_lb σ) (Int32.toNatClampNeg (0 : Int32)) (Int32.toNatClampNeg (0 : Int32)) (Int32.toNatClampNeg (8 : Int32)))) (va_cpy (S_pt ρ) (S_pt σ) (Int32.toNatClampNeg (0 : Int32)) (Int32.toNatClampNeg (0 : Int32)) (Int32.toNatClampNeg (488 : Int32)))) ++ (wS g h2 b1 b2 b3 b4 ρ)) := hD
  have ho := Option.some.inj hf
  subst ho
  exact m_vret hx hb hr hlocks hP hD hS dX4_copyFrom_77

def fX4_closeUp_a1 (σ : Sh) (p1 p2 : Int32) : Option (Sh) := (if (¬ ((p1 + (1 : Int32)) * p2) < 0) ∧ (¬ (p1 * p2) < 0) ∧ (¬ ((((S_n σ) - p1) - (1 : Int32)) * p2) < 0) ∧ (Int32.toNatClampNeg ((p1 + (1 : Int32)) * p2) + Int32.toNatClampNeg ((((S_n σ) - p1) - (1 : Int32)) * p2) ≤ 8) ∧ (Int32.toNatClampNeg (p1 * p2) + Int32.toNatClampNeg ((((S_n σ) - p1) - (1 : Int32)) * p2) ≤ 8) then (some (S_lv' σ (va_cpy (S_lv σ) (S_lv σ) (Int32.toNatClampNeg ((p1 + (1 : Int32)) * p2)) (Int32.toNatClampNeg (p1 * p2)) (Int32.toNatClampNeg ((((S_n σ) - p1) - (1 : Int32)) * p2))))) else none)
abbrev rmX4_closeUp_a1 : Room := { frames := 1, cells := 0, slots := 0, locals := 40 }
theorem hdX4_closeUp : yX4_closeUp.cls = RX4 ∧ yX4_closeUp.cls ≠ "java/lang/invoke/MethodHandle" ∧ yX4_closeUp.cls ≠ "java/lang/invoke/VarHandle" ∧ (parseMethodDescriptor yX4_closeUp.desc).map (fun d => d.parameters.length) = some 3 := by decide +kernel
theorem fiX4_closeUp_a1_X4 : ∀ w ∈ wsX40, w ∈ wsX4_closeUp := by decide +kernel
theorem flX4_closeUp_a1_28 : (.fieldLink RX4 28 "ContourLabels$Sheet" "count" "I" : Cond) ∈ wsX4_closeUp := by decide +kernel
theorem alX4_closeUp_a1 : (.methodLink RX4 31 arraycopyName : Cond) ∈ wsX4_closeUp := by decide +kernel
theorem anX4_closeUp_a1 : (.native arraycopyName : Cond) ∈ wsX4_closeUp := by decide +kernel
theorem asX4_closeUp_a1 : (.static arraycopyName : Cond) ∈ wsX4_closeUp := by decide +kernel
theorem aiX4_closeUp_a1 : (.initialized "java/lang/System" : Cond) ∈ wsX4_closeUp := by decide +kernel
set_option maxHeartbeats 4000000 in
set_option maxRecDepth 100000 in
theorem cX4_closeUp_a1_ok (l : Launch) (g : Gg) (h a1 a2 a3 a4 : Nat) (σ : Sh) (p1 p2 : Int32) (sz : Nat) {o : Sh} (hf : fX4_closeUp_a1 σ p1 p2 = some o) : Met l yX4_closeUp wsX4_closeUp rmX4_closeUp_a1 (va_Pc [.ref h, .ref a1, .int p1, .int p2] (PM g (wS g h a1 a2 a3 a4 σ) sz)) (va_Qv (fun _ : Unit => True) (fun _ t => PQ g (wS g h a1 a2 a3 a4 o) (va_A (wS g h a1 a2 a3 a4 σ) sz) t) (va_A (wS g h a1 a2 a3 a4 σ) sz)) 0 0 (va_A (wS g h a1 a2 a3 a4 σ) sz) := by
  refine Met.ofW (cc := cX4_closeUp) (maxL := 4) (ret := none) (by decide) rfl ?_
  intro p e s m args below meth c s₁ B hml hv
  obtain ⟨rfl, rfl, hP, hD0, hE, hZ⟩ := hv
  have hx := B.exec
  have hb := B.bytes
  have hr := B.returns
  have hts := atoms_spec (ws := wsX4_closeUp) B.pre
  have hown : s.vm.findClass RX4 = some m.cls := findClass_of_methodNamed B.named
  have hlocks := B.notSynchronized
  have hD := hD0.self (sz := s.heap.size)
  generalize hAe : (va_A (wS g h a1 a2 a3 a4 σ) s.heap.size) = A at hD hZ ⊢
  have hA : ∀ q : Nat, s.heap.size ≤ q → A q := fun q h => by rw [← hAe]; exact Or.inr h
  have hS : va_S A s.heap s.heap [] := va_S.rf
  have hP : va_P g.1 vwCl (wS g h a1 a2 a3 a4 σ) s.heap := hP
  have hl := lv_entry ([.ref h, .ref a1, .int p1, .int p2]) (n := 4) (Nat.le_of_ble_eq_true rfl)
  rw [lg_entry_eq]
  generalize (lg_sl ([.ref h, .ref a1, .int p1, .int p2]) ++ List.replicate (4 - (lg_sl ([.ref h, .ref a1, .int p1, .int p2])).length) Slot.unset).toArray = ls at hl ⊢
  have hl : lv_has ls 4 [(0, .ref h), (1, .ref a1), (2, .int p1), (3, .int p2)] := hl
  unfold fX4_closeUp_a1 at hf
  refine lv_aload_n hx hb dX4_closeUp_0 rfl (lv_at hl 1 rfl) ?_
  refine lv_iload_n hx hb dX4_closeUp_1 rfl (lv_at hl 2 rfl) ?_
  refine lv_iconst (v := (1 : Int32)) hx hb dX4_closeUp_2 (by decide) ?_
  refine lv_iadd hx hb dX4_closeUp_3 ?_
  refine lv_iload_n hx hb dX4_closeUp_4 rfl (lv_at hl 3 rfl) ?_
  refine lv_imul hx hb dX4_closeUp_5 ?_
  refine lv_aload_n hx hb dX4_closeUp_6 rfl (lv_at hl 1 rfl) ?_
  refine lv_iload_n hx hb dX4_closeUp_7 rfl (lv_at hl 2 rfl) ?_
  refine lv_iload_n hx hb dX4_closeUp_8 rfl (lv_at hl 3 rfl) ?_
  refine lv_imul hx hb dX4_closeUp_9 ?_
  refine lv_aload_n hx hb dX4_closeUp_10 rfl (lv_at hl 0 rfl) ?_
  refine va_get (v := .int (S_n σ)) (C := RX4) (T := TX4) (N := 6) hx hb hts fiX4_closeUp_a1_X4 hown hE.1 hP 0 rfl rfl 0 (by decide) (hts _ flX4_closeUp_a1_28) (fun _ h9 => h9) rfl dX4_closeUp_11 ?_
  refine lv_iload_n hx hb dX4_closeUp_14 rfl (lv_at hl 2 rfl) ?_
  refine lv_isub hx hb dX4_closeUp_15 ?_
  refine lv_iconst (v := (1 : Int32)) hx hb dX4_closeUp_16 (by decide) ?_
  refine lv_isub hx hb dX4_closeUp_17 ?_
  refine lv_iload_n hx hb dX4_closeUp_18 rfl (lv_at hl 3 rfl) ?_
  refine lv_imul hx hb dX4_closeUp_19 ?_
  obtain ⟨h_1, hf⟩ := ck hf
  refine va_copyi hx hb (hml.trans hl.1.symm) hown (hts _ alX4_closeUp_a1) (hts _ anX4_closeUp_a1) (hts _ asX4_closeUp_a1) (hts _ aiX4_closeUp_a1) hE.1 hP hD hS 1 1 0 0 rfl rfl rfl rfl rfl h_1.1 h_1.2.1 h_1.2.2.1 h_1.2.2.2.1 h_1.2.2.2.2 (fun _ _ => rfl) (Nat.le_of_ble_eq_true rfl) (Nat.le_of_ble_eq_true rfl) dX4_closeUp_20 (fun H locs hP hD hS => ?_)
  have hP : va_P g.1 vwCl (wS g h a1 a2 a3 a4 (S_lv' σ (va_cpy (S_lv σ) (S_lv σ) (Int32.toNatClampNeg ((p1 + (1 : Int32)) * p2)) (Int32.toNatClampNeg (p1 * p2)) (Int32.toNatClampNeg ((((S_n σ) - p1) - (1 : Int32)) * p2))))) H := hP
  have hD : va_D A (wS g h a1 a2 a3 a4 (S_lv' σ (va_cpy (S_lv σ) (S_lv σ) (Int32.toNatClampNeg ((p1 + (1 : Int32)) * p2)) (Int32.toNatClampNeg (p1 * p2)) (Int32.toNatClampNeg ((((S_n σ) - p1) - (1 : Int32)) * p2))))) := hD
  have ho := Option.some.inj hf
  subst ho
  exact m_vret hx hb hr hlocks hP hD hS dX4_closeUp_23

def fX4_closeUp_a2 (σ : Sh) (p1 p2 : Int32) : Option (Sh) := (if (¬ ((p1 + (1 : Int32)) * p2) < 0) ∧ (¬ (p1 * p2) < 0) ∧ (¬ ((((S_n σ) - p1) - (1 : Int32)) * p2) < 0) ∧ (Int32.toNatClampNeg ((p1 + (1 : Int32)) * p2) + Int32.toNatClampNeg ((((S_n σ) - p1) - (1 : Int32)) * p2) ≤ 8) ∧ (Int32.toNatClampNeg (p1 * p2) + Int32.toNatClampNeg ((((S_n σ) - p1) - (1 : Int32)) * p2) ≤ 8) then (some (S_sc' σ (va_cpy (S_sc σ) (S_sc σ) (Int32.toNatClampNeg ((p1 + (1 : Int32)) * p2)) (Int32.toNatClampNeg (p1 * p2)) (Int32.toNatClampNeg ((((S_n σ) - p1) - (1 : Int32)) * p2))))) else none)
abbrev rmX4_closeUp_a2 : Room := { frames := 1, cells := 0, slots := 0, locals := 40 }
theorem fiX4_closeUp_a2_X4 : ∀ w ∈ wsX40, w ∈ wsX4_closeUp := by decide +kernel
theorem flX4_closeUp_a2_28 : (.fieldLink RX4 28 "ContourLabels$Sheet" "count" "I" : Cond) ∈ wsX4_closeUp := by decide +kernel
theorem alX4_closeUp_a2 : (.methodLink RX4 31 arraycopyName : Cond) ∈ wsX4_closeUp := by decide +kernel
theorem anX4_closeUp_a2 : (.native arraycopyName : Cond) ∈ wsX4_closeUp := by decide +kernel
theorem asX4_closeUp_a2 : (.static arraycopyName : Cond) ∈ wsX4_closeUp := by decide +kernel
theorem aiX4_closeUp_a2 : (.initialized "java/lang/System" : Cond) ∈ wsX4_closeUp := by decide +kernel
set_option maxHeartbeats 4000000 in
set_option maxRecDepth 100000 in
theorem cX4_closeUp_a2_ok (l : Launch) (g : Gg) (h a1 a2 a3 a4 : Nat) (σ : Sh) (p1 p2 : Int32) (sz : Nat) {o : Sh} (hf : fX4_closeUp_a2 σ p1 p2 = some o) : Met l yX4_closeUp wsX4_closeUp rmX4_closeUp_a2 (va_Pc [.ref h, .ref a2, .int p1, .int p2] (PM g (wS g h a1 a2 a3 a4 σ) sz)) (va_Qv (fun _ : Unit => True) (fun _ t => PQ g (wS g h a1 a2 a3 a4 o) (va_A (wS g h a1 a2 a3 a4 σ) sz) t) (va_A (wS g h a1 a2 a3 a4 σ) sz)) 0 0 (va_A (wS g h a1 a2 a3 a4 σ) sz) := by
  refine Met.ofW (cc := cX4_closeUp) (maxL := 4) (ret := none) (by decide) rfl ?_
  intro p e s m args below meth c s₁ B hml hv
  obtain ⟨rfl, rfl, hP, hD0, hE, hZ⟩ := hv
  have hx := B.exec
  have hb := B.bytes
  have hr := B.returns
  have hts := atoms_spec (ws := wsX4_closeUp) B.pre
  have hown : s.vm.findClass RX4 = some m.cls := findClass_of_methodNamed B.named
  have hlocks := B.notSynchronized
  have hD := hD0.self (sz := s.heap.size)
  generalize hAe : (va_A (wS g h a1 a2 a3 a4 σ) s.heap.size) = A at hD hZ ⊢
  have hA : ∀ q : Nat, s.heap.size ≤ q → A q := fun q h => by rw [← hAe]; exact Or.inr h
  have hS : va_S A s.heap s.heap [] := va_S.rf
  have hP : va_P g.1 vwCl (wS g h a1 a2 a3 a4 σ) s.heap := hP
  have hl := lv_entry ([.ref h, .ref a2, .int p1, .int p2]) (n := 4) (Nat.le_of_ble_eq_true rfl)
  rw [lg_entry_eq]
  generalize (lg_sl ([.ref h, .ref a2, .int p1, .int p2]) ++ List.replicate (4 - (lg_sl ([.ref h, .ref a2, .int p1, .int p2])).length) Slot.unset).toArray = ls at hl ⊢
  have hl : lv_has ls 4 [(0, .ref h), (1, .ref a2), (2, .int p1), (3, .int p2)] := hl
  unfold fX4_closeUp_a2 at hf
  refine lv_aload_n hx hb dX4_closeUp_0 rfl (lv_at hl 1 rfl) ?_
  refine lv_iload_n hx hb dX4_closeUp_1 rfl (lv_at hl 2 rfl) ?_
  refine lv_iconst (v := (1 : Int32)) hx hb dX4_closeUp_2 (by decide) ?_
  refine lv_iadd hx hb dX4_closeUp_3 ?_
  refine lv_iload_n hx hb dX4_closeUp_4 rfl (lv_at hl 3 rfl) ?_
  refine lv_imul hx hb dX4_closeUp_5 ?_
  refine lv_aload_n hx hb dX4_closeUp_6 rfl (lv_at hl 1 rfl) ?_
  refine lv_iload_n hx hb dX4_closeUp_7 rfl (lv_at hl 2 rfl) ?_
  refine lv_iload_n hx hb dX4_closeUp_8 rfl (lv_at hl 3 rfl) ?_
  refine lv_imul hx hb dX4_closeUp_9 ?_
  refine lv_aload_n hx hb dX4_closeUp_10 rfl (lv_at hl 0 rfl) ?_
  refine va_get (v := .int (S_n σ)) (C := RX4) (T := TX4) (N := 6) hx hb hts fiX4_closeUp_a2_X4 hown hE.1 hP 0 rfl rfl 0 (by decide) (hts _ flX4_closeUp_a2_28) (fun _ h9 => h9) rfl dX4_closeUp_11 ?_
  refine lv_iload_n hx hb dX4_closeUp_14 rfl (lv_at hl 2 rfl) ?_
  refine lv_isub hx hb dX4_closeUp_15 ?_
  refine lv_iconst (v := (1 : Int32)) hx hb dX4_closeUp_16 (by decide) ?_
  refine lv_isub hx hb dX4_closeUp_17 ?_
  refine lv_iload_n hx hb dX4_closeUp_18 rfl (lv_at hl 3 rfl) ?_
  refine lv_imul hx hb dX4_closeUp_19 ?_
  obtain ⟨h_1, hf⟩ := ck hf
  refine va_copyi hx hb (hml.trans hl.1.symm) hown (hts _ alX4_closeUp_a2) (hts _ anX4_closeUp_a2) (hts _ asX4_closeUp_a2) (hts _ aiX4_closeUp_a2) hE.1 hP hD hS 2 2 0 0 rfl rfl rfl rfl rfl h_1.1 h_1.2.1 h_1.2.2.1 h_1.2.2.2.1 h_1.2.2.2.2 (fun _ _ => rfl) (Nat.le_of_ble_eq_true rfl) (Nat.le_of_ble_eq_true rfl) dX4_closeUp_20 (fun H locs hP hD hS => ?_)
  have hP : va_P g.1 vwCl (wS g h a1 a2 a3 a4 (S_sc' σ (va_cpy (S_sc σ) (S_sc σ) (Int32.toNatClampNeg ((p1 + (1 : Int32)) * p2)) (Int32.toNatClampNeg (p1 * p2)) (Int32.toNatClampNeg ((((S_n σ) - p1) - (1 : Int32)) * p2))))) H := hP
  have hD : va_D A (wS g h a1 a2 a3 a4 (S_sc' σ (va_cpy (S_sc σ) (S_sc σ) (Int32.toNatClampNeg ((p1 + (1 : Int32)) * p2)) (Int32.toNatClampNeg (p1 * p2)) (Int32.toNatClampNeg ((((S_n σ) - p1) - (1 : Int32)) * p2))))) := hD
  have ho := Option.some.inj hf
  subst ho
  exact m_vret hx hb hr hlocks hP hD hS dX4_closeUp_23

def fX4_closeUp_a3 (σ : Sh) (p1 p2 : Int32) : Option (Sh) := (if (¬ ((p1 + (1 : Int32)) * p2) < 0) ∧ (¬ (p1 * p2) < 0) ∧ (¬ ((((S_n σ) - p1) - (1 : Int32)) * p2) < 0) ∧ (Int32.toNatClampNeg ((p1 + (1 : Int32)) * p2) + Int32.toNatClampNeg ((((S_n σ) - p1) - (1 : Int32)) * p2) ≤ 8) ∧ (Int32.toNatClampNeg (p1 * p2) + Int32.toNatClampNeg ((((S_n σ) - p1) - (1 : Int32)) * p2) ≤ 8) then (some (S_lb' σ (va_cpy (S_lb σ) (S_lb σ) (Int32.toNatClampNeg ((p1 + (1 : Int32)) * p2)) (Int32.toNatClampNeg (p1 * p2)) (Int32.toNatClampNeg ((((S_n σ) - p1) - (1 : Int32)) * p2))))) else none)
abbrev rmX4_closeUp_a3 : Room := { frames := 1, cells := 0, slots := 0, locals := 40 }
theorem fiX4_closeUp_a3_X4 : ∀ w ∈ wsX40, w ∈ wsX4_closeUp := by decide +kernel
theorem flX4_closeUp_a3_28 : (.fieldLink RX4 28 "ContourLabels$Sheet" "count" "I" : Cond) ∈ wsX4_closeUp := by decide +kernel
theorem alX4_closeUp_a3 : (.methodLink RX4 31 arraycopyName : Cond) ∈ wsX4_closeUp := by decide +kernel
theorem anX4_closeUp_a3 : (.native arraycopyName : Cond) ∈ wsX4_closeUp := by decide +kernel
theorem asX4_closeUp_a3 : (.static arraycopyName : Cond) ∈ wsX4_closeUp := by decide +kernel
theorem aiX4_closeUp_a3 : (.initialized "java/lang/System" : Cond) ∈ wsX4_closeUp := by decide +kernel
set_option maxHeartbeats 4000000 in
set_option maxRecDepth 100000 in
theorem cX4_closeUp_a3_ok (l : Launch) (g : Gg) (h a1 a2 a3 a4 : Nat) (σ : Sh) (p1 p2 : Int32) (sz : Nat) {o : Sh} (hf : fX4_closeUp_a3 σ p1 p2 = some o) : Met l yX4_closeUp wsX4_closeUp rmX4_closeUp_a3 (va_Pc [.ref h, .ref a3, .int p1, .int p2] (PM g (wS g h a1 a2 a3 a4 σ) sz)) (va_Qv (fun _ : Unit => True) (fun _ t => PQ g (wS g h a1 a2 a3 a4 o) (va_A (wS g h a1 a2 a3 a4 σ) sz) t) (va_A (wS g h a1 a2 a3 a4 σ) sz)) 0 0 (va_A (wS g h a1 a2 a3 a4 σ) sz) := by
  refine Met.ofW (cc := cX4_closeUp) (maxL := 4) (ret := none) (by decide) rfl ?_
  intro p e s m args below meth c s₁ B hml hv
  obtain ⟨rfl, rfl, hP, hD0, hE, hZ⟩ := hv
  have hx := B.exec
  have hb := B.bytes
  have hr := B.returns
  have hts := atoms_spec (ws := wsX4_closeUp) B.pre
  have hown : s.vm.findClass RX4 = some m.cls := findClass_of_methodNamed B.named
  have hlocks := B.notSynchronized
  have hD := hD0.self (sz := s.heap.size)
  generalize hAe : (va_A (wS g h a1 a2 a3 a4 σ) s.heap.size) = A at hD hZ ⊢
  have hA : ∀ q : Nat, s.heap.size ≤ q → A q := fun q h => by rw [← hAe]; exact Or.inr h
  have hS : va_S A s.heap s.heap [] := va_S.rf
  have hP : va_P g.1 vwCl (wS g h a1 a2 a3 a4 σ) s.heap := hP
  have hl := lv_entry ([.ref h, .ref a3, .int p1, .int p2]) (n := 4) (Nat.le_of_ble_eq_true rfl)
  rw [lg_entry_eq]
  generalize (lg_sl ([.ref h, .ref a3, .int p1, .int p2]) ++ List.replicate (4 - (lg_sl ([.ref h, .ref a3, .int p1, .int p2])).length) Slot.unset).toArray = ls at hl ⊢
  have hl : lv_has ls 4 [(0, .ref h), (1, .ref a3), (2, .int p1), (3, .int p2)] := hl
  unfold fX4_closeUp_a3 at hf
  refine lv_aload_n hx hb dX4_closeUp_0 rfl (lv_at hl 1 rfl) ?_
  refine lv_iload_n hx hb dX4_closeUp_1 rfl (lv_at hl 2 rfl) ?_
  refine lv_iconst (v := (1 : Int32)) hx hb dX4_closeUp_2 (by decide) ?_
  refine lv_iadd hx hb dX4_closeUp_3 ?_
  refine lv_iload_n hx hb dX4_closeUp_4 rfl (lv_at hl 3 rfl) ?_
  refine lv_imul hx hb dX4_closeUp_5 ?_
  refine lv_aload_n hx hb dX4_closeUp_6 rfl (lv_at hl 1 rfl) ?_
  refine lv_iload_n hx hb dX4_closeUp_7 rfl (lv_at hl 2 rfl) ?_
  refine lv_iload_n hx hb dX4_closeUp_8 rfl (lv_at hl 3 rfl) ?_
  refine lv_imul hx hb dX4_closeUp_9 ?_
  refine lv_aload_n hx hb dX4_closeUp_10 rfl (lv_at hl 0 rfl) ?_
  refine va_get (v := .int (S_n σ)) (C := RX4) (T := TX4) (N := 6) hx hb hts fiX4_closeUp_a3_X4 hown hE.1 hP 0 rfl rfl 0 (by decide) (hts _ flX4_closeUp_a3_28) (fun _ h9 => h9) rfl dX4_closeUp_11 ?_
  refine lv_iload_n hx hb dX4_closeUp_14 rfl (lv_at hl 2 rfl) ?_
  refine lv_isub hx hb dX4_closeUp_15 ?_
  refine lv_iconst (v := (1 : Int32)) hx hb dX4_closeUp_16 (by decide) ?_
  refine lv_isub hx hb dX4_closeUp_17 ?_
  refine lv_iload_n hx hb dX4_closeUp_18 rfl (lv_at hl 3 rfl) ?_
  refine lv_imul hx hb dX4_closeUp_19 ?_
  obtain ⟨h_1, hf⟩ := ck hf
  refine va_copyi hx hb (hml.trans hl.1.symm) hown (hts _ alX4_closeUp_a3) (hts _ anX4_closeUp_a3) (hts _ asX4_closeUp_a3) (hts _ aiX4_closeUp_a3) hE.1 hP hD hS 3 3 0 0 rfl rfl rfl rfl rfl h_1.1 h_1.2.1 h_1.2.2.1 h_1.2.2.2.1 h_1.2.2.2.2 (fun _ _ => rfl) (Nat.le_of_ble_eq_true rfl) (Nat.le_of_ble_eq_true rfl) dX4_closeUp_20 (fun H locs hP hD hS => ?_)
  have hP : va_P g.1 vwCl (wS g h a1 a2 a3 a4 (S_lb' σ (va_cpy (S_lb σ) (S_lb σ) (Int32.toNatClampNeg ((p1 + (1 : Int32)) * p2)) (Int32.toNatClampNeg (p1 * p2)) (Int32.toNatClampNeg ((((S_n σ) - p1) - (1 : Int32)) * p2))))) H := hP
  have hD : va_D A (wS g h a1 a2 a3 a4 (S_lb' σ (va_cpy (S_lb σ) (S_lb σ) (Int32.toNatClampNeg ((p1 + (1 : Int32)) * p2)) (Int32.toNatClampNeg (p1 * p2)) (Int32.toNatClampNeg ((((S_n σ) - p1) - (1 : Int32)) * p2))))) := hD
  have ho := Option.some.inj hf
  subst ho
  exact m_vret hx hb hr hlocks hP hD hS dX4_closeUp_23

def fX4_closeUp_a4 (σ : Sh) (p1 p2 : Int32) : Option (Sh) := (if (¬ ((p1 + (1 : Int32)) * p2) < 0) ∧ (¬ (p1 * p2) < 0) ∧ (¬ ((((S_n σ) - p1) - (1 : Int32)) * p2) < 0) ∧ (Int32.toNatClampNeg ((p1 + (1 : Int32)) * p2) + Int32.toNatClampNeg ((((S_n σ) - p1) - (1 : Int32)) * p2) ≤ 488) ∧ (Int32.toNatClampNeg (p1 * p2) + Int32.toNatClampNeg ((((S_n σ) - p1) - (1 : Int32)) * p2) ≤ 488) then (some (S_pt' σ (va_cpy (S_pt σ) (S_pt σ) (Int32.toNatClampNeg ((p1 + (1 : Int32)) * p2)) (Int32.toNatClampNeg (p1 * p2)) (Int32.toNatClampNeg ((((S_n σ) - p1) - (1 : Int32)) * p2))))) else none)
abbrev rmX4_closeUp_a4 : Room := { frames := 1, cells := 0, slots := 0, locals := 40 }
theorem fiX4_closeUp_a4_X4 : ∀ w ∈ wsX40, w ∈ wsX4_closeUp := by decide +kernel
theorem flX4_closeUp_a4_28 : (.fieldLink RX4 28 "ContourLabels$Sheet" "count" "I" : Cond) ∈ wsX4_closeUp := by decide +kernel
theorem alX4_closeUp_a4 : (.methodLink RX4 31 arraycopyName : Cond) ∈ wsX4_closeUp := by decide +kernel
theorem anX4_closeUp_a4 : (.native arraycopyName : Cond) ∈ wsX4_closeUp := by decide +kernel
theorem asX4_closeUp_a4 : (.static arraycopyName : Cond) ∈ wsX4_closeUp := by decide +kernel
theorem aiX4_closeUp_a4 : (.initialized "java/lang/System" : Cond) ∈ wsX4_closeUp := by decide +kernel
set_option maxHeartbeats 4000000 in
set_option maxRecDepth 100000 in
theorem cX4_closeUp_a4_ok (l : Launch) (g : Gg) (h a1 a2 a3 a4 : Nat) (σ : Sh) (p1 p2 : Int32) (sz : Nat) {o : Sh} (hf : fX4_closeUp_a4 σ p1 p2 = some o) : Met l yX4_closeUp wsX4_closeUp rmX4_closeUp_a4 (va_Pc [.ref h, .ref a4, .int p1, .int p2] (PM g (wS g h a1 a2 a3 a4 σ) sz)) (va_Qv (fun _ : Unit => True) (fun _ t => PQ g (wS g h a1 a2 a3 a4 o) (va_A (wS g h a1 a2 a3 a4 σ) sz) t) (va_A (wS g h a1 a2 a3 a4 σ) sz)) 0 0 (va_A (wS g h a1 a2 a3 a4 σ) sz) := by
  refine Met.ofW (cc := cX4_closeUp) (maxL := 4) (ret := none) (by decide) rfl ?_
  intro p e s m args below meth c s₁ B hml hv
  obtain ⟨rfl, rfl, hP, hD0, hE, hZ⟩ := hv
  have hx := B.exec
  have hb := B.bytes
  have hr := B.returns
  have hts := atoms_spec (ws := wsX4_closeUp) B.pre
  have hown : s.vm.findClass RX4 = some m.cls := findClass_of_methodNamed B.named
  have hlocks := B.notSynchronized
  have hD := hD0.self (sz := s.heap.size)
  generalize hAe : (va_A (wS g h a1 a2 a3 a4 σ) s.heap.size) = A at hD hZ ⊢
  have hA : ∀ q : Nat, s.heap.size ≤ q → A q := fun q h => by rw [← hAe]; exact Or.inr h
  have hS : va_S A s.heap s.heap [] := va_S.rf
  have hP : va_P g.1 vwCl (wS g h a1 a2 a3 a4 σ) s.heap := hP
  have hl := lv_entry ([.ref h, .ref a4, .int p1, .int p2]) (n := 4) (Nat.le_of_ble_eq_true rfl)
  rw [lg_entry_eq]
  generalize (lg_sl ([.ref h, .ref a4, .int p1, .int p2]) ++ List.replicate (4 - (lg_sl ([.ref h, .ref a4, .int p1, .int p2])).length) Slot.unset).toArray = ls at hl ⊢
  have hl : lv_has ls 4 [(0, .ref h), (1, .ref a4), (2, .int p1), (3, .int p2)] := hl
  unfold fX4_closeUp_a4 at hf
  refine lv_aload_n hx hb dX4_closeUp_0 rfl (lv_at hl 1 rfl) ?_
  refine lv_iload_n hx hb dX4_closeUp_1 rfl (lv_at hl 2 rfl) ?_
  refine lv_iconst (v := (1 : Int32)) hx hb dX4_closeUp_2 (by decide) ?_
  refine lv_iadd hx hb dX4_closeUp_3 ?_
  refine lv_iload_n hx hb dX4_closeUp_4 rfl (lv_at hl 3 rfl) ?_
  refine lv_imul hx hb dX4_closeUp_5 ?_
  refine lv_aload_n hx hb dX4_closeUp_6 rfl (lv_at hl 1 rfl) ?_
  refine lv_iload_n hx hb dX4_closeUp_7 rfl (lv_at hl 2 rfl) ?_
  refine lv_iload_n hx hb dX4_closeUp_8 rfl (lv_at hl 3 rfl) ?_
  refine lv_imul hx hb dX4_closeUp_9 ?_
  refine lv_aload_n hx hb dX4_closeUp_10 rfl (lv_at hl 0 rfl) ?_
  refine va_get (v := .int (S_n σ)) (C := RX4) (T := TX4) (N := 6) hx hb hts fiX4_closeUp_a4_X4 hown hE.1 hP 0 rfl rfl 0 (by decide) (hts _ flX4_closeUp_a4_28) (fun _ h9 => h9) rfl dX4_closeUp_11 ?_
  refine lv_iload_n hx hb dX4_closeUp_14 rfl (lv_at hl 2 rfl) ?_
  refine lv_isub hx hb dX4_closeUp_15 ?_
  refine lv_iconst (v := (1 : Int32)) hx hb dX4_closeUp_16 (by decide) ?_
  refine lv_isub hx hb dX4_closeUp_17 ?_
  refine lv_iload_n hx hb dX4_closeUp_18 rfl (lv_at hl 3 rfl) ?_
  refine lv_imul hx hb dX4_closeUp_19 ?_
  obtain ⟨h_1, hf⟩ := ck hf
  refine va_copyi hx hb (hml.trans hl.1.symm) hown (hts _ alX4_closeUp_a4) (hts _ anX4_closeUp_a4) (hts _ asX4_closeUp_a4) (hts _ aiX4_closeUp_a4) hE.1 hP hD hS 4 4 0 0 rfl rfl rfl rfl rfl h_1.1 h_1.2.1 h_1.2.2.1 h_1.2.2.2.1 h_1.2.2.2.2 (fun _ _ => rfl) (Nat.le_of_ble_eq_true rfl) (Nat.le_of_ble_eq_true rfl) dX4_closeUp_20 (fun H locs hP hD hS => ?_)
  have hP : va_P g.1 vwCl (wS g h a1 a2 a3 a4 (S_pt' σ (va_cpy (S_pt σ) (S_pt σ) (Int32.toNatClampNeg ((p1 + (1 : Int32)) * p2)) (Int32.toNatClampNeg (p1 * p2)) (Int32.toNatClampNeg ((((S_n σ) - p1) - (1 : Int32)) * p2))))) H := hP
  have hD : va_D A (wS g h a1 a2 a3 a4 (S_pt' σ (va_cpy (S_pt σ) (S_pt σ) (Int32.toNatClampNeg ((p1 + (1 : Int32)) * p2)) (Int32.toNatClampNeg (p1 * p2)) (Int32.toNatClampNeg ((((S_n σ) - p1) - (1 : Int32)) * p2))))) := hD
  have ho := Option.some.inj hf
  subst ho
  exact m_vret hx hb hr hlocks hP hD hS dX4_closeUp_23

def fX4_removeLine (σ : Sh) (p0 : Int32) : Option (Bool × Sh) := ((fX4_hasLine σ p0).bind fun r_1 => (if r_1 = true then ((fX4_closeUp_a1 σ p0 (1 : Int32)).bind fun r_3 => ((fX4_closeUp_a2 r_3 p0 (1 : Int32)).bind fun r_4 => ((fX4_closeUp_a3 r_4 p0 (1 : Int32)).bind fun r_5 => ((fX4_closeUp_a4 r_5 p0 (61 : Int32)).bind fun r_6 => (some (true, (S_n' r_6 ((S_n r_6) - (1 : Int32))))))))) else (some (false, σ))))
abbrev rmX4_removeLine : Room := { frames := 2, cells := 0, slots := 0, locals := 63 }
theorem hdX4_removeLine : yX4_removeLine.cls = RX4 ∧ yX4_removeLine.cls ≠ "java/lang/invoke/MethodHandle" ∧ yX4_removeLine.cls ≠ "java/lang/invoke/VarHandle" ∧ (parseMethodDescriptor yX4_removeLine.desc).map (fun d => d.parameters.length) = some 1 := by decide +kernel
theorem fiX4_removeLine_X4 : ∀ w ∈ wsX40, w ∈ wsX4_removeLine := by decide +kernel
theorem flX4_removeLine_15 : (.fieldLink RX4 15 "ContourLabels$Sheet" "levels" "[I" : Cond) ∈ wsX4_removeLine := by decide +kernel
theorem flX4_removeLine_19 : (.fieldLink RX4 19 "ContourLabels$Sheet" "stepCounts" "[I" : Cond) ∈ wsX4_removeLine := by decide +kernel
theorem flX4_removeLine_22 : (.fieldLink RX4 22 "ContourLabels$Sheet" "labelPlaces" "[I" : Cond) ∈ wsX4_removeLine := by decide +kernel
theorem flX4_removeLine_25 : (.fieldLink RX4 25 "ContourLabels$Sheet" "points" "[I" : Cond) ∈ wsX4_removeLine := by decide +kernel
theorem flX4_removeLine_28 : (.fieldLink RX4 28 "ContourLabels$Sheet" "count" "I" : Cond) ∈ wsX4_removeLine := by decide +kernel
set_option maxHeartbeats 4000000 in
set_option maxRecDepth 100000 in
theorem cX4_removeLine_ok (l : Launch) (g : Gg) (h a1 a2 a3 a4 : Nat) (σ : Sh) (p0 : Int32) (sz : Nat) {o : Bool × Sh} (hf : fX4_removeLine σ p0 = some o) : Met l yX4_removeLine wsX4_removeLine rmX4_removeLine (va_Pc [.ref h, .int p0] (PM g (wS g h a1 a2 a3 a4 σ) sz)) (va_Qi (fun r' (_ : Unit) => r' = b2i o.1) (fun _ t => PQ g (wS g h a1 a2 a3 a4 o.2) (va_A (wS g h a1 a2 a3 a4 σ) sz) t) (va_A (wS g h a1 a2 a3 a4 σ) sz)) 0 0 (va_A (wS g h a1 a2 a3 a4 σ) sz) := by
  refine Met.ofW (cc := cX4_removeLine) (maxL := 2) (ret := (some .boolean)) (by decide) rfl ?_
  intro p e s m args below meth c s₁ B hml hv
  obtain ⟨rfl, rfl, hP, hD0, hE, hZ⟩ := hv
  have hx := B.exec
  have hb := B.bytes
  have hr := B.returns
  have hts := atoms_spec (ws := wsX4_removeLine) B.pre
  have hown : s.vm.findClass RX4 = some m.cls := findClass_of_methodNamed B.named
  have hlocks := B.notSynchronized
  have hD := hD0.self (sz := s.heap.size)
  generalize hAe : (va_A (wS g h a1 a2 a3 a4 σ) s.heap.size) = A at hD hZ ⊢
  have hA : ∀ q : Nat, s.heap.size ≤ q → A q := fun q h => by rw [← hAe]; exact Or.inr h
  have hS : va_S A s.heap s.heap [] := va_S.rf
  have hP : va_P g.1 vwCl (wS g h a1 a2 a3 a4 σ) s.heap := hP
  have hl := lv_entry ([.ref h, .int p0]) (n := 2) (Nat.le_of_ble_eq_true rfl)
  rw [lg_entry_eq]
  generalize (lg_sl ([.ref h, .int p0]) ++ List.replicate (2 - (lg_sl ([.ref h, .int p0])).length) Slot.unset).toArray = ls at hl ⊢
  have hl : lv_has ls 2 [(0, .ref h), (1, .int p0)] := hl
  unfold fX4_removeLine at hf
  refine lv_aload_n hx hb dX4_removeLine_0 rfl (lv_at hl 0 rfl) ?_
  refine lv_iload_n hx hb dX4_removeLine_1 rfl (lv_at hl 1 rfl) ?_
  obtain ⟨r_1, e_1, hf⟩ := bo hf
  refine pcallV (W0 := (wS g h a1 a2 a3 a4 σ)) (As := [.int p0]) (rest := []) [0, 1, 2, 3, 4] 3 0 ⟨hx, hb, hml, hown, hts⟩ hP hE hZ hS (cX4_hasLine_ok l g h a1 a2 a3 a4 σ p0 e_1) (cwV 1 hts gX4_removeLine_X4_hasLine rfl rfl rfl hdX4_hasLine ⟨(Nat.le_of_ble_eq_true rfl), (Nat.le_of_ble_eq_true rfl)⟩) rfl rfl rfl rfl rfl hl.1 rfl (Nat.le_of_ble_eq_true rfl) ⟨(Nat.le_of_ble_eq_true rfl), (Nat.le_of_ble_eq_true rfl)⟩ dX4_removeLine_2 ?_
  refine lv_bne (tgt := 10) hx hb dX4_removeLine_5 (by decide) (fun c_2 => ?_) (fun c_2 => ?_)
  · have hf := ip c_2 hf
    refine lv_aload_n hx hb dX4_removeLine_10 rfl (lv_at hl 0 rfl) ?_
    refine lv_aload_n hx hb dX4_removeLine_11 rfl (lv_at hl 0 rfl) ?_
    refine va_get (v := .ref a1) (C := RX4) (T := TX4) (N := 6) hx hb hts fiX4_removeLine_X4 hown hE.1 hP 0 rfl rfl 2 (by decide) (hts _ flX4_removeLine_15) (fun _ h9 => h9) rfl dX4_removeLine_12 ?_
    refine lv_iload_n hx hb dX4_removeLine_15 rfl (lv_at hl 1 rfl) ?_
    refine lv_iconst (v := (1 : Int32)) hx hb dX4_removeLine_16 (by decide) ?_
    obtain ⟨r_3, e_3, hf⟩ := bo hf
    refine mcallVv (W0 := (wS g h a1 a2 a3 a4 σ)) (Wc := (wS g h a1 a2 a3 a4 σ)) (Wr := ([] : va_W)) (W1 := (wS g h a1 a2 a3 a4 r_3)) (W2 := (wS g h a1 a2 a3 a4 r_3)) (As := [.ref a1, .int p0, .int (1 : Int32)]) (rest := []) [0, 1, 2, 3, 4] [] [0, 1, 2, 3, 4] 3 0 ⟨hx, hb, hml, hown, hts⟩ hP hD hE hZ hS hA (cX4_closeUp_a1_ok l g h a1 a2 a3 a4 σ p0 (1 : Int32) _ e_3) (cwV 3 hts gX4_removeLine_X4_closeUp rfl rfl rfl hdX4_closeUp ⟨(Nat.le_of_ble_eq_true rfl), (Nat.le_of_ble_eq_true rfl)⟩) rfl rfl rfl (by decide) (by decide) (by decide) (by decide) rfl rfl rfl rfl hl.1 rfl (Nat.le_of_ble_eq_true rfl) ⟨(Nat.le_of_ble_eq_true rfl), (Nat.le_of_ble_eq_true rfl)⟩ dX4_removeLine_17 (fun H locs hP hD hS => ?_)
    refine lv_aload_n hx hb dX4_removeLine_20 rfl (lv_at hl 0 rfl) ?_
    refine lv_aload_n hx hb dX4_removeLine_21 rfl (lv_at hl 0 rfl) ?_
    refine va_get (v := .ref a2) (C := RX4) (T := TX4) (N := 6) hx hb hts fiX4_removeLine_X4 hown hE.1 hP 0 rfl rfl 3 (by decide) (hts _ flX4_removeLine_19) (fun _ h9 => h9) rfl dX4_removeLine_22 ?_
    refine lv_iload_n hx hb dX4_removeLine_25 rfl (lv_at hl 1 rfl) ?_
    refine lv_iconst (v := (1 : Int32)) hx hb dX4_removeLine_26 (by decide) ?_
    obtain ⟨r_4, e_4, hf⟩ := bo hf
    refine mcallVv (W0 := (wS g h a1 a2 a3 a4 r_3)) (Wc := (wS g h a1 a2 a3 a4 r_3)) (Wr := ([] : va_W)) (W1 := (wS g h a1 a2 a3 a4 r_4)) (W2 := (wS g h a1 a2 a3 a4 r_4)) (As := [.ref a2, .int p0, .int (1 : Int32)]) (rest := []) [0, 1, 2, 3, 4] [] [0, 1, 2, 3, 4] 3 0 ⟨hx, hb, hml, hown, hts⟩ hP hD hE hZ hS hA (cX4_closeUp_a2_ok l g h a1 a2 a3 a4 r_3 p0 (1 : Int32) _ e_4) (cwV 3 hts gX4_removeLine_X4_closeUp rfl rfl rfl hdX4_closeUp ⟨(Nat.le_of_ble_eq_true rfl), (Nat.le_of_ble_eq_true rfl)⟩) rfl rfl rfl (by decide) (by decide) (by decide) (by decide) rfl rfl rfl rfl hl.1 rfl (Nat.le_of_ble_eq_true rfl) ⟨(Nat.le_of_ble_eq_true rfl), (Nat.le_of_ble_eq_true rfl)⟩ dX4_removeLine_27 (fun H locs hP hD hS => ?_)
    refine lv_aload_n hx hb dX4_removeLine_30 rfl (lv_at hl 0 rfl) ?_
    refine lv_aload_n hx hb dX4_removeLine_31 rfl (lv_at hl 0 rfl) ?_
    refine va_get (v := .ref a3) (C := RX4) (T := TX4) (N := 6) hx hb hts fiX4_removeLine_X4 hown hE.1 hP 0 rfl rfl 4 (by decide) (hts _ flX4_removeLine_22) (fun _ h9 => h9) rfl dX4_removeLine_32 ?_
    refine lv_iload_n hx hb dX4_removeLine_35 rfl (lv_at hl 1 rfl) ?_
    refine lv_iconst (v := (1 : Int32)) hx hb dX4_removeLine_36 (by decide) ?_
    obtain ⟨r_5, e_5, hf⟩ := bo hf
    refine mcallVv (W0 := (wS g h a1 a2 a3 a4 r_4)) (Wc := (wS g h a1 a2 a3 a4 r_4)) (Wr := ([] : va_W)) (W1 := (wS g h a1 a2 a3 a4 r_5)) (W2 := (wS g h a1 a2 a3 a4 r_5)) (As := [.ref a3, .int p0, .int (1 : Int32)]) (rest := []) [0, 1, 2, 3, 4] [] [0, 1, 2, 3, 4] 3 0 ⟨hx, hb, hml, hown, hts⟩ hP hD hE hZ hS hA (cX4_closeUp_a3_ok l g h a1 a2 a3 a4 r_4 p0 (1 : Int32) _ e_5) (cwV 3 hts gX4_removeLine_X4_closeUp rfl rfl rfl hdX4_closeUp ⟨(Nat.le_of_ble_eq_true rfl), (Nat.le_of_ble_eq_true rfl)⟩) rfl rfl rfl (by decide) (by decide) (by decide) (by decide) rfl rfl rfl rfl hl.1 rfl (Nat.le_of_ble_eq_true rfl) ⟨(Nat.le_of_ble_eq_true rfl), (Nat.le_of_ble_eq_true rfl)⟩ dX4_removeLine_37 (fun H locs hP hD hS => ?_)
    refine lv_aload_n hx hb dX4_removeLine_40 rfl (lv_at hl 0 rfl) ?_
    refine lv_aload_n hx hb dX4_removeLine_41 rfl (lv_at hl 0 rfl) ?_
    refine va_get (v := .ref a4) (C := RX4) (T := TX4) (N := 6) hx hb hts fiX4_removeLine_X4 hown hE.1 hP 0 rfl rfl 5 (by decide) (hts _ flX4_removeLine_25) (fun _ h9 => h9) rfl dX4_removeLine_42 ?_
    refine lv_iload_n hx hb dX4_removeLine_45 rfl (lv_at hl 1 rfl) ?_
    refine lv_bipush (v := (61 : Int32)) hx hb dX4_removeLine_46 (by decide) ?_
    obtain ⟨r_6, e_6, hf⟩ := bo hf
    refine mcallVv (W0 := (wS g h a1 a2 a3 a4 r_5)) (Wc := (wS g h a1 a2 a3 a4 r_5)) (Wr := ([] : va_W)) (W1 := (wS g h a1 a2 a3 a4 r_6)) (W2 := (wS g h a1 a2 a3 a4 r_6)) (As := [.ref a4, .int p0, .int (61 : Int32)]) (rest := []) [0, 1, 2, 3, 4] [] [0, 1, 2, 3, 4] 3 0 ⟨hx, hb, hml, hown, hts⟩ hP hD hE hZ hS hA (cX4_closeUp_a4_ok l g h a1 a2 a3 a4 r_5 p0 (61 : Int32) _ e_6) (cwV 3 hts gX4_removeLine_X4_closeUp rfl rfl rfl hdX4_closeUp ⟨(Nat.le_of_ble_eq_true rfl), (Nat.le_of_ble_eq_true rfl)⟩) rfl rfl rfl (by decide) (by decide) (by decide) (by decide) rfl rfl rfl rfl hl.1 rfl (Nat.le_of_ble_eq_true rfl) ⟨(Nat.le_of_ble_eq_true rfl), (Nat.le_of_ble_eq_true rfl)⟩ dX4_removeLine_48 (fun H locs hP hD hS => ?_)
    refine lv_aload_n hx hb dX4_removeLine_51 rfl (lv_at hl 0 rfl) ?_
    refine lv_dup hx hb dX4_removeLine_52 rfl ?_
    refine va_get (v := .int (S_n r_6)) (C := RX4) (T := TX4) (N := 6) hx hb hts fiX4_removeLine_X4 hown hE.1 hP 0 rfl rfl 0 (by decide) (hts _ flX4_removeLine_28) (fun _ h9 => h9) rfl dX4_removeLine_53 ?_
    refine lv_iconst (v := (1 : Int32)) hx hb dX4_removeLine_56 (by decide) ?_
    refine lv_isub hx hb dX4_removeLine_57 ?_
    refine va_put (v := .int ((S_n r_6) - (1 : Int32))) (ty := .int) (C := RX4) (T := TX4) (N := 6) hx hb hts fiX4_removeLine_X4 tyX4 tyX4_ok nmX4 hown hE.1 hP hD hS 0 rfl rfl 0 (by decide) (hts _ flX4_removeLine_28) (fun _ h9 => h9) rfl (by decide +kernel) rfl rfl (Nat.le_of_ble_eq_true rfl) dX4_removeLine_58 (fun H locs hP hD hS => ?_)
    have hP : va_P g.1 vwCl (wS g h a1 a2 a3 a4 (S_n' r_6 ((S_n r_6) - (1 : Int32)))) H := hP
    have hD : va_D A (wS g h a1 a2 a3 a4 (S_n' r_6 ((S_n r_6) - (1 : Int32)))) := hD
    refine lv_iconst (v := (1 : Int32)) hx hb dX4_removeLine_61 (by decide) ?_
    have ho := Option.some.inj hf
    subst ho
    exact m_zret (v := true) hx hb hr hlocks hP hD hS rfl dX4_removeLine_62
  · have hf := iq c_2 hf
    refine lv_iconst (v := (0 : Int32)) hx hb dX4_removeLine_8 (by decide) ?_
    have ho := Option.some.inj hf
    subst ho
    exact m_zret (v := false) hx hb hr hlocks hP hD hS rfl dX4_removeLine_9
