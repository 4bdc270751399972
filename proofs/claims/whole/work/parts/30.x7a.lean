def fX7_thrown (μ : Mo) : Option (Int32) := (some (M_th μ))
abbrev rmX7_thrown : Room := { frames := 0, cells := 0, slots := 0, locals := 0 }
theorem hdX7_thrown : yX7_thrown.cls = RX7 ∧ yX7_thrown.cls ≠ "java/lang/invoke/MethodHandle" ∧ yX7_thrown.cls ≠ "java/lang/invoke/VarHandle" ∧ (parseMethodDescriptor yX7_thrown.desc).map (fun d => d.parameters.length) = some 0 := by decide +kernel
theorem fiX7_thrown_X7 : ∀ w ∈ wsX70, w ∈ wsX7_thrown := by decide +kernel
theorem flX7_thrown_22 : (.fieldLink RX7 22 "ContourLabelsModel" "thrown" "I" : Cond) ∈ wsX7_thrown := by decide +kernel
set_option maxHeartbeats 4000000 in
set_option maxRecDepth 100000 in
theorem cX7_thrown_ok (l : Launch) (g : Gg) (m0 m1 m2 m3 m4 : Nat) (μ : Mo) {r : Int32} (hf : fX7_thrown μ = some r) : Met l yX7_thrown wsX7_thrown rmX7_thrown (va_Pc [.ref m0] (PP g (wM g m0 m1 m2 m3 m4 μ))) (vp_Si (fun r' => r' = r)) 0 0 (fun _ => False) := by
  refine Met.ofW (cc := cX7_thrown) (maxL := 1) (ret := (some .int)) (by decide) rfl ?_
  intro p e s m args below meth c s₁ B hml hv
  obtain ⟨rfl, hP, hE, hZ⟩ := hv
  have hx := B.exec
  have hb := B.bytes
  have hr := B.returns
  have hts := atoms_spec (ws := wsX7_thrown) B.pre
  have hown : s.vm.findClass RX7 = some m.cls := findClass_of_methodNamed B.named
  have hlocks := B.notSynchronized
  have hS : va_S (fun _ => False) s.heap s.heap [] := va_S.rf
  have hl := lv_entry ([.ref m0]) (n := 1) (Nat.le_of_ble_eq_true rfl)
  rw [lg_entry_eq]
  generalize (lg_sl ([.ref m0]) ++ List.replicate (1 - (lg_sl ([.ref m0])).length) Slot.unset).toArray = ls at hl ⊢
  have hl : lv_has ls 1 [(0, .ref m0)] := hl
  unfold fX7_thrown at hf
  refine lv_aload_n hx hb dX7_thrown_0 rfl (lv_at hl 0 rfl) ?_
  refine va_get (v := .int (M_th μ)) (C := RX7) (T := TX7) (N := 13) hx hb hts fiX7_thrown_X7 hown hE.1 hP 0 rfl rfl 7 (by decide) (hts _ flX7_thrown_22) (fun _ h9 => h9) rfl dX7_thrown_1 ?_
  exact p_iret (v := (M_th μ)) hx hb hr hlocks (Option.some.inj hf) dX7_thrown_4

def fX7_fails (μ : Mo) (p0 : Int32) : Option (Int32 × Mo) := (some ((0 : Int32), (M_th' μ p0)))
abbrev rmX7_fails : Room := { frames := 0, cells := 0, slots := 0, locals := 0 }
theorem hdX7_fails : yX7_fails.cls = RX7 ∧ yX7_fails.cls ≠ "java/lang/invoke/MethodHandle" ∧ yX7_fails.cls ≠ "java/lang/invoke/VarHandle" ∧ (parseMethodDescriptor yX7_fails.desc).map (fun d => d.parameters.length) = some 1 := by decide +kernel
theorem fiX7_fails_X7 : ∀ w ∈ wsX70, w ∈ wsX7_fails := by decide +kernel
theorem flX7_fails_22 : (.fieldLink RX7 22 "ContourLabelsModel" "thrown" "I" : Cond) ∈ wsX7_fails := by decide +kernel
set_option maxHeartbeats 4000000 in
set_option maxRecDepth 100000 in
theorem cX7_fails_ok (l : Launch) (g : Gg) (m0 m1 m2 m3 m4 : Nat) (μ : Mo) (p0 : Int32) (sz : Nat) {o : Int32 × Mo} (hf : fX7_fails μ p0 = some o) : Met l yX7_fails wsX7_fails rmX7_fails (va_Pc [.ref m0, .int p0] (PM g (wM g m0 m1 m2 m3 m4 μ) sz)) (va_Qi (fun r' (_ : Unit) => r' = o.1) (fun _ t => PQ g (wM g m0 m1 m2 m3 m4 o.2) (va_A (wM g m0 m1 m2 m3 m4 μ) sz) t) (va_A (wM g m0 m1 m2 m3 m4 μ) sz)) 0 0 (va_A (wM g m0 m1 m2 m3 m4 μ) sz) := by
  refine Met.ofW (cc := cX7_fails) (maxL := 2) (ret := (some .int)) (by decide) rfl ?_
  intro p e s m args below meth c s₁ B hml hv
  obtain ⟨rfl, rfl, hP, hD0, hE, hZ⟩ := hv
  have hx := B.exec
  have hb := B.bytes
  have hr := B.returns
  have hts := atoms_spec (ws := wsX7_fails) B.pre
  have hown : s.vm.findClass RX7 = some m.cls := findClass_of_methodNamed B.named
  have hlocks := B.notSynchronized
  have hD := hD0.self (sz := s.heap.size)
  generalize hAe : (va_A (wM g m0 m1 m2 m3 m4 μ) s.heap.size) = A at hD hZ ⊢
  have hA : ∀ q : Nat, s.heap.size ≤ q → A q := fun q h => by rw [← hAe]; exact Or.inr h
  have hS : va_S A s.heap s.heap [] := va_S.rf
  have hP : va_P g.1 vwCl (wM g m0 m1 m2 m3 m4 μ) s.heap := hP
  have hl := lv_entry ([.ref m0, .int p0]) (n := 2) (Nat.le_of_ble_eq_true rfl)
  rw [lg_entry_eq]
  generalize (lg_sl ([.ref m0, .int p0]) ++ List.replicate (2 - (lg_sl ([.ref m0, .int p0])).length) Slot.unset).toArray = ls at hl ⊢
  have hl : lv_has ls 2 [(0, .ref m0), (1, .int p0)] := hl
  unfold fX7_fails at hf
  refine lv_aload_n hx hb dX7_fails_0 rfl (lv_at hl 0 rfl) ?_
  refine lv_iload_n hx hb dX7_fails_1 rfl (lv_at hl 1 rfl) ?_
  refine va_put (v := .int p0) (ty := .int) (C := RX7) (T := TX7) (N := 13) hx hb hts fiX7_fails_X7 tyX7 tyX7_ok nmX7 hown hE.1 hP hD hS 0 rfl rfl 7 (by decide) (hts _ flX7_fails_22) (fun _ h9 => h9) rfl (by decide +kernel) rfl rfl (Nat.le_of_ble_eq_true rfl) dX7_fails_2 (fun H locs hP hD hS => ?_)
  have hP : va_P g.1 vwCl (wM g m0 m1 m2 m3 m4 (M_th' μ p0)) H := hP
  have hD : va_D A (wM g m0 m1 m2 m3 m4 (M_th' μ p0)) := hD
  refine lv_iconst (v := (0 : Int32)) hx hb dX7_fails_5 (by decide) ?_
  have ho := Option.some.inj hf
  subst ho
  exact m_iret (v := (0 : Int32)) hx hb hr hlocks hP hD hS rfl dX7_fails_6

def fX7_in (p0 p1 p2 : Int32) : Option (Bool) := (if p0 < p1 then (some false) else (if p2 < p0 then (some false) else (some true)))
abbrev rmX7_in : Room := { frames := 0, cells := 0, slots := 0, locals := 0 }
theorem hdX7_in : yX7_in.cls = RX7 ∧ yX7_in.cls ≠ "java/lang/invoke/MethodHandle" ∧ yX7_in.cls ≠ "java/lang/invoke/VarHandle" ∧ (parseMethodDescriptor yX7_in.desc).map (fun d => d.parameters.length) = some 3 := by decide +kernel
set_option maxHeartbeats 4000000 in
set_option maxRecDepth 100000 in
theorem cX7_in_ok (l : Launch) (g : Gg) (p0 p1 p2 : Int32) {r : Bool} (hf : fX7_in p0 p1 p2 = some r) : Met l yX7_in wsX7_in rmX7_in (va_Pc [.int p0, .int p1, .int p2] (PP g ([] : va_W))) (vp_Si (fun r' => r' = b2i r)) 0 0 (fun _ => False) := by
  refine Met.ofW (cc := cX7_in) (maxL := 3) (ret := (some .boolean)) (by decide) rfl ?_
  intro p e s m args below meth c s₁ B hml hv
  obtain ⟨rfl, hP, hE, hZ⟩ := hv
  have hx := B.exec
  have hb := B.bytes
  have hr := B.returns
  have hts := atoms_spec (ws := wsX7_in) B.pre
  have hown : s.vm.findClass RX7 = some m.cls := findClass_of_methodNamed B.named
  have hlocks := B.notSynchronized
  have hS : va_S (fun _ => False) s.heap s.heap [] := va_S.rf
  have hl := lv_entry ([.int p0, .int p1, .int p2]) (n := 3) (Nat.le_of_ble_eq_true rfl)
  rw [lg_entry_eq]
  generalize (lg_sl ([.int p0, .int p1, .int p2]) ++ List.replicate (3 - (lg_sl ([.int p0, .int p1, .int p2])).length) Slot.unset).toArray = ls at hl ⊢
  have hl : lv_has ls 3 [(0, .int p0), (1, .int p1), (2, .int p2)] := hl
  unfold fX7_in at hf
  refine lv_iload_n hx hb dX7_in_0 rfl (lv_at hl 0 rfl) ?_
  refine lv_iload_n hx hb dX7_in_1 rfl (lv_at hl 1 rfl) ?_
  refine lv_icmp_lt (tgt := 14) hx hb dX7_in_2 (by decide) (fun c_1 => ?_) (fun c_1 => ?_)
  · have hf := ip c_1 hf
    refine lv_iconst (v := (0 : Int32)) hx hb dX7_in_14 (by decide) ?_
    exact p_zret (v := false) hx hb hr hlocks (Option.some.inj hf) dX7_in_15
  · have hf := iq c_1 hf
    refine lv_iload_n hx hb dX7_in_5 rfl (lv_at hl 0 rfl) ?_
    refine lv_iload_n hx hb dX7_in_6 rfl (lv_at hl 2 rfl) ?_
    refine lv_icmp_gt (tgt := 14) hx hb dX7_in_7 (by decide) (fun c_2 => ?_) (fun c_2 => ?_)
    · have hf := ip c_2 hf
      refine lv_iconst (v := (0 : Int32)) hx hb dX7_in_14 (by decide) ?_
      exact p_zret (v := false) hx hb hr hlocks (Option.some.inj hf) dX7_in_15
    · have hf := iq c_2 hf
      refine lv_iconst (v := (1 : Int32)) hx hb dX7_in_10 (by decide) ?_
      refine lv_goto (tgt := 15) hx hb dX7_in_11 (by decide) ?_
      exact p_zret (v := true) hx hb hr hlocks (Option.some.inj hf) dX7_in_15

def fX7_apart (p0 p1 : Int32) : Option (Int32) := (if p1 ≤ p0 then (some (p0 - p1)) else (some (p1 - p0)))
abbrev rmX7_apart : Room := { frames := 0, cells := 0, slots := 0, locals := 0 }
theorem hdX7_apart : yX7_apart.cls = RX7 ∧ yX7_apart.cls ≠ "java/lang/invoke/MethodHandle" ∧ yX7_apart.cls ≠ "java/lang/invoke/VarHandle" ∧ (parseMethodDescriptor yX7_apart.desc).map (fun d => d.parameters.length) = some 2 := by decide +kernel
set_option maxHeartbeats 4000000 in
set_option maxRecDepth 100000 in
theorem cX7_apart_ok (l : Launch) (g : Gg) (p0 p1 : Int32) {r : Int32} (hf : fX7_apart p0 p1 = some r) : Met l yX7_apart wsX7_apart rmX7_apart (va_Pc [.int p0, .int p1] (PP g ([] : va_W))) (vp_Si (fun r' => r' = r)) 0 0 (fun _ => False) := by
  refine Met.ofW (cc := cX7_apart) (maxL := 2) (ret := (some .int)) (by decide) rfl ?_
  intro p e s m args below meth c s₁ B hml hv
  obtain ⟨rfl, hP, hE, hZ⟩ := hv
  have hx := B.exec
  have hb := B.bytes
  have hr := B.returns
  have hts := atoms_spec (ws := wsX7_apart) B.pre
  have hown : s.vm.findClass RX7 = some m.cls := findClass_of_methodNamed B.named
  have hlocks := B.notSynchronized
  have hS : va_S (fun _ => False) s.heap s.heap [] := va_S.rf
  have hl := lv_entry ([.int p0, .int p1]) (n := 2) (Nat.le_of_ble_eq_true rfl)
  rw [lg_entry_eq]
  generalize (lg_sl ([.int p0, .int p1]) ++ List.replicate (2 - (lg_sl ([.int p0, .int p1])).length) Slot.unset).toArray = ls at hl ⊢
  have hl : lv_has ls 2 [(0, .int p0), (1, .int p1)] := hl
  unfold fX7_apart at hf
  refine lv_iload_n hx hb dX7_apart_0 rfl (lv_at hl 0 rfl) ?_
  refine lv_iload_n hx hb dX7_apart_1 rfl (lv_at hl 1 rfl) ?_
  refine lv_icmp_ge (tgt := 11) hx hb dX7_apart_2 (by decide) (fun c_1 => ?_) (fun c_1 => ?_)
  · have hf := ip c_1 hf
    refine lv_iload_n hx hb dX7_apart_11 rfl (lv_at hl 0 rfl) ?_
    refine lv_iload_n hx hb dX7_apart_12 rfl (lv_at hl 1 rfl) ?_
    refine lv_isub hx hb dX7_apart_13 ?_
    exact p_iret (v := (p0 - p1)) hx hb hr hlocks (Option.some.inj hf) dX7_apart_14
  · have hf := iq c_1 hf
    refine lv_iload_n hx hb dX7_apart_5 rfl (lv_at hl 1 rfl) ?_
    refine lv_iload_n hx hb dX7_apart_6 rfl (lv_at hl 0 rfl) ?_
    refine lv_isub hx hb dX7_apart_7 ?_
    refine lv_goto (tgt := 14) hx hb dX7_apart_8 (by decide) ?_
    exact p_iret (v := (p1 - p0)) hx hb hr hlocks (Option.some.inj hf) dX7_apart_14

def fX7_isLine (μ : Mo) (p0 : Int32) : Option (Bool) := ((fX7_in p0 (0 : Int32) ((M_row μ (Int32.toNatClampNeg (0 : Int32))) - (1 : Int32))).bind fun r_1 => (some r_1))
abbrev rmX7_isLine : Room := { frames := 1, cells := 0, slots := 0, locals := 22 }
theorem hdX7_isLine : yX7_isLine.cls = RX7 ∧ yX7_isLine.cls ≠ "java/lang/invoke/MethodHandle" ∧ yX7_isLine.cls ≠ "java/lang/invoke/VarHandle" ∧ (parseMethodDescriptor yX7_isLine.desc).map (fun d => d.parameters.length) = some 1 := by decide +kernel
theorem fiX7_isLine_X7 : ∀ w ∈ wsX70, w ∈ wsX7_isLine := by decide +kernel
theorem flX7_isLine_7 : (.fieldLink RX7 7 "ContourLabelsModel" "row" "[I" : Cond) ∈ wsX7_isLine := by decide +kernel
set_option maxHeartbeats 4000000 in
set_option maxRecDepth 100000 in
theorem cX7_isLine_ok (l : Launch) (g : Gg) (m0 m1 m2 m3 m4 : Nat) (μ : Mo) (p0 : Int32) {r : Bool} (hf : fX7_isLine μ p0 = some r) : Met l yX7_isLine wsX7_isLine rmX7_isLine (va_Pc [.ref m0, .int p0] (PP g (wM g m0 m1 m2 m3 m4 μ))) (vp_Si (fun r' => r' = b2i r)) 0 0 (fun _ => False) := by
  refine Met.ofW (cc := cX7_isLine) (maxL := 2) (ret := (some .boolean)) (by decide) rfl ?_
  intro p e s m args below meth c s₁ B hml hv
  obtain ⟨rfl, hP, hE, hZ⟩ := hv
  have hx := B.exec
  have hb := B.bytes
  have hr := B.returns
  have hts := atoms_spec (ws := wsX7_isLine) B.pre
  have hown : s.vm.findClass RX7 = some m.cls := findClass_of_methodNamed B.named
  have hlocks := B.notSynchronized
  have hS : va_S (fun _ => False) s.heap s.heap [] := va_S.rf
  have hl := lv_entry ([.ref m0, .int p0]) (n := 2) (Nat.le_of_ble_eq_true rfl)
  rw [lg_entry_eq]
  generalize (lg_sl ([.ref m0, .int p0]) ++ List.replicate (2 - (lg_sl ([.ref m0, .int p0])).length) Slot.unset).toArray = ls at hl ⊢
  have hl : lv_has ls 2 [(0, .ref m0), (1, .int p0)] := hl
  unfold fX7_isLine at hf
  refine lv_iload_n hx hb dX7_isLine_0 rfl (lv_at hl 1 rfl) ?_
  refine lv_iconst (v := (0 : Int32)) hx hb dX7_isLine_1 (by decide) ?_
  refine lv_aload_n hx hb dX7_isLine_2 rfl (lv_at hl 0 rfl) ?_
  refine va_get (v := .ref m1) (C := RX7) (T := TX7) (N := 13) hx hb hts fiX7_isLine_X7 hown hE.1 hP 0 rfl rfl 0 (by decide) (hts _ flX7_isLine_7) (fun _ h9 => h9) rfl dX7_isLine_3 ?_
  refine lv_iconst (v := (0 : Int32)) hx hb dX7_isLine_6 (by decide) ?_
  refine va_iald hx hb hE.1 hP 1 0 rfl rfl (vin (by decide)) dX7_isLine_7 ?_
  refine lv_iconst (v := (1 : Int32)) hx hb dX7_isLine_8 (by decide) ?_
  refine lv_isub hx hb dX7_isLine_9 ?_
  obtain ⟨r_1, e_1, hf⟩ := bo hf
  refine pcallS (W0 := (wM g m0 m1 m2 m3 m4 μ)) (As := [.int p0, .int (0 : Int32), .int ((M_row μ (Int32.toNatClampNeg (0 : Int32))) - (1 : Int32))]) (rest := []) [] ⟨hx, hb, hml, hown, hts⟩ hP hE hZ hS (cX7_in_ok l g  p0 (0 : Int32) ((M_row μ (Int32.toNatClampNeg (0 : Int32))) - (1 : Int32)) e_1) (va_cwS 3 hts gX7_isLine_X7_in rfl rfl rfl hdX7_in.2 ⟨(Nat.le_of_ble_eq_true rfl), (Nat.le_of_ble_eq_true rfl)⟩) rfl rfl hl.1 rfl (Nat.le_of_ble_eq_true rfl) ⟨(Nat.le_of_ble_eq_true rfl), (Nat.le_of_ble_eq_true rfl)⟩ dX7_isLine_10 ?_
  exact p_zret (v := r_1) hx hb hr hlocks (Option.some.inj hf) dX7_isLine_13

def fX7_isPoint (p0 : Int32) : Option (Bool) := ((fX7_in p0 (0 : Int32) (383 : Int32)).bind fun r_1 => (some r_1))
abbrev rmX7_isPoint : Room := { frames := 1, cells := 0, slots := 0, locals := 22 }
theorem hdX7_isPoint : yX7_isPoint.cls = RX7 ∧ yX7_isPoint.cls ≠ "java/lang/invoke/MethodHandle" ∧ yX7_isPoint.cls ≠ "java/lang/invoke/VarHandle" ∧ (parseMethodDescriptor yX7_isPoint.desc).map (fun d => d.parameters.length) = some 1 := by decide +kernel
set_option maxHeartbeats 4000000 in
set_option maxRecDepth 100000 in
theorem cX7_isPoint_ok (l : Launch) (g : Gg) (p0 : Int32) {r : Bool} (hf : fX7_isPoint p0 = some r) : Met l yX7_isPoint wsX7_isPoint rmX7_isPoint (va_Pc [.int p0] (PP g ([] : va_W))) (vp_Si (fun r' => r' = b2i r)) 0 0 (fun _ => False) := by
  refine Met.ofW (cc := cX7_isPoint) (maxL := 1) (ret := (some .boolean)) (by decide) rfl ?_
  intro p e s m args below meth c s₁ B hml hv
  obtain ⟨rfl, hP, hE, hZ⟩ := hv
  have hx := B.exec
  have hb := B.bytes
  have hr := B.returns
  have hts := atoms_spec (ws := wsX7_isPoint) B.pre
  have hown : s.vm.findClass RX7 = some m.cls := findClass_of_methodNamed B.named
  have hlocks := B.notSynchronized
  have hS : va_S (fun _ => False) s.heap s.heap [] := va_S.rf
  have hl := lv_entry ([.int p0]) (n := 1) (Nat.le_of_ble_eq_true rfl)
  rw [lg_entry_eq]
  generalize (lg_sl ([.int p0]) ++ List.replicate (1 - (lg_sl ([.int p0])).length) Slot.unset).toArray = ls at hl ⊢
  have hl : lv_has ls 1 [(0, .int p0)] := hl
  unfold fX7_isPoint at hf
  refine lv_iload_n hx hb dX7_isPoint_0 rfl (lv_at hl 0 rfl) ?_
  refine lv_iconst (v := (0 : Int32)) hx hb dX7_isPoint_1 (by decide) ?_
  refine lv_sipush (v := (383 : Int32)) hx hb dX7_isPoint_2 (by decide) ?_
  obtain ⟨r_1, e_1, hf⟩ := bo hf
  refine pcallS (W0 := ([] : va_W)) (As := [.int p0, .int (0 : Int32), .int (383 : Int32)]) (rest := []) [] ⟨hx, hb, hml, hown, hts⟩ hP hE hZ hS (cX7_in_ok l g  p0 (0 : Int32) (383 : Int32) e_1) (va_cwS 3 hts gX7_isPoint_X7_in rfl rfl rfl hdX7_in.2 ⟨(Nat.le_of_ble_eq_true rfl), (Nat.le_of_ble_eq_true rfl)⟩) rfl rfl hl.1 rfl (Nat.le_of_ble_eq_true rfl) ⟨(Nat.le_of_ble_eq_true rfl), (Nat.le_of_ble_eq_true rfl)⟩ dX7_isPoint_5 ?_
  exact p_zret (v := r_1) hx hb hr hlocks (Option.some.inj hf) dX7_isPoint_8

def fX7_of (μ : Mo) (p0 p1 : Int32) : Option (Int32) := (if inR (((2 : Int32) + ((64 : Int32) * p0)) + p1) 514 then (some (M_row μ (Int32.toNatClampNeg (((2 : Int32) + ((64 : Int32) * p0)) + p1)))) else none)
abbrev rmX7_of : Room := { frames := 0, cells := 0, slots := 0, locals := 0 }
theorem hdX7_of : yX7_of.cls = RX7 ∧ yX7_of.cls ≠ "java/lang/invoke/MethodHandle" ∧ yX7_of.cls ≠ "java/lang/invoke/VarHandle" ∧ (parseMethodDescriptor yX7_of.desc).map (fun d => d.parameters.length) = some 2 := by decide +kernel
theorem fiX7_of_X7 : ∀ w ∈ wsX70, w ∈ wsX7_of := by decide +kernel
theorem flX7_of_7 : (.fieldLink RX7 7 "ContourLabelsModel" "row" "[I" : Cond) ∈ wsX7_of := by decide +kernel
set_option maxHeartbeats 4000000 in
set_option maxRecDepth 100000 in
theorem cX7_of_ok (l : Launch) (g : Gg) (m0 m1 m2 m3 m4 : Nat) (μ : Mo) (p0 p1 : Int32) {r : Int32} (hf : fX7_of μ p0 p1 = some r) : Met l yX7_of wsX7_of rmX7_of (va_Pc [.ref m0, .int p0, .int p1] (PP g (wM g m0 m1 m2 m3 m4 μ))) (vp_Si (fun r' => r' = r)) 0 0 (fun _ => False) := by
  refine Met.ofW (cc := cX7_of) (maxL := 3) (ret := (some .int)) (by decide) rfl ?_
  intro p e s m args below meth c s₁ B hml hv
  obtain ⟨rfl, hP, hE, hZ⟩ := hv
  have hx := B.exec
  have hb := B.bytes
  have hr := B.returns
  have hts := atoms_spec (ws := wsX7_of) B.pre
  have hown : s.vm.findClass RX7 = some m.cls := findClass_of_methodNamed B.named
  have hlocks := B.notSynchronized
  have hS : va_S (fun _ => False) s.heap s.heap [] := va_S.rf
  have hl := lv_entry ([.ref m0, .int p0, .int p1]) (n := 3) (Nat.le_of_ble_eq_true rfl)
  rw [lg_entry_eq]
  generalize (lg_sl ([.ref m0, .int p0, .int p1]) ++ List.replicate (3 - (lg_sl ([.ref m0, .int p0, .int p1])).length) Slot.unset).toArray = ls at hl ⊢
  have hl : lv_has ls 3 [(0, .ref m0), (1, .int p0), (2, .int p1)] := hl
  unfold fX7_of at hf
  refine lv_aload_n hx hb dX7_of_0 rfl (lv_at hl 0 rfl) ?_
  refine va_get (v := .ref m1) (C := RX7) (T := TX7) (N := 13) hx hb hts fiX7_of_X7 hown hE.1 hP 0 rfl rfl 0 (by decide) (hts _ flX7_of_7) (fun _ h9 => h9) rfl dX7_of_1 ?_
  refine lv_iconst (v := (2 : Int32)) hx hb dX7_of_4 (by decide) ?_
  refine lv_bipush (v := (64 : Int32)) hx hb dX7_of_5 (by decide) ?_
  refine lv_iload_n hx hb dX7_of_7 rfl (lv_at hl 1 rfl) ?_
  refine lv_imul hx hb dX7_of_8 ?_
  refine lv_iadd hx hb dX7_of_9 ?_
  refine lv_iload_n hx hb dX7_of_10 rfl (lv_at hl 2 rfl) ?_
  refine lv_iadd hx hb dX7_of_11 ?_
  obtain ⟨h_1, hf⟩ := ck hf
  refine va_iald hx hb hE.1 hP 1 0 rfl rfl (vin h_1) dX7_of_12 ?_
  exact p_iret (v := (M_row μ (Int32.toNatClampNeg (((2 : Int32) + ((64 : Int32) * p0)) + p1)))) hx hb hr hlocks (Option.some.inj hf) dX7_of_13

def fX7_puts (μ : Mo) (p0 p1 p2 : Int32) : Option (Mo) := (if inR (((2 : Int32) + ((64 : Int32) * p0)) + p1) 514 then (some (M_row' μ (upd (M_row μ) (Int32.toNatClampNeg (((2 : Int32) + ((64 : Int32) * p0)) + p1)) p2))) else none)
abbrev rmX7_puts : Room := { frames := 0, cells := 0, slots := 0, locals := 0 }
theorem hdX7_puts : yX7_puts.cls = RX7 ∧ yX7_puts.cls ≠ "java/lang/invoke/MethodHandle" ∧ yX7_puts.cls ≠ "java/lang/invoke/VarHandle" ∧ (parseMethodDescriptor yX7_puts.desc).map (fun d => d.parameters.length) = some 3 := by decide +kernel
theorem fiX7_puts_X7 : ∀ w ∈ wsX70, w ∈ wsX7_puts := by decide +kernel
theorem flX7_puts_7 : (.fieldLink RX7 7 "ContourLabelsModel" "row" "[I" : Cond) ∈ wsX7_puts := by decide +kernel
set_option maxHeartbeats 4000000 in
set_option maxRecDepth 100000 in
theorem cX7_puts_ok (l : Launch) (g : Gg) (m0 m1 m2 m3 m4 : Nat) (μ : Mo) (p0 p1 p2 : Int32) (sz : Nat) {o : Mo} (hf : fX7_puts μ p0 p1 p2 = some o) : Met l yX7_puts wsX7_puts rmX7_puts (va_Pc [.ref m0, .int p0, .int p1, .int p2] (PM g (wM g m0 m1 m2 m3 m4 μ) sz)) (va_Qv (fun _ : Unit => True) (fun _ t => PQ g (wM g m0 m1 m2 m3 m4 o) (va_A (wM g m0 m1 m2 m3 m4 μ) sz) t) (va_A (wM g m0 m1 m2 m3 m4 μ) sz)) 0 0 (va_A (wM g m0 m1 m2 m3 m4 μ) sz) := by
  refine Met.ofW (cc := cX7_puts) (maxL := 4) (ret := none) (by decide) rfl ?_
  intro p e s m args below meth c s₁ B hml hv
  obtain ⟨rfl, rfl, hP, hD0, hE, hZ⟩ := hv
  have hx := B.exec
  have hb := B.bytes
  have hr := B.returns
  have hts := atoms_spec (ws := wsX7_puts) B.pre
  have hown : s.vm.findClass RX7 = some m.cls := findClass_of_methodNamed B.named
  have hlocks := B.notSynchronized
  have hD := hD0.self (sz := s.heap.size)
  generalize hAe : (va_A (wM g m0 m1 m2 m3 m4 μ) s.heap.size) = A at hD hZ ⊢
  have hA : ∀ q : Nat, s.heap.size ≤ q → A q := fun q h => by rw [← hAe]; exact Or.inr h
  have hS : va_S A s.heap s.heap [] := va_S.rf
  have hP : va_P g.1 vwCl (wM g m0 m1 m2 m3 m4 μ) s.heap := hP
  have hl := lv_entry ([.ref m0, .int p0, .int p1, .int p2]) (n := 4) (Nat.le_of_ble_eq_true rfl)
  rw [lg_entry_eq]
  generalize (lg_sl ([.ref m0, .int p0, .int p1, .int p2]) ++ List.replicate (4 - (lg_sl ([.ref m0, .int p0, .int p1, .int p2])).length) Slot.unset).toArray = ls at hl ⊢
  have hl : lv_has ls 4 [(0, .ref m0), (1, .int p0), (2, .int p1), (3, .int p2)] := hl
  unfold fX7_puts at hf
  refine lv_aload_n hx hb dX7_puts_0 rfl (lv_at hl 0 rfl) ?_
  refine va_get (v := .ref m1) (C := RX7) (T := TX7) (N := 13) hx hb hts fiX7_puts_X7 hown hE.1 hP 0 rfl rfl 0 (by decide) (hts _ flX7_puts_7) (fun _ h9 => h9) rfl dX7_puts_1 ?_
  refine lv_iconst (v := (2 : Int32)) hx hb dX7_puts_4 (by decide) ?_
  refine lv_bipush (v := (64 : Int32)) hx hb dX7_puts_5 (by decide) ?_
  refine lv_iload_n hx hb dX7_puts_7 rfl (lv_at hl 1 rfl) ?_
  refine lv_imul hx hb dX7_puts_8 ?_
  refine lv_iadd hx hb dX7_puts_9 ?_
  refine lv_iload_n hx hb dX7_puts_10 rfl (lv_at hl 2 rfl) ?_
  refine lv_iadd hx hb dX7_puts_11 ?_
  refine lv_iload_n hx hb dX7_puts_12 rfl (lv_at hl 3 rfl) ?_
  obtain ⟨h_1, hf⟩ := ck hf
  refine va_iast hx hb hE.1 hP hD hS 1 0 rfl rfl (vin h_1) dX7_puts_13 (fun H locs hP hD hS => ?_)
  have hP : va_P g.1 vwCl (wM g m0 m1 m2 m3 m4 (M_row' μ (upd (M_row μ) (Int32.toNatClampNeg (((2 : Int32) + ((64 : Int32) * p0)) + p1)) p2))) H := hP
  have hD : va_D A (wM g m0 m1 m2 m3 m4 (M_row' μ (upd (M_row μ) (Int32.toNatClampNeg (((2 : Int32) + ((64 : Int32) * p0)) + p1)) p2))) := hD
  have ho := Option.some.inj hf
  subst ho
  exact m_vret hx hb hr hlocks hP hD hS dX7_puts_14

def fX7_across (p0 : Int32) : Option (Int32) := (if p0 < (2 : Int32) then (some (1 : Int32)) else (if p0 = (7 : Int32) then (some (1 : Int32)) else (if p0 = (2 : Int32) then (some (0 : Int32)) else (if p0 = (6 : Int32) then (some (0 : Int32)) else (some (-1 : Int32))))))
abbrev rmX7_across : Room := { frames := 0, cells := 0, slots := 0, locals := 0 }
theorem hdX7_across : yX7_across.cls = RX7 ∧ yX7_across.cls ≠ "java/lang/invoke/MethodHandle" ∧ yX7_across.cls ≠ "java/lang/invoke/VarHandle" ∧ (parseMethodDescriptor yX7_across.desc).map (fun d => d.parameters.length) = some 1 := by decide +kernel
set_option maxHeartbeats 4000000 in
set_option maxRecDepth 100000 in
theorem cX7_across_ok (l : Launch) (g : Gg) (p0 : Int32) {r : Int32} (hf : fX7_across p0 = some r) : Met l yX7_across wsX7_across rmX7_across (va_Pc [.int p0] (PP g ([] : va_W))) (vp_Si (fun r' => r' = r)) 0 0 (fun _ => False) := by
  refine Met.ofW (cc := cX7_across) (maxL := 1) (ret := (some .int)) (by decide) rfl ?_
  intro p e s m args below meth c s₁ B hml hv
  obtain ⟨rfl, hP, hE, hZ⟩ := hv
  have hx := B.exec
  have hb := B.bytes
  have hr := B.returns
  have hts := atoms_spec (ws := wsX7_across) B.pre
  have hown : s.vm.findClass RX7 = some m.cls := findClass_of_methodNamed B.named
  have hlocks := B.notSynchronized
  have hS : va_S (fun _ => False) s.heap s.heap [] := va_S.rf
  have hl := lv_entry ([.int p0]) (n := 1) (Nat.le_of_ble_eq_true rfl)
  rw [lg_entry_eq]
  generalize (lg_sl ([.int p0]) ++ List.replicate (1 - (lg_sl ([.int p0])).length) Slot.unset).toArray = ls at hl ⊢
  have hl : lv_has ls 1 [(0, .int p0)] := hl
  unfold fX7_across at hf
  refine lv_iload_n hx hb dX7_across_0 rfl (lv_at hl 0 rfl) ?_
  refine lv_iconst (v := (2 : Int32)) hx hb dX7_across_1 (by decide) ?_
  refine lv_icmp_lt (tgt := 11) hx hb dX7_across_2 (by decide) (fun c_1 => ?_) (fun c_1 => ?_)
  · have hf := ip c_1 hf
    refine lv_iconst (v := (1 : Int32)) hx hb dX7_across_11 (by decide) ?_
    refine lv_goto (tgt := 31) hx hb dX7_across_12 (by decide) ?_
    exact p_iret (v := (1 : Int32)) hx hb hr hlocks (Option.some.inj hf) dX7_across_31
  · have hf := iq c_1 hf
    refine lv_iload_n hx hb dX7_across_5 rfl (lv_at hl 0 rfl) ?_
    refine lv_bipush (v := (7 : Int32)) hx hb dX7_across_6 (by decide) ?_
    refine lv_icmp_ne (tgt := 15) hx hb dX7_across_8 (by decide) (fun c_2 => ?_) (fun c_2 => ?_)
    · have hf := iq c_2 hf
      refine lv_iload_n hx hb dX7_across_15 rfl (lv_at hl 0 rfl) ?_
      refine lv_iconst (v := (2 : Int32)) hx hb dX7_across_16 (by decide) ?_
      refine lv_icmp_eq (tgt := 26) hx hb dX7_across_17 (by decide) (fun c_3 => ?_) (fun c_3 => ?_)
      · have hf := ip c_3 hf
        refine lv_iconst (v := (0 : Int32)) hx hb dX7_across_26 (by decide) ?_
        refine lv_goto (tgt := 31) hx hb dX7_across_27 (by decide) ?_
        exact p_iret (v := (0 : Int32)) hx hb hr hlocks (Option.some.inj hf) dX7_across_31
      · have hf := iq c_3 hf
        refine lv_iload_n hx hb dX7_across_20 rfl (lv_at hl 0 rfl) ?_
        refine lv_bipush (v := (6 : Int32)) hx hb dX7_across_21 (by decide) ?_
        refine lv_icmp_ne (tgt := 30) hx hb dX7_across_23 (by decide) (fun c_4 => ?_) (fun c_4 => ?_)
        · have hf := iq c_4 hf
          refine lv_iconst (v := (-1 : Int32)) hx hb dX7_across_30 (by decide) ?_
          exact p_iret (v := (-1 : Int32)) hx hb hr hlocks (Option.some.inj hf) dX7_across_31
        · have hf := ip c_4 hf
          refine lv_iconst (v := (0 : Int32)) hx hb dX7_across_26 (by decide) ?_
          refine lv_goto (tgt := 31) hx hb dX7_across_27 (by decide) ?_
          exact p_iret (v := (0 : Int32)) hx hb hr hlocks (Option.some.inj hf) dX7_across_31
    · have hf := ip c_2 hf
      refine lv_iconst (v := (1 : Int32)) hx hb dX7_across_11 (by decide) ?_
      refine lv_goto (tgt := 31) hx hb dX7_across_12 (by decide) ?_
      exact p_iret (v := (1 : Int32)) hx hb hr hlocks (Option.some.inj hf) dX7_across_31

def fX7_down (p0 : Int32) : Option (Int32) := ((fX7_in p0 (1 : Int32) (3 : Int32)).bind fun r_1 => (if r_1 = true then (some (1 : Int32)) else (if p0 ≤ (4 : Int32) then (some (0 : Int32)) else (some (-1 : Int32)))))
abbrev rmX7_down : Room := { frames := 1, cells := 0, slots := 0, locals := 22 }
theorem hdX7_down : yX7_down.cls = RX7 ∧ yX7_down.cls ≠ "java/lang/invoke/MethodHandle" ∧ yX7_down.cls ≠ "java/lang/invoke/VarHandle" ∧ (parseMethodDescriptor yX7_down.desc).map (fun d => d.parameters.length) = some 1 := by decide +kernel
set_option maxHeartbeats 4000000 in
set_option maxRecDepth 100000 in
theorem cX7_down_ok (l : Launch) (g : Gg) (p0 : Int32) {r : Int32} (hf : fX7_down p0 = some r) : Met l yX7_down wsX7_down rmX7_down (va_Pc [.int p0] (PP g ([] : va_W))) (vp_Si (fun r' => r' = r)) 0 0 (fun _ => False) := by
  refine Met.ofW (cc := cX7_down) (maxL := 1) (ret := (some .int)) (by decide) rfl ?_
  intro p e s m args below meth c s₁ B hml hv
  obtain ⟨rfl, hP, hE, hZ⟩ := hv
  have hx := B.exec
  have hb := B.bytes
  have hr := B.returns
  have hts := atoms_spec (ws := wsX7_down) B.pre
  have hown : s.vm.findClass RX7 = some m.cls := findClass_of_methodNamed B.named
  have hlocks := B.notSynchronized
  have hS : va_S (fun _ => False) s.heap s.heap [] := va_S.rf
  have hl := lv_entry ([.int p0]) (n := 1) (Nat.le_of_ble_eq_true rfl)
  rw [lg_entry_eq]
  generalize (lg_sl ([.int p0]) ++ List.replicate (1 - (lg_sl ([.int p0])).length) Slot.unset).toArray = ls at hl ⊢
  have hl : lv_has ls 1 [(0, .int p0)] := hl
  unfold fX7_down at hf
  refine lv_iload_n hx hb dX7_down_0 rfl (lv_at hl 0 rfl) ?_
  refine lv_iconst (v := (1 : Int32)) hx hb dX7_down_1 (by decide) ?_
  refine lv_iconst (v := (3 : Int32)) hx hb dX7_down_2 (by decide) ?_
  obtain ⟨r_1, e_1, hf⟩ := bo hf
  refine pcallS (W0 := ([] : va_W)) (As := [.int p0, .int (1 : Int32), .int (3 : Int32)]) (rest := []) [] ⟨hx, hb, hml, hown, hts⟩ hP hE hZ hS (cX7_in_ok l g  p0 (1 : Int32) (3 : Int32) e_1) (va_cwS 3 hts gX7_down_X7_in rfl rfl rfl hdX7_in.2 ⟨(Nat.le_of_ble_eq_true rfl), (Nat.le_of_ble_eq_true rfl)⟩) rfl rfl hl.1 rfl (Nat.le_of_ble_eq_true rfl) ⟨(Nat.le_of_ble_eq_true rfl), (Nat.le_of_ble_eq_true rfl)⟩ dX7_down_3 ?_
  refine lv_beq (tgt := 13) hx hb dX7_down_6 (by decide) (fun c_2 => ?_) (fun c_2 => ?_)
  · have hf := iq c_2 hf
    refine lv_iload_n hx hb dX7_down_13 rfl (lv_at hl 0 rfl) ?_
    refine lv_iconst (v := (4 : Int32)) hx hb dX7_down_14 (by decide) ?_
    refine lv_icmp_le (tgt := 22) hx hb dX7_down_15 (by decide) (fun c_3 => ?_) (fun c_3 => ?_)
    · have hf := ip c_3 hf
      refine lv_iconst (v := (0 : Int32)) hx hb dX7_down_22 (by decide) ?_
      exact p_iret (v := (0 : Int32)) hx hb hr hlocks (Option.some.inj hf) dX7_down_23
    · have hf := iq c_3 hf
      refine lv_iconst (v := (-1 : Int32)) hx hb dX7_down_18 (by decide) ?_
      refine lv_goto (tgt := 23) hx hb dX7_down_19 (by decide) ?_
      exact p_iret (v := (-1 : Int32)) hx hb hr hlocks (Option.some.inj hf) dX7_down_23
  · have hf := ip c_2 hf
    refine lv_iconst (v := (1 : Int32)) hx hb dX7_down_9 (by decide) ?_
    refine lv_goto (tgt := 23) hx hb dX7_down_10 (by decide) ?_
    exact p_iret (v := (1 : Int32)) hx hb hr hlocks (Option.some.inj hf) dX7_down_23

def fX7_next (p0 p1 : Int32) : Option (Int32) := ((fX7_across p1).bind fun r_1 => ((fX7_down p1).bind fun r_2 => ((fX7_in ((irm p0 (24 : Int32)) + r_1) (0 : Int32) (23 : Int32)).bind fun r_3 => (if r_3 = true then ((fX7_in ((p0 / (24 : Int32)) + r_2) (0 : Int32) (15 : Int32)).bind fun r_5 => (if r_5 = true then (some (((24 : Int32) * ((p0 / (24 : Int32)) + r_2)) + ((irm p0 (24 : Int32)) + r_1))) else (some (-1 : Int32)))) else (some (-1 : Int32))))))
abbrev rmX7_next : Room := { frames := 2, cells := 0, slots := 0, locals := 42 }
theorem hdX7_next : yX7_next.cls = RX7 ∧ yX7_next.cls ≠ "java/lang/invoke/MethodHandle" ∧ yX7_next.cls ≠ "java/lang/invoke/VarHandle" ∧ (parseMethodDescriptor yX7_next.desc).map (fun d => d.parameters.length) = some 2 := by decide +kernel
set_option maxHeartbeats 4000000 in
set_option maxRecDepth 100000 in
theorem cX7_next_ok (l : Launch) (g : Gg) (p0 p1 : Int32) {r : Int32} (hf : fX7_next p0 p1 = some r) : Met l yX7_next wsX7_next rmX7_next (va_Pc [.int p0, .int p1] (PP g ([] : va_W))) (vp_Si (fun r' => r' = r)) 0 0 (fun _ => False) := by
  refine Met.ofW (cc := cX7_next) (maxL := 4) (ret := (some .int)) (by decide) rfl ?_
  intro p e s m args below meth c s₁ B hml hv
  obtain ⟨rfl, hP, hE, hZ⟩ := hv
  have hx := B.exec
  have hb := B.bytes
  have hr := B.returns
  have hts := atoms_spec (ws := wsX7_next) B.pre
  have hown : s.vm.findClass RX7 = some m.cls := findClass_of_methodNamed B.named
  have hlocks := B.notSynchronized
  have hS : va_S (fun _ => False) s.heap s.heap [] := va_S.rf
  have hl := lv_entry ([.int p0, .int p1]) (n := 4) (Nat.le_of_ble_eq_true rfl)
  rw [lg_entry_eq]
  generalize (lg_sl ([.int p0, .int p1]) ++ List.replicate (4 - (lg_sl ([.int p0, .int p1])).length) Slot.unset).toArray = ls at hl ⊢
  have hl : lv_has ls 4 [(0, .int p0), (1, .int p1)] := hl
  unfold fX7_next at hf
  refine lv_iload_n hx hb dX7_next_0 rfl (lv_at hl 0 rfl) ?_
  refine lv_bipush (v := (24 : Int32)) hx hb dX7_next_1 (by decide) ?_
  refine lv_irm hx hb dX7_next_3 (by decide) ?_
  refine lv_iload_n hx hb dX7_next_4 rfl (lv_at hl 1 rfl) ?_
  obtain ⟨r_1, e_1, hf⟩ := bo hf
  refine pcallS (W0 := ([] : va_W)) (As := [.int p1]) (rest := [.int (irm p0 (24 : Int32))]) [] ⟨hx, hb, hml, hown, hts⟩ hP hE hZ hS (cX7_across_ok l g  p1 e_1) (va_cwS 1 hts gX7_next_X7_across rfl rfl rfl hdX7_across.2 ⟨(Nat.le_of_ble_eq_true rfl), (Nat.le_of_ble_eq_true rfl)⟩) rfl rfl hl.1 rfl (Nat.le_of_ble_eq_true rfl) ⟨(Nat.le_of_ble_eq_true rfl), (Nat.le_of_ble_eq_true rfl)⟩ dX7_next_5 ?_
  refine lv_iadd hx hb dX7_next_8 ?_
  refine lv_istore_n (lv' := [(2, .int ((irm p0 (24 : Int32)) + r_1)), (0, .int p0), (1, .int p1)]) hx hb dX7_next_9 rfl hl (by decide) rfl (fun ls hl => ?_)
  refine lv_iload_n hx hb dX7_next_10 rfl (lv_at hl 1 rfl) ?_
  refine lv_bipush (v := (24 : Int32)) hx hb dX7_next_11 (by decide) ?_
  refine lv_idiv hx hb dX7_next_13 (by decide) ?_
  refine lv_iload_n hx hb dX7_next_14 rfl (lv_at hl 2 rfl) ?_
  obtain ⟨r_2, e_2, hf⟩ := bo hf
  refine pcallS (W0 := ([] : va_W)) (As := [.int p1]) (rest := [.int (p0 / (24 : Int32))]) [] ⟨hx, hb, hml, hown, hts⟩ hP hE hZ hS (cX7_down_ok l g  p1 e_2) (va_cwS 1 hts gX7_next_X7_down rfl rfl rfl hdX7_down.2 ⟨(Nat.le_of_ble_eq_true rfl), (Nat.le_of_ble_eq_true rfl)⟩) rfl rfl hl.1 rfl (Nat.le_of_ble_eq_true rfl) ⟨(Nat.le_of_ble_eq_true rfl), (Nat.le_of_ble_eq_true rfl)⟩ dX7_next_15 ?_
  refine lv_iadd hx hb dX7_next_18 ?_
  refine lv_istore_n (lv' := [(3, .int ((p0 / (24 : Int32)) + r_2)), (2, .int ((irm p0 (24 : Int32)) + r_1)), (0, .int p0), (1, .int p1)]) hx hb dX7_next_19 rfl hl (by decide) rfl (fun ls hl => ?_)
  refine lv_iload_n hx hb dX7_next_20 rfl (lv_at hl 1 rfl) ?_
  refine lv_iconst (v := (0 : Int32)) hx hb dX7_next_21 (by decide) ?_
  refine lv_bipush (v := (23 : Int32)) hx hb dX7_next_22 (by decide) ?_
  obtain ⟨r_3, e_3, hf⟩ := bo hf
  refine pcallS (W0 := ([] : va_W)) (As := [.int ((irm p0 (24 : Int32)) + r_1), .int (0 : Int32), .int (23 : Int32)]) (rest := []) [] ⟨hx, hb, hml, hown, hts⟩ hP hE hZ hS (cX7_in_ok l g  ((irm p0 (24 : Int32)) + r_1) (0 : Int32) (23 : Int32) e_3) (va_cwS 3 hts gX7_next_X7_in rfl rfl rfl hdX7_in.2 ⟨(Nat.le_of_ble_eq_true rfl), (Nat.le_of_ble_eq_true rfl)⟩) rfl rfl hl.1 rfl (Nat.le_of_ble_eq_true rfl) ⟨(Nat.le_of_ble_eq_true rfl), (Nat.le_of_ble_eq_true rfl)⟩ dX7_next_24 ?_
  refine lv_beq (tgt := 49) hx hb dX7_next_27 (by decide) (fun c_4 => ?_) (fun c_4 => ?_)
  · have hf := iq c_4 hf
    refine lv_iconst (v := (-1 : Int32)) hx hb dX7_next_49 (by decide) ?_
    exact p_iret (v := (-1 : Int32)) hx hb hr hlocks (Option.some.inj hf) dX7_next_50
  · have hf := ip c_4 hf
    refine lv_iload_n hx hb dX7_next_30 rfl (lv_at hl 0 rfl) ?_
    refine lv_iconst (v := (0 : Int32)) hx hb dX7_next_31 (by decide) ?_
    refine lv_bipush (v := (15 : Int32)) hx hb dX7_next_32 (by decide) ?_
    obtain ⟨r_5, e_5, hf⟩ := bo hf
    refine pcallS (W0 := ([] : va_W)) (As := [.int ((p0 / (24 : Int32)) + r_2), .int (0 : Int32), .int (15 : Int32)]) (rest := []) [] ⟨hx, hb, hml, hown, hts⟩ hP hE hZ hS (cX7_in_ok l g  ((p0 / (24 : Int32)) + r_2) (0 : Int32) (15 : Int32) e_5) (va_cwS 3 hts gX7_next_X7_in rfl rfl rfl hdX7_in.2 ⟨(Nat.le_of_ble_eq_true rfl), (Nat.le_of_ble_eq_true rfl)⟩) rfl rfl hl.1 rfl (Nat.le_of_ble_eq_true rfl) ⟨(Nat.le_of_ble_eq_true rfl), (Nat.le_of_ble_eq_true rfl)⟩ dX7_next_34 ?_
    refine lv_beq (tgt := 49) hx hb dX7_next_37 (by decide) (fun c_6 => ?_) (fun c_6 => ?_)
    · have hf := iq c_6 hf
      refine lv_iconst (v := (-1 : Int32)) hx hb dX7_next_49 (by decide) ?_
      exact p_iret (v := (-1 : Int32)) hx hb hr hlocks (Option.some.inj hf) dX7_next_50
    · have hf := ip c_6 hf
      refine lv_bipush (v := (24 : Int32)) hx hb dX7_next_40 (by decide) ?_
      refine lv_iload_n hx hb dX7_next_42 rfl (lv_at hl 0 rfl) ?_
      refine lv_imul hx hb dX7_next_43 ?_
      refine lv_iload_n hx hb dX7_next_44 rfl (lv_at hl 1 rfl) ?_
      refine lv_iadd hx hb dX7_next_45 ?_
      refine lv_goto (tgt := 50) hx hb dX7_next_46 (by decide) ?_
      exact p_iret (v := (((24 : Int32) * ((p0 / (24 : Int32)) + r_2)) + ((irm p0 (24 : Int32)) + r_1))) hx hb hr hlocks (Option.some.inj hf) dX7_next_50

def fX7_at_10 (μ : Mo) (p0 p1 : Int32) : Nat → Int32 → Int32 → Option (Int32)
  | 0, _, _ => none
  | n + 1, v3_10, v4_10 => (if p1 ≤ v4_10 then (some v3_10) else ((fX7_of μ p0 ((4 : Int32) + v4_10)).bind fun r_2 => ((fX7_down r_2).bind fun r_3 => ((fX7_of μ p0 ((4 : Int32) + v4_10)).bind fun r_4 => ((fX7_across r_4).bind fun r_5 => fX7_at_10 μ p0 p1 n (v3_10 + (((24 : Int32) * r_3) + r_5)) (v4_10 + 1))))))
def fX7_at (μ : Mo) (p0 p1 : Int32) : Option (Int32) := ((fX7_of μ p0 (1 : Int32)).bind fun r_6 => fX7_at_10 μ p0 p1 FU r_6 (0 : Int32))
abbrev rmX7_at : Room := { frames := 2, cells := 0, slots := 0, locals := 42 }
theorem hdX7_at : yX7_at.cls = RX7 ∧ yX7_at.cls ≠ "java/lang/invoke/MethodHandle" ∧ yX7_at.cls ≠ "java/lang/invoke/VarHandle" ∧ (parseMethodDescriptor yX7_at.desc).map (fun d => d.parameters.length) = some 2 := by decide +kernel
set_option maxHeartbeats 4000000 in
set_option maxRecDepth 100000 in
theorem cX7_at_ok (l : Launch) (g : Gg) (m0 m1 m2 m3 m4 : Nat) (μ : Mo) (p0 p1 : Int32) {r : Int32} (hf : fX7_at μ p0 p1 = some r) : Met l yX7_at wsX7_at rmX7_at (va_Pc [.ref m0, .int p0, .int p1] (PP g (wM g m0 m1 m2 m3 m4 μ))) (vp_Si (fun r' => r' = r)) 0 0 (fun _ => False) := by
  refine Met.ofW (cc := cX7_at) (maxL := 5) (ret := (some .int)) (by decide) rfl ?_
  intro p e s m args below meth c s₁ B hml hv
  obtain ⟨rfl, hP, hE, hZ⟩ := hv
  have hx := B.exec
  have hb := B.bytes
  have hr := B.returns
  have hts := atoms_spec (ws := wsX7_at) B.pre
  have hown : s.vm.findClass RX7 = some m.cls := findClass_of_methodNamed B.named
  have hlocks := B.notSynchronized
  have hS : va_S (fun _ => False) s.heap s.heap [] := va_S.rf
  have hl := lv_entry ([.ref m0, .int p0, .int p1]) (n := 5) (Nat.le_of_ble_eq_true rfl)
  rw [lg_entry_eq]
  generalize (lg_sl ([.ref m0, .int p0, .int p1]) ++ List.replicate (5 - (lg_sl ([.ref m0, .int p0, .int p1])).length) Slot.unset).toArray = ls at hl ⊢
  have hl : lv_has ls 5 [(0, .ref m0), (1, .int p0), (2, .int p1)] := hl
  have hB10 : ∀ (n10 : Nat) (v3_10 : Int32) (v4_10 : Int32) (ls : Array Slot), lv_has ls 5 [(0, .ref m0), (1, .int p0), (2, .int p1), (3, .int v3_10), (4, .int v4_10)] → fX7_at_10 μ p0 p1 n10 v3_10 v4_10 = some r → W p l e (headSpec wsX7_at rmX7_at).room s m ([.ref m0, .int p0, .int p1] : List Value).toArray below meth c s.heap [] 0 0 (MQ below (vp_Si (fun r' => r' = r)) ([.ref m0, .int p0, .int p1] : List Value).toArray s 0 0 (fun _ => False)) (F0 m 10 ls []) := by
    intro  n10
    induction n10 with
    | zero => intro v3_10 v4_10 ls hl hf; exact nomatch (show (none : Option (Int32)) = some _ from hf)
    | succ n10 ih10 =>
      intro v3_10 v4_10 ls hl hf
      rw [fX7_at_10] at hf
      refine lv_iload hx hb dX7_at_10 (lv_at hl 4 rfl) ?_
      refine lv_iload_n hx hb dX7_at_12 rfl (lv_at hl 2 rfl) ?_
      refine lv_icmp_ge (tgt := 53) hx hb dX7_at_13 (by decide) (fun c_1 => ?_) (fun c_1 => ?_)
      · have hf := ip c_1 hf
        refine lv_iload_n hx hb dX7_at_53 rfl (lv_at hl 3 rfl) ?_
        exact p_iret (v := v3_10) hx hb hr hlocks (Option.some.inj hf) dX7_at_54
      · have hf := iq c_1 hf
        refine lv_iload_n hx hb dX7_at_16 rfl (lv_at hl 3 rfl) ?_
        refine lv_bipush (v := (24 : Int32)) hx hb dX7_at_17 (by decide) ?_
        refine lv_aload_n hx hb dX7_at_19 rfl (lv_at hl 0 rfl) ?_
        refine lv_iload_n hx hb dX7_at_20 rfl (lv_at hl 1 rfl) ?_
        refine lv_iconst (v := (4 : Int32)) hx hb dX7_at_21 (by decide) ?_
        refine lv_iload hx hb dX7_at_22 (lv_at hl 4 rfl) ?_
        refine lv_iadd hx hb dX7_at_24 ?_
        obtain ⟨r_2, e_2, hf⟩ := bo hf
        refine pcallV (W0 := (wM g m0 m1 m2 m3 m4 μ)) (As := [.int p0, .int ((4 : Int32) + v4_10)]) (rest := [.int (24 : Int32), .int v3_10]) [0, 1, 2, 3, 4] 5 0 ⟨hx, hb, hml, hown, hts⟩ hP hE hZ hS (cX7_of_ok l g m0 m1 m2 m3 m4 μ p0 ((4 : Int32) + v4_10) e_2) (cwV 2 hts gX7_at_X7_of rfl rfl rfl hdX7_of ⟨(Nat.le_of_ble_eq_true rfl), (Nat.le_of_ble_eq_true rfl)⟩) rfl rfl rfl rfl rfl hl.1 rfl (Nat.le_of_ble_eq_true rfl) ⟨(Nat.le_of_ble_eq_true rfl), (Nat.le_of_ble_eq_true rfl)⟩ dX7_at_25 ?_
        obtain ⟨r_3, e_3, hf⟩ := bo hf
        refine pcallS (W0 := (wM g m0 m1 m2 m3 m4 μ)) (As := [.int r_2]) (rest := [.int (24 : Int32), .int v3_10]) [] ⟨hx, hb, hml, hown, hts⟩ hP hE hZ hS (cX7_down_ok l g  r_2 e_3) (va_cwS 1 hts gX7_at_X7_down rfl rfl rfl hdX7_down.2 ⟨(Nat.le_of_ble_eq_true rfl), (Nat.le_of_ble_eq_true rfl)⟩) rfl rfl hl.1 rfl (Nat.le_of_ble_eq_true rfl) ⟨(Nat.le_of_ble_eq_true rfl), (Nat.le_of_ble_eq_true rfl)⟩ dX7_at_28 ?_
        refine lv_imul hx hb dX7_at_31 ?_
        refine lv_aload_n hx hb dX7_at_32 rfl (lv_at hl 0 rfl) ?_
        refine lv_iload_n hx hb dX7_at_33 rfl (lv_at hl 1 rfl) ?_
        refine lv_iconst (v := (4 : Int32)) hx hb dX7_at_34 (by decide) ?_
        refine lv_iload hx hb dX7_at_35 (lv_at hl 4 rfl) ?_
        refine lv_iadd hx hb dX7_at_37 ?_
        obtain ⟨r_4, e_4, hf⟩ := bo hf
        refine pcallV (W0 := (wM g m0 m1 m2 m3 m4 μ)) (As := [.int p0, .int ((4 : Int32) + v4_10)]) (rest := [.int ((24 : Int32) * r_3), .int v3_10]) [0, 1, 2, 3, 4] 5 0 ⟨hx, hb, hml, hown, hts⟩ hP hE hZ hS (cX7_of_ok l g m0 m1 m2 m3 m4 μ p0 ((4 : Int32) + v4_10) e_4) (cwV 2 hts gX7_at_X7_of rfl rfl rfl hdX7_of ⟨(Nat.le_of_ble_eq_true rfl), (Nat.le_of_ble_eq_true rfl)⟩) rfl rfl rfl rfl rfl hl.1 rfl (Nat.le_of_ble_eq_true rfl) ⟨(Nat.le_of_ble_eq_true rfl), (Nat.le_of_ble_eq_true rfl)⟩ dX7_at_38 ?_
        obtain ⟨r_5, e_5, hf⟩ := bo hf
        refine pcallS (W0 := (wM g m0 m1 m2 m3 m4 μ)) (As := [.int r_4]) (rest := [.int ((24 : Int32) * r_3), .int v3_10]) [] ⟨hx, hb, hml, hown, hts⟩ hP hE hZ hS (cX7_across_ok l g  r_4 e_5) (va_cwS 1 hts gX7_at_X7_across rfl rfl rfl hdX7_across.2 ⟨(Nat.le_of_ble_eq_true rfl), (Nat.le_of_ble_eq_true rfl)⟩) rfl rfl hl.1 rfl (Nat.le_of_ble_eq_true rfl) ⟨(Nat.le_of_ble_eq_true rfl), (Nat.le_of_ble_eq_true rfl)⟩ dX7_at_41 ?_
        refine lv_iadd hx hb dX7_at_44 ?_
        refine lv_iadd hx hb dX7_at_45 ?_
        refine lv_istore_n (lv' := [(3, .int (v3_10 + (((24 : Int32) * r_3) + r_5))), (0, .ref m0), (1, .int p0), (2, .int p1), (4, .int v4_10)]) hx hb dX7_at_46 rfl hl (by decide) rfl (fun ls hl => ?_)
        refine lv_iinc (v := (v4_10 + 1)) (lv' := [(4, .int (v4_10 + 1)), (3, .int (v3_10 + (((24 : Int32) * r_3) + r_5))), (0, .ref m0), (1, .int p0), (2, .int p1)]) hx hb dX7_at_47 hl (k := 4) rfl rfl (by decide) rfl (fun ls hl => ?_)
        refine lv_goto (tgt := 10) hx hb dX7_at_50 (by decide) ?_
        exact ih10 (v3_10 + (((24 : Int32) * r_3) + r_5)) (v4_10 + 1) ls (lv_sub hl [2, 3, 4, 1, 0] rfl) hf
  unfold fX7_at at hf
  refine lv_aload_n hx hb dX7_at_0 rfl (lv_at hl 0 rfl) ?_
  refine lv_iload_n hx hb dX7_at_1 rfl (lv_at hl 1 rfl) ?_
  refine lv_iconst (v := (1 : Int32)) hx hb dX7_at_2 (by decide) ?_
  obtain ⟨r_6, e_6, hf⟩ := bo hf
  refine pcallV (W0 := (wM g m0 m1 m2 m3 m4 μ)) (As := [.int p0, .int (1 : Int32)]) (rest := []) [0, 1, 2, 3, 4] 5 0 ⟨hx, hb, hml, hown, hts⟩ hP hE hZ hS (cX7_of_ok l g m0 m1 m2 m3 m4 μ p0 (1 : Int32) e_6) (cwV 2 hts gX7_at_X7_of rfl rfl rfl hdX7_of ⟨(Nat.le_of_ble_eq_true rfl), (Nat.le_of_ble_eq_true rfl)⟩) rfl rfl rfl rfl rfl hl.1 rfl (Nat.le_of_ble_eq_true rfl) ⟨(Nat.le_of_ble_eq_true rfl), (Nat.le_of_ble_eq_true rfl)⟩ dX7_at_3 ?_
  refine lv_istore_n (lv' := [(3, .int r_6), (0, .ref m0), (1, .int p0), (2, .int p1)]) hx hb dX7_at_6 rfl hl (by decide) rfl (fun ls hl => ?_)
  refine lv_iconst (v := (0 : Int32)) hx hb dX7_at_7 (by decide) ?_
  refine lv_istore (lv' := [(4, .int (0 : Int32)), (3, .int r_6), (0, .ref m0), (1, .int p0), (2, .int p1)]) hx hb dX7_at_8 hl (by decide) rfl (fun ls hl => ?_)
  exact hB10 FU r_6 (0 : Int32) ls (lv_sub hl [2, 3, 4, 1, 0] rfl) hf

def fX7_last (μ : Mo) (p0 : Int32) : Option (Int32) := ((fX7_of μ p0 (2 : Int32)).bind fun r_1 => ((fX7_at μ p0 r_1).bind fun r_2 => (some r_2)))
abbrev rmX7_last : Room := { frames := 3, cells := 0, slots := 0, locals := 66 }
theorem hdX7_last : yX7_last.cls = RX7 ∧ yX7_last.cls ≠ "java/lang/invoke/MethodHandle" ∧ yX7_last.cls ≠ "java/lang/invoke/VarHandle" ∧ (parseMethodDescriptor yX7_last.desc).map (fun d => d.parameters.length) = some 1 := by decide +kernel
set_option maxHeartbeats 4000000 in
set_option maxRecDepth 100000 in
theorem cX7_last_ok (l : Launch) (g : Gg) (m0 m1 m2 m3 m4 : Nat) (μ : Mo) (p0 : Int32) {r : Int32} (hf : fX7_last μ p0 = some r) : Met l yX7_last wsX7_last rmX7_last (va_Pc [.ref m0, .int p0] (PP g (wM g m0 m1 m2 m3 m4 μ))) (vp_Si (fun r' => r' = r)) 0 0 (fun _ => False) := by
  refine Met.ofW (cc := cX7_last) (maxL := 2) (ret := (some .int)) (by decide) rfl ?_
  intro p e s m args below meth c s₁ B hml hv
  obtain ⟨rfl, hP, hE, hZ⟩ := hv
  have hx := B.exec
  have hb := B.bytes
  have hr := B.returns
  have hts := atoms_spec (ws := wsX7_last) B.pre
  have hown : s.vm.findClass RX7 = some m.cls := findClass_of_methodNamed B.named
  have hlocks := B.notSynchronized
  have hS : va_S (fun _ => False) s.heap s.heap [] := va_S.rf
  have hl := lv_entry ([.ref m0, .int p0]) (n := 2) (Nat.le_of_ble_eq_true rfl)
  rw [lg_entry_eq]
  generalize (lg_sl ([.ref m0, .int p0]) ++ List.replicate (2 - (lg_sl ([.ref m0, .int p0])).length) Slot.unset).toArray = ls at hl ⊢
  have hl : lv_has ls 2 [(0, .ref m0), (1, .int p0)] := hl
  unfold fX7_last at hf
  refine lv_aload_n hx hb dX7_last_0 rfl (lv_at hl 0 rfl) ?_
  refine lv_iload_n hx hb dX7_last_1 rfl (lv_at hl 1 rfl) ?_
  refine lv_aload_n hx hb dX7_last_2 rfl (lv_at hl 0 rfl) ?_
  refine lv_iload_n hx hb dX7_last_3 rfl (lv_at hl 1 rfl) ?_
  refine lv_iconst (v := (2 : Int32)) hx hb dX7_last_4 (by decide) ?_
  obtain ⟨r_1, e_1, hf⟩ := bo hf
  refine pcallV (W0 := (wM g m0 m1 m2 m3 m4 μ)) (As := [.int p0, .int (2 : Int32)]) (rest := [.int p0, .ref m0]) [0, 1, 2, 3, 4] 5 0 ⟨hx, hb, hml, hown, hts⟩ hP hE hZ hS (cX7_of_ok l g m0 m1 m2 m3 m4 μ p0 (2 : Int32) e_1) (cwV 2 hts gX7_last_X7_of rfl rfl rfl hdX7_of ⟨(Nat.le_of_ble_eq_true rfl), (Nat.le_of_ble_eq_true rfl)⟩) rfl rfl rfl rfl rfl hl.1 rfl (Nat.le_of_ble_eq_true rfl) ⟨(Nat.le_of_ble_eq_true rfl), (Nat.le_of_ble_eq_true rfl)⟩ dX7_last_5 ?_
  obtain ⟨r_2, e_2, hf⟩ := bo hf
  refine pcallV (W0 := (wM g m0 m1 m2 m3 m4 μ)) (As := [.int p0, .int r_1]) (rest := []) [0, 1, 2, 3, 4] 5 0 ⟨hx, hb, hml, hown, hts⟩ hP hE hZ hS (cX7_at_ok l g m0 m1 m2 m3 m4 μ p0 r_1 e_2) (cwV 2 hts gX7_last_X7_at rfl rfl rfl hdX7_at ⟨(Nat.le_of_ble_eq_true rfl), (Nat.le_of_ble_eq_true rfl)⟩) rfl rfl rfl rfl rfl hl.1 rfl (Nat.le_of_ble_eq_true rfl) ⟨(Nat.le_of_ble_eq_true rfl), (Nat.le_of_ble_eq_true rfl)⟩ dX7_last_8 ?_
  exact p_iret (v := r_2) hx hb hr hlocks (Option.some.inj hf) dX7_last_11

def fX7_closes (μ : Mo) (p0 : Int32) : Option (Bool) := ((fX7_of μ p0 (2 : Int32)).bind fun r_1 => (if r_1 ≤ 0 then (some false) else ((fX7_last μ p0).bind fun r_3 => ((fX7_of μ p0 (1 : Int32)).bind fun r_4 => (if r_3 = r_4 then (some true) else (some false))))))
abbrev rmX7_closes : Room := { frames := 4, cells := 0, slots := 0, locals := 87 }
theorem hdX7_closes : yX7_closes.cls = RX7 ∧ yX7_closes.cls ≠ "java/lang/invoke/MethodHandle" ∧ yX7_closes.cls ≠ "java/lang/invoke/VarHandle" ∧ (parseMethodDescriptor yX7_closes.desc).map (fun d => d.parameters.length) = some 1 := by decide +kernel
set_option maxHeartbeats 4000000 in
set_option maxRecDepth 100000 in
theorem cX7_closes_ok (l : Launch) (g : Gg) (m0 m1 m2 m3 m4 : Nat) (μ : Mo) (p0 : Int32) {r : Bool} (hf : fX7_closes μ p0 = some r) : Met l yX7_closes wsX7_closes rmX7_closes (va_Pc [.ref m0, .int p0] (PP g (wM g m0 m1 m2 m3 m4 μ))) (vp_Si (fun r' => r' = b2i r)) 0 0 (fun _ => False) := by
  refine Met.ofW (cc := cX7_closes) (maxL := 2) (ret := (some .boolean)) (by decide) rfl ?_
  intro p e s m args below meth c s₁ B hml hv
  obtain ⟨rfl, hP, hE, hZ⟩ := hv
  have hx := B.exec
  have hb := B.bytes
  have hr := B.returns
  have hts := atoms_spec (ws := wsX7_closes) B.pre
  have hown : s.vm.findClass RX7 = some m.cls := findClass_of_methodNamed B.named
  have hlocks := B.notSynchronized
  have hS : va_S (fun _ => False) s.heap s.heap [] := va_S.rf
  have hl := lv_entry ([.ref m0, .int p0]) (n := 2) (Nat.le_of_ble_eq_true rfl)
  rw [lg_entry_eq]
  generalize (lg_sl ([.ref m0, .int p0]) ++ List.replicate (2 - (lg_sl ([.ref m0, .int p0])).length) Slot.unset).toArray = ls at hl ⊢
  have hl : lv_has ls 2 [(0, .ref m0), (1, .int p0)] := hl
  unfold fX7_closes at hf
  refine lv_aload_n hx hb dX7_closes_0 rfl (lv_at hl 0 rfl) ?_
  refine lv_iload_n hx hb dX7_closes_1 rfl (lv_at hl 1 rfl) ?_
  refine lv_iconst (v := (2 : Int32)) hx hb dX7_closes_2 (by decide) ?_
  obtain ⟨r_1, e_1, hf⟩ := bo hf
  refine pcallV (W0 := (wM g m0 m1 m2 m3 m4 μ)) (As := [.int p0, .int (2 : Int32)]) (rest := []) [0, 1, 2, 3, 4] 5 0 ⟨hx, hb, hml, hown, hts⟩ hP hE hZ hS (cX7_of_ok l g m0 m1 m2 m3 m4 μ p0 (2 : Int32) e_1) (cwV 2 hts gX7_closes_X7_of rfl rfl rfl hdX7_of ⟨(Nat.le_of_ble_eq_true rfl), (Nat.le_of_ble_eq_true rfl)⟩) rfl rfl rfl rfl rfl hl.1 rfl (Nat.le_of_ble_eq_true rfl) ⟨(Nat.le_of_ble_eq_true rfl), (Nat.le_of_ble_eq_true rfl)⟩ dX7_closes_3 ?_
  refine lv_if_le (tgt := 27) hx hb dX7_closes_6 (by decide) (fun c_2 => ?_) (fun c_2 => ?_)
  · have hf := ip c_2 hf
    refine lv_iconst (v := (0 : Int32)) hx hb dX7_closes_27 (by decide) ?_
    exact p_zret (v := false) hx hb hr hlocks (Option.some.inj hf) dX7_closes_28
  · have hf := iq c_2 hf
    refine lv_aload_n hx hb dX7_closes_9 rfl (lv_at hl 0 rfl) ?_
    refine lv_iload_n hx hb dX7_closes_10 rfl (lv_at hl 1 rfl) ?_
    obtain ⟨r_3, e_3, hf⟩ := bo hf
    refine pcallV (W0 := (wM g m0 m1 m2 m3 m4 μ)) (As := [.int p0]) (rest := []) [0, 1, 2, 3, 4] 5 0 ⟨hx, hb, hml, hown, hts⟩ hP hE hZ hS (cX7_last_ok l g m0 m1 m2 m3 m4 μ p0 e_3) (cwV 1 hts gX7_closes_X7_last rfl rfl rfl hdX7_last ⟨(Nat.le_of_ble_eq_true rfl), (Nat.le_of_ble_eq_true rfl)⟩) rfl rfl rfl rfl rfl hl.1 rfl (Nat.le_of_ble_eq_true rfl) ⟨(Nat.le_of_ble_eq_true rfl), (Nat.le_of_ble_eq_true rfl)⟩ dX7_closes_11 ?_
    refine lv_aload_n hx hb dX7_closes_14 rfl (lv_at hl 0 rfl) ?_
    refine lv_iload_n hx hb dX7_closes_15 rfl (lv_at hl 1 rfl) ?_
    refine lv_iconst (v := (1 : Int32)) hx hb dX7_closes_16 (by decide) ?_
    obtain ⟨r_4, e_4, hf⟩ := bo hf
    refine pcallV (W0 := (wM g m0 m1 m2 m3 m4 μ)) (As := [.int p0, .int (1 : Int32)]) (rest := [.int r_3]) [0, 1, 2, 3, 4] 5 0 ⟨hx, hb, hml, hown, hts⟩ hP hE hZ hS (cX7_of_ok l g m0 m1 m2 m3 m4 μ p0 (1 : Int32) e_4) (cwV 2 hts gX7_closes_X7_of rfl rfl rfl hdX7_of ⟨(Nat.le_of_ble_eq_true rfl), (Nat.le_of_ble_eq_true rfl)⟩) rfl rfl rfl rfl rfl hl.1 rfl (Nat.le_of_ble_eq_true rfl) ⟨(Nat.le_of_ble_eq_true rfl), (Nat.le_of_ble_eq_true rfl)⟩ dX7_closes_17 ?_
    refine lv_icmp_ne (tgt := 27) hx hb dX7_closes_20 (by decide) (fun c_5 => ?_) (fun c_5 => ?_)
    · have hf := iq c_5 hf
      refine lv_iconst (v := (0 : Int32)) hx hb dX7_closes_27 (by decide) ?_
      exact p_zret (v := false) hx hb hr hlocks (Option.some.inj hf) dX7_closes_28
    · have hf := ip c_5 hf
      refine lv_iconst (v := (1 : Int32)) hx hb dX7_closes_23 (by decide) ?_
      refine lv_goto (tgt := 28) hx hb dX7_closes_24 (by decide) ?_
      exact p_zret (v := true) hx hb hr hlocks (Option.some.inj hf) dX7_closes_28

def fX7_owner_34 (μ : Mo) (p0 : Int32) (v2_34 : Int32) (k2 : Int32 → Option (Int32)) : Nat → Int32 → Bool → Int32 → Option (Int32)
  | 0, _, _, _ => none
  | n + 1, v3_34, v4_34, v5_34 => ((fX7_of μ v2_34 (2 : Int32)).bind fun r_1 => (if r_1 ≤ v5_34 then (if v4_34 = true then (some v2_34) else k2 (v2_34 + 1)) else ((fX7_of μ v2_34 ((4 : Int32) + v5_34)).bind fun r_4 => ((fX7_down r_4).bind fun r_5 => ((fX7_of μ v2_34 ((4 : Int32) + v5_34)).bind fun r_6 => ((fX7_across r_6).bind fun r_7 => (if v4_34 = true then fX7_owner_34 μ p0 v2_34 k2 n (v3_34 + (((24 : Int32) * r_5) + r_7)) true (v5_34 + 1) else (if (v3_34 + (((24 : Int32) * r_5) + r_7)) = p0 then fX7_owner_34 μ p0 v2_34 k2 n (v3_34 + (((24 : Int32) * r_5) + r_7)) true (v5_34 + 1) else fX7_owner_34 μ p0 v2_34 k2 n (v3_34 + (((24 : Int32) * r_5) + r_7)) false (v5_34 + 1)))))))))
def fX7_owner_2 (μ : Mo) (p0 : Int32) : Nat → Int32 → Option (Int32)
  | 0, _ => none
  | n + 1, v2_2 => (if (M_row μ (Int32.toNatClampNeg (0 : Int32))) ≤ v2_2 then (some (-1 : Int32)) else ((fX7_of μ v2_2 (1 : Int32)).bind fun r_11 => (if r_11 = p0 then fX7_owner_34 μ p0 v2_2 (fX7_owner_2 μ p0 n) FU r_11 true (0 : Int32) else fX7_owner_34 μ p0 v2_2 (fX7_owner_2 μ p0 n) FU r_11 false (0 : Int32))))
def fX7_owner (μ : Mo) (p0 : Int32) : Option (Int32) := fX7_owner_2 μ p0 FU (0 : Int32)
abbrev rmX7_owner : Room := { frames := 2, cells := 0, slots := 0, locals := 42 }
theorem hdX7_owner : yX7_owner.cls = RX7 ∧ yX7_owner.cls ≠ "java/lang/invoke/MethodHandle" ∧ yX7_owner.cls ≠ "java/lang/invoke/VarHandle" ∧ (parseMethodDescriptor yX7_owner.desc).map (fun d => d.parameters.length) = some 1 := by decide +kernel
theorem fiX7_owner_X7 : ∀ w ∈ wsX70, w ∈ wsX7_owner := by decide +kernel
theorem flX7_owner_7 : (.fieldLink RX7 7 "ContourLabelsModel" "row" "[I" : Cond) ∈ wsX7_owner := by decide +kernel
set_option maxHeartbeats 4000000 in
set_option maxRecDepth 100000 in
theorem cX7_owner_ok (l : Launch) (g : Gg) (m0 m1 m2 m3 m4 : Nat) (μ : Mo) (p0 : Int32) {r : Int32} (hf : fX7_owner μ p0 = some r) : Met l yX7_owner wsX7_owner rmX7_owner (va_Pc [.ref m0, .int p0] (PP g (wM g m0 m1 m2 m3 m4 μ))) (vp_Si (fun r' => r' = r)) 0 0 (fun _ => False) := by
  refine Met.ofW (cc := cX7_owner) (maxL := 6) (ret := (some .int)) (by decide) rfl ?_
  intro p e s m args below meth c s₁ B hml hv
  obtain ⟨rfl, hP, hE, hZ⟩ := hv
  have hx := B.exec
  have hb := B.bytes
  have hr := B.returns
  have hts := atoms_spec (ws := wsX7_owner) B.pre
  have hown : s.vm.findClass RX7 = some m.cls := findClass_of_methodNamed B.named
  have hlocks := B.notSynchronized
  have hS : va_S (fun _ => False) s.heap s.heap [] := va_S.rf
  have hl := lv_entry ([.ref m0, .int p0]) (n := 6) (Nat.le_of_ble_eq_true rfl)
  rw [lg_entry_eq]
  generalize (lg_sl ([.ref m0, .int p0]) ++ List.replicate (6 - (lg_sl ([.ref m0, .int p0])).length) Slot.unset).toArray = ls at hl ⊢
  have hl : lv_has ls 6 [(0, .ref m0), (1, .int p0)] := hl
  have hB2 : ∀ (n2 : Nat) (v2_2 : Int32) (ls : Array Slot), lv_has ls 6 [(0, .ref m0), (1, .int p0), (2, .int v2_2)] → fX7_owner_2 μ p0 n2 v2_2 = some r → W p l e (headSpec wsX7_owner rmX7_owner).room s m ([.ref m0, .int p0] : List Value).toArray below meth c s.heap [] 0 0 (MQ below (vp_Si (fun r' => r' = r)) ([.ref m0, .int p0] : List Value).toArray s 0 0 (fun _ => False)) (F0 m 2 ls []) := by
    intro  n2
    induction n2 with
    | zero => intro v2_2 ls hl hf; exact nomatch (show (none : Option (Int32)) = some _ from hf)
    | succ n2 ih2 =>
      have hB34 : ∀ (v2_34 : Int32) (n34 : Nat) (v3_34 : Int32) (v4_34 : Bool) (v5_34 : Int32) (ls : Array Slot), lv_has ls 6 [(0, .ref m0), (1, .int p0), (2, .int v2_34), (3, .int v3_34), (4, .int (b2i v4_34)), (5, .int v5_34)] → fX7_owner_34 μ p0 v2_34 (fX7_owner_2 μ p0 n2) n34 v3_34 v4_34 v5_34 = some r → W p l e (headSpec wsX7_owner rmX7_owner).room s m ([.ref m0, .int p0] : List Value).toArray below meth c s.heap [] 0 0 (MQ below (vp_Si (fun r' => r' = r)) ([.ref m0, .int p0] : List Value).toArray s 0 0 (fun _ => False)) (F0 m 34 ls []) := by
        intro v2_34 n34
        induction n34 with
        | zero => intro v3_34 v4_34 v5_34 ls hl hf; exact nomatch (show (none : Option (Int32)) = some _ from hf)
        | succ n34 ih34 =>
          intro v3_34 v4_34 v5_34 ls hl hf
          rw [fX7_owner_34] at hf
          refine lv_iload hx hb dX7_owner_34 (lv_at hl 5 rfl) ?_
          refine lv_aload_n hx hb dX7_owner_36 rfl (lv_at hl 0 rfl) ?_
          refine lv_iload_n hx hb dX7_owner_37 rfl (lv_at hl 2 rfl) ?_
          refine lv_iconst (v := (2 : Int32)) hx hb dX7_owner_38 (by decide) ?_
          obtain ⟨r_1, e_1, hf⟩ := bo hf
          refine pcallV (W0 := (wM g m0 m1 m2 m3 m4 μ)) (As := [.int v2_34, .int (2 : Int32)]) (rest := [.int v5_34]) [0, 1, 2, 3, 4] 5 0 ⟨hx, hb, hml, hown, hts⟩ hP hE hZ hS (cX7_of_ok l g m0 m1 m2 m3 m4 μ v2_34 (2 : Int32) e_1) (cwV 2 hts gX7_owner_X7_of rfl rfl rfl hdX7_of ⟨(Nat.le_of_ble_eq_true rfl), (Nat.le_of_ble_eq_true rfl)⟩) rfl rfl rfl rfl rfl hl.1 rfl (Nat.le_of_ble_eq_true rfl) ⟨(Nat.le_of_ble_eq_true rfl), (Nat.le_of_ble_eq_true rfl)⟩ dX7_owner_39 ?_
          refine lv_icmp_ge (tgt := 99) hx hb dX7_owner_42 (by decide) (fun c_2 => ?_) (fun c_2 => ?_)
          · have hf := ip c_2 hf
            refine lv_iload hx hb dX7_owner_99 (lv_at hl 4 rfl) ?_
            refine lv_beq (tgt := 106) hx hb dX7_owner_101 (by decide) (fun c_3 => ?_) (fun c_3 => ?_)
            · have hf := iq c_3 hf
              refine lv_iinc (v := (v2_34 + 1)) (lv' := [(2, .int (v2_34 + 1)), (0, .ref m0), (1, .int p0), (3, .int v3_34), (4, .int (b2i v4_34)), (5, .int v5_34)]) hx hb dX7_owner_106 hl (k := 2) rfl rfl (by decide) rfl (fun ls hl => ?_)
              refine lv_goto (tgt := 2) hx hb dX7_owner_109 (by decide) ?_
              exact ih2 (v2_34 + 1) ls (lv_sub hl [1, 2, 0] rfl) hf
            · have hf := ip c_3 hf
              refine lv_iload_n hx hb dX7_owner_104 rfl (lv_at hl 2 rfl) ?_
              exact p_iret (v := v2_34) hx hb hr hlocks (Option.some.inj hf) dX7_owner_105
          · have hf := iq c_2 hf
            refine lv_iload_n hx hb dX7_owner_45 rfl (lv_at hl 3 rfl) ?_
            refine lv_bipush (v := (24 : Int32)) hx hb dX7_owner_46 (by decide) ?_
            refine lv_aload_n hx hb dX7_owner_48 rfl (lv_at hl 0 rfl) ?_
            refine lv_iload_n hx hb dX7_owner_49 rfl (lv_at hl 2 rfl) ?_
            refine lv_iconst (v := (4 : Int32)) hx hb dX7_owner_50 (by decide) ?_
            refine lv_iload hx hb dX7_owner_51 (lv_at hl 5 rfl) ?_
            refine lv_iadd hx hb dX7_owner_53 ?_
            obtain ⟨r_4, e_4, hf⟩ := bo hf
            refine pcallV (W0 := (wM g m0 m1 m2 m3 m4 μ)) (As := [.int v2_34, .int ((4 : Int32) + v5_34)]) (rest := [.int (24 : Int32), .int v3_34]) [0, 1, 2, 3, 4] 5 0 ⟨hx, hb, hml, hown, hts⟩ hP hE hZ hS (cX7_of_ok l g m0 m1 m2 m3 m4 μ v2_34 ((4 : Int32) + v5_34) e_4) (cwV 2 hts gX7_owner_X7_of rfl rfl rfl hdX7_of ⟨(Nat.le_of_ble_eq_true rfl), (Nat.le_of_ble_eq_true rfl)⟩) rfl rfl rfl rfl rfl hl.1 rfl (Nat.le_of_ble_eq_true rfl) ⟨(Nat.le_of_ble_eq_true rfl), (Nat.le_of_ble_eq_true rfl)⟩ dX7_owner_54 ?_
            obtain ⟨r_5, e_5, hf⟩ := bo hf
            refine pcallS (W0 := (wM g m0 m1 m2 m3 m4 μ)) (As := [.int r_4]) (rest := [.int (24 : Int32), .int v3_34]) [] ⟨hx, hb, hml, hown, hts⟩ hP hE hZ hS (cX7_down_ok l g  r_4 e_5) (va_cwS 1 hts gX7_owner_X7_down rfl rfl rfl hdX7_down.2 ⟨(Nat.le_of_ble_eq_true rfl), (Nat.le_of_ble_eq_true rfl)⟩) rfl rfl hl.1 rfl (Nat.le_of_ble_eq_true rfl) ⟨(Nat.le_of_ble_eq_true rfl), (Nat.le_of_ble_eq_true rfl)⟩ dX7_owner_57 ?_
            refine lv_imul hx hb dX7_owner_60 ?_
            refine lv_aload_n hx hb dX7_owner_61 rfl (lv_at hl 0 rfl) ?_
            refine lv_iload_n hx hb dX7_owner_62 rfl (lv_at hl 2 rfl) ?_
            refine lv_iconst (v := (4 : Int32)) hx hb dX7_owner_63 (by decide) ?_
            refine lv_iload hx hb dX7_owner_64 (lv_at hl 5 rfl) ?_
            refine lv_iadd hx hb dX7_owner_66 ?_
            obtain ⟨r_6, e_6, hf⟩ := bo hf
            refine pcallV (W0 := (wM g m0 m1 m2 m3 m4 μ)) (As := [.int v2_34, .int ((4 : Int32) + v5_34)]) (rest := [.int ((24 : Int32) * r_5), .int v3_34]) [0, 1, 2, 3, 4] 5 0 ⟨hx, hb, hml, hown, hts⟩ hP hE hZ hS (cX7_of_ok l g m0 m1 m2 m3 m4 μ v2_34 ((4 : Int32) + v5_34) e_6) (cwV 2 hts gX7_owner_X7_of rfl rfl rfl hdX7_of ⟨(Nat.le_of_ble_eq_true rfl), (Nat.le_of_ble_eq_true rfl)⟩) rfl rfl rfl rfl rfl hl.1 rfl (Nat.le_of_ble_eq_true rfl) ⟨(Nat.le_of_ble_eq_true rfl), (Nat.le_of_ble_eq_true rfl)⟩ dX7_owner_67 ?_
            obtain ⟨r_7, e_7, hf⟩ := bo hf
            refine pcallS (W0 := (wM g m0 m1 m2 m3 m4 μ)) (As := [.int r_6]) (rest := [.int ((24 : Int32) * r_5), .int v3_34]) [] ⟨hx, hb, hml, hown, hts⟩ hP hE hZ hS (cX7_across_ok l g  r_6 e_7) (va_cwS 1 hts gX7_owner_X7_across rfl rfl rfl hdX7_across.2 ⟨(Nat.le_of_ble_eq_true rfl), (Nat.le_of_ble_eq_true rfl)⟩) rfl rfl hl.1 rfl (Nat.le_of_ble_eq_true rfl) ⟨(Nat.le_of_ble_eq_true rfl), (Nat.le_of_ble_eq_true rfl)⟩ dX7_owner_70 ?_
            refine lv_iadd hx hb dX7_owner_73 ?_
            refine lv_iadd hx hb dX7_owner_74 ?_
            refine lv_istore_n (lv' := [(3, .int (v3_34 + (((24 : Int32) * r_5) + r_7))), (0, .ref m0), (1, .int p0), (2, .int v2_34), (4, .int (b2i v4_34)), (5, .int v5_34)]) hx hb dX7_owner_75 rfl hl (by decide) rfl (fun ls hl => ?_)
            refine lv_iload hx hb dX7_owner_76 (lv_at hl 4 rfl) ?_
            refine lv_bne (tgt := 86) hx hb dX7_owner_78 (by decide) (fun c_8 => ?_) (fun c_8 => ?_)
            · have hf := ip c_8 hf
              refine lv_iconst (v := (1 : Int32)) hx hb dX7_owner_86 (by decide) ?_
              refine lv_goto (tgt := 91) hx hb dX7_owner_87 (by decide) ?_
              refine lv_istore (lv' := [(4, .int (1 : Int32)), (3, .int (v3_34 + (((24 : Int32) * r_5) + r_7))), (0, .ref m0), (1, .int p0), (2, .int v2_34), (5, .int v5_34)]) hx hb dX7_owner_91 hl (by decide) rfl (fun ls hl => ?_)
              refine lv_iinc (v := (v5_34 + 1)) (lv' := [(5, .int (v5_34 + 1)), (4, .int (1 : Int32)), (3, .int (v3_34 + (((24 : Int32) * r_5) + r_7))), (0, .ref m0), (1, .int p0), (2, .int v2_34)]) hx hb dX7_owner_93 hl (k := 5) rfl rfl (by decide) rfl (fun ls hl => ?_)
              refine lv_goto (tgt := 34) hx hb dX7_owner_96 (by decide) ?_
              exact ih34 (v3_34 + (((24 : Int32) * r_5) + r_7)) true (v5_34 + 1) ls (lv_sub hl [3, 4, 5, 2, 1, 0] rfl) hf
            · have hf := iq c_8 hf
              refine lv_iload_n hx hb dX7_owner_81 rfl (lv_at hl 0 rfl) ?_
              refine lv_iload_n hx hb dX7_owner_82 rfl (lv_at hl 2 rfl) ?_
              refine lv_icmp_ne (tgt := 90) hx hb dX7_owner_83 (by decide) (fun c_9 => ?_) (fun c_9 => ?_)
              · have hf := iq c_9 hf
                refine lv_iconst (v := (0 : Int32)) hx hb dX7_owner_90 (by decide) ?_
                refine lv_istore (lv' := [(4, .int (0 : Int32)), (3, .int (v3_34 + (((24 : Int32) * r_5) + r_7))), (0, .ref m0), (1, .int p0), (2, .int v2_34), (5, .int v5_34)]) hx hb dX7_owner_91 hl (by decide) rfl (fun ls hl => ?_)
                refine lv_iinc (v := (v5_34 + 1)) (lv' := [(5, .int (v5_34 + 1)), (4, .int (0 : Int32)), (3, .int (v3_34 + (((24 : Int32) * r_5) + r_7))), (0, .ref m0), (1, .int p0), (2, .int v2_34)]) hx hb dX7_owner_93 hl (k := 5) rfl rfl (by decide) rfl (fun ls hl => ?_)
                refine lv_goto (tgt := 34) hx hb dX7_owner_96 (by decide) ?_
                exact ih34 (v3_34 + (((24 : Int32) * r_5) + r_7)) false (v5_34 + 1) ls (lv_sub hl [3, 4, 5, 2, 1, 0] rfl) hf
              · have hf := ip c_9 hf
                refine lv_iconst (v := (1 : Int32)) hx hb dX7_owner_86 (by decide) ?_
                refine lv_goto (tgt := 91) hx hb dX7_owner_87 (by decide) ?_
                refine lv_istore (lv' := [(4, .int (1 : Int32)), (3, .int (v3_34 + (((24 : Int32) * r_5) + r_7))), (0, .ref m0), (1, .int p0), (2, .int v2_34), (5, .int v5_34)]) hx hb dX7_owner_91 hl (by decide) rfl (fun ls hl => ?_)
                refine lv_iinc (v := (v5_34 + 1)) (lv' := [(5, .int (v5_34 + 1)), (4, .int (1 : Int32)), (3, .int (v3_34 + (((24 : Int32) * r_5) + r_7))), (0, .ref m0), (1, .int p0), (2, .int v2_34)]) hx hb dX7_owner_93 hl (k := 5) rfl rfl (by decide) rfl (fun ls hl => ?_)
                refine lv_goto (tgt := 34) hx hb dX7_owner_96 (by decide) ?_
                exact ih34 (v3_34 + (((24 : Int32) * r_5) + r_7)) true (v5_34 + 1) ls (lv_sub hl [3, 4, 5, 2, 1, 0] rfl) hf
      intro v2_2 ls hl hf
      rw [fX7_owner_2] at hf
      refine lv_iload_n hx hb dX7_owner_2 rfl (lv_at hl 2 rfl) ?_
      refine lv_aload_n hx hb dX7_owner_3 rfl (lv_at hl 0 rfl) ?_
      refine va_get (v := .ref m1) (C := RX7) (T := TX7) (N := 13) hx hb hts fiX7_owner_X7 hown hE.1 hP 0 rfl rfl 0 (by decide) (hts _ flX7_owner_7) (fun _ h9 => h9) rfl dX7_owner_4 ?_
      refine lv_iconst (v := (0 : Int32)) hx hb dX7_owner_7 (by decide) ?_
      refine va_iald hx hb hE.1 hP 1 0 rfl rfl (vin (by decide)) dX7_owner_8 ?_
      refine lv_icmp_ge (tgt := 112) hx hb dX7_owner_9 (by decide) (fun c_10 => ?_) (fun c_10 => ?_)
      · have hf := ip c_10 hf
        refine lv_iconst (v := (-1 : Int32)) hx hb dX7_owner_112 (by decide) ?_
        exact p_iret (v := (-1 : Int32)) hx hb hr hlocks (Option.some.inj hf) dX7_owner_113
      · have hf := iq c_10 hf
        refine lv_aload_n hx hb dX7_owner_12 rfl (lv_at hl 0 rfl) ?_
        refine lv_iload_n hx hb dX7_owner_13 rfl (lv_at hl 2 rfl) ?_
        refine lv_iconst (v := (1 : Int32)) hx hb dX7_owner_14 (by decide) ?_
        obtain ⟨r_11, e_11, hf⟩ := bo hf
        refine pcallV (W0 := (wM g m0 m1 m2 m3 m4 μ)) (As := [.int v2_2, .int (1 : Int32)]) (rest := []) [0, 1, 2, 3, 4] 5 0 ⟨hx, hb, hml, hown, hts⟩ hP hE hZ hS (cX7_of_ok l g m0 m1 m2 m3 m4 μ v2_2 (1 : Int32) e_11) (cwV 2 hts gX7_owner_X7_of rfl rfl rfl hdX7_of ⟨(Nat.le_of_ble_eq_true rfl), (Nat.le_of_ble_eq_true rfl)⟩) rfl rfl rfl rfl rfl hl.1 rfl (Nat.le_of_ble_eq_true rfl) ⟨(Nat.le_of_ble_eq_true rfl), (Nat.le_of_ble_eq_true rfl)⟩ dX7_owner_15 ?_
        refine lv_istore_n (lv' := [(3, .int r_11), (0, .ref m0), (1, .int p0), (2, .int v2_2)]) hx hb dX7_owner_18 rfl hl (by decide) rfl (fun ls hl => ?_)
        refine lv_iload_n hx hb dX7_owner_19 rfl (lv_at hl 0 rfl) ?_
        refine lv_iload_n hx hb dX7_owner_20 rfl (lv_at hl 2 rfl) ?_
        refine lv_icmp_ne (tgt := 28) hx hb dX7_owner_21 (by decide) (fun c_12 => ?_) (fun c_12 => ?_)
        · have hf := iq c_12 hf
          refine lv_iconst (v := (0 : Int32)) hx hb dX7_owner_28 (by decide) ?_
          refine lv_istore (lv' := [(4, .int (0 : Int32)), (3, .int r_11), (0, .ref m0), (1, .int p0), (2, .int v2_2)]) hx hb dX7_owner_29 hl (by decide) rfl (fun ls hl => ?_)
          refine lv_iconst (v := (0 : Int32)) hx hb dX7_owner_31 (by decide) ?_
          refine lv_istore (lv' := [(5, .int (0 : Int32)), (4, .int (0 : Int32)), (3, .int r_11), (0, .ref m0), (1, .int p0), (2, .int v2_2)]) hx hb dX7_owner_32 hl (by decide) rfl (fun ls hl => ?_)
          exact hB34 v2_2 FU r_11 false (0 : Int32) ls (lv_sub hl [3, 4, 5, 2, 1, 0] rfl) hf
        · have hf := ip c_12 hf
          refine lv_iconst (v := (1 : Int32)) hx hb dX7_owner_24 (by decide) ?_
          refine lv_goto (tgt := 29) hx hb dX7_owner_25 (by decide) ?_
          refine lv_istore (lv' := [(4, .int (1 : Int32)), (3, .int r_11), (0, .ref m0), (1, .int p0), (2, .int v2_2)]) hx hb dX7_owner_29 hl (by decide) rfl (fun ls hl => ?_)
          refine lv_iconst (v := (0 : Int32)) hx hb dX7_owner_31 (by decide) ?_
          refine lv_istore (lv' := [(5, .int (0 : Int32)), (4, .int (1 : Int32)), (3, .int r_11), (0, .ref m0), (1, .int p0), (2, .int v2_2)]) hx hb dX7_owner_32 hl (by decide) rfl (fun ls hl => ?_)
          exact hB34 v2_2 FU r_11 true (0 : Int32) ls (lv_sub hl [3, 4, 5, 2, 1, 0] rfl) hf
  unfold fX7_owner at hf
  refine lv_iconst (v := (0 : Int32)) hx hb dX7_owner_0 (by decide) ?_
  refine lv_istore_n (lv' := [(2, .int (0 : Int32)), (0, .ref m0), (1, .int p0)]) hx hb dX7_owner_1 rfl hl (by decide) rfl (fun ls hl => ?_)
  exact hB2 FU (0 : Int32) ls (lv_sub hl [1, 2, 0] rfl) hf

def fX7_isStep_91 (μ : Mo) (p0 p1 : Int32) (v4_28 : Int32) (k5 : Bool → Int32 → Option (Bool)) (k28 : Bool → Int32 → Int32 → Option (Bool)) (v5_91 : Int32) (v6_91 : Int32) (v7_91 : Int32) : Option (Bool) := (if v5_91 = p1 then (if v7_91 = p0 then k28 true v7_91 (v6_91 + 1) else k28 false v7_91 (v6_91 + 1)) else k28 false v7_91 (v6_91 + 1))
def fX7_isStep_28 (μ : Mo) (p0 p1 : Int32) (v4_28 : Int32) (k5 : Bool → Int32 → Option (Bool)) : Nat → Bool → Int32 → Int32 → Option (Bool)
  | 0, _, _, _ => none
  | n + 1, v3_28, v5_28, v6_28 => ((fX7_of μ v4_28 (2 : Int32)).bind fun r_3 => (if r_3 ≤ v6_28 then k5 v3_28 (v4_28 + 1) else ((fX7_of μ v4_28 ((4 : Int32) + v6_28)).bind fun r_5 => ((fX7_down r_5).bind fun r_6 => ((fX7_of μ v4_28 ((4 : Int32) + v6_28)).bind fun r_7 => ((fX7_across r_7).bind fun r_8 => (if v3_28 = true then fX7_isStep_28 μ p0 p1 v4_28 k5 n true ((v5_28 + ((24 : Int32) * r_6)) + r_8) (v6_28 + 1) else (if v5_28 = p0 then (if ((v5_28 + ((24 : Int32) * r_6)) + r_8) = p1 then fX7_isStep_28 μ p0 p1 v4_28 k5 n true ((v5_28 + ((24 : Int32) * r_6)) + r_8) (v6_28 + 1) else fX7_isStep_91 μ p0 p1 v4_28 k5 (fX7_isStep_28 μ p0 p1 v4_28 k5 n) v5_28 v6_28 ((v5_28 + ((24 : Int32) * r_6)) + r_8)) else fX7_isStep_91 μ p0 p1 v4_28 k5 (fX7_isStep_28 μ p0 p1 v4_28 k5 n) v5_28 v6_28 ((v5_28 + ((24 : Int32) * r_6)) + r_8)))))))))
def fX7_isStep_5 (μ : Mo) (p0 p1 : Int32) : Nat → Bool → Int32 → Option (Bool)
  | 0, _, _ => none
  | n + 1, v3_5, v4_5 => (if (M_row μ (Int32.toNatClampNeg (0 : Int32))) ≤ v4_5 then (some v3_5) else ((fX7_of μ v4_5 (1 : Int32)).bind fun r_13 => fX7_isStep_28 μ p0 p1 v4_5 (fX7_isStep_5 μ p0 p1 n) FU v3_5 r_13 (0 : Int32)))
def fX7_isStep (μ : Mo) (p0 p1 : Int32) : Option (Bool) := fX7_isStep_5 μ p0 p1 FU false (0 : Int32)
abbrev rmX7_isStep : Room := { frames := 2, cells := 0, slots := 0, locals := 42 }
theorem hdX7_isStep : yX7_isStep.cls = RX7 ∧ yX7_isStep.cls ≠ "java/lang/invoke/MethodHandle" ∧ yX7_isStep.cls ≠ "java/lang/invoke/VarHandle" ∧ (parseMethodDescriptor yX7_isStep.desc).map (fun d => d.parameters.length) = some 2 := by decide +kernel
theorem fiX7_isStep_X7 : ∀ w ∈ wsX70, w ∈ wsX7_isStep := by decide +kernel
theorem flX7_isStep_7 : (.fieldLink RX7 7 "ContourLabelsModel" "row" "[I" : Cond) ∈ wsX7_isStep := by decide +kernel
set_option maxHeartbeats 4000000 in
set_option maxRecDepth 100000 in
theorem cX7_isStep_ok (l : Launch) (g : Gg) (m0 m1 m2 m3 m4 : Nat) (μ : Mo) (p0 p1 : Int32) {r : Bool} (hf : fX7_isStep μ p0 p1 = some r) : Met l yX7_isStep wsX7_isStep rmX7_isStep (va_Pc [.ref m0, .int p0, .int p1] (PP g (wM g m0 m1 m2 m3 m4 μ))) (vp_Si (fun r' => r' = b2i r)) 0 0 (fun _ => False) := by
  refine Met.ofW (cc := cX7_isStep) (maxL := 8) (ret := (some .boolean)) (by decide) rfl ?_
  intro p e s m args below meth c s₁ B hml hv
  obtain ⟨rfl, hP, hE, hZ⟩ := hv
  have hx := B.exec
  have hb := B.bytes
  have hr := B.returns
  have hts := atoms_spec (ws := wsX7_isStep) B.pre
  have hown : s.vm.findClass RX7 = some m.cls := findClass_of_methodNamed B.named
  have hlocks := B.notSynchronized
  have hS : va_S (fun _ => False) s.heap s.heap [] := va_S.rf
  have hl := lv_entry ([.ref m0, .int p0, .int p1]) (n := 8) (Nat.le_of_ble_eq_true rfl)
  rw [lg_entry_eq]
  generalize (lg_sl ([.ref m0, .int p0, .int p1]) ++ List.replicate (8 - (lg_sl ([.ref m0, .int p0, .int p1])).length) Slot.unset).toArray = ls at hl ⊢
  have hl : lv_has ls 8 [(0, .ref m0), (1, .int p0), (2, .int p1)] := hl
  have hB5 : ∀ (n5 : Nat) (v3_5 : Bool) (v4_5 : Int32) (ls : Array Slot), lv_has ls 8 [(0, .ref m0), (1, .int p0), (2, .int p1), (3, .int (b2i v3_5)), (4, .int v4_5)] → fX7_isStep_5 μ p0 p1 n5 v3_5 v4_5 = some r → W p l e (headSpec wsX7_isStep rmX7_isStep).room s m ([.ref m0, .int p0, .int p1] : List Value).toArray below meth c s.heap [] 0 0 (MQ below (vp_Si (fun r' => r' = b2i r)) ([.ref m0, .int p0, .int p1] : List Value).toArray s 0 0 (fun _ => False)) (F0 m 5 ls []) := by
    intro  n5
    induction n5 with
    | zero => intro v3_5 v4_5 ls hl hf; exact nomatch (show (none : Option (Bool)) = some _ from hf)
    | succ n5 ih5 =>
      have hB28 : ∀ (v4_28 : Int32) (n28 : Nat) (v3_28 : Bool) (v5_28 : Int32) (v6_28 : Int32) (ls : Array Slot), lv_has ls 8 [(0, .ref m0), (1, .int p0), (2, .int p1), (3, .int (b2i v3_28)), (4, .int v4_28), (5, .int v5_28), (6, .int v6_28)] → fX7_isStep_28 μ p0 p1 v4_28 (fX7_isStep_5 μ p0 p1 n5) n28 v3_28 v5_28 v6_28 = some r → W p l e (headSpec wsX7_isStep rmX7_isStep).room s m ([.ref m0, .int p0, .int p1] : List Value).toArray below meth c s.heap [] 0 0 (MQ below (vp_Si (fun r' => r' = b2i r)) ([.ref m0, .int p0, .int p1] : List Value).toArray s 0 0 (fun _ => False)) (F0 m 28 ls []) := by
        intro v4_28 n28
        induction n28 with
        | zero => intro v3_28 v5_28 v6_28 ls hl hf; exact nomatch (show (none : Option (Bool)) = some _ from hf)
        | succ n28 ih28 =>
          have hB91 : ∀ (v5_91 : Int32) (v6_91 : Int32) (v7_91 : Int32) (ls : Array Slot), lv_has ls 8 [(0, .ref m0), (1, .int p0), (2, .int p1), (4, .int v4_28), (5, .int v5_91), (6, .int v6_91), (7, .int v7_91)] → fX7_isStep_91 μ p0 p1 v4_28 (fX7_isStep_5 μ p0 p1 n5) (fX7_isStep_28 μ p0 p1 v4_28 (fX7_isStep_5 μ p0 p1 n5) n28) v5_91 v6_91 v7_91 = some r → W p l e (headSpec wsX7_isStep rmX7_isStep).room s m ([.ref m0, .int p0, .int p1] : List Value).toArray below meth c s.heap [] 0 0 (MQ below (vp_Si (fun r' => r' = b2i r)) ([.ref m0, .int p0, .int p1] : List Value).toArray s 0 0 (fun _ => False)) (F0 m 91 ls []) := by
            intro  v5_91 v6_91 v7_91 ls hl hf
            unfold fX7_isStep_91 at hf
            refine lv_iload hx hb dX7_isStep_91 (lv_at hl 4 rfl) ?_
            refine lv_iload_n hx hb dX7_isStep_93 rfl (lv_at hl 2 rfl) ?_
            refine lv_icmp_ne (tgt := 107) hx hb dX7_isStep_94 (by decide) (fun c_1 => ?_) (fun c_1 => ?_)
            · have hf := iq c_1 hf
              refine lv_iconst (v := (0 : Int32)) hx hb dX7_isStep_107 (by decide) ?_
              refine lv_istore_n (lv' := [(3, .int (0 : Int32)), (0, .ref m0), (1, .int p0), (2, .int p1), (4, .int v4_28), (5, .int v5_91), (6, .int v6_91), (7, .int v7_91)]) hx hb dX7_isStep_108 rfl hl (by decide) rfl (fun ls hl => ?_)
              refine lv_iload hx hb dX7_isStep_109 (lv_at hl 7 rfl) ?_
              refine lv_istore (lv' := [(5, .int v7_91), (3, .int (0 : Int32)), (0, .ref m0), (1, .int p0), (2, .int p1), (4, .int v4_28), (6, .int v6_91), (7, .int v7_91)]) hx hb dX7_isStep_111 hl (by decide) rfl (fun ls hl => ?_)
              refine lv_iinc (v := (v6_91 + 1)) (lv' := [(6, .int (v6_91 + 1)), (5, .int v7_91), (3, .int (0 : Int32)), (0, .ref m0), (1, .int p0), (2, .int p1), (4, .int v4_28), (7, .int v7_91)]) hx hb dX7_isStep_113 hl (k := 6) rfl rfl (by decide) rfl (fun ls hl => ?_)
              refine lv_goto (tgt := 28) hx hb dX7_isStep_116 (by decide) ?_
              exact ih28 false v7_91 (v6_91 + 1) ls (lv_sub hl [3, 4, 5, 2, 6, 1, 0] rfl) hf
            · have hf := ip c_1 hf
              refine lv_iload hx hb dX7_isStep_97 (lv_at hl 6 rfl) ?_
              refine lv_iload_n hx hb dX7_isStep_99 rfl (lv_at hl 1 rfl) ?_
              refine lv_icmp_ne (tgt := 107) hx hb dX7_isStep_100 (by decide) (fun c_2 => ?_) (fun c_2 => ?_)
              · have hf := iq c_2 hf
                refine lv_iconst (v := (0 : Int32)) hx hb dX7_isStep_107 (by decide) ?_
                refine lv_istore_n (lv' := [(3, .int (0 : Int32)), (0, .ref m0), (1, .int p0), (2, .int p1), (4, .int v4_28), (5, .int v5_91), (6, .int v6_91), (7, .int v7_91)]) hx hb dX7_isStep_108 rfl hl (by decide) rfl (fun ls hl => ?_)
                refine lv_iload hx hb dX7_isStep_109 (lv_at hl 7 rfl) ?_
                refine lv_istore (lv' := [(5, .int v7_91), (3, .int (0 : Int32)), (0, .ref m0), (1, .int p0), (2, .int p1), (4, .int v4_28), (6, .int v6_91), (7, .int v7_91)]) hx hb dX7_isStep_111 hl (by decide) rfl (fun ls hl => ?_)
                refine lv_iinc (v := (v6_91 + 1)) (lv' := [(6, .int (v6_91 + 1)), (5, .int v7_91), (3, .int (0 : Int32)), (0, .ref m0), (1, .int p0), (2, .int p1), (4, .int v4_28), (7, .int v7_91)]) hx hb dX7_isStep_113 hl (k := 6) rfl rfl (by decide) rfl (fun ls hl => ?_)
                refine lv_goto (tgt := 28) hx hb dX7_isStep_116 (by decide) ?_
                exact ih28 false v7_91 (v6_91 + 1) ls (lv_sub hl [3, 4, 5, 2, 6, 1, 0] rfl) hf
              · have hf := ip c_2 hf
                refine lv_iconst (v := (1 : Int32)) hx hb dX7_isStep_103 (by decide) ?_
                refine lv_goto (tgt := 108) hx hb dX7_isStep_104 (by decide) ?_
                refine lv_istore_n (lv' := [(3, .int (1 : Int32)), (0, .ref m0), (1, .int p0), (2, .int p1), (4, .int v4_28), (5, .int v5_91), (6, .int v6_91), (7, .int v7_91)]) hx hb dX7_isStep_108 rfl hl (by decide) rfl (fun ls hl => ?_)
                refine lv_iload hx hb dX7_isStep_109 (lv_at hl 7 rfl) ?_
                refine lv_istore (lv' := [(5, .int v7_91), (3, .int (1 : Int32)), (0, .ref m0), (1, .int p0), (2, .int p1), (4, .int v4_28), (6, .int v6_91), (7, .int v7_91)]) hx hb dX7_isStep_111 hl (by decide) rfl (fun ls hl => ?_)
                refine lv_iinc (v := (v6_91 + 1)) (lv' := [(6, .int (v6_91 + 1)), (5, .int v7_91), (3, .int (1 : Int32)), (0, .ref m0), (1, .int p0), (2, .int p1), (4, .int v4_28), (7, .int v7_91)]) hx hb dX7_isStep_113 hl (k := 6) rfl rfl (by decide) rfl (fun ls hl => ?_)
                refine lv_goto (tgt := 28) hx hb dX7_isStep_116 (by decide) ?_
                exact ih28 true v7_91 (v6_91 + 1) ls (lv_sub hl [3, 4, 5, 2, 6, 1, 0] rfl) hf
          intro v3_28 v5_28 v6_28 ls hl hf
          rw [fX7_isStep_28] at hf
          refine lv_iload hx hb dX7_isStep_28 (lv_at hl 6 rfl) ?_
          refine lv_aload_n hx hb dX7_isStep_30 rfl (lv_at hl 0 rfl) ?_
          refine lv_iload hx hb dX7_isStep_31 (lv_at hl 4 rfl) ?_
          refine lv_iconst (v := (2 : Int32)) hx hb dX7_isStep_33 (by decide) ?_
          obtain ⟨r_3, e_3, hf⟩ := bo hf
          refine pcallV (W0 := (wM g m0 m1 m2 m3 m4 μ)) (As := [.int v4_28, .int (2 : Int32)]) (rest := [.int v6_28]) [0, 1, 2, 3, 4] 5 0 ⟨hx, hb, hml, hown, hts⟩ hP hE hZ hS (cX7_of_ok l g m0 m1 m2 m3 m4 μ v4_28 (2 : Int32) e_3) (cwV 2 hts gX7_isStep_X7_of rfl rfl rfl hdX7_of ⟨(Nat.le_of_ble_eq_true rfl), (Nat.le_of_ble_eq_true rfl)⟩) rfl rfl rfl rfl rfl hl.1 rfl (Nat.le_of_ble_eq_true rfl) ⟨(Nat.le_of_ble_eq_true rfl), (Nat.le_of_ble_eq_true rfl)⟩ dX7_isStep_34 ?_
          refine lv_icmp_ge (tgt := 119) hx hb dX7_isStep_37 (by decide) (fun c_4 => ?_) (fun c_4 => ?_)
          · have hf := ip c_4 hf
            refine lv_iinc (v := (v4_28 + 1)) (lv' := [(4, .int (v4_28 + 1)), (0, .ref m0), (1, .int p0), (2, .int p1), (3, .int (b2i v3_28)), (5, .int v5_28), (6, .int v6_28)]) hx hb dX7_isStep_119 hl (k := 4) rfl rfl (by decide) rfl (fun ls hl => ?_)
            refine lv_goto (tgt := 5) hx hb dX7_isStep_122 (by decide) ?_
            exact ih5 v3_28 (v4_28 + 1) ls (lv_sub hl [1, 2, 3, 4, 0] rfl) hf
          · have hf := iq c_4 hf
            refine lv_iload hx hb dX7_isStep_40 (lv_at hl 5 rfl) ?_
            refine lv_bipush (v := (24 : Int32)) hx hb dX7_isStep_42 (by decide) ?_
            refine lv_aload_n hx hb dX7_isStep_44 rfl (lv_at hl 0 rfl) ?_
            refine lv_iload hx hb dX7_isStep_45 (lv_at hl 4 rfl) ?_
            refine lv_iconst (v := (4 : Int32)) hx hb dX7_isStep_47 (by decide) ?_
            refine lv_iload hx hb dX7_isStep_48 (lv_at hl 6 rfl) ?_
            refine lv_iadd hx hb dX7_isStep_50 ?_
            obtain ⟨r_5, e_5, hf⟩ := bo hf
            refine pcallV (W0 := (wM g m0 m1 m2 m3 m4 μ)) (As := [.int v4_28, .int ((4 : Int32) + v6_28)]) (rest := [.int (24 : Int32), .int v5_28]) [0, 1, 2, 3, 4] 5 0 ⟨hx, hb, hml, hown, hts⟩ hP hE hZ hS (cX7_of_ok l g m0 m1 m2 m3 m4 μ v4_28 ((4 : Int32) + v6_28) e_5) (cwV 2 hts gX7_isStep_X7_of rfl rfl rfl hdX7_of ⟨(Nat.le_of_ble_eq_true rfl), (Nat.le_of_ble_eq_true rfl)⟩) rfl rfl rfl rfl rfl hl.1 rfl (Nat.le_of_ble_eq_true rfl) ⟨(Nat.le_of_ble_eq_true rfl), (Nat.le_of_ble_eq_true rfl)⟩ dX7_isStep_51 ?_
            obtain ⟨r_6, e_6, hf⟩ := bo hf
            refine pcallS (W0 := (wM g m0 m1 m2 m3 m4 μ)) (As := [.int r_5]) (rest := [.int (24 : Int32), .int v5_28]) [] ⟨hx, hb, hml, hown, hts⟩ hP hE hZ hS (cX7_down_ok l g  r_5 e_6) (va_cwS 1 hts gX7_isStep_X7_down rfl rfl rfl hdX7_down.2 ⟨(Nat.le_of_ble_eq_true rfl), (Nat.le_of_ble_eq_true rfl)⟩) rfl rfl hl.1 rfl (Nat.le_of_ble_eq_true rfl) ⟨(Nat.le_of_ble_eq_true rfl), (Nat.le_of_ble_eq_true rfl)⟩ dX7_isStep_54 ?_
            refine lv_imul hx hb dX7_isStep_57 ?_
            refine lv_iadd hx hb dX7_isStep_58 ?_
            refine lv_aload_n hx hb dX7_isStep_59 rfl (lv_at hl 0 rfl) ?_
            refine lv_iload hx hb dX7_isStep_60 (lv_at hl 4 rfl) ?_
            refine lv_iconst (v := (4 : Int32)) hx hb dX7_isStep_62 (by decide) ?_
            refine lv_iload hx hb dX7_isStep_63 (lv_at hl 6 rfl) ?_
            refine lv_iadd hx hb dX7_isStep_65 ?_
            obtain ⟨r_7, e_7, hf⟩ := bo hf
            refine pcallV (W0 := (wM g m0 m1 m2 m3 m4 μ)) (As := [.int v4_28, .int ((4 : Int32) + v6_28)]) (rest := [.int (v5_28 + ((24 : Int32) * r_6))]) [0, 1, 2, 3, 4] 5 0 ⟨hx, hb, hml, hown, hts⟩ hP hE hZ hS (cX7_of_ok l g m0 m1 m2 m3 m4 μ v4_28 ((4 : Int32) + v6_28) e_7) (cwV 2 hts gX7_isStep_X7_of rfl rfl rfl hdX7_of ⟨(Nat.le_of_ble_eq_true rfl), (Nat.le_of_ble_eq_true rfl)⟩) rfl rfl rfl rfl rfl hl.1 rfl (Nat.le_of_ble_eq_true rfl) ⟨(Nat.le_of_ble_eq_true rfl), (Nat.le_of_ble_eq_true rfl)⟩ dX7_isStep_66 ?_
            obtain ⟨r_8, e_8, hf⟩ := bo hf
            refine pcallS (W0 := (wM g m0 m1 m2 m3 m4 μ)) (As := [.int r_7]) (rest := [.int (v5_28 + ((24 : Int32) * r_6))]) [] ⟨hx, hb, hml, hown, hts⟩ hP hE hZ hS (cX7_across_ok l g  r_7 e_8) (va_cwS 1 hts gX7_isStep_X7_across rfl rfl rfl hdX7_across.2 ⟨(Nat.le_of_ble_eq_true rfl), (Nat.le_of_ble_eq_true rfl)⟩) rfl rfl hl.1 rfl (Nat.le_of_ble_eq_true rfl) ⟨(Nat.le_of_ble_eq_true rfl), (Nat.le_of_ble_eq_true rfl)⟩ dX7_isStep_69 ?_
            refine lv_iadd hx hb dX7_isStep_72 ?_
            refine lv_istore (lv' := [(7, .int ((v5_28 + ((24 : Int32) * r_6)) + r_8)), (0, .ref m0), (1, .int p0), (2, .int p1), (3, .int (b2i v3_28)), (4, .int v4_28), (5, .int v5_28), (6, .int v6_28)]) hx hb dX7_isStep_73 hl (by decide) rfl (fun ls hl => ?_)
            refine lv_iload_n hx hb dX7_isStep_75 rfl (lv_at hl 4 rfl) ?_
            refine lv_bne (tgt := 103) hx hb dX7_isStep_76 (by decide) (fun c_9 => ?_) (fun c_9 => ?_)
            · have hf := ip c_9 hf
              refine lv_iconst (v := (1 : Int32)) hx hb dX7_isStep_103 (by decide) ?_
              refine lv_goto (tgt := 108) hx hb dX7_isStep_104 (by decide) ?_
              refine lv_istore_n (lv' := [(3, .int (1 : Int32)), (7, .int ((v5_28 + ((24 : Int32) * r_6)) + r_8)), (0, .ref m0), (1, .int p0), (2, .int p1), (4, .int v4_28), (5, .int v5_28), (6, .int v6_28)]) hx hb dX7_isStep_108 rfl hl (by decide) rfl (fun ls hl => ?_)
              refine lv_iload hx hb dX7_isStep_109 (lv_at hl 1 rfl) ?_
              refine lv_istore (lv' := [(5, .int ((v5_28 + ((24 : Int32) * r_6)) + r_8)), (3, .int (1 : Int32)), (7, .int ((v5_28 + ((24 : Int32) * r_6)) + r_8)), (0, .ref m0), (1, .int p0), (2, .int p1), (4, .int v4_28), (6, .int v6_28)]) hx hb dX7_isStep_111 hl (by decide) rfl (fun ls hl => ?_)
              refine lv_iinc (v := (v6_28 + 1)) (lv' := [(6, .int (v6_28 + 1)), (5, .int ((v5_28 + ((24 : Int32) * r_6)) + r_8)), (3, .int (1 : Int32)), (7, .int ((v5_28 + ((24 : Int32) * r_6)) + r_8)), (0, .ref m0), (1, .int p0), (2, .int p1), (4, .int v4_28)]) hx hb dX7_isStep_113 hl (k := 7) rfl rfl (by decide) rfl (fun ls hl => ?_)
              refine lv_goto (tgt := 28) hx hb dX7_isStep_116 (by decide) ?_
              exact ih28 true ((v5_28 + ((24 : Int32) * r_6)) + r_8) (v6_28 + 1) ls (lv_sub hl [4, 5, 6, 2, 7, 1, 0] rfl) hf
            · have hf := iq c_9 hf
              refine lv_iload hx hb dX7_isStep_79 (lv_at hl 6 rfl) ?_
              refine lv_iload_n hx hb dX7_isStep_81 rfl (lv_at hl 2 rfl) ?_
              refine lv_icmp_ne (tgt := 91) hx hb dX7_isStep_82 (by decide) (fun c_10 => ?_) (fun c_10 => ?_)
              · have hf := iq c_10 hf
                exact hB91 v5_28 v6_28 ((v5_28 + ((24 : Int32) * r_6)) + r_8) ls (lv_sub hl [1, 2, 3, 5, 6, 7, 0] rfl) hf
              · have hf := ip c_10 hf
                refine lv_iload hx hb dX7_isStep_85 (lv_at hl 0 rfl) ?_
                refine lv_iload_n hx hb dX7_isStep_87 rfl (lv_at hl 3 rfl) ?_
                refine lv_icmp_eq (tgt := 103) hx hb dX7_isStep_88 (by decide) (fun c_11 => ?_) (fun c_11 => ?_)
                · have hf := ip c_11 hf
                  refine lv_iconst (v := (1 : Int32)) hx hb dX7_isStep_103 (by decide) ?_
                  refine lv_goto (tgt := 108) hx hb dX7_isStep_104 (by decide) ?_
                  refine lv_istore_n (lv' := [(3, .int (1 : Int32)), (7, .int ((v5_28 + ((24 : Int32) * r_6)) + r_8)), (0, .ref m0), (1, .int p0), (2, .int p1), (4, .int v4_28), (5, .int v5_28), (6, .int v6_28)]) hx hb dX7_isStep_108 rfl hl (by decide) rfl (fun ls hl => ?_)
                  refine lv_iload hx hb dX7_isStep_109 (lv_at hl 1 rfl) ?_
                  refine lv_istore (lv' := [(5, .int ((v5_28 + ((24 : Int32) * r_6)) + r_8)), (3, .int (1 : Int32)), (7, .int ((v5_28 + ((24 : Int32) * r_6)) + r_8)), (0, .ref m0), (1, .int p0), (2, .int p1), (4, .int v4_28), (6, .int v6_28)]) hx hb dX7_isStep_111 hl (by decide) rfl (fun ls hl => ?_)
                  refine lv_iinc (v := (v6_28 + 1)) (lv' := [(6, .int (v6_28 + 1)), (5, .int ((v5_28 + ((24 : Int32) * r_6)) + r_8)), (3, .int (1 : Int32)), (7, .int ((v5_28 + ((24 : Int32) * r_6)) + r_8)), (0, .ref m0), (1, .int p0), (2, .int p1), (4, .int v4_28)]) hx hb dX7_isStep_113 hl (k := 7) rfl rfl (by decide) rfl (fun ls hl => ?_)
                  refine lv_goto (tgt := 28) hx hb dX7_isStep_116 (by decide) ?_
                  exact ih28 true ((v5_28 + ((24 : Int32) * r_6)) + r_8) (v6_28 + 1) ls (lv_sub hl [4, 5, 6, 2, 7, 1, 0] rfl) hf
                · have hf := iq c_11 hf
                  exact hB91 v5_28 v6_28 ((v5_28 + ((24 : Int32) * r_6)) + r_8) ls (lv_sub hl [1, 2, 3, 5, 6, 7, 0] rfl) hf
      intro v3_5 v4_5 ls hl hf
      rw [fX7_isStep_5] at hf
      refine lv_iload hx hb dX7_isStep_5 (lv_at hl 4 rfl) ?_
      refine lv_aload_n hx hb dX7_isStep_7 rfl (lv_at hl 0 rfl) ?_
      refine va_get (v := .ref m1) (C := RX7) (T := TX7) (N := 13) hx hb hts fiX7_isStep_X7 hown hE.1 hP 0 rfl rfl 0 (by decide) (hts _ flX7_isStep_7) (fun _ h9 => h9) rfl dX7_isStep_8 ?_
      refine lv_iconst (v := (0 : Int32)) hx hb dX7_isStep_11 (by decide) ?_
      refine va_iald hx hb hE.1 hP 1 0 rfl rfl (vin (by decide)) dX7_isStep_12 ?_
      refine lv_icmp_ge (tgt := 125) hx hb dX7_isStep_13 (by decide) (fun c_12 => ?_) (fun c_12 => ?_)
      · have hf := ip c_12 hf
        refine lv_iload_n hx hb dX7_isStep_125 rfl (lv_at hl 3 rfl) ?_
        exact p_zret (v := v3_5) hx hb hr hlocks (Option.some.inj hf) dX7_isStep_126
      · have hf := iq c_12 hf
        refine lv_aload_n hx hb dX7_isStep_16 rfl (lv_at hl 0 rfl) ?_
        refine lv_iload hx hb dX7_isStep_17 (lv_at hl 4 rfl) ?_
        refine lv_iconst (v := (1 : Int32)) hx hb dX7_isStep_19 (by decide) ?_
        obtain ⟨r_13, e_13, hf⟩ := bo hf
        refine pcallV (W0 := (wM g m0 m1 m2 m3 m4 μ)) (As := [.int v4_5, .int (1 : Int32)]) (rest := []) [0, 1, 2, 3, 4] 5 0 ⟨hx, hb, hml, hown, hts⟩ hP hE hZ hS (cX7_of_ok l g m0 m1 m2 m3 m4 μ v4_5 (1 : Int32) e_13) (cwV 2 hts gX7_isStep_X7_of rfl rfl rfl hdX7_of ⟨(Nat.le_of_ble_eq_true rfl), (Nat.le_of_ble_eq_true rfl)⟩) rfl rfl rfl rfl rfl hl.1 rfl (Nat.le_of_ble_eq_true rfl) ⟨(Nat.le_of_ble_eq_true rfl), (Nat.le_of_ble_eq_true rfl)⟩ dX7_isStep_20 ?_
        refine lv_istore (lv' := [(5, .int r_13), (0, .ref m0), (1, .int p0), (2, .int p1), (3, .int (b2i v3_5)), (4, .int v4_5)]) hx hb dX7_isStep_23 hl (by decide) rfl (fun ls hl => ?_)
        refine lv_iconst (v := (0 : Int32)) hx hb dX7_isStep_25 (by decide) ?_
        refine lv_istore (lv' := [(6, .int (0 : Int32)), (5, .int r_13), (0, .ref m0), (1, .int p0), (2, .int p1), (3, .int (b2i v3_5)), (4, .int v4_5)]) hx hb dX7_isStep_26 hl (by decide) rfl (fun ls hl => ?_)
        exact hB28 v4_5 FU v3_5 r_13 (0 : Int32) ls (lv_sub hl [2, 3, 4, 5, 6, 1, 0] rfl) hf
  unfold fX7_isStep at hf
  refine lv_iconst (v := (0 : Int32)) hx hb dX7_isStep_0 (by decide) ?_
  refine lv_istore_n (lv' := [(3, .int (0 : Int32)), (0, .ref m0), (1, .int p0), (2, .int p1)]) hx hb dX7_isStep_1 rfl hl (by decide) rfl (fun ls hl => ?_)
  refine lv_iconst (v := (0 : Int32)) hx hb dX7_isStep_2 (by decide) ?_
  refine lv_istore (lv' := [(4, .int (0 : Int32)), (3, .int (0 : Int32)), (0, .ref m0), (1, .int p0), (2, .int p1)]) hx hb dX7_isStep_3 hl (by decide) rfl (fun ls hl => ?_)
  exact hB5 FU false (0 : Int32) ls (lv_sub hl [2, 3, 4, 1, 0] rfl) hf

def fX7_whyNot_89 (μ : Mo) (p0 p1 : Int32) (v3_89 : Int32) : Option (Int32) := (if (irm p1 (2 : Int32)) = (1 : Int32) then ((fX7_across p1).bind fun r_2 => ((fX7_down p1).bind fun r_3 => ((fX7_isStep μ (v3_89 + r_2) (v3_89 + ((24 : Int32) * r_3))).bind fun r_4 => (if r_4 = true then (some (5 : Int32)) else (some (0 : Int32)))))) else (some (0 : Int32)))
def fX7_whyNot (μ : Mo) (p0 p1 : Int32) : Option (Int32) := ((fX7_closes μ p0).bind fun r_6 => (if r_6 = true then (some (1 : Int32)) else ((fX7_of μ p0 (2 : Int32)).bind fun r_8 => (if r_8 = (60 : Int32) then (some (2 : Int32)) else ((fX7_last μ p0).bind fun r_10 => ((fX7_next r_10 p1).bind fun r_11 => (if r_11 = (-1 : Int32) then (some (3 : Int32)) else ((fX7_of μ p0 (1 : Int32)).bind fun r_13 => (if r_11 = r_13 then ((fX7_of μ p0 (2 : Int32)).bind fun r_18 => (if r_18 < (3 : Int32) then ((fX7_owner μ r_11).bind fun r_20 => (if r_20 = (-1 : Int32) then fX7_whyNot_89 μ p0 p1 r_10 else (some (4 : Int32)))) else ((fX7_owner μ r_11).bind fun r_23 => (if r_23 = (-1 : Int32) then fX7_whyNot_89 μ p0 p1 r_10 else fX7_whyNot_89 μ p0 p1 r_10)))) else ((fX7_owner μ r_11).bind fun r_15 => (if r_15 = (-1 : Int32) then fX7_whyNot_89 μ p0 p1 r_10 else (some (4 : Int32)))))))))))))
abbrev rmX7_whyNot : Room := { frames := 5, cells := 0, slots := 0, locals := 108 }
theorem hdX7_whyNot : yX7_whyNot.cls = RX7 ∧ yX7_whyNot.cls ≠ "java/lang/invoke/MethodHandle" ∧ yX7_whyNot.cls ≠ "java/lang/invoke/VarHandle" ∧ (parseMethodDescriptor yX7_whyNot.desc).map (fun d => d.parameters.length) = some 2 := by decide +kernel
set_option maxHeartbeats 4000000 in
set_option maxRecDepth 100000 in
theorem cX7_whyNot_ok (l : Launch) (g : Gg) (m0 m1 m2 m3 m4 : Nat) (μ : Mo) (p0 p1 : Int32) {r : Int32} (hf : fX7_whyNot μ p0 p1 = some r) : Met l yX7_whyNot wsX7_whyNot rmX7_whyNot (va_Pc [.ref m0, .int p0, .int p1] (PP g (wM g m0 m1 m2 m3 m4 μ))) (vp_Si (fun r' => r' = r)) 0 0 (fun _ => False) := by
  refine Met.ofW (cc := cX7_whyNot) (maxL := 6) (ret := (some .int)) (by decide) rfl ?_
  intro p e s m args below meth c s₁ B hml hv
  obtain ⟨rfl, hP, hE, hZ⟩ := hv
  have hx := B.exec
  have hb := B.bytes
  have hr := B.returns
  have hts := atoms_spec (ws := wsX7_whyNot) B.pre
  have hown : s.vm.findClass RX7 = some m.cls := findClass_of_methodNamed B.named
  have hlocks := B.notSynchronized
  have hS : va_S (fun _ => False) s.heap s.heap [] := va_S.rf
  have hl := lv_entry ([.ref m0, .int p0, .int p1]) (n := 6) (Nat.le_of_ble_eq_true rfl)
  rw [lg_entry_eq]
  generalize (lg_sl ([.ref m0, .int p0, .int p1]) ++ List.replicate (6 - (lg_sl ([.ref m0, .int p0, .int p1])).length) Slot.unset).toArray = ls at hl ⊢
  have hl : lv_has ls 6 [(0, .ref m0), (1, .int p0), (2, .int p1)] := hl
  have hB89 : ∀ (v3_89 : Int32) (ls : Array Slot), lv_has ls 6 [(0, .ref m0), (2, .int p1), (3, .int v3_89)] → fX7_whyNot_89 μ p0 p1 v3_89 = some r → W p l e (headSpec wsX7_whyNot rmX7_whyNot).room s m ([.ref m0, .int p0, .int p1] : List Value).toArray below meth c s.heap [] 0 0 (MQ below (vp_Si (fun r' => r' = r)) ([.ref m0, .int p0, .int p1] : List Value).toArray s 0 0 (fun _ => False)) (F0 m 89 ls []) := by
    intro  v3_89 ls hl hf
    unfold fX7_whyNot_89 at hf
    refine lv_iload_n hx hb dX7_whyNot_89 rfl (lv_at hl 1 rfl) ?_
    refine lv_iconst (v := (2 : Int32)) hx hb dX7_whyNot_90 (by decide) ?_
    refine lv_irm hx hb dX7_whyNot_91 (by decide) ?_
    refine lv_iconst (v := (1 : Int32)) hx hb dX7_whyNot_92 (by decide) ?_
    refine lv_icmp_ne (tgt := 122) hx hb dX7_whyNot_93 (by decide) (fun c_1 => ?_) (fun c_1 => ?_)
    · have hf := iq c_1 hf
      refine lv_iconst (v := (0 : Int32)) hx hb dX7_whyNot_122 (by decide) ?_
      exact p_iret (v := (0 : Int32)) hx hb hr hlocks (Option.some.inj hf) dX7_whyNot_123
    · have hf := ip c_1 hf
      refine lv_aload_n hx hb dX7_whyNot_96 rfl (lv_at hl 0 rfl) ?_
      refine lv_iload_n hx hb dX7_whyNot_97 rfl (lv_at hl 2 rfl) ?_
      refine lv_iload_n hx hb dX7_whyNot_98 rfl (lv_at hl 1 rfl) ?_
      obtain ⟨r_2, e_2, hf⟩ := bo hf
      refine pcallS (W0 := (wM g m0 m1 m2 m3 m4 μ)) (As := [.int p1]) (rest := [.int v3_89, .ref m0]) [] ⟨hx, hb, hml, hown, hts⟩ hP hE hZ hS (cX7_across_ok l g  p1 e_2) (va_cwS 1 hts gX7_whyNot_X7_across rfl rfl rfl hdX7_across.2 ⟨(Nat.le_of_ble_eq_true rfl), (Nat.le_of_ble_eq_true rfl)⟩) rfl rfl hl.1 rfl (Nat.le_of_ble_eq_true rfl) ⟨(Nat.le_of_ble_eq_true rfl), (Nat.le_of_ble_eq_true rfl)⟩ dX7_whyNot_99 ?_
      refine lv_iadd hx hb dX7_whyNot_102 ?_
      refine lv_iload_n hx hb dX7_whyNot_103 rfl (lv_at hl 2 rfl) ?_
      refine lv_bipush (v := (24 : Int32)) hx hb dX7_whyNot_104 (by decide) ?_
      refine lv_iload_n hx hb dX7_whyNot_106 rfl (lv_at hl 1 rfl) ?_
      obtain ⟨r_3, e_3, hf⟩ := bo hf
      refine pcallS (W0 := (wM g m0 m1 m2 m3 m4 μ)) (As := [.int p1]) (rest := [.int (24 : Int32), .int v3_89, .int (v3_89 + r_2), .ref m0]) [] ⟨hx, hb, hml, hown, hts⟩ hP hE hZ hS (cX7_down_ok l g  p1 e_3) (va_cwS 1 hts gX7_whyNot_X7_down rfl rfl rfl hdX7_down.2 ⟨(Nat.le_of_ble_eq_true rfl), (Nat.le_of_ble_eq_true rfl)⟩) rfl rfl hl.1 rfl (Nat.le_of_ble_eq_true rfl) ⟨(Nat.le_of_ble_eq_true rfl), (Nat.le_of_ble_eq_true rfl)⟩ dX7_whyNot_107 ?_
      refine lv_imul hx hb dX7_whyNot_110 ?_
      refine lv_iadd hx hb dX7_whyNot_111 ?_
      obtain ⟨r_4, e_4, hf⟩ := bo hf
      refine pcallV (W0 := (wM g m0 m1 m2 m3 m4 μ)) (As := [.int (v3_89 + r_2), .int (v3_89 + ((24 : Int32) * r_3))]) (rest := []) [0, 1, 2, 3, 4] 5 0 ⟨hx, hb, hml, hown, hts⟩ hP hE hZ hS (cX7_isStep_ok l g m0 m1 m2 m3 m4 μ (v3_89 + r_2) (v3_89 + ((24 : Int32) * r_3)) e_4) (cwV 2 hts gX7_whyNot_X7_isStep rfl rfl rfl hdX7_isStep ⟨(Nat.le_of_ble_eq_true rfl), (Nat.le_of_ble_eq_true rfl)⟩) rfl rfl rfl rfl rfl hl.1 rfl (Nat.le_of_ble_eq_true rfl) ⟨(Nat.le_of_ble_eq_true rfl), (Nat.le_of_ble_eq_true rfl)⟩ dX7_whyNot_112 ?_
      refine lv_beq (tgt := 122) hx hb dX7_whyNot_115 (by decide) (fun c_5 => ?_) (fun c_5 => ?_)
      · have hf := iq c_5 hf
        refine lv_iconst (v := (0 : Int32)) hx hb dX7_whyNot_122 (by decide) ?_
        exact p_iret (v := (0 : Int32)) hx hb hr hlocks (Option.some.inj hf) dX7_whyNot_123
      · have hf := ip c_5 hf
        refine lv_iconst (v := (5 : Int32)) hx hb dX7_whyNot_118 (by decide) ?_
        refine lv_goto (tgt := 123) hx hb dX7_whyNot_119 (by decide) ?_
        exact p_iret (v := (5 : Int32)) hx hb hr hlocks (Option.some.inj hf) dX7_whyNot_123
  unfold fX7_whyNot at hf
  refine lv_aload_n hx hb dX7_whyNot_0 rfl (lv_at hl 0 rfl) ?_
  refine lv_iload_n hx hb dX7_whyNot_1 rfl (lv_at hl 1 rfl) ?_
  obtain ⟨r_6, e_6, hf⟩ := bo hf
  refine pcallV (W0 := (wM g m0 m1 m2 m3 m4 μ)) (As := [.int p0]) (rest := []) [0, 1, 2, 3, 4] 5 0 ⟨hx, hb, hml, hown, hts⟩ hP hE hZ hS (cX7_closes_ok l g m0 m1 m2 m3 m4 μ p0 e_6) (cwV 1 hts gX7_whyNot_X7_closes rfl rfl rfl hdX7_closes ⟨(Nat.le_of_ble_eq_true rfl), (Nat.le_of_ble_eq_true rfl)⟩) rfl rfl rfl rfl rfl hl.1 rfl (Nat.le_of_ble_eq_true rfl) ⟨(Nat.le_of_ble_eq_true rfl), (Nat.le_of_ble_eq_true rfl)⟩ dX7_whyNot_2 ?_
  refine lv_beq (tgt := 10) hx hb dX7_whyNot_5 (by decide) (fun c_7 => ?_) (fun c_7 => ?_)
  · have hf := iq c_7 hf
    refine lv_aload_n hx hb dX7_whyNot_10 rfl (lv_at hl 0 rfl) ?_
    refine lv_iload_n hx hb dX7_whyNot_11 rfl (lv_at hl 1 rfl) ?_
    refine lv_iconst (v := (2 : Int32)) hx hb dX7_whyNot_12 (by decide) ?_
    obtain ⟨r_8, e_8, hf⟩ := bo hf
    refine pcallV (W0 := (wM g m0 m1 m2 m3 m4 μ)) (As := [.int p0, .int (2 : Int32)]) (rest := []) [0, 1, 2, 3, 4] 5 0 ⟨hx, hb, hml, hown, hts⟩ hP hE hZ hS (cX7_of_ok l g m0 m1 m2 m3 m4 μ p0 (2 : Int32) e_8) (cwV 2 hts gX7_whyNot_X7_of rfl rfl rfl hdX7_of ⟨(Nat.le_of_ble_eq_true rfl), (Nat.le_of_ble_eq_true rfl)⟩) rfl rfl rfl rfl rfl hl.1 rfl (Nat.le_of_ble_eq_true rfl) ⟨(Nat.le_of_ble_eq_true rfl), (Nat.le_of_ble_eq_true rfl)⟩ dX7_whyNot_13 ?_
    refine lv_bipush (v := (60 : Int32)) hx hb dX7_whyNot_16 (by decide) ?_
    refine lv_icmp_ne (tgt := 23) hx hb dX7_whyNot_18 (by decide) (fun c_9 => ?_) (fun c_9 => ?_)
    · have hf := iq c_9 hf
      refine lv_aload_n hx hb dX7_whyNot_23 rfl (lv_at hl 0 rfl) ?_
      refine lv_iload_n hx hb dX7_whyNot_24 rfl (lv_at hl 1 rfl) ?_
      obtain ⟨r_10, e_10, hf⟩ := bo hf
      refine pcallV (W0 := (wM g m0 m1 m2 m3 m4 μ)) (As := [.int p0]) (rest := []) [0, 1, 2, 3, 4] 5 0 ⟨hx, hb, hml, hown, hts⟩ hP hE hZ hS (cX7_last_ok l g m0 m1 m2 m3 m4 μ p0 e_10) (cwV 1 hts gX7_whyNot_X7_last rfl rfl rfl hdX7_last ⟨(Nat.le_of_ble_eq_true rfl), (Nat.le_of_ble_eq_true rfl)⟩) rfl rfl rfl rfl rfl hl.1 rfl (Nat.le_of_ble_eq_true rfl) ⟨(Nat.le_of_ble_eq_true rfl), (Nat.le_of_ble_eq_true rfl)⟩ dX7_whyNot_25 ?_
      refine lv_istore_n (lv' := [(3, .int r_10), (0, .ref m0), (1, .int p0), (2, .int p1)]) hx hb dX7_whyNot_28 rfl hl (by decide) rfl (fun ls hl => ?_)
      refine lv_iload_n hx hb dX7_whyNot_29 rfl (lv_at hl 0 rfl) ?_
      refine lv_iload_n hx hb dX7_whyNot_30 rfl (lv_at hl 3 rfl) ?_
      obtain ⟨r_11, e_11, hf⟩ := bo hf
      refine pcallS (W0 := (wM g m0 m1 m2 m3 m4 μ)) (As := [.int r_10, .int p1]) (rest := []) [] ⟨hx, hb, hml, hown, hts⟩ hP hE hZ hS (cX7_next_ok l g  r_10 p1 e_11) (va_cwS 2 hts gX7_whyNot_X7_next rfl rfl rfl hdX7_next.2 ⟨(Nat.le_of_ble_eq_true rfl), (Nat.le_of_ble_eq_true rfl)⟩) rfl rfl hl.1 rfl (Nat.le_of_ble_eq_true rfl) ⟨(Nat.le_of_ble_eq_true rfl), (Nat.le_of_ble_eq_true rfl)⟩ dX7_whyNot_31 ?_
      refine lv_istore (lv' := [(4, .int r_11), (3, .int r_10), (0, .ref m0), (1, .int p0), (2, .int p1)]) hx hb dX7_whyNot_34 hl (by decide) rfl (fun ls hl => ?_)
      refine lv_iload hx hb dX7_whyNot_36 (lv_at hl 0 rfl) ?_
      refine lv_iconst (v := (-1 : Int32)) hx hb dX7_whyNot_38 (by decide) ?_
      refine lv_icmp_ne (tgt := 44) hx hb dX7_whyNot_39 (by decide) (fun c_12 => ?_) (fun c_12 => ?_)
      · have hf := iq c_12 hf
        refine lv_iload hx hb dX7_whyNot_44 (lv_at hl 0 rfl) ?_
        refine lv_aload_n hx hb dX7_whyNot_46 rfl (lv_at hl 2 rfl) ?_
        refine lv_iload_n hx hb dX7_whyNot_47 rfl (lv_at hl 3 rfl) ?_
        refine lv_iconst (v := (1 : Int32)) hx hb dX7_whyNot_48 (by decide) ?_
        obtain ⟨r_13, e_13, hf⟩ := bo hf
        refine pcallV (W0 := (wM g m0 m1 m2 m3 m4 μ)) (As := [.int p0, .int (1 : Int32)]) (rest := [.int r_11]) [0, 1, 2, 3, 4] 5 0 ⟨hx, hb, hml, hown, hts⟩ hP hE hZ hS (cX7_of_ok l g m0 m1 m2 m3 m4 μ p0 (1 : Int32) e_13) (cwV 2 hts gX7_whyNot_X7_of rfl rfl rfl hdX7_of ⟨(Nat.le_of_ble_eq_true rfl), (Nat.le_of_ble_eq_true rfl)⟩) rfl rfl rfl rfl rfl hl.1 rfl (Nat.le_of_ble_eq_true rfl) ⟨(Nat.le_of_ble_eq_true rfl), (Nat.le_of_ble_eq_true rfl)⟩ dX7_whyNot_49 ?_
        refine lv_icmp_ne (tgt := 69) hx hb dX7_whyNot_52 (by decide) (fun c_14 => ?_) (fun c_14 => ?_)
        · have hf := iq c_14 hf
          refine lv_iconst (v := (0 : Int32)) hx hb dX7_whyNot_69 (by decide) ?_
          refine lv_istore (lv' := [(5, .int (0 : Int32)), (4, .int r_11), (3, .int r_10), (0, .ref m0), (1, .int p0), (2, .int p1)]) hx hb dX7_whyNot_70 hl (by decide) rfl (fun ls hl => ?_)
          refine lv_aload_n hx hb dX7_whyNot_72 rfl (lv_at hl 3 rfl) ?_
          refine lv_iload hx hb dX7_whyNot_73 (lv_at hl 1 rfl) ?_
          obtain ⟨r_15, e_15, hf⟩ := bo hf
          refine pcallV (W0 := (wM g m0 m1 m2 m3 m4 μ)) (As := [.int r_11]) (rest := []) [0, 1, 2, 3, 4] 5 0 ⟨hx, hb, hml, hown, hts⟩ hP hE hZ hS (cX7_owner_ok l g m0 m1 m2 m3 m4 μ r_11 e_15) (cwV 1 hts gX7_whyNot_X7_owner rfl rfl rfl hdX7_owner ⟨(Nat.le_of_ble_eq_true rfl), (Nat.le_of_ble_eq_true rfl)⟩) rfl rfl rfl rfl rfl hl.1 rfl (Nat.le_of_ble_eq_true rfl) ⟨(Nat.le_of_ble_eq_true rfl), (Nat.le_of_ble_eq_true rfl)⟩ dX7_whyNot_75 ?_
          refine lv_iconst (v := (-1 : Int32)) hx hb dX7_whyNot_78 (by decide) ?_
          refine lv_icmp_eq (tgt := 89) hx hb dX7_whyNot_79 (by decide) (fun c_16 => ?_) (fun c_16 => ?_)
          · have hf := ip c_16 hf
            exact hB89 r_10 ls (lv_sub hl [3, 5, 2] rfl) hf
          · have hf := iq c_16 hf
            refine lv_iload hx hb dX7_whyNot_82 (lv_at hl 0 rfl) ?_
            refine lv_if_ne (tgt := 89) hx hb dX7_whyNot_84 (by decide) (fun c_17 => absurd (by decide) c_17) (fun c_17 => ?_)
            refine lv_iconst (v := (4 : Int32)) hx hb dX7_whyNot_87 (by decide) ?_
            exact p_iret (v := (4 : Int32)) hx hb hr hlocks (Option.some.inj hf) dX7_whyNot_88
        · have hf := ip c_14 hf
          refine lv_aload_n hx hb dX7_whyNot_55 rfl (lv_at hl 2 rfl) ?_
          refine lv_iload_n hx hb dX7_whyNot_56 rfl (lv_at hl 3 rfl) ?_
          refine lv_iconst (v := (2 : Int32)) hx hb dX7_whyNot_57 (by decide) ?_
          obtain ⟨r_18, e_18, hf⟩ := bo hf
          refine pcallV (W0 := (wM g m0 m1 m2 m3 m4 μ)) (As := [.int p0, .int (2 : Int32)]) (rest := []) [0, 1, 2, 3, 4] 5 0 ⟨hx, hb, hml, hown, hts⟩ hP hE hZ hS (cX7_of_ok l g m0 m1 m2 m3 m4 μ p0 (2 : Int32) e_18) (cwV 2 hts gX7_whyNot_X7_of rfl rfl rfl hdX7_of ⟨(Nat.le_of_ble_eq_true rfl), (Nat.le_of_ble_eq_true rfl)⟩) rfl rfl rfl rfl rfl hl.1 rfl (Nat.le_of_ble_eq_true rfl) ⟨(Nat.le_of_ble_eq_true rfl), (Nat.le_of_ble_eq_true rfl)⟩ dX7_whyNot_58 ?_
          refine lv_iconst (v := (3 : Int32)) hx hb dX7_whyNot_61 (by decide) ?_
          refine lv_icmp_lt (tgt := 69) hx hb dX7_whyNot_62 (by decide) (fun c_19 => ?_) (fun c_19 => ?_)
          · have hf := ip c_19 hf
            refine lv_iconst (v := (0 : Int32)) hx hb dX7_whyNot_69 (by decide) ?_
            refine lv_istore (lv' := [(5, .int (0 : Int32)), (4, .int r_11), (3, .int r_10), (0, .ref m0), (1, .int p0), (2, .int p1)]) hx hb dX7_whyNot_70 hl (by decide) rfl (fun ls hl => ?_)
            refine lv_aload_n hx hb dX7_whyNot_72 rfl (lv_at hl 3 rfl) ?_
            refine lv_iload hx hb dX7_whyNot_73 (lv_at hl 1 rfl) ?_
            obtain ⟨r_20, e_20, hf⟩ := bo hf
            refine pcallV (W0 := (wM g m0 m1 m2 m3 m4 μ)) (As := [.int r_11]) (rest := []) [0, 1, 2, 3, 4] 5 0 ⟨hx, hb, hml, hown, hts⟩ hP hE hZ hS (cX7_owner_ok l g m0 m1 m2 m3 m4 μ r_11 e_20) (cwV 1 hts gX7_whyNot_X7_owner rfl rfl rfl hdX7_owner ⟨(Nat.le_of_ble_eq_true rfl), (Nat.le_of_ble_eq_true rfl)⟩) rfl rfl rfl rfl rfl hl.1 rfl (Nat.le_of_ble_eq_true rfl) ⟨(Nat.le_of_ble_eq_true rfl), (Nat.le_of_ble_eq_true rfl)⟩ dX7_whyNot_75 ?_
            refine lv_iconst (v := (-1 : Int32)) hx hb dX7_whyNot_78 (by decide) ?_
            refine lv_icmp_eq (tgt := 89) hx hb dX7_whyNot_79 (by decide) (fun c_21 => ?_) (fun c_21 => ?_)
            · have hf := ip c_21 hf
              exact hB89 r_10 ls (lv_sub hl [3, 5, 2] rfl) hf
            · have hf := iq c_21 hf
              refine lv_iload hx hb dX7_whyNot_82 (lv_at hl 0 rfl) ?_
              refine lv_if_ne (tgt := 89) hx hb dX7_whyNot_84 (by decide) (fun c_22 => absurd (by decide) c_22) (fun c_22 => ?_)
              refine lv_iconst (v := (4 : Int32)) hx hb dX7_whyNot_87 (by decide) ?_
              exact p_iret (v := (4 : Int32)) hx hb hr hlocks (Option.some.inj hf) dX7_whyNot_88
          · have hf := iq c_19 hf
            refine lv_iconst (v := (1 : Int32)) hx hb dX7_whyNot_65 (by decide) ?_
            refine lv_goto (tgt := 70) hx hb dX7_whyNot_66 (by decide) ?_
            refine lv_istore (lv' := [(5, .int (1 : Int32)), (4, .int r_11), (3, .int r_10), (0, .ref m0), (1, .int p0), (2, .int p1)]) hx hb dX7_whyNot_70 hl (by decide) rfl (fun ls hl => ?_)
            refine lv_aload_n hx hb dX7_whyNot_72 rfl (lv_at hl 3 rfl) ?_
            refine lv_iload hx hb dX7_whyNot_73 (lv_at hl 1 rfl) ?_
            obtain ⟨r_23, e_23, hf⟩ := bo hf
            refine pcallV (W0 := (wM g m0 m1 m2 m3 m4 μ)) (As := [.int r_11]) (rest := []) [0, 1, 2, 3, 4] 5 0 ⟨hx, hb, hml, hown, hts⟩ hP hE hZ hS (cX7_owner_ok l g m0 m1 m2 m3 m4 μ r_11 e_23) (cwV 1 hts gX7_whyNot_X7_owner rfl rfl rfl hdX7_owner ⟨(Nat.le_of_ble_eq_true rfl), (Nat.le_of_ble_eq_true rfl)⟩) rfl rfl rfl rfl rfl hl.1 rfl (Nat.le_of_ble_eq_true rfl) ⟨(Nat.le_of_ble_eq_true rfl), (Nat.le_of_ble_eq_true rfl)⟩ dX7_whyNot_75 ?_
            refine lv_iconst (v := (-1 : Int32)) hx hb dX7_whyNot_78 (by decide) ?_
            refine lv_icmp_eq (tgt := 89) hx hb dX7_whyNot_79 (by decide) (fun c_24 => ?_) (fun c_24 => ?_)
            · have hf := ip c_24 hf
              exact hB89 r_10 ls (lv_sub hl [3, 5, 2] rfl) hf
            · have hf := iq c_24 hf
              refine lv_iload hx hb dX7_whyNot_82 (lv_at hl 0 rfl) ?_
              refine lv_if_ne (tgt := 89) hx hb dX7_whyNot_84 (by decide) (fun c_25 => ?_) (fun c_25 => absurd c_25 (by decide))
              exact hB89 r_10 ls (lv_sub hl [3, 5, 2] rfl) hf
      · have hf := ip c_12 hf
        refine lv_iconst (v := (3 : Int32)) hx hb dX7_whyNot_42 (by decide) ?_
        exact p_iret (v := (3 : Int32)) hx hb hr hlocks (Option.some.inj hf) dX7_whyNot_43
    · have hf := ip c_9 hf
      refine lv_iconst (v := (2 : Int32)) hx hb dX7_whyNot_21 (by decide) ?_
      exact p_iret (v := (2 : Int32)) hx hb hr hlocks (Option.some.inj hf) dX7_whyNot_22
  · have hf := ip c_7 hf
    refine lv_iconst (v := (1 : Int32)) hx hb dX7_whyNot_8 (by decide) ?_
    exact p_iret (v := (1 : Int32)) hx hb hr hlocks (Option.some.inj hf) dX7_whyNot_9

def fX7_turn (p0 p1 : Int32) : Option (Int32) := ((fX7_apart p0 p1).bind fun r_1 => (if ((8 : Int32) - r_1) ≤ r_1 then (some ((8 : Int32) - r_1)) else (some r_1)))
abbrev rmX7_turn : Room := { frames := 1, cells := 0, slots := 0, locals := 21 }
theorem hdX7_turn : yX7_turn.cls = RX7 ∧ yX7_turn.cls ≠ "java/lang/invoke/MethodHandle" ∧ yX7_turn.cls ≠ "java/lang/invoke/VarHandle" ∧ (parseMethodDescriptor yX7_turn.desc).map (fun d => d.parameters.length) = some 2 := by decide +kernel
set_option maxHeartbeats 4000000 in
set_option maxRecDepth 100000 in
theorem cX7_turn_ok (l : Launch) (g : Gg) (p0 p1 : Int32) {r : Int32} (hf : fX7_turn p0 p1 = some r) : Met l yX7_turn wsX7_turn rmX7_turn (va_Pc [.int p0, .int p1] (PP g ([] : va_W))) (vp_Si (fun r' => r' = r)) 0 0 (fun _ => False) := by
  refine Met.ofW (cc := cX7_turn) (maxL := 3) (ret := (some .int)) (by decide) rfl ?_
  intro p e s m args below meth c s₁ B hml hv
  obtain ⟨rfl, hP, hE, hZ⟩ := hv
  have hx := B.exec
  have hb := B.bytes
  have hr := B.returns
  have hts := atoms_spec (ws := wsX7_turn) B.pre
  have hown : s.vm.findClass RX7 = some m.cls := findClass_of_methodNamed B.named
  have hlocks := B.notSynchronized
  have hS : va_S (fun _ => False) s.heap s.heap [] := va_S.rf
  have hl := lv_entry ([.int p0, .int p1]) (n := 3) (Nat.le_of_ble_eq_true rfl)
  rw [lg_entry_eq]
  generalize (lg_sl ([.int p0, .int p1]) ++ List.replicate (3 - (lg_sl ([.int p0, .int p1])).length) Slot.unset).toArray = ls at hl ⊢
  have hl : lv_has ls 3 [(0, .int p0), (1, .int p1)] := hl
  unfold fX7_turn at hf
  refine lv_iload_n hx hb dX7_turn_0 rfl (lv_at hl 0 rfl) ?_
  refine lv_iload_n hx hb dX7_turn_1 rfl (lv_at hl 1 rfl) ?_
  obtain ⟨r_1, e_1, hf⟩ := bo hf
  refine pcallS (W0 := ([] : va_W)) (As := [.int p0, .int p1]) (rest := []) [] ⟨hx, hb, hml, hown, hts⟩ hP hE hZ hS (cX7_apart_ok l g  p0 p1 e_1) (va_cwS 2 hts gX7_turn_X7_apart rfl rfl rfl hdX7_apart.2 ⟨(Nat.le_of_ble_eq_true rfl), (Nat.le_of_ble_eq_true rfl)⟩) rfl rfl hl.1 rfl (Nat.le_of_ble_eq_true rfl) ⟨(Nat.le_of_ble_eq_true rfl), (Nat.le_of_ble_eq_true rfl)⟩ dX7_turn_2 ?_
  refine lv_istore_n (lv' := [(2, .int r_1), (0, .int p0), (1, .int p1)]) hx hb dX7_turn_5 rfl hl (by decide) rfl (fun ls hl => ?_)
  refine lv_iload_n hx hb dX7_turn_6 rfl (lv_at hl 0 rfl) ?_
  refine lv_bipush (v := (8 : Int32)) hx hb dX7_turn_7 (by decide) ?_
  refine lv_iload_n hx hb dX7_turn_9 rfl (lv_at hl 0 rfl) ?_
  refine lv_isub hx hb dX7_turn_10 ?_
  refine lv_icmp_ge (tgt := 18) hx hb dX7_turn_11 (by decide) (fun c_2 => ?_) (fun c_2 => ?_)
  · have hf := ip c_2 hf
    refine lv_bipush (v := (8 : Int32)) hx hb dX7_turn_18 (by decide) ?_
    refine lv_iload_n hx hb dX7_turn_20 rfl (lv_at hl 0 rfl) ?_
    refine lv_isub hx hb dX7_turn_21 ?_
    exact p_iret (v := ((8 : Int32) - r_1)) hx hb hr hlocks (Option.some.inj hf) dX7_turn_22
  · have hf := iq c_2 hf
    refine lv_iload_n hx hb dX7_turn_14 rfl (lv_at hl 0 rfl) ?_
    refine lv_goto (tgt := 22) hx hb dX7_turn_15 (by decide) ?_
    exact p_iret (v := r_1) hx hb hr hlocks (Option.some.inj hf) dX7_turn_22

def fX7_bend_38 (μ : Mo) (p0 p1 : Int32) (v3_38 : Int32) : Option (Int32) := ((fX7_closes μ p0).bind fun r_1 => (if r_1 = true then ((fX7_of μ p0 (((4 : Int32) + v3_38) - (1 : Int32))).bind fun r_3 => ((fX7_of μ p0 (4 : Int32)).bind fun r_4 => ((fX7_turn r_3 r_4).bind fun r_5 => (some r_5)))) else (some (0 : Int32))))
def fX7_bend (μ : Mo) (p0 p1 : Int32) : Option (Int32) := ((fX7_of μ p0 (2 : Int32)).bind fun r_6 => (if p1 ≤ 0 then fX7_bend_38 μ p0 p1 r_6 else (if r_6 ≤ p1 then fX7_bend_38 μ p0 p1 r_6 else ((fX7_of μ p0 (((4 : Int32) + p1) - (1 : Int32))).bind fun r_9 => ((fX7_of μ p0 ((4 : Int32) + p1)).bind fun r_10 => ((fX7_turn r_9 r_10).bind fun r_11 => (some r_11)))))))
abbrev rmX7_bend : Room := { frames := 5, cells := 0, slots := 0, locals := 108 }
theorem hdX7_bend : yX7_bend.cls = RX7 ∧ yX7_bend.cls ≠ "java/lang/invoke/MethodHandle" ∧ yX7_bend.cls ≠ "java/lang/invoke/VarHandle" ∧ (parseMethodDescriptor yX7_bend.desc).map (fun d => d.parameters.length) = some 2 := by decide +kernel
set_option maxHeartbeats 4000000 in
set_option maxRecDepth 100000 in
theorem cX7_bend_ok (l : Launch) (g : Gg) (m0 m1 m2 m3 m4 : Nat) (μ : Mo) (p0 p1 : Int32) {r : Int32} (hf : fX7_bend μ p0 p1 = some r) : Met l yX7_bend wsX7_bend rmX7_bend (va_Pc [.ref m0, .int p0, .int p1] (PP g (wM g m0 m1 m2 m3 m4 μ))) (vp_Si (fun r' => r' = r)) 0 0 (fun _ => False) := by
  refine Met.ofW (cc := cX7_bend) (maxL := 4) (ret := (some .int)) (by decide) rfl ?_
  intro p e s m args below meth c s₁ B hml hv
  obtain ⟨rfl, hP, hE, hZ⟩ := hv
  have hx := B.exec
  have hb := B.bytes
  have hr := B.returns
  have hts := atoms_spec (ws := wsX7_bend) B.pre
  have hown : s.vm.findClass RX7 = some m.cls := findClass_of_methodNamed B.named
  have hlocks := B.notSynchronized
  have hS : va_S (fun _ => False) s.heap s.heap [] := va_S.rf
  have hl := lv_entry ([.ref m0, .int p0, .int p1]) (n := 4) (Nat.le_of_ble_eq_true rfl)
  rw [lg_entry_eq]
  generalize (lg_sl ([.ref m0, .int p0, .int p1]) ++ List.replicate (4 - (lg_sl ([.ref m0, .int p0, .int p1])).length) Slot.unset).toArray = ls at hl ⊢
  have hl : lv_has ls 4 [(0, .ref m0), (1, .int p0), (2, .int p1)] := hl
  have hB38 : ∀ (v3_38 : Int32) (ls : Array Slot), lv_has ls 4 [(0, .ref m0), (1, .int p0), (3, .int v3_38)] → fX7_bend_38 μ p0 p1 v3_38 = some r → W p l e (headSpec wsX7_bend rmX7_bend).room s m ([.ref m0, .int p0, .int p1] : List Value).toArray below meth c s.heap [] 0 0 (MQ below (vp_Si (fun r' => r' = r)) ([.ref m0, .int p0, .int p1] : List Value).toArray s 0 0 (fun _ => False)) (F0 m 38 ls []) := by
    intro  v3_38 ls hl hf
    unfold fX7_bend_38 at hf
    refine lv_aload_n hx hb dX7_bend_38 rfl (lv_at hl 0 rfl) ?_
    refine lv_iload_n hx hb dX7_bend_39 rfl (lv_at hl 1 rfl) ?_
    obtain ⟨r_1, e_1, hf⟩ := bo hf
    refine pcallV (W0 := (wM g m0 m1 m2 m3 m4 μ)) (As := [.int p0]) (rest := []) [0, 1, 2, 3, 4] 5 0 ⟨hx, hb, hml, hown, hts⟩ hP hE hZ hS (cX7_closes_ok l g m0 m1 m2 m3 m4 μ p0 e_1) (cwV 1 hts gX7_bend_X7_closes rfl rfl rfl hdX7_closes ⟨(Nat.le_of_ble_eq_true rfl), (Nat.le_of_ble_eq_true rfl)⟩) rfl rfl rfl rfl rfl hl.1 rfl (Nat.le_of_ble_eq_true rfl) ⟨(Nat.le_of_ble_eq_true rfl), (Nat.le_of_ble_eq_true rfl)⟩ dX7_bend_40 ?_
    refine lv_beq (tgt := 68) hx hb dX7_bend_43 (by decide) (fun c_2 => ?_) (fun c_2 => ?_)
    · have hf := iq c_2 hf
      refine lv_iconst (v := (0 : Int32)) hx hb dX7_bend_68 (by decide) ?_
      exact p_iret (v := (0 : Int32)) hx hb hr hlocks (Option.some.inj hf) dX7_bend_69
    · have hf := ip c_2 hf
      refine lv_aload_n hx hb dX7_bend_46 rfl (lv_at hl 0 rfl) ?_
      refine lv_iload_n hx hb dX7_bend_47 rfl (lv_at hl 1 rfl) ?_
      refine lv_iconst (v := (4 : Int32)) hx hb dX7_bend_48 (by decide) ?_
      refine lv_iload_n hx hb dX7_bend_49 rfl (lv_at hl 2 rfl) ?_
      refine lv_iadd hx hb dX7_bend_50 ?_
      refine lv_iconst (v := (1 : Int32)) hx hb dX7_bend_51 (by decide) ?_
      refine lv_isub hx hb dX7_bend_52 ?_
      obtain ⟨r_3, e_3, hf⟩ := bo hf
      refine pcallV (W0 := (wM g m0 m1 m2 m3 m4 μ)) (As := [.int p0, .int (((4 : Int32) + v3_38) - (1 : Int32))]) (rest := []) [0, 1, 2, 3, 4] 5 0 ⟨hx, hb, hml, hown, hts⟩ hP hE hZ hS (cX7_of_ok l g m0 m1 m2 m3 m4 μ p0 (((4 : Int32) + v3_38) - (1 : Int32)) e_3) (cwV 2 hts gX7_bend_X7_of rfl rfl rfl hdX7_of ⟨(Nat.le_of_ble_eq_true rfl), (Nat.le_of_ble_eq_true rfl)⟩) rfl rfl rfl rfl rfl hl.1 rfl (Nat.le_of_ble_eq_true rfl) ⟨(Nat.le_of_ble_eq_true rfl), (Nat.le_of_ble_eq_true rfl)⟩ dX7_bend_53 ?_
      refine lv_aload_n hx hb dX7_bend_56 rfl (lv_at hl 0 rfl) ?_
      refine lv_iload_n hx hb dX7_bend_57 rfl (lv_at hl 1 rfl) ?_
      refine lv_iconst (v := (4 : Int32)) hx hb dX7_bend_58 (by decide) ?_
      obtain ⟨r_4, e_4, hf⟩ := bo hf
      refine pcallV (W0 := (wM g m0 m1 m2 m3 m4 μ)) (As := [.int p0, .int (4 : Int32)]) (rest := [.int r_3]) [0, 1, 2, 3, 4] 5 0 ⟨hx, hb, hml, hown, hts⟩ hP hE hZ hS (cX7_of_ok l g m0 m1 m2 m3 m4 μ p0 (4 : Int32) e_4) (cwV 2 hts gX7_bend_X7_of rfl rfl rfl hdX7_of ⟨(Nat.le_of_ble_eq_true rfl), (Nat.le_of_ble_eq_true rfl)⟩) rfl rfl rfl rfl rfl hl.1 rfl (Nat.le_of_ble_eq_true rfl) ⟨(Nat.le_of_ble_eq_true rfl), (Nat.le_of_ble_eq_true rfl)⟩ dX7_bend_59 ?_
      obtain ⟨r_5, e_5, hf⟩ := bo hf
      refine pcallS (W0 := (wM g m0 m1 m2 m3 m4 μ)) (As := [.int r_3, .int r_4]) (rest := []) [] ⟨hx, hb, hml, hown, hts⟩ hP hE hZ hS (cX7_turn_ok l g  r_3 r_4 e_5) (va_cwS 2 hts gX7_bend_X7_turn rfl rfl rfl hdX7_turn.2 ⟨(Nat.le_of_ble_eq_true rfl), (Nat.le_of_ble_eq_true rfl)⟩) rfl rfl hl.1 rfl (Nat.le_of_ble_eq_true rfl) ⟨(Nat.le_of_ble_eq_true rfl), (Nat.le_of_ble_eq_true rfl)⟩ dX7_bend_62 ?_
      refine lv_goto (tgt := 69) hx hb dX7_bend_65 (by decide) ?_
      exact p_iret (v := r_5) hx hb hr hlocks (Option.some.inj hf) dX7_bend_69
  unfold fX7_bend at hf
  refine lv_aload_n hx hb dX7_bend_0 rfl (lv_at hl 0 rfl) ?_
  refine lv_iload_n hx hb dX7_bend_1 rfl (lv_at hl 1 rfl) ?_
  refine lv_iconst (v := (2 : Int32)) hx hb dX7_bend_2 (by decide) ?_
  obtain ⟨r_6, e_6, hf⟩ := bo hf
  refine pcallV (W0 := (wM g m0 m1 m2 m3 m4 μ)) (As := [.int p0, .int (2 : Int32)]) (rest := []) [0, 1, 2, 3, 4] 5 0 ⟨hx, hb, hml, hown, hts⟩ hP hE hZ hS (cX7_of_ok l g m0 m1 m2 m3 m4 μ p0 (2 : Int32) e_6) (cwV 2 hts gX7_bend_X7_of rfl rfl rfl hdX7_of ⟨(Nat.le_of_ble_eq_true rfl), (Nat.le_of_ble_eq_true rfl)⟩) rfl rfl rfl rfl rfl hl.1 rfl (Nat.le_of_ble_eq_true rfl) ⟨(Nat.le_of_ble_eq_true rfl), (Nat.le_of_ble_eq_true rfl)⟩ dX7_bend_3 ?_
  refine lv_istore_n (lv' := [(3, .int r_6), (0, .ref m0), (1, .int p0), (2, .int p1)]) hx hb dX7_bend_6 rfl hl (by decide) rfl (fun ls hl => ?_)
  refine lv_iload_n hx hb dX7_bend_7 rfl (lv_at hl 3 rfl) ?_
  refine lv_if_le (tgt := 38) hx hb dX7_bend_8 (by decide) (fun c_7 => ?_) (fun c_7 => ?_)
  · have hf := ip c_7 hf
    exact hB38 r_6 ls (lv_sub hl [1, 2, 0] rfl) hf
  · have hf := iq c_7 hf
    refine lv_iload_n hx hb dX7_bend_11 rfl (lv_at hl 3 rfl) ?_
    refine lv_iload_n hx hb dX7_bend_12 rfl (lv_at hl 0 rfl) ?_
    refine lv_icmp_ge (tgt := 38) hx hb dX7_bend_13 (by decide) (fun c_8 => ?_) (fun c_8 => ?_)
    · have hf := ip c_8 hf
      exact hB38 r_6 ls (lv_sub hl [1, 2, 0] rfl) hf
    · have hf := iq c_8 hf
      refine lv_aload_n hx hb dX7_bend_16 rfl (lv_at hl 1 rfl) ?_
      refine lv_iload_n hx hb dX7_bend_17 rfl (lv_at hl 2 rfl) ?_
      refine lv_iconst (v := (4 : Int32)) hx hb dX7_bend_18 (by decide) ?_
      refine lv_iload_n hx hb dX7_bend_19 rfl (lv_at hl 3 rfl) ?_
      refine lv_iadd hx hb dX7_bend_20 ?_
      refine lv_iconst (v := (1 : Int32)) hx hb dX7_bend_21 (by decide) ?_
      refine lv_isub hx hb dX7_bend_22 ?_
      obtain ⟨r_9, e_9, hf⟩ := bo hf
      refine pcallV (W0 := (wM g m0 m1 m2 m3 m4 μ)) (As := [.int p0, .int (((4 : Int32) + p1) - (1 : Int32))]) (rest := []) [0, 1, 2, 3, 4] 5 0 ⟨hx, hb, hml, hown, hts⟩ hP hE hZ hS (cX7_of_ok l g m0 m1 m2 m3 m4 μ p0 (((4 : Int32) + p1) - (1 : Int32)) e_9) (cwV 2 hts gX7_bend_X7_of rfl rfl rfl hdX7_of ⟨(Nat.le_of_ble_eq_true rfl), (Nat.le_of_ble_eq_true rfl)⟩) rfl rfl rfl rfl rfl hl.1 rfl (Nat.le_of_ble_eq_true rfl) ⟨(Nat.le_of_ble_eq_true rfl), (Nat.le_of_ble_eq_true rfl)⟩ dX7_bend_23 ?_
      refine lv_aload_n hx hb dX7_bend_26 rfl (lv_at hl 1 rfl) ?_
      refine lv_iload_n hx hb dX7_bend_27 rfl (lv_at hl 2 rfl) ?_
      refine lv_iconst (v := (4 : Int32)) hx hb dX7_bend_28 (by decide) ?_
      refine lv_iload_n hx hb dX7_bend_29 rfl (lv_at hl 3 rfl) ?_
      refine lv_iadd hx hb dX7_bend_30 ?_
      obtain ⟨r_10, e_10, hf⟩ := bo hf
      refine pcallV (W0 := (wM g m0 m1 m2 m3 m4 μ)) (As := [.int p0, .int ((4 : Int32) + p1)]) (rest := [.int r_9]) [0, 1, 2, 3, 4] 5 0 ⟨hx, hb, hml, hown, hts⟩ hP hE hZ hS (cX7_of_ok l g m0 m1 m2 m3 m4 μ p0 ((4 : Int32) + p1) e_10) (cwV 2 hts gX7_bend_X7_of rfl rfl rfl hdX7_of ⟨(Nat.le_of_ble_eq_true rfl), (Nat.le_of_ble_eq_true rfl)⟩) rfl rfl rfl rfl rfl hl.1 rfl (Nat.le_of_ble_eq_true rfl) ⟨(Nat.le_of_ble_eq_true rfl), (Nat.le_of_ble_eq_true rfl)⟩ dX7_bend_31 ?_
      obtain ⟨r_11, e_11, hf⟩ := bo hf
      refine pcallS (W0 := (wM g m0 m1 m2 m3 m4 μ)) (As := [.int r_9, .int r_10]) (rest := []) [] ⟨hx, hb, hml, hown, hts⟩ hP hE hZ hS (cX7_turn_ok l g  r_9 r_10 e_11) (va_cwS 2 hts gX7_bend_X7_turn rfl rfl rfl hdX7_turn.2 ⟨(Nat.le_of_ble_eq_true rfl), (Nat.le_of_ble_eq_true rfl)⟩) rfl rfl hl.1 rfl (Nat.le_of_ble_eq_true rfl) ⟨(Nat.le_of_ble_eq_true rfl), (Nat.le_of_ble_eq_true rfl)⟩ dX7_bend_34 ?_
      exact p_iret (v := r_11) hx hb hr hlocks (Option.some.inj hf) dX7_bend_37

def fX7_size (μ : Mo) (p0 : Int32) : Option (Int32) := ((fX7_of μ p0 (0 : Int32)).bind fun r_1 => (if (10 : Int32) ≤ r_1 then (some (3 : Int32)) else (some (2 : Int32))))
abbrev rmX7_size : Room := { frames := 1, cells := 0, slots := 0, locals := 22 }
theorem hdX7_size : yX7_size.cls = RX7 ∧ yX7_size.cls ≠ "java/lang/invoke/MethodHandle" ∧ yX7_size.cls ≠ "java/lang/invoke/VarHandle" ∧ (parseMethodDescriptor yX7_size.desc).map (fun d => d.parameters.length) = some 1 := by decide +kernel
set_option maxHeartbeats 4000000 in
set_option maxRecDepth 100000 in
theorem cX7_size_ok (l : Launch) (g : Gg) (m0 m1 m2 m3 m4 : Nat) (μ : Mo) (p0 : Int32) {r : Int32} (hf : fX7_size μ p0 = some r) : Met l yX7_size wsX7_size rmX7_size (va_Pc [.ref m0, .int p0] (PP g (wM g m0 m1 m2 m3 m4 μ))) (vp_Si (fun r' => r' = r)) 0 0 (fun _ => False) := by
  refine Met.ofW (cc := cX7_size) (maxL := 2) (ret := (some .int)) (by decide) rfl ?_
  intro p e s m args below meth c s₁ B hml hv
  obtain ⟨rfl, hP, hE, hZ⟩ := hv
  have hx := B.exec
  have hb := B.bytes
  have hr := B.returns
  have hts := atoms_spec (ws := wsX7_size) B.pre
  have hown : s.vm.findClass RX7 = some m.cls := findClass_of_methodNamed B.named
  have hlocks := B.notSynchronized
  have hS : va_S (fun _ => False) s.heap s.heap [] := va_S.rf
  have hl := lv_entry ([.ref m0, .int p0]) (n := 2) (Nat.le_of_ble_eq_true rfl)
  rw [lg_entry_eq]
  generalize (lg_sl ([.ref m0, .int p0]) ++ List.replicate (2 - (lg_sl ([.ref m0, .int p0])).length) Slot.unset).toArray = ls at hl ⊢
  have hl : lv_has ls 2 [(0, .ref m0), (1, .int p0)] := hl
  unfold fX7_size at hf
  refine lv_aload_n hx hb dX7_size_0 rfl (lv_at hl 0 rfl) ?_
  refine lv_iload_n hx hb dX7_size_1 rfl (lv_at hl 1 rfl) ?_
  refine lv_iconst (v := (0 : Int32)) hx hb dX7_size_2 (by decide) ?_
  obtain ⟨r_1, e_1, hf⟩ := bo hf
  refine pcallV (W0 := (wM g m0 m1 m2 m3 m4 μ)) (As := [.int p0, .int (0 : Int32)]) (rest := []) [0, 1, 2, 3, 4] 5 0 ⟨hx, hb, hml, hown, hts⟩ hP hE hZ hS (cX7_of_ok l g m0 m1 m2 m3 m4 μ p0 (0 : Int32) e_1) (cwV 2 hts gX7_size_X7_of rfl rfl rfl hdX7_of ⟨(Nat.le_of_ble_eq_true rfl), (Nat.le_of_ble_eq_true rfl)⟩) rfl rfl rfl rfl rfl hl.1 rfl (Nat.le_of_ble_eq_true rfl) ⟨(Nat.le_of_ble_eq_true rfl), (Nat.le_of_ble_eq_true rfl)⟩ dX7_size_3 ?_
  refine lv_bipush (v := (10 : Int32)) hx hb dX7_size_6 (by decide) ?_
  refine lv_icmp_ge (tgt := 15) hx hb dX7_size_8 (by decide) (fun c_2 => ?_) (fun c_2 => ?_)
  · have hf := ip c_2 hf
    refine lv_iconst (v := (3 : Int32)) hx hb dX7_size_15 (by decide) ?_
    exact p_iret (v := (3 : Int32)) hx hb hr hlocks (Option.some.inj hf) dX7_size_16
  · have hf := iq c_2 hf
    refine lv_iconst (v := (2 : Int32)) hx hb dX7_size_11 (by decide) ?_
    refine lv_goto (tgt := 16) hx hb dX7_size_12 (by decide) ?_
    exact p_iret (v := (2 : Int32)) hx hb hr hlocks (Option.some.inj hf) dX7_size_16

def fX7_isPlace (μ : Mo) (p0 p1 : Int32) : Option (Bool) := ((fX7_size μ p0).bind fun r_1 => ((fX7_of μ p0 (2 : Int32)).bind fun r_2 => ((fX7_closes μ p0).bind fun r_3 => (if r_3 = true then (if (r_2 - (1 : Int32)) < ((p1 + r_1) - (1 : Int32)) then (some false) else (some true)) else (if (r_2 - (0 : Int32)) < ((p1 + r_1) - (1 : Int32)) then (some false) else (some true))))))
abbrev rmX7_isPlace : Room := { frames := 5, cells := 0, slots := 0, locals := 108 }
theorem hdX7_isPlace : yX7_isPlace.cls = RX7 ∧ yX7_isPlace.cls ≠ "java/lang/invoke/MethodHandle" ∧ yX7_isPlace.cls ≠ "java/lang/invoke/VarHandle" ∧ (parseMethodDescriptor yX7_isPlace.desc).map (fun d => d.parameters.length) = some 2 := by decide +kernel
set_option maxHeartbeats 4000000 in
set_option maxRecDepth 100000 in
theorem cX7_isPlace_ok (l : Launch) (g : Gg) (m0 m1 m2 m3 m4 : Nat) (μ : Mo) (p0 p1 : Int32) {r : Bool} (hf : fX7_isPlace μ p0 p1 = some r) : Met l yX7_isPlace wsX7_isPlace rmX7_isPlace (va_Pc [.ref m0, .int p0, .int p1] (PP g (wM g m0 m1 m2 m3 m4 μ))) (vp_Si (fun r' => r' = b2i r)) 0 0 (fun _ => False) := by
  refine Met.ofW (cc := cX7_isPlace) (maxL := 3) (ret := (some .boolean)) (by decide) rfl ?_
  intro p e s m args below meth c s₁ B hml hv
  obtain ⟨rfl, hP, hE, hZ⟩ := hv
  have hx := B.exec
  have hb := B.bytes
  have hr := B.returns
  have hts := atoms_spec (ws := wsX7_isPlace) B.pre
  have hown : s.vm.findClass RX7 = some m.cls := findClass_of_methodNamed B.named
  have hlocks := B.notSynchronized
  have hS : va_S (fun _ => False) s.heap s.heap [] := va_S.rf
  have hl := lv_entry ([.ref m0, .int p0, .int p1]) (n := 3) (Nat.le_of_ble_eq_true rfl)
  rw [lg_entry_eq]
  generalize (lg_sl ([.ref m0, .int p0, .int p1]) ++ List.replicate (3 - (lg_sl ([.ref m0, .int p0, .int p1])).length) Slot.unset).toArray = ls at hl ⊢
  have hl : lv_has ls 3 [(0, .ref m0), (1, .int p0), (2, .int p1)] := hl
  unfold fX7_isPlace at hf
  refine lv_iload_n hx hb dX7_isPlace_0 rfl (lv_at hl 2 rfl) ?_
  refine lv_aload_n hx hb dX7_isPlace_1 rfl (lv_at hl 0 rfl) ?_
  refine lv_iload_n hx hb dX7_isPlace_2 rfl (lv_at hl 1 rfl) ?_
  obtain ⟨r_1, e_1, hf⟩ := bo hf
  refine pcallV (W0 := (wM g m0 m1 m2 m3 m4 μ)) (As := [.int p0]) (rest := [.int p1]) [0, 1, 2, 3, 4] 5 0 ⟨hx, hb, hml, hown, hts⟩ hP hE hZ hS (cX7_size_ok l g m0 m1 m2 m3 m4 μ p0 e_1) (cwV 1 hts gX7_isPlace_X7_size rfl rfl rfl hdX7_size ⟨(Nat.le_of_ble_eq_true rfl), (Nat.le_of_ble_eq_true rfl)⟩) rfl rfl rfl rfl rfl hl.1 rfl (Nat.le_of_ble_eq_true rfl) ⟨(Nat.le_of_ble_eq_true rfl), (Nat.le_of_ble_eq_true rfl)⟩ dX7_isPlace_3 ?_
  refine lv_iadd hx hb dX7_isPlace_6 ?_
  refine lv_iconst (v := (1 : Int32)) hx hb dX7_isPlace_7 (by decide) ?_
  refine lv_isub hx hb dX7_isPlace_8 ?_
  refine lv_aload_n hx hb dX7_isPlace_9 rfl (lv_at hl 0 rfl) ?_
  refine lv_iload_n hx hb dX7_isPlace_10 rfl (lv_at hl 1 rfl) ?_
  refine lv_iconst (v := (2 : Int32)) hx hb dX7_isPlace_11 (by decide) ?_
  obtain ⟨r_2, e_2, hf⟩ := bo hf
  refine pcallV (W0 := (wM g m0 m1 m2 m3 m4 μ)) (As := [.int p0, .int (2 : Int32)]) (rest := [.int ((p1 + r_1) - (1 : Int32))]) [0, 1, 2, 3, 4] 5 0 ⟨hx, hb, hml, hown, hts⟩ hP hE hZ hS (cX7_of_ok l g m0 m1 m2 m3 m4 μ p0 (2 : Int32) e_2) (cwV 2 hts gX7_isPlace_X7_of rfl rfl rfl hdX7_of ⟨(Nat.le_of_ble_eq_true rfl), (Nat.le_of_ble_eq_true rfl)⟩) rfl rfl rfl rfl rfl hl.1 rfl (Nat.le_of_ble_eq_true rfl) ⟨(Nat.le_of_ble_eq_true rfl), (Nat.le_of_ble_eq_true rfl)⟩ dX7_isPlace_12 ?_
  refine lv_aload_n hx hb dX7_isPlace_15 rfl (lv_at hl 0 rfl) ?_
  refine lv_iload_n hx hb dX7_isPlace_16 rfl (lv_at hl 1 rfl) ?_
  obtain ⟨r_3, e_3, hf⟩ := bo hf
  refine pcallV (W0 := (wM g m0 m1 m2 m3 m4 μ)) (As := [.int p0]) (rest := [.int r_2, .int ((p1 + r_1) - (1 : Int32))]) [0, 1, 2, 3, 4] 5 0 ⟨hx, hb, hml, hown, hts⟩ hP hE hZ hS (cX7_closes_ok l g m0 m1 m2 m3 m4 μ p0 e_3) (cwV 1 hts gX7_isPlace_X7_closes rfl rfl rfl hdX7_closes ⟨(Nat.le_of_ble_eq_true rfl), (Nat.le_of_ble_eq_true rfl)⟩) rfl rfl rfl rfl rfl hl.1 rfl (Nat.le_of_ble_eq_true rfl) ⟨(Nat.le_of_ble_eq_true rfl), (Nat.le_of_ble_eq_true rfl)⟩ dX7_isPlace_17 ?_
  refine lv_beq (tgt := 27) hx hb dX7_isPlace_20 (by decide) (fun c_4 => ?_) (fun c_4 => ?_)
  · have hf := iq c_4 hf
    refine lv_iconst (v := (0 : Int32)) hx hb dX7_isPlace_27 (by decide) ?_
    refine lv_isub hx hb dX7_isPlace_28 ?_
    refine lv_icmp_gt (tgt := 36) hx hb dX7_isPlace_29 (by decide) (fun c_5 => ?_) (fun c_5 => ?_)
    · have hf := ip c_5 hf
      refine lv_iconst (v := (0 : Int32)) hx hb dX7_isPlace_36 (by decide) ?_
      exact p_zret (v := false) hx hb hr hlocks (Option.some.inj hf) dX7_isPlace_37
    · have hf := iq c_5 hf
      refine lv_iconst (v := (1 : Int32)) hx hb dX7_isPlace_32 (by decide) ?_
      refine lv_goto (tgt := 37) hx hb dX7_isPlace_33 (by decide) ?_
      exact p_zret (v := true) hx hb hr hlocks (Option.some.inj hf) dX7_isPlace_37
  · have hf := ip c_4 hf
    refine lv_iconst (v := (1 : Int32)) hx hb dX7_isPlace_23 (by decide) ?_
    refine lv_goto (tgt := 28) hx hb dX7_isPlace_24 (by decide) ?_
    refine lv_isub hx hb dX7_isPlace_28 ?_
    refine lv_icmp_gt (tgt := 36) hx hb dX7_isPlace_29 (by decide) (fun c_6 => ?_) (fun c_6 => ?_)
    · have hf := ip c_6 hf
      refine lv_iconst (v := (0 : Int32)) hx hb dX7_isPlace_36 (by decide) ?_
      exact p_zret (v := false) hx hb hr hlocks (Option.some.inj hf) dX7_isPlace_37
    · have hf := iq c_6 hf
      refine lv_iconst (v := (1 : Int32)) hx hb dX7_isPlace_32 (by decide) ?_
      refine lv_goto (tgt := 37) hx hb dX7_isPlace_33 (by decide) ?_
      exact p_zret (v := true) hx hb hr hlocks (Option.some.inj hf) dX7_isPlace_37

def fX7_bends_7 (μ : Mo) (p0 p1 : Int32) : Nat → Int32 → Int32 → Option (Int32)
  | 0, _, _ => none
  | n + 1, v3_7, v4_7 => ((fX7_size μ p0).bind fun r_1 => (if (p1 + r_1) < v4_7 then (some v3_7) else ((fX7_of μ p0 (2 : Int32)).bind fun r_3 => ((fX7_in v4_7 (0 : Int32) r_3).bind fun r_4 => (if r_4 = true then ((fX7_bend μ p0 v4_7).bind fun r_6 => fX7_bends_7 μ p0 p1 n (v3_7 + r_6) (v4_7 + 1)) else fX7_bends_7 μ p0 p1 n (v3_7 + (0 : Int32)) (v4_7 + 1))))))
def fX7_bends (μ : Mo) (p0 p1 : Int32) : Option (Int32) := fX7_bends_7 μ p0 p1 FU (0 : Int32) (p1 - (1 : Int32))
abbrev rmX7_bends : Room := { frames := 6, cells := 0, slots := 0, locals := 131 }
theorem hdX7_bends : yX7_bends.cls = RX7 ∧ yX7_bends.cls ≠ "java/lang/invoke/MethodHandle" ∧ yX7_bends.cls ≠ "java/lang/invoke/VarHandle" ∧ (parseMethodDescriptor yX7_bends.desc).map (fun d => d.parameters.length) = some 2 := by decide +kernel
set_option maxHeartbeats 4000000 in
set_option maxRecDepth 100000 in
theorem cX7_bends_ok (l : Launch) (g : Gg) (m0 m1 m2 m3 m4 : Nat) (μ : Mo) (p0 p1 : Int32) {r : Int32} (hf : fX7_bends μ p0 p1 = some r) : Met l yX7_bends wsX7_bends rmX7_bends (va_Pc [.ref m0, .int p0, .int p1] (PP g (wM g m0 m1 m2 m3 m4 μ))) (vp_Si (fun r' => r' = r)) 0 0 (fun _ => False) := by
  refine Met.ofW (cc := cX7_bends) (maxL := 5) (ret := (some .int)) (by decide) rfl ?_
  intro p e s m args below meth c s₁ B hml hv
  obtain ⟨rfl, hP, hE, hZ⟩ := hv
  have hx := B.exec
  have hb := B.bytes
  have hr := B.returns
  have hts := atoms_spec (ws := wsX7_bends) B.pre
  have hown : s.vm.findClass RX7 = some m.cls := findClass_of_methodNamed B.named
  have hlocks := B.notSynchronized
  have hS : va_S (fun _ => False) s.heap s.heap [] := va_S.rf
  have hl := lv_entry ([.ref m0, .int p0, .int p1]) (n := 5) (Nat.le_of_ble_eq_true rfl)
  rw [lg_entry_eq]
  generalize (lg_sl ([.ref m0, .int p0, .int p1]) ++ List.replicate (5 - (lg_sl ([.ref m0, .int p0, .int p1])).length) Slot.unset).toArray = ls at hl ⊢
  have hl : lv_has ls 5 [(0, .ref m0), (1, .int p0), (2, .int p1)] := hl
  have hB7 : ∀ (n7 : Nat) (v3_7 : Int32) (v4_7 : Int32) (ls : Array Slot), lv_has ls 5 [(0, .ref m0), (1, .int p0), (2, .int p1), (3, .int v3_7), (4, .int v4_7)] → fX7_bends_7 μ p0 p1 n7 v3_7 v4_7 = some r → W p l e (headSpec wsX7_bends rmX7_bends).room s m ([.ref m0, .int p0, .int p1] : List Value).toArray below meth c s.heap [] 0 0 (MQ below (vp_Si (fun r' => r' = r)) ([.ref m0, .int p0, .int p1] : List Value).toArray s 0 0 (fun _ => False)) (F0 m 7 ls []) := by
    intro  n7
    induction n7 with
    | zero => intro v3_7 v4_7 ls hl hf; exact nomatch (show (none : Option (Int32)) = some _ from hf)
    | succ n7 ih7 =>
      intro v3_7 v4_7 ls hl hf
      rw [fX7_bends_7] at hf
      refine lv_iload hx hb dX7_bends_7 (lv_at hl 4 rfl) ?_
      refine lv_iload_n hx hb dX7_bends_9 rfl (lv_at hl 2 rfl) ?_
      refine lv_aload_n hx hb dX7_bends_10 rfl (lv_at hl 0 rfl) ?_
      refine lv_iload_n hx hb dX7_bends_11 rfl (lv_at hl 1 rfl) ?_
      obtain ⟨r_1, e_1, hf⟩ := bo hf
      refine pcallV (W0 := (wM g m0 m1 m2 m3 m4 μ)) (As := [.int p0]) (rest := [.int p1, .int v4_7]) [0, 1, 2, 3, 4] 5 0 ⟨hx, hb, hml, hown, hts⟩ hP hE hZ hS (cX7_size_ok l g m0 m1 m2 m3 m4 μ p0 e_1) (cwV 1 hts gX7_bends_X7_size rfl rfl rfl hdX7_size ⟨(Nat.le_of_ble_eq_true rfl), (Nat.le_of_ble_eq_true rfl)⟩) rfl rfl rfl rfl rfl hl.1 rfl (Nat.le_of_ble_eq_true rfl) ⟨(Nat.le_of_ble_eq_true rfl), (Nat.le_of_ble_eq_true rfl)⟩ dX7_bends_12 ?_
      refine lv_iadd hx hb dX7_bends_15 ?_
      refine lv_icmp_gt (tgt := 54) hx hb dX7_bends_16 (by decide) (fun c_2 => ?_) (fun c_2 => ?_)
      · have hf := ip c_2 hf
        refine lv_iload_n hx hb dX7_bends_54 rfl (lv_at hl 3 rfl) ?_
        exact p_iret (v := v3_7) hx hb hr hlocks (Option.some.inj hf) dX7_bends_55
      · have hf := iq c_2 hf
        refine lv_iload_n hx hb dX7_bends_19 rfl (lv_at hl 3 rfl) ?_
        refine lv_iload hx hb dX7_bends_20 (lv_at hl 4 rfl) ?_
        refine lv_iconst (v := (0 : Int32)) hx hb dX7_bends_22 (by decide) ?_
        refine lv_aload_n hx hb dX7_bends_23 rfl (lv_at hl 0 rfl) ?_
        refine lv_iload_n hx hb dX7_bends_24 rfl (lv_at hl 1 rfl) ?_
        refine lv_iconst (v := (2 : Int32)) hx hb dX7_bends_25 (by decide) ?_
        obtain ⟨r_3, e_3, hf⟩ := bo hf
        refine pcallV (W0 := (wM g m0 m1 m2 m3 m4 μ)) (As := [.int p0, .int (2 : Int32)]) (rest := [.int (0 : Int32), .int v4_7, .int v3_7]) [0, 1, 2, 3, 4] 5 0 ⟨hx, hb, hml, hown, hts⟩ hP hE hZ hS (cX7_of_ok l g m0 m1 m2 m3 m4 μ p0 (2 : Int32) e_3) (cwV 2 hts gX7_bends_X7_of rfl rfl rfl hdX7_of ⟨(Nat.le_of_ble_eq_true rfl), (Nat.le_of_ble_eq_true rfl)⟩) rfl rfl rfl rfl rfl hl.1 rfl (Nat.le_of_ble_eq_true rfl) ⟨(Nat.le_of_ble_eq_true rfl), (Nat.le_of_ble_eq_true rfl)⟩ dX7_bends_26 ?_
        obtain ⟨r_4, e_4, hf⟩ := bo hf
        refine pcallS (W0 := (wM g m0 m1 m2 m3 m4 μ)) (As := [.int v4_7, .int (0 : Int32), .int r_3]) (rest := [.int v3_7]) [] ⟨hx, hb, hml, hown, hts⟩ hP hE hZ hS (cX7_in_ok l g  v4_7 (0 : Int32) r_3 e_4) (va_cwS 3 hts gX7_bends_X7_in rfl rfl rfl hdX7_in.2 ⟨(Nat.le_of_ble_eq_true rfl), (Nat.le_of_ble_eq_true rfl)⟩) rfl rfl hl.1 rfl (Nat.le_of_ble_eq_true rfl) ⟨(Nat.le_of_ble_eq_true rfl), (Nat.le_of_ble_eq_true rfl)⟩ dX7_bends_29 ?_
        refine lv_beq (tgt := 45) hx hb dX7_bends_32 (by decide) (fun c_5 => ?_) (fun c_5 => ?_)
        · have hf := iq c_5 hf
          refine lv_iconst (v := (0 : Int32)) hx hb dX7_bends_45 (by decide) ?_
          refine lv_iadd hx hb dX7_bends_46 ?_
          refine lv_istore_n (lv' := [(3, .int (v3_7 + (0 : Int32))), (0, .ref m0), (1, .int p0), (2, .int p1), (4, .int v4_7)]) hx hb dX7_bends_47 rfl hl (by decide) rfl (fun ls hl => ?_)
          refine lv_iinc (v := (v4_7 + 1)) (lv' := [(4, .int (v4_7 + 1)), (3, .int (v3_7 + (0 : Int32))), (0, .ref m0), (1, .int p0), (2, .int p1)]) hx hb dX7_bends_48 hl (k := 4) rfl rfl (by decide) rfl (fun ls hl => ?_)
          refine lv_goto (tgt := 7) hx hb dX7_bends_51 (by decide) ?_
          exact ih7 (v3_7 + (0 : Int32)) (v4_7 + 1) ls (lv_sub hl [2, 3, 4, 1, 0] rfl) hf
        · have hf := ip c_5 hf
          refine lv_aload_n hx hb dX7_bends_35 rfl (lv_at hl 0 rfl) ?_
          refine lv_iload_n hx hb dX7_bends_36 rfl (lv_at hl 1 rfl) ?_
          refine lv_iload hx hb dX7_bends_37 (lv_at hl 4 rfl) ?_
          obtain ⟨r_6, e_6, hf⟩ := bo hf
          refine pcallV (W0 := (wM g m0 m1 m2 m3 m4 μ)) (As := [.int p0, .int v4_7]) (rest := [.int v3_7]) [0, 1, 2, 3, 4] 5 0 ⟨hx, hb, hml, hown, hts⟩ hP hE hZ hS (cX7_bend_ok l g m0 m1 m2 m3 m4 μ p0 v4_7 e_6) (cwV 2 hts gX7_bends_X7_bend rfl rfl rfl hdX7_bend ⟨(Nat.le_of_ble_eq_true rfl), (Nat.le_of_ble_eq_true rfl)⟩) rfl rfl rfl rfl rfl hl.1 rfl (Nat.le_of_ble_eq_true rfl) ⟨(Nat.le_of_ble_eq_true rfl), (Nat.le_of_ble_eq_true rfl)⟩ dX7_bends_39 ?_
          refine lv_goto (tgt := 46) hx hb dX7_bends_42 (by decide) ?_
          refine lv_iadd hx hb dX7_bends_46 ?_
          refine lv_istore_n (lv' := [(3, .int (v3_7 + r_6)), (0, .ref m0), (1, .int p0), (2, .int p1), (4, .int v4_7)]) hx hb dX7_bends_47 rfl hl (by decide) rfl (fun ls hl => ?_)
          refine lv_iinc (v := (v4_7 + 1)) (lv' := [(4, .int (v4_7 + 1)), (3, .int (v3_7 + r_6)), (0, .ref m0), (1, .int p0), (2, .int p1)]) hx hb dX7_bends_48 hl (k := 4) rfl rfl (by decide) rfl (fun ls hl => ?_)
          refine lv_goto (tgt := 7) hx hb dX7_bends_51 (by decide) ?_
          exact ih7 (v3_7 + r_6) (v4_7 + 1) ls (lv_sub hl [2, 3, 4, 1, 0] rfl) hf
  unfold fX7_bends at hf
  refine lv_iconst (v := (0 : Int32)) hx hb dX7_bends_0 (by decide) ?_
  refine lv_istore_n (lv' := [(3, .int (0 : Int32)), (0, .ref m0), (1, .int p0), (2, .int p1)]) hx hb dX7_bends_1 rfl hl (by decide) rfl (fun ls hl => ?_)
  refine lv_iload_n hx hb dX7_bends_2 rfl (lv_at hl 3 rfl) ?_
  refine lv_iconst (v := (1 : Int32)) hx hb dX7_bends_3 (by decide) ?_
  refine lv_isub hx hb dX7_bends_4 ?_
  refine lv_istore (lv' := [(4, .int (p1 - (1 : Int32))), (3, .int (0 : Int32)), (0, .ref m0), (1, .int p0), (2, .int p1)]) hx hb dX7_bends_5 hl (by decide) rfl (fun ls hl => ?_)
  exact hB7 FU (0 : Int32) (p1 - (1 : Int32)) ls (lv_sub hl [2, 3, 4, 1, 0] rfl) hf

def fX7_far (μ : Mo) (p0 p1 : Int32) : Option (Int32) := ((fX7_apart (irm p0 (24 : Int32)) (irm p1 (24 : Int32))).bind fun r_1 => ((fX7_apart (p0 / (24 : Int32)) (p1 / (24 : Int32))).bind fun r_2 => (if r_1 ≤ r_2 then (some r_2) else (some r_1))))
abbrev rmX7_far : Room := { frames := 1, cells := 0, slots := 0, locals := 21 }
theorem hdX7_far : yX7_far.cls = RX7 ∧ yX7_far.cls ≠ "java/lang/invoke/MethodHandle" ∧ yX7_far.cls ≠ "java/lang/invoke/VarHandle" ∧ (parseMethodDescriptor yX7_far.desc).map (fun d => d.parameters.length) = some 2 := by decide +kernel
set_option maxHeartbeats 4000000 in
set_option maxRecDepth 100000 in
theorem cX7_far_ok (l : Launch) (g : Gg) (m0 m1 m2 m3 m4 : Nat) (μ : Mo) (p0 p1 : Int32) {r : Int32} (hf : fX7_far μ p0 p1 = some r) : Met l yX7_far wsX7_far rmX7_far (va_Pc [.ref m0, .int p0, .int p1] (PP g (wM g m0 m1 m2 m3 m4 μ))) (vp_Si (fun r' => r' = r)) 0 0 (fun _ => False) := by
  refine Met.ofW (cc := cX7_far) (maxL := 5) (ret := (some .int)) (by decide) rfl ?_
  intro p e s m args below meth c s₁ B hml hv
  obtain ⟨rfl, hP, hE, hZ⟩ := hv
  have hx := B.exec
  have hb := B.bytes
  have hr := B.returns
  have hts := atoms_spec (ws := wsX7_far) B.pre
  have hown : s.vm.findClass RX7 = some m.cls := findClass_of_methodNamed B.named
  have hlocks := B.notSynchronized
  have hS : va_S (fun _ => False) s.heap s.heap [] := va_S.rf
  have hl := lv_entry ([.ref m0, .int p0, .int p1]) (n := 5) (Nat.le_of_ble_eq_true rfl)
  rw [lg_entry_eq]
  generalize (lg_sl ([.ref m0, .int p0, .int p1]) ++ List.replicate (5 - (lg_sl ([.ref m0, .int p0, .int p1])).length) Slot.unset).toArray = ls at hl ⊢
  have hl : lv_has ls 5 [(0, .ref m0), (1, .int p0), (2, .int p1)] := hl
  unfold fX7_far at hf
  refine lv_iload_n hx hb dX7_far_0 rfl (lv_at hl 1 rfl) ?_
  refine lv_bipush (v := (24 : Int32)) hx hb dX7_far_1 (by decide) ?_
  refine lv_irm hx hb dX7_far_3 (by decide) ?_
  refine lv_iload_n hx hb dX7_far_4 rfl (lv_at hl 2 rfl) ?_
  refine lv_bipush (v := (24 : Int32)) hx hb dX7_far_5 (by decide) ?_
  refine lv_irm hx hb dX7_far_7 (by decide) ?_
  obtain ⟨r_1, e_1, hf⟩ := bo hf
  refine pcallS (W0 := (wM g m0 m1 m2 m3 m4 μ)) (As := [.int (irm p0 (24 : Int32)), .int (irm p1 (24 : Int32))]) (rest := []) [] ⟨hx, hb, hml, hown, hts⟩ hP hE hZ hS (cX7_apart_ok l g  (irm p0 (24 : Int32)) (irm p1 (24 : Int32)) e_1) (va_cwS 2 hts gX7_far_X7_apart rfl rfl rfl hdX7_apart.2 ⟨(Nat.le_of_ble_eq_true rfl), (Nat.le_of_ble_eq_true rfl)⟩) rfl rfl hl.1 rfl (Nat.le_of_ble_eq_true rfl) ⟨(Nat.le_of_ble_eq_true rfl), (Nat.le_of_ble_eq_true rfl)⟩ dX7_far_8 ?_
  refine lv_istore_n (lv' := [(3, .int r_1), (0, .ref m0), (1, .int p0), (2, .int p1)]) hx hb dX7_far_11 rfl hl (by decide) rfl (fun ls hl => ?_)
  refine lv_iload_n hx hb dX7_far_12 rfl (lv_at hl 2 rfl) ?_
  refine lv_bipush (v := (24 : Int32)) hx hb dX7_far_13 (by decide) ?_
  refine lv_idiv hx hb dX7_far_15 (by decide) ?_
  refine lv_iload_n hx hb dX7_far_16 rfl (lv_at hl 3 rfl) ?_
  refine lv_bipush (v := (24 : Int32)) hx hb dX7_far_17 (by decide) ?_
  refine lv_idiv hx hb dX7_far_19 (by decide) ?_
  obtain ⟨r_2, e_2, hf⟩ := bo hf
  refine pcallS (W0 := (wM g m0 m1 m2 m3 m4 μ)) (As := [.int (p0 / (24 : Int32)), .int (p1 / (24 : Int32))]) (rest := []) [] ⟨hx, hb, hml, hown, hts⟩ hP hE hZ hS (cX7_apart_ok l g  (p0 / (24 : Int32)) (p1 / (24 : Int32)) e_2) (va_cwS 2 hts gX7_far_X7_apart rfl rfl rfl hdX7_apart.2 ⟨(Nat.le_of_ble_eq_true rfl), (Nat.le_of_ble_eq_true rfl)⟩) rfl rfl hl.1 rfl (Nat.le_of_ble_eq_true rfl) ⟨(Nat.le_of_ble_eq_true rfl), (Nat.le_of_ble_eq_true rfl)⟩ dX7_far_20 ?_
  refine lv_istore (lv' := [(4, .int r_2), (3, .int r_1), (0, .ref m0), (1, .int p0), (2, .int p1)]) hx hb dX7_far_23 hl (by decide) rfl (fun ls hl => ?_)
  refine lv_iload_n hx hb dX7_far_25 rfl (lv_at hl 1 rfl) ?_
  refine lv_iload hx hb dX7_far_26 (lv_at hl 0 rfl) ?_
  refine lv_icmp_le (tgt := 35) hx hb dX7_far_28 (by decide) (fun c_3 => ?_) (fun c_3 => ?_)
  · have hf := ip c_3 hf
    refine lv_iload hx hb dX7_far_35 (lv_at hl 0 rfl) ?_
    exact p_iret (v := r_2) hx hb hr hlocks (Option.some.inj hf) dX7_far_37
  · have hf := iq c_3 hf
    refine lv_iload_n hx hb dX7_far_31 rfl (lv_at hl 1 rfl) ?_
    refine lv_goto (tgt := 37) hx hb dX7_far_32 (by decide) ?_
    exact p_iret (v := r_1) hx hb hr hlocks (Option.some.inj hf) dX7_far_37

def fX7_between_23 (μ : Mo) (p0 p1 p2 p3 : Int32) (v6_23 : Int32) (k7 : Int32 → Int32 → Option (Int32)) : Nat → Int32 → Int32 → Option (Int32)
  | 0, _, _ => none
  | n + 1, v5_23, v7_23 => ((fX7_size μ p2).bind fun r_1 => (if (p3 + r_1) ≤ v7_23 then k7 v5_23 (v6_23 + 1) else ((fX7_at μ p0 v6_23).bind fun r_3 => ((fX7_at μ p2 v7_23).bind fun r_4 => ((fX7_far μ r_3 r_4).bind fun r_5 => (if v5_23 ≤ r_5 then fX7_between_23 μ p0 p1 p2 p3 v6_23 k7 n v5_23 (v7_23 + 1) else fX7_between_23 μ p0 p1 p2 p3 v6_23 k7 n r_5 (v7_23 + 1)))))))
def fX7_between_7 (μ : Mo) (p0 p1 p2 p3 : Int32) : Nat → Int32 → Int32 → Option (Int32)
  | 0, _, _ => none
  | n + 1, v5_7, v6_7 => ((fX7_size μ p0).bind fun r_7 => (if (p1 + r_7) ≤ v6_7 then (some v5_7) else fX7_between_23 μ p0 p1 p2 p3 v6_7 (fX7_between_7 μ p0 p1 p2 p3 n) FU v5_7 p3))
def fX7_between (μ : Mo) (p0 p1 p2 p3 : Int32) : Option (Int32) := fX7_between_7 μ p0 p1 p2 p3 FU (99 : Int32) p1
abbrev rmX7_between : Room := { frames := 3, cells := 0, slots := 0, locals := 66 }
theorem hdX7_between : yX7_between.cls = RX7 ∧ yX7_between.cls ≠ "java/lang/invoke/MethodHandle" ∧ yX7_between.cls ≠ "java/lang/invoke/VarHandle" ∧ (parseMethodDescriptor yX7_between.desc).map (fun d => d.parameters.length) = some 4 := by decide +kernel
set_option maxHeartbeats 4000000 in
set_option maxRecDepth 100000 in
theorem cX7_between_ok (l : Launch) (g : Gg) (m0 m1 m2 m3 m4 : Nat) (μ : Mo) (p0 p1 p2 p3 : Int32) {r : Int32} (hf : fX7_between μ p0 p1 p2 p3 = some r) : Met l yX7_between wsX7_between rmX7_between (va_Pc [.ref m0, .int p0, .int p1, .int p2, .int p3] (PP g (wM g m0 m1 m2 m3 m4 μ))) (vp_Si (fun r' => r' = r)) 0 0 (fun _ => False) := by
  refine Met.ofW (cc := cX7_between) (maxL := 9) (ret := (some .int)) (by decide) rfl ?_
  intro p e s m args below meth c s₁ B hml hv
  obtain ⟨rfl, hP, hE, hZ⟩ := hv
  have hx := B.exec
  have hb := B.bytes
  have hr := B.returns
  have hts := atoms_spec (ws := wsX7_between) B.pre
  have hown : s.vm.findClass RX7 = some m.cls := findClass_of_methodNamed B.named
  have hlocks := B.notSynchronized
  have hS : va_S (fun _ => False) s.heap s.heap [] := va_S.rf
  have hl := lv_entry ([.ref m0, .int p0, .int p1, .int p2, .int p3]) (n := 9) (Nat.le_of_ble_eq_true rfl)
  rw [lg_entry_eq]
  generalize (lg_sl ([.ref m0, .int p0, .int p1, .int p2, .int p3]) ++ List.replicate (9 - (lg_sl ([.ref m0, .int p0, .int p1, .int p2, .int p3])).length) Slot.unset).toArray = ls at hl ⊢
  have hl : lv_has ls 9 [(0, .ref m0), (1, .int p0), (2, .int p1), (3, .int p2), (4, .int p3)] := hl
  have hB7 : ∀ (n7 : Nat) (v5_7 : Int32) (v6_7 : Int32) (ls : Array Slot), lv_has ls 9 [(0, .ref m0), (1, .int p0), (2, .int p1), (3, .int p2), (4, .int p3), (5, .int v5_7), (6, .int v6_7)] → fX7_between_7 μ p0 p1 p2 p3 n7 v5_7 v6_7 = some r → W p l e (headSpec wsX7_between rmX7_between).room s m ([.ref m0, .int p0, .int p1, .int p2, .int p3] : List Value).toArray below meth c s.heap [] 0 0 (MQ below (vp_Si (fun r' => r' = r)) ([.ref m0, .int p0, .int p1, .int p2, .int p3] : List Value).toArray s 0 0 (fun _ => False)) (F0 m 7 ls []) := by
    intro  n7
    induction n7 with
    | zero => intro v5_7 v6_7 ls hl hf; exact nomatch (show (none : Option (Int32)) = some _ from hf)
    | succ n7 ih7 =>
      have hB23 : ∀ (v6_23 : Int32) (n23 : Nat) (v5_23 : Int32) (v7_23 : Int32) (ls : Array Slot), lv_has ls 9 [(0, .ref m0), (1, .int p0), (2, .int p1), (3, .int p2), (4, .int p3), (5, .int v5_23), (6, .int v6_23), (7, .int v7_23)] → fX7_between_23 μ p0 p1 p2 p3 v6_23 (fX7_between_7 μ p0 p1 p2 p3 n7) n23 v5_23 v7_23 = some r → W p l e (headSpec wsX7_between rmX7_between).room s m ([.ref m0, .int p0, .int p1, .int p2, .int p3] : List Value).toArray below meth c s.heap [] 0 0 (MQ below (vp_Si (fun r' => r' = r)) ([.ref m0, .int p0, .int p1, .int p2, .int p3] : List Value).toArray s 0 0 (fun _ => False)) (F0 m 23 ls []) := by
        intro v6_23 n23
        induction n23 with
        | zero => intro v5_23 v7_23 ls hl hf; exact nomatch (show (none : Option (Int32)) = some _ from hf)
        | succ n23 ih23 =>
          intro v5_23 v7_23 ls hl hf
          rw [fX7_between_23] at hf
          refine lv_iload hx hb dX7_between_23 (lv_at hl 7 rfl) ?_
          refine lv_iload hx hb dX7_between_25 (lv_at hl 4 rfl) ?_
          refine lv_aload_n hx hb dX7_between_27 rfl (lv_at hl 0 rfl) ?_
          refine lv_iload_n hx hb dX7_between_28 rfl (lv_at hl 3 rfl) ?_
          obtain ⟨r_1, e_1, hf⟩ := bo hf
          refine pcallV (W0 := (wM g m0 m1 m2 m3 m4 μ)) (As := [.int p2]) (rest := [.int p3, .int v7_23]) [0, 1, 2, 3, 4] 5 0 ⟨hx, hb, hml, hown, hts⟩ hP hE hZ hS (cX7_size_ok l g m0 m1 m2 m3 m4 μ p2 e_1) (cwV 1 hts gX7_between_X7_size rfl rfl rfl hdX7_size ⟨(Nat.le_of_ble_eq_true rfl), (Nat.le_of_ble_eq_true rfl)⟩) rfl rfl rfl rfl rfl hl.1 rfl (Nat.le_of_ble_eq_true rfl) ⟨(Nat.le_of_ble_eq_true rfl), (Nat.le_of_ble_eq_true rfl)⟩ dX7_between_29 ?_
          refine lv_iadd hx hb dX7_between_32 ?_
          refine lv_icmp_ge (tgt := 78) hx hb dX7_between_33 (by decide) (fun c_2 => ?_) (fun c_2 => ?_)
          · have hf := ip c_2 hf
            refine lv_iinc (v := (v6_23 + 1)) (lv' := [(6, .int (v6_23 + 1)), (0, .ref m0), (1, .int p0), (2, .int p1), (3, .int p2), (4, .int p3), (5, .int v5_23), (7, .int v7_23)]) hx hb dX7_between_78 hl (k := 6) rfl rfl (by decide) rfl (fun ls hl => ?_)
            refine lv_goto (tgt := 7) hx hb dX7_between_81 (by decide) ?_
            exact ih7 v5_23 (v6_23 + 1) ls (lv_sub hl [1, 2, 3, 4, 5, 6, 0] rfl) hf
          · have hf := iq c_2 hf
            refine lv_aload_n hx hb dX7_between_36 rfl (lv_at hl 0 rfl) ?_
            refine lv_aload_n hx hb dX7_between_37 rfl (lv_at hl 0 rfl) ?_
            refine lv_iload_n hx hb dX7_between_38 rfl (lv_at hl 1 rfl) ?_
            refine lv_iload hx hb dX7_between_39 (lv_at hl 6 rfl) ?_
            obtain ⟨r_3, e_3, hf⟩ := bo hf
            refine pcallV (W0 := (wM g m0 m1 m2 m3 m4 μ)) (As := [.int p0, .int v6_23]) (rest := [.ref m0]) [0, 1, 2, 3, 4] 5 0 ⟨hx, hb, hml, hown, hts⟩ hP hE hZ hS (cX7_at_ok l g m0 m1 m2 m3 m4 μ p0 v6_23 e_3) (cwV 2 hts gX7_between_X7_at rfl rfl rfl hdX7_at ⟨(Nat.le_of_ble_eq_true rfl), (Nat.le_of_ble_eq_true rfl)⟩) rfl rfl rfl rfl rfl hl.1 rfl (Nat.le_of_ble_eq_true rfl) ⟨(Nat.le_of_ble_eq_true rfl), (Nat.le_of_ble_eq_true rfl)⟩ dX7_between_41 ?_
            refine lv_aload_n hx hb dX7_between_44 rfl (lv_at hl 0 rfl) ?_
            refine lv_iload_n hx hb dX7_between_45 rfl (lv_at hl 3 rfl) ?_
            refine lv_iload hx hb dX7_between_46 (lv_at hl 7 rfl) ?_
            obtain ⟨r_4, e_4, hf⟩ := bo hf
            refine pcallV (W0 := (wM g m0 m1 m2 m3 m4 μ)) (As := [.int p2, .int v7_23]) (rest := [.int r_3, .ref m0]) [0, 1, 2, 3, 4] 5 0 ⟨hx, hb, hml, hown, hts⟩ hP hE hZ hS (cX7_at_ok l g m0 m1 m2 m3 m4 μ p2 v7_23 e_4) (cwV 2 hts gX7_between_X7_at rfl rfl rfl hdX7_at ⟨(Nat.le_of_ble_eq_true rfl), (Nat.le_of_ble_eq_true rfl)⟩) rfl rfl rfl rfl rfl hl.1 rfl (Nat.le_of_ble_eq_true rfl) ⟨(Nat.le_of_ble_eq_true rfl), (Nat.le_of_ble_eq_true rfl)⟩ dX7_between_48 ?_
            obtain ⟨r_5, e_5, hf⟩ := bo hf
            refine pcallV (W0 := (wM g m0 m1 m2 m3 m4 μ)) (As := [.int r_3, .int r_4]) (rest := []) [0, 1, 2, 3, 4] 5 0 ⟨hx, hb, hml, hown, hts⟩ hP hE hZ hS (cX7_far_ok l g m0 m1 m2 m3 m4 μ r_3 r_4 e_5) (cwV 2 hts gX7_between_X7_far rfl rfl rfl hdX7_far ⟨(Nat.le_of_ble_eq_true rfl), (Nat.le_of_ble_eq_true rfl)⟩) rfl rfl rfl rfl rfl hl.1 rfl (Nat.le_of_ble_eq_true rfl) ⟨(Nat.le_of_ble_eq_true rfl), (Nat.le_of_ble_eq_true rfl)⟩ dX7_between_51 ?_
            refine lv_istore (lv' := [(8, .int r_5), (0, .ref m0), (1, .int p0), (2, .int p1), (3, .int p2), (4, .int p3), (5, .int v5_23), (6, .int v6_23), (7, .int v7_23)]) hx hb dX7_between_54 hl (by decide) rfl (fun ls hl => ?_)
            refine lv_iload hx hb dX7_between_56 (lv_at hl 0 rfl) ?_
            refine lv_iload hx hb dX7_between_58 (lv_at hl 6 rfl) ?_
            refine lv_icmp_ge (tgt := 68) hx hb dX7_between_60 (by decide) (fun c_6 => ?_) (fun c_6 => ?_)
            · have hf := ip c_6 hf
              refine lv_iload hx hb dX7_between_68 (lv_at hl 6 rfl) ?_
              refine lv_istore (lv' := [(5, .int v5_23), (8, .int r_5), (0, .ref m0), (1, .int p0), (2, .int p1), (3, .int p2), (4, .int p3), (6, .int v6_23), (7, .int v7_23)]) hx hb dX7_between_70 hl (by decide) rfl (fun ls hl => ?_)
              refine lv_iinc (v := (v7_23 + 1)) (lv' := [(7, .int (v7_23 + 1)), (5, .int v5_23), (8, .int r_5), (0, .ref m0), (1, .int p0), (2, .int p1), (3, .int p2), (4, .int p3), (6, .int v6_23)]) hx hb dX7_between_72 hl (k := 8) rfl rfl (by decide) rfl (fun ls hl => ?_)
              refine lv_goto (tgt := 23) hx hb dX7_between_75 (by decide) ?_
              exact ih23 v5_23 (v7_23 + 1) ls (lv_sub hl [3, 4, 5, 6, 7, 1, 8, 0] rfl) hf
            · have hf := iq c_6 hf
              refine lv_iload hx hb dX7_between_63 (lv_at hl 0 rfl) ?_
              refine lv_goto (tgt := 70) hx hb dX7_between_65 (by decide) ?_
              refine lv_istore (lv' := [(5, .int r_5), (8, .int r_5), (0, .ref m0), (1, .int p0), (2, .int p1), (3, .int p2), (4, .int p3), (6, .int v6_23), (7, .int v7_23)]) hx hb dX7_between_70 hl (by decide) rfl (fun ls hl => ?_)
              refine lv_iinc (v := (v7_23 + 1)) (lv' := [(7, .int (v7_23 + 1)), (5, .int r_5), (8, .int r_5), (0, .ref m0), (1, .int p0), (2, .int p1), (3, .int p2), (4, .int p3), (6, .int v6_23)]) hx hb dX7_between_72 hl (k := 8) rfl rfl (by decide) rfl (fun ls hl => ?_)
              refine lv_goto (tgt := 23) hx hb dX7_between_75 (by decide) ?_
              exact ih23 r_5 (v7_23 + 1) ls (lv_sub hl [3, 4, 5, 6, 7, 1, 8, 0] rfl) hf
      intro v5_7 v6_7 ls hl hf
      rw [fX7_between_7] at hf
      refine lv_iload hx hb dX7_between_7 (lv_at hl 6 rfl) ?_
      refine lv_iload_n hx hb dX7_between_9 rfl (lv_at hl 2 rfl) ?_
      refine lv_aload_n hx hb dX7_between_10 rfl (lv_at hl 0 rfl) ?_
      refine lv_iload_n hx hb dX7_between_11 rfl (lv_at hl 1 rfl) ?_
      obtain ⟨r_7, e_7, hf⟩ := bo hf
      refine pcallV (W0 := (wM g m0 m1 m2 m3 m4 μ)) (As := [.int p0]) (rest := [.int p1, .int v6_7]) [0, 1, 2, 3, 4] 5 0 ⟨hx, hb, hml, hown, hts⟩ hP hE hZ hS (cX7_size_ok l g m0 m1 m2 m3 m4 μ p0 e_7) (cwV 1 hts gX7_between_X7_size rfl rfl rfl hdX7_size ⟨(Nat.le_of_ble_eq_true rfl), (Nat.le_of_ble_eq_true rfl)⟩) rfl rfl rfl rfl rfl hl.1 rfl (Nat.le_of_ble_eq_true rfl) ⟨(Nat.le_of_ble_eq_true rfl), (Nat.le_of_ble_eq_true rfl)⟩ dX7_between_12 ?_
      refine lv_iadd hx hb dX7_between_15 ?_
      refine lv_icmp_ge (tgt := 84) hx hb dX7_between_16 (by decide) (fun c_8 => ?_) (fun c_8 => ?_)
      · have hf := ip c_8 hf
        refine lv_iload hx hb dX7_between_84 (lv_at hl 5 rfl) ?_
        exact p_iret (v := v5_7) hx hb hr hlocks (Option.some.inj hf) dX7_between_86
      · have hf := iq c_8 hf
        refine lv_iload hx hb dX7_between_19 (lv_at hl 4 rfl) ?_
        refine lv_istore (lv' := [(7, .int p3), (0, .ref m0), (1, .int p0), (2, .int p1), (3, .int p2), (4, .int p3), (5, .int v5_7), (6, .int v6_7)]) hx hb dX7_between_21 hl (by decide) rfl (fun ls hl => ?_)
        exact hB23 v6_7 FU v5_7 p3 ls (lv_sub hl [1, 2, 3, 4, 5, 6, 7, 0] rfl) hf
  unfold fX7_between at hf
  refine lv_bipush (v := (99 : Int32)) hx hb dX7_between_0 (by decide) ?_
  refine lv_istore (lv' := [(5, .int (99 : Int32)), (0, .ref m0), (1, .int p0), (2, .int p1), (3, .int p2), (4, .int p3)]) hx hb dX7_between_2 hl (by decide) rfl (fun ls hl => ?_)
  refine lv_iload_n hx hb dX7_between_4 rfl (lv_at hl 3 rfl) ?_
  refine lv_istore (lv' := [(6, .int p1), (5, .int (99 : Int32)), (0, .ref m0), (1, .int p0), (2, .int p1), (3, .int p2), (4, .int p3)]) hx hb dX7_between_5 hl (by decide) rfl (fun ls hl => ?_)
  exact hB7 FU (99 : Int32) p1 ls (lv_sub hl [2, 3, 4, 5, 6, 1, 0] rfl) hf

def fX7_free_66 (μ : Mo) (p0 p1 : Int32) (k6 : Int32 → Int32 → Option (Int32)) (v3_66 : Int32) (v4_66 : Int32) (t0_66 : Int32) : Option (Int32) := (if v3_66 ≤ t0_66 then k6 v3_66 (v4_66 + 1) else k6 t0_66 (v4_66 + 1))
def fX7_free_39 (μ : Mo) (p0 p1 : Int32) (k6 : Int32 → Int32 → Option (Int32)) (v3_39 : Int32) (v4_39 : Int32) (t0_39 : Bool) : Option (Int32) := (if t0_39 = true then ((fX7_of μ v4_39 (3 : Int32)).bind fun r_3 => ((fX7_between μ p0 p1 v4_39 r_3).bind fun r_4 => fX7_free_66 μ p0 p1 k6 v3_39 v4_39 r_4)) else fX7_free_66 μ p0 p1 k6 v3_39 v4_39 (99 : Int32))
def fX7_free_6 (μ : Mo) (p0 p1 : Int32) : Nat → Int32 → Int32 → Option (Int32)
  | 0, _, _ => none
  | n + 1, v3_6, v4_6 => (if (M_row μ (Int32.toNatClampNeg (0 : Int32))) ≤ v4_6 then (some v3_6) else (if v4_6 = p0 then fX7_free_39 μ p0 p1 (fX7_free_6 μ p0 p1 n) v3_6 v4_6 false else ((fX7_of μ v4_6 (3 : Int32)).bind fun r_7 => (if r_7 = (-1 : Int32) then fX7_free_39 μ p0 p1 (fX7_free_6 μ p0 p1 n) v3_6 v4_6 false else fX7_free_39 μ p0 p1 (fX7_free_6 μ p0 p1 n) v3_6 v4_6 true))))
def fX7_free (μ : Mo) (p0 p1 : Int32) : Option (Int32) := fX7_free_6 μ p0 p1 FU (99 : Int32) (0 : Int32)
abbrev rmX7_free : Room := { frames := 4, cells := 0, slots := 0, locals := 94 }
theorem hdX7_free : yX7_free.cls = RX7 ∧ yX7_free.cls ≠ "java/lang/invoke/MethodHandle" ∧ yX7_free.cls ≠ "java/lang/invoke/VarHandle" ∧ (parseMethodDescriptor yX7_free.desc).map (fun d => d.parameters.length) = some 2 := by decide +kernel
theorem fiX7_free_X7 : ∀ w ∈ wsX70, w ∈ wsX7_free := by decide +kernel
theorem flX7_free_7 : (.fieldLink RX7 7 "ContourLabelsModel" "row" "[I" : Cond) ∈ wsX7_free := by decide +kernel
set_option maxHeartbeats 4000000 in
set_option maxRecDepth 100000 in
theorem cX7_free_ok (l : Launch) (g : Gg) (m0 m1 m2 m3 m4 : Nat) (μ : Mo) (p0 p1 : Int32) {r : Int32} (hf : fX7_free μ p0 p1 = some r) : Met l yX7_free wsX7_free rmX7_free (va_Pc [.ref m0, .int p0, .int p1] (PP g (wM g m0 m1 m2 m3 m4 μ))) (vp_Si (fun r' => r' = r)) 0 0 (fun _ => False) := by
  refine Met.ofW (cc := cX7_free) (maxL := 7) (ret := (some .int)) (by decide) rfl ?_
  intro p e s m args below meth c s₁ B hml hv
  obtain ⟨rfl, hP, hE, hZ⟩ := hv
  have hx := B.exec
  have hb := B.bytes
  have hr := B.returns
  have hts := atoms_spec (ws := wsX7_free) B.pre
  have hown : s.vm.findClass RX7 = some m.cls := findClass_of_methodNamed B.named
  have hlocks := B.notSynchronized
  have hS : va_S (fun _ => False) s.heap s.heap [] := va_S.rf
  have hl := lv_entry ([.ref m0, .int p0, .int p1]) (n := 7) (Nat.le_of_ble_eq_true rfl)
  rw [lg_entry_eq]
  generalize (lg_sl ([.ref m0, .int p0, .int p1]) ++ List.replicate (7 - (lg_sl ([.ref m0, .int p0, .int p1])).length) Slot.unset).toArray = ls at hl ⊢
  have hl : lv_has ls 7 [(0, .ref m0), (1, .int p0), (2, .int p1)] := hl
  have hB6 : ∀ (n6 : Nat) (v3_6 : Int32) (v4_6 : Int32) (ls : Array Slot), lv_has ls 7 [(0, .ref m0), (1, .int p0), (2, .int p1), (3, .int v3_6), (4, .int v4_6)] → fX7_free_6 μ p0 p1 n6 v3_6 v4_6 = some r → W p l e (headSpec wsX7_free rmX7_free).room s m ([.ref m0, .int p0, .int p1] : List Value).toArray below meth c s.heap [] 0 0 (MQ below (vp_Si (fun r' => r' = r)) ([.ref m0, .int p0, .int p1] : List Value).toArray s 0 0 (fun _ => False)) (F0 m 6 ls []) := by
    intro  n6
    induction n6 with
    | zero => intro v3_6 v4_6 ls hl hf; exact nomatch (show (none : Option (Int32)) = some _ from hf)
    | succ n6 ih6 =>
      have hB66 : ∀ (v3_66 : Int32) (v4_66 : Int32) (t0_66 : Int32) (ls : Array Slot), lv_has ls 7 [(0, .ref m0), (1, .int p0), (2, .int p1), (3, .int v3_66), (4, .int v4_66)] → fX7_free_66 μ p0 p1 (fX7_free_6 μ p0 p1 n6) v3_66 v4_66 t0_66 = some r → W p l e (headSpec wsX7_free rmX7_free).room s m ([.ref m0, .int p0, .int p1] : List Value).toArray below meth c s.heap [] 0 0 (MQ below (vp_Si (fun r' => r' = r)) ([.ref m0, .int p0, .int p1] : List Value).toArray s 0 0 (fun _ => False)) (F0 m 66 ls [.int t0_66]) := by
        intro  v3_66 v4_66 t0_66 ls hl hf
        unfold fX7_free_66 at hf
        refine lv_istore (lv' := [(6, .int t0_66), (0, .ref m0), (1, .int p0), (2, .int p1), (3, .int v3_66), (4, .int v4_66)]) hx hb dX7_free_66 hl (by decide) rfl (fun ls hl => ?_)
        refine lv_iload hx hb dX7_free_68 (lv_at hl 0 rfl) ?_
        refine lv_iload_n hx hb dX7_free_70 rfl (lv_at hl 4 rfl) ?_
        refine lv_icmp_ge (tgt := 79) hx hb dX7_free_71 (by decide) (fun c_1 => ?_) (fun c_1 => ?_)
        · have hf := ip c_1 hf
          refine lv_iload_n hx hb dX7_free_79 rfl (lv_at hl 4 rfl) ?_
          refine lv_istore_n (lv' := [(3, .int v3_66), (6, .int t0_66), (0, .ref m0), (1, .int p0), (2, .int p1), (4, .int v4_66)]) hx hb dX7_free_80 rfl hl (by decide) rfl (fun ls hl => ?_)
          refine lv_iinc (v := (v4_66 + 1)) (lv' := [(4, .int (v4_66 + 1)), (3, .int v3_66), (6, .int t0_66), (0, .ref m0), (1, .int p0), (2, .int p1)]) hx hb dX7_free_81 hl (k := 5) rfl rfl (by decide) rfl (fun ls hl => ?_)
          refine lv_goto (tgt := 6) hx hb dX7_free_84 (by decide) ?_
          exact ih6 v3_66 (v4_66 + 1) ls (lv_sub hl [3, 4, 5, 1, 0] rfl) hf
        · have hf := iq c_1 hf
          refine lv_iload hx hb dX7_free_74 (lv_at hl 0 rfl) ?_
          refine lv_goto (tgt := 80) hx hb dX7_free_76 (by decide) ?_
          refine lv_istore_n (lv' := [(3, .int t0_66), (6, .int t0_66), (0, .ref m0), (1, .int p0), (2, .int p1), (4, .int v4_66)]) hx hb dX7_free_80 rfl hl (by decide) rfl (fun ls hl => ?_)
          refine lv_iinc (v := (v4_66 + 1)) (lv' := [(4, .int (v4_66 + 1)), (3, .int t0_66), (6, .int t0_66), (0, .ref m0), (1, .int p0), (2, .int p1)]) hx hb dX7_free_81 hl (k := 5) rfl rfl (by decide) rfl (fun ls hl => ?_)
          refine lv_goto (tgt := 6) hx hb dX7_free_84 (by decide) ?_
          exact ih6 t0_66 (v4_66 + 1) ls (lv_sub hl [3, 4, 5, 1, 0] rfl) hf
      have hB39 : ∀ (v3_39 : Int32) (v4_39 : Int32) (t0_39 : Bool) (ls : Array Slot), lv_has ls 7 [(0, .ref m0), (1, .int p0), (2, .int p1), (3, .int v3_39), (4, .int v4_39)] → fX7_free_39 μ p0 p1 (fX7_free_6 μ p0 p1 n6) v3_39 v4_39 t0_39 = some r → W p l e (headSpec wsX7_free rmX7_free).room s m ([.ref m0, .int p0, .int p1] : List Value).toArray below meth c s.heap [] 0 0 (MQ below (vp_Si (fun r' => r' = r)) ([.ref m0, .int p0, .int p1] : List Value).toArray s 0 0 (fun _ => False)) (F0 m 39 ls [.int (b2i t0_39)]) := by
        intro  v3_39 v4_39 t0_39 ls hl hf
        unfold fX7_free_39 at hf
        refine lv_istore (lv' := [(5, .int (b2i t0_39)), (0, .ref m0), (1, .int p0), (2, .int p1), (3, .int v3_39), (4, .int v4_39)]) hx hb dX7_free_39 hl (by decide) rfl (fun ls hl => ?_)
        refine lv_iload hx hb dX7_free_41 (lv_at hl 0 rfl) ?_
        refine lv_beq (tgt := 64) hx hb dX7_free_43 (by decide) (fun c_2 => ?_) (fun c_2 => ?_)
        · have hf := iq c_2 hf
          refine lv_bipush (v := (99 : Int32)) hx hb dX7_free_64 (by decide) ?_
          exact hB66 v3_39 v4_39 (99 : Int32) ls (lv_sub hl [1, 2, 3, 4, 5] rfl) hf
        · have hf := ip c_2 hf
          refine lv_aload_n hx hb dX7_free_46 rfl (lv_at hl 1 rfl) ?_
          refine lv_iload_n hx hb dX7_free_47 rfl (lv_at hl 2 rfl) ?_
          refine lv_iload_n hx hb dX7_free_48 rfl (lv_at hl 3 rfl) ?_
          refine lv_iload hx hb dX7_free_49 (lv_at hl 5 rfl) ?_
          refine lv_aload_n hx hb dX7_free_51 rfl (lv_at hl 1 rfl) ?_
          refine lv_iload hx hb dX7_free_52 (lv_at hl 5 rfl) ?_
          refine lv_iconst (v := (3 : Int32)) hx hb dX7_free_54 (by decide) ?_
          obtain ⟨r_3, e_3, hf⟩ := bo hf
          refine pcallV (W0 := (wM g m0 m1 m2 m3 m4 μ)) (As := [.int v4_39, .int (3 : Int32)]) (rest := [.int v4_39, .int p1, .int p0, .ref m0]) [0, 1, 2, 3, 4] 5 0 ⟨hx, hb, hml, hown, hts⟩ hP hE hZ hS (cX7_of_ok l g m0 m1 m2 m3 m4 μ v4_39 (3 : Int32) e_3) (cwV 2 hts gX7_free_X7_of rfl rfl rfl hdX7_of ⟨(Nat.le_of_ble_eq_true rfl), (Nat.le_of_ble_eq_true rfl)⟩) rfl rfl rfl rfl rfl hl.1 rfl (Nat.le_of_ble_eq_true rfl) ⟨(Nat.le_of_ble_eq_true rfl), (Nat.le_of_ble_eq_true rfl)⟩ dX7_free_55 ?_
          obtain ⟨r_4, e_4, hf⟩ := bo hf
          refine pcallV (W0 := (wM g m0 m1 m2 m3 m4 μ)) (As := [.int p0, .int p1, .int v4_39, .int r_3]) (rest := []) [0, 1, 2, 3, 4] 5 0 ⟨hx, hb, hml, hown, hts⟩ hP hE hZ hS (cX7_between_ok l g m0 m1 m2 m3 m4 μ p0 p1 v4_39 r_3 e_4) (cwV 4 hts gX7_free_X7_between rfl rfl rfl hdX7_between ⟨(Nat.le_of_ble_eq_true rfl), (Nat.le_of_ble_eq_true rfl)⟩) rfl rfl rfl rfl rfl hl.1 rfl (Nat.le_of_ble_eq_true rfl) ⟨(Nat.le_of_ble_eq_true rfl), (Nat.le_of_ble_eq_true rfl)⟩ dX7_free_58 ?_
          refine lv_goto (tgt := 66) hx hb dX7_free_61 (by decide) ?_
          exact hB66 v3_39 v4_39 r_4 ls (lv_sub hl [1, 2, 3, 4, 5] rfl) hf
      intro v3_6 v4_6 ls hl hf
      rw [fX7_free_6] at hf
      refine lv_iload hx hb dX7_free_6 (lv_at hl 4 rfl) ?_
      refine lv_aload_n hx hb dX7_free_8 rfl (lv_at hl 0 rfl) ?_
      refine va_get (v := .ref m1) (C := RX7) (T := TX7) (N := 13) hx hb hts fiX7_free_X7 hown hE.1 hP 0 rfl rfl 0 (by decide) (hts _ flX7_free_7) (fun _ h9 => h9) rfl dX7_free_9 ?_
      refine lv_iconst (v := (0 : Int32)) hx hb dX7_free_12 (by decide) ?_
      refine va_iald hx hb hE.1 hP 1 0 rfl rfl (vin (by decide)) dX7_free_13 ?_
      refine lv_icmp_ge (tgt := 87) hx hb dX7_free_14 (by decide) (fun c_5 => ?_) (fun c_5 => ?_)
      · have hf := ip c_5 hf
        refine lv_iload_n hx hb dX7_free_87 rfl (lv_at hl 3 rfl) ?_
        exact p_iret (v := v3_6) hx hb hr hlocks (Option.some.inj hf) dX7_free_88
      · have hf := iq c_5 hf
        refine lv_iload hx hb dX7_free_17 (lv_at hl 4 rfl) ?_
        refine lv_iload_n hx hb dX7_free_19 rfl (lv_at hl 1 rfl) ?_
        refine lv_icmp_eq (tgt := 38) hx hb dX7_free_20 (by decide) (fun c_6 => ?_) (fun c_6 => ?_)
        · have hf := ip c_6 hf
          refine lv_iconst (v := (0 : Int32)) hx hb dX7_free_38 (by decide) ?_
          exact hB39 v3_6 v4_6 false ls (lv_sub hl [0, 1, 2, 3, 4] rfl) hf
        · have hf := iq c_6 hf
          refine lv_aload_n hx hb dX7_free_23 rfl (lv_at hl 0 rfl) ?_
          refine lv_iload hx hb dX7_free_24 (lv_at hl 4 rfl) ?_
          refine lv_iconst (v := (3 : Int32)) hx hb dX7_free_26 (by decide) ?_
          obtain ⟨r_7, e_7, hf⟩ := bo hf
          refine pcallV (W0 := (wM g m0 m1 m2 m3 m4 μ)) (As := [.int v4_6, .int (3 : Int32)]) (rest := []) [0, 1, 2, 3, 4] 5 0 ⟨hx, hb, hml, hown, hts⟩ hP hE hZ hS (cX7_of_ok l g m0 m1 m2 m3 m4 μ v4_6 (3 : Int32) e_7) (cwV 2 hts gX7_free_X7_of rfl rfl rfl hdX7_of ⟨(Nat.le_of_ble_eq_true rfl), (Nat.le_of_ble_eq_true rfl)⟩) rfl rfl rfl rfl rfl hl.1 rfl (Nat.le_of_ble_eq_true rfl) ⟨(Nat.le_of_ble_eq_true rfl), (Nat.le_of_ble_eq_true rfl)⟩ dX7_free_27 ?_
          refine lv_iconst (v := (-1 : Int32)) hx hb dX7_free_30 (by decide) ?_
          refine lv_icmp_eq (tgt := 38) hx hb dX7_free_31 (by decide) (fun c_8 => ?_) (fun c_8 => ?_)
          · have hf := ip c_8 hf
            refine lv_iconst (v := (0 : Int32)) hx hb dX7_free_38 (by decide) ?_
            exact hB39 v3_6 v4_6 false ls (lv_sub hl [0, 1, 2, 3, 4] rfl) hf
          · have hf := iq c_8 hf
            refine lv_iconst (v := (1 : Int32)) hx hb dX7_free_34 (by decide) ?_
            refine lv_goto (tgt := 39) hx hb dX7_free_35 (by decide) ?_
            exact hB39 v3_6 v4_6 true ls (lv_sub hl [0, 1, 2, 3, 4] rfl) hf
  unfold fX7_free at hf
  refine lv_bipush (v := (99 : Int32)) hx hb dX7_free_0 (by decide) ?_
  refine lv_istore_n (lv' := [(3, .int (99 : Int32)), (0, .ref m0), (1, .int p0), (2, .int p1)]) hx hb dX7_free_2 rfl hl (by decide) rfl (fun ls hl => ?_)
  refine lv_iconst (v := (0 : Int32)) hx hb dX7_free_3 (by decide) ?_
  refine lv_istore (lv' := [(4, .int (0 : Int32)), (3, .int (99 : Int32)), (0, .ref m0), (1, .int p0), (2, .int p1)]) hx hb dX7_free_4 hl (by decide) rfl (fun ls hl => ?_)
  exact hB6 FU (99 : Int32) (0 : Int32) ls (lv_sub hl [2, 3, 4, 1, 0] rfl) hf

def fX7_whyNoLabel (μ : Mo) (p0 p1 : Int32) : Option (Int32) := ((fX7_isPlace μ p0 p1).bind fun r_1 => (if r_1 = true then ((fX7_bends μ p0 p1).bind fun r_3 => (if r_3 ≤ (1 : Int32) then ((fX7_at μ p0 p1).bind fun r_5 => ((fX7_size μ p0).bind fun r_6 => ((fX7_at μ p0 ((p1 + r_6) - (1 : Int32))).bind fun r_7 => ((fX7_apart (r_5 / (24 : Int32)) (r_7 / (24 : Int32))).bind fun r_8 => ((fX7_apart (irm r_5 (24 : Int32)) (irm r_7 (24 : Int32))).bind fun r_9 => (if r_8 ≤ r_9 then ((fX7_free μ p0 p1).bind fun r_11 => (if (M_row μ (Int32.toNatClampNeg (1 : Int32))) ≤ r_11 then (some (0 : Int32)) else (some (4 : Int32)))) else (some (3 : Int32)))))))) else (some (2 : Int32)))) else (some (1 : Int32))))
abbrev rmX7_whyNoLabel : Room := { frames := 7, cells := 0, slots := 0, locals := 155 }
theorem hdX7_whyNoLabel : yX7_whyNoLabel.cls = RX7 ∧ yX7_whyNoLabel.cls ≠ "java/lang/invoke/MethodHandle" ∧ yX7_whyNoLabel.cls ≠ "java/lang/invoke/VarHandle" ∧ (parseMethodDescriptor yX7_whyNoLabel.desc).map (fun d => d.parameters.length) = some 2 := by decide +kernel
theorem fiX7_whyNoLabel_X7 : ∀ w ∈ wsX70, w ∈ wsX7_whyNoLabel := by decide +kernel
theorem flX7_whyNoLabel_7 : (.fieldLink RX7 7 "ContourLabelsModel" "row" "[I" : Cond) ∈ wsX7_whyNoLabel := by decide +kernel
set_option maxHeartbeats 4000000 in
set_option maxRecDepth 100000 in
theorem cX7_whyNoLabel_ok (l : Launch) (g : Gg) (m0 m1 m2 m3 m4 : Nat) (μ : Mo) (p0 p1 : Int32) {r : Int32} (hf : fX7_whyNoLabel μ p0 p1 = some r) : Met l yX7_whyNoLabel wsX7_whyNoLabel rmX7_whyNoLabel (va_Pc [.ref m0, .int p0, .int p1] (PP g (wM g m0 m1 m2 m3 m4 μ))) (vp_Si (fun r' => r' = r)) 0 0 (fun _ => False) := by
  refine Met.ofW (cc := cX7_whyNoLabel) (maxL := 5) (ret := (some .int)) (by decide) rfl ?_
  intro p e s m args below meth c s₁ B hml hv
  obtain ⟨rfl, hP, hE, hZ⟩ := hv
  have hx := B.exec
  have hb := B.bytes
  have hr := B.returns
  have hts := atoms_spec (ws := wsX7_whyNoLabel) B.pre
  have hown : s.vm.findClass RX7 = some m.cls := findClass_of_methodNamed B.named
  have hlocks := B.notSynchronized
  have hS : va_S (fun _ => False) s.heap s.heap [] := va_S.rf
  have hl := lv_entry ([.ref m0, .int p0, .int p1]) (n := 5) (Nat.le_of_ble_eq_true rfl)
  rw [lg_entry_eq]
  generalize (lg_sl ([.ref m0, .int p0, .int p1]) ++ List.replicate (5 - (lg_sl ([.ref m0, .int p0, .int p1])).length) Slot.unset).toArray = ls at hl ⊢
  have hl : lv_has ls 5 [(0, .ref m0), (1, .int p0), (2, .int p1)] := hl
  unfold fX7_whyNoLabel at hf
  refine lv_aload_n hx hb dX7_whyNoLabel_0 rfl (lv_at hl 0 rfl) ?_
  refine lv_iload_n hx hb dX7_whyNoLabel_1 rfl (lv_at hl 1 rfl) ?_
  refine lv_iload_n hx hb dX7_whyNoLabel_2 rfl (lv_at hl 2 rfl) ?_
  obtain ⟨r_1, e_1, hf⟩ := bo hf
  refine pcallV (W0 := (wM g m0 m1 m2 m3 m4 μ)) (As := [.int p0, .int p1]) (rest := []) [0, 1, 2, 3, 4] 5 0 ⟨hx, hb, hml, hown, hts⟩ hP hE hZ hS (cX7_isPlace_ok l g m0 m1 m2 m3 m4 μ p0 p1 e_1) (cwV 2 hts gX7_whyNoLabel_X7_isPlace rfl rfl rfl hdX7_isPlace ⟨(Nat.le_of_ble_eq_true rfl), (Nat.le_of_ble_eq_true rfl)⟩) rfl rfl rfl rfl rfl hl.1 rfl (Nat.le_of_ble_eq_true rfl) ⟨(Nat.le_of_ble_eq_true rfl), (Nat.le_of_ble_eq_true rfl)⟩ dX7_whyNoLabel_3 ?_
  refine lv_bne (tgt := 11) hx hb dX7_whyNoLabel_6 (by decide) (fun c_2 => ?_) (fun c_2 => ?_)
  · have hf := ip c_2 hf
    refine lv_aload_n hx hb dX7_whyNoLabel_11 rfl (lv_at hl 0 rfl) ?_
    refine lv_iload_n hx hb dX7_whyNoLabel_12 rfl (lv_at hl 1 rfl) ?_
    refine lv_iload_n hx hb dX7_whyNoLabel_13 rfl (lv_at hl 2 rfl) ?_
    obtain ⟨r_3, e_3, hf⟩ := bo hf
    refine pcallV (W0 := (wM g m0 m1 m2 m3 m4 μ)) (As := [.int p0, .int p1]) (rest := []) [0, 1, 2, 3, 4] 5 0 ⟨hx, hb, hml, hown, hts⟩ hP hE hZ hS (cX7_bends_ok l g m0 m1 m2 m3 m4 μ p0 p1 e_3) (cwV 2 hts gX7_whyNoLabel_X7_bends rfl rfl rfl hdX7_bends ⟨(Nat.le_of_ble_eq_true rfl), (Nat.le_of_ble_eq_true rfl)⟩) rfl rfl rfl rfl rfl hl.1 rfl (Nat.le_of_ble_eq_true rfl) ⟨(Nat.le_of_ble_eq_true rfl), (Nat.le_of_ble_eq_true rfl)⟩ dX7_whyNoLabel_14 ?_
    refine lv_iconst (v := (1 : Int32)) hx hb dX7_whyNoLabel_17 (by decide) ?_
    refine lv_icmp_le (tgt := 23) hx hb dX7_whyNoLabel_18 (by decide) (fun c_4 => ?_) (fun c_4 => ?_)
    · have hf := ip c_4 hf
      refine lv_aload_n hx hb dX7_whyNoLabel_23 rfl (lv_at hl 0 rfl) ?_
      refine lv_iload_n hx hb dX7_whyNoLabel_24 rfl (lv_at hl 1 rfl) ?_
      refine lv_iload_n hx hb dX7_whyNoLabel_25 rfl (lv_at hl 2 rfl) ?_
      obtain ⟨r_5, e_5, hf⟩ := bo hf
      refine pcallV (W0 := (wM g m0 m1 m2 m3 m4 μ)) (As := [.int p0, .int p1]) (rest := []) [0, 1, 2, 3, 4] 5 0 ⟨hx, hb, hml, hown, hts⟩ hP hE hZ hS (cX7_at_ok l g m0 m1 m2 m3 m4 μ p0 p1 e_5) (cwV 2 hts gX7_whyNoLabel_X7_at rfl rfl rfl hdX7_at ⟨(Nat.le_of_ble_eq_true rfl), (Nat.le_of_ble_eq_true rfl)⟩) rfl rfl rfl rfl rfl hl.1 rfl (Nat.le_of_ble_eq_true rfl) ⟨(Nat.le_of_ble_eq_true rfl), (Nat.le_of_ble_eq_true rfl)⟩ dX7_whyNoLabel_26 ?_
      refine lv_istore_n (lv' := [(3, .int r_5), (0, .ref m0), (1, .int p0), (2, .int p1)]) hx hb dX7_whyNoLabel_29 rfl hl (by decide) rfl (fun ls hl => ?_)
      refine lv_aload_n hx hb dX7_whyNoLabel_30 rfl (lv_at hl 1 rfl) ?_
      refine lv_iload_n hx hb dX7_whyNoLabel_31 rfl (lv_at hl 2 rfl) ?_
      refine lv_iload_n hx hb dX7_whyNoLabel_32 rfl (lv_at hl 3 rfl) ?_
      refine lv_aload_n hx hb dX7_whyNoLabel_33 rfl (lv_at hl 1 rfl) ?_
      refine lv_iload_n hx hb dX7_whyNoLabel_34 rfl (lv_at hl 2 rfl) ?_
      obtain ⟨r_6, e_6, hf⟩ := bo hf
      refine pcallV (W0 := (wM g m0 m1 m2 m3 m4 μ)) (As := [.int p0]) (rest := [.int p1, .int p0, .ref m0]) [0, 1, 2, 3, 4] 5 0 ⟨hx, hb, hml, hown, hts⟩ hP hE hZ hS (cX7_size_ok l g m0 m1 m2 m3 m4 μ p0 e_6) (cwV 1 hts gX7_whyNoLabel_X7_size rfl rfl rfl hdX7_size ⟨(Nat.le_of_ble_eq_true rfl), (Nat.le_of_ble_eq_true rfl)⟩) rfl rfl rfl rfl rfl hl.1 rfl (Nat.le_of_ble_eq_true rfl) ⟨(Nat.le_of_ble_eq_true rfl), (Nat.le_of_ble_eq_true rfl)⟩ dX7_whyNoLabel_35 ?_
      refine lv_iadd hx hb dX7_whyNoLabel_38 ?_
      refine lv_iconst (v := (1 : Int32)) hx hb dX7_whyNoLabel_39 (by decide) ?_
      refine lv_isub hx hb dX7_whyNoLabel_40 ?_
      obtain ⟨r_7, e_7, hf⟩ := bo hf
      refine pcallV (W0 := (wM g m0 m1 m2 m3 m4 μ)) (As := [.int p0, .int ((p1 + r_6) - (1 : Int32))]) (rest := []) [0, 1, 2, 3, 4] 5 0 ⟨hx, hb, hml, hown, hts⟩ hP hE hZ hS (cX7_at_ok l g m0 m1 m2 m3 m4 μ p0 ((p1 + r_6) - (1 : Int32)) e_7) (cwV 2 hts gX7_whyNoLabel_X7_at rfl rfl rfl hdX7_at ⟨(Nat.le_of_ble_eq_true rfl), (Nat.le_of_ble_eq_true rfl)⟩) rfl rfl rfl rfl rfl hl.1 rfl (Nat.le_of_ble_eq_true rfl) ⟨(Nat.le_of_ble_eq_true rfl), (Nat.le_of_ble_eq_true rfl)⟩ dX7_whyNoLabel_41 ?_
      refine lv_istore (lv' := [(4, .int r_7), (3, .int r_5), (0, .ref m0), (1, .int p0), (2, .int p1)]) hx hb dX7_whyNoLabel_44 hl (by decide) rfl (fun ls hl => ?_)
      refine lv_iload_n hx hb dX7_whyNoLabel_46 rfl (lv_at hl 1 rfl) ?_
      refine lv_bipush (v := (24 : Int32)) hx hb dX7_whyNoLabel_47 (by decide) ?_
      refine lv_idiv hx hb dX7_whyNoLabel_49 (by decide) ?_
      refine lv_iload hx hb dX7_whyNoLabel_50 (lv_at hl 0 rfl) ?_
      refine lv_bipush (v := (24 : Int32)) hx hb dX7_whyNoLabel_52 (by decide) ?_
      refine lv_idiv hx hb dX7_whyNoLabel_54 (by decide) ?_
      obtain ⟨r_8, e_8, hf⟩ := bo hf
      refine pcallS (W0 := (wM g m0 m1 m2 m3 m4 μ)) (As := [.int (r_5 / (24 : Int32)), .int (r_7 / (24 : Int32))]) (rest := []) [] ⟨hx, hb, hml, hown, hts⟩ hP hE hZ hS (cX7_apart_ok l g  (r_5 / (24 : Int32)) (r_7 / (24 : Int32)) e_8) (va_cwS 2 hts gX7_whyNoLabel_X7_apart rfl rfl rfl hdX7_apart.2 ⟨(Nat.le_of_ble_eq_true rfl), (Nat.le_of_ble_eq_true rfl)⟩) rfl rfl hl.1 rfl (Nat.le_of_ble_eq_true rfl) ⟨(Nat.le_of_ble_eq_true rfl), (Nat.le_of_ble_eq_true rfl)⟩ dX7_whyNoLabel_55 ?_
      refine lv_iload_n hx hb dX7_whyNoLabel_58 rfl (lv_at hl 1 rfl) ?_
      refine lv_bipush (v := (24 : Int32)) hx hb dX7_whyNoLabel_59 (by decide) ?_
      refine lv_irm hx hb dX7_whyNoLabel_61 (by decide) ?_
      refine lv_iload hx hb dX7_whyNoLabel_62 (lv_at hl 0 rfl) ?_
      refine lv_bipush (v := (24 : Int32)) hx hb dX7_whyNoLabel_64 (by decide) ?_
      refine lv_irm hx hb dX7_whyNoLabel_66 (by decide) ?_
      obtain ⟨r_9, e_9, hf⟩ := bo hf
      refine pcallS (W0 := (wM g m0 m1 m2 m3 m4 μ)) (As := [.int (irm r_5 (24 : Int32)), .int (irm r_7 (24 : Int32))]) (rest := [.int r_8]) [] ⟨hx, hb, hml, hown, hts⟩ hP hE hZ hS (cX7_apart_ok l g  (irm r_5 (24 : Int32)) (irm r_7 (24 : Int32)) e_9) (va_cwS 2 hts gX7_whyNoLabel_X7_apart rfl rfl rfl hdX7_apart.2 ⟨(Nat.le_of_ble_eq_true rfl), (Nat.le_of_ble_eq_true rfl)⟩) rfl rfl hl.1 rfl (Nat.le_of_ble_eq_true rfl) ⟨(Nat.le_of_ble_eq_true rfl), (Nat.le_of_ble_eq_true rfl)⟩ dX7_whyNoLabel_67 ?_
      refine lv_icmp_le (tgt := 75) hx hb dX7_whyNoLabel_70 (by decide) (fun c_10 => ?_) (fun c_10 => ?_)
      · have hf := ip c_10 hf
        refine lv_aload_n hx hb dX7_whyNoLabel_75 rfl (lv_at hl 2 rfl) ?_
        refine lv_iload_n hx hb dX7_whyNoLabel_76 rfl (lv_at hl 3 rfl) ?_
        refine lv_iload_n hx hb dX7_whyNoLabel_77 rfl (lv_at hl 4 rfl) ?_
        obtain ⟨r_11, e_11, hf⟩ := bo hf
        refine pcallV (W0 := (wM g m0 m1 m2 m3 m4 μ)) (As := [.int p0, .int p1]) (rest := []) [0, 1, 2, 3, 4] 5 0 ⟨hx, hb, hml, hown, hts⟩ hP hE hZ hS (cX7_free_ok l g m0 m1 m2 m3 m4 μ p0 p1 e_11) (cwV 2 hts gX7_whyNoLabel_X7_free rfl rfl rfl hdX7_free ⟨(Nat.le_of_ble_eq_true rfl), (Nat.le_of_ble_eq_true rfl)⟩) rfl rfl rfl rfl rfl hl.1 rfl (Nat.le_of_ble_eq_true rfl) ⟨(Nat.le_of_ble_eq_true rfl), (Nat.le_of_ble_eq_true rfl)⟩ dX7_whyNoLabel_78 ?_
        refine lv_aload_n hx hb dX7_whyNoLabel_81 rfl (lv_at hl 2 rfl) ?_
        refine va_get (v := .ref m1) (C := RX7) (T := TX7) (N := 13) hx hb hts fiX7_whyNoLabel_X7 hown hE.1 hP 0 rfl rfl 0 (by decide) (hts _ flX7_whyNoLabel_7) (fun _ h9 => h9) rfl dX7_whyNoLabel_82 ?_
        refine lv_iconst (v := (1 : Int32)) hx hb dX7_whyNoLabel_85 (by decide) ?_
        refine va_iald hx hb hE.1 hP 1 0 rfl rfl (vin (by decide)) dX7_whyNoLabel_86 ?_
        refine lv_icmp_ge (tgt := 94) hx hb dX7_whyNoLabel_87 (by decide) (fun c_12 => ?_) (fun c_12 => ?_)
        · have hf := ip c_12 hf
          refine lv_iconst (v := (0 : Int32)) hx hb dX7_whyNoLabel_94 (by decide) ?_
          exact p_iret (v := (0 : Int32)) hx hb hr hlocks (Option.some.inj hf) dX7_whyNoLabel_95
        · have hf := iq c_12 hf
          refine lv_iconst (v := (4 : Int32)) hx hb dX7_whyNoLabel_90 (by decide) ?_
          refine lv_goto (tgt := 95) hx hb dX7_whyNoLabel_91 (by decide) ?_
          exact p_iret (v := (4 : Int32)) hx hb hr hlocks (Option.some.inj hf) dX7_whyNoLabel_95
      · have hf := iq c_10 hf
        refine lv_iconst (v := (3 : Int32)) hx hb dX7_whyNoLabel_73 (by decide) ?_
        exact p_iret (v := (3 : Int32)) hx hb hr hlocks (Option.some.inj hf) dX7_whyNoLabel_74
    · have hf := iq c_4 hf
      refine lv_iconst (v := (2 : Int32)) hx hb dX7_whyNoLabel_21 (by decide) ?_
      exact p_iret (v := (2 : Int32)) hx hb hr hlocks (Option.some.inj hf) dX7_whyNoLabel_22
  · have hf := iq c_2 hf
    refine lv_iconst (v := (1 : Int32)) hx hb dX7_whyNoLabel_9 (by decide) ?_
    exact p_iret (v := (1 : Int32)) hx hb hr hlocks (Option.some.inj hf) dX7_whyNoLabel_10

def fX7_best_91 (μ : Mo) (p0 : Int32) (k10 : Int32 → Int32 → Int32 → Int32 → Option (Int32)) (v3_91 : Int32) (v4_91 : Int32) (v5_91 : Int32) (v6_91 : Int32) (v7_91 : Int32) (v8_91 : Bool) (t0_91 : Int32) : Option (Int32) := (if v8_91 = true then k10 t0_91 v6_91 v7_91 (v5_91 + 1) else k10 t0_91 v3_91 v4_91 (v5_91 + 1))
def fX7_best_10 (μ : Mo) (p0 : Int32) : Nat → Int32 → Int32 → Int32 → Int32 → Option (Int32)
  | 0, _, _, _, _ => none
  | n + 1, v2_10, v3_10, v4_10, v5_10 => ((fX7_of μ p0 (2 : Int32)).bind fun r_4 => (if r_4 < v5_10 then (some v2_10) else ((fX7_whyNoLabel μ p0 v5_10).bind fun r_6 => (if r_6 = 0 then ((fX7_bends μ p0 v5_10).bind fun r_8 => ((fX7_free μ p0 v5_10).bind fun r_9 => (if v2_10 = (-1 : Int32) then fX7_best_91 μ p0 (fX7_best_10 μ p0 n) v3_10 v4_10 v5_10 r_8 r_9 true v5_10 else (if r_8 < v3_10 then fX7_best_91 μ p0 (fX7_best_10 μ p0 n) v3_10 v4_10 v5_10 r_8 r_9 true v5_10 else (if r_8 = v3_10 then (if r_9 ≤ v4_10 then fX7_best_91 μ p0 (fX7_best_10 μ p0 n) v3_10 v4_10 v5_10 r_8 r_9 false v2_10 else fX7_best_91 μ p0 (fX7_best_10 μ p0 n) v3_10 v4_10 v5_10 r_8 r_9 true v5_10) else fX7_best_91 μ p0 (fX7_best_10 μ p0 n) v3_10 v4_10 v5_10 r_8 r_9 false v2_10))))) else fX7_best_10 μ p0 n v2_10 v3_10 v4_10 (v5_10 + 1)))))
def fX7_best (μ : Mo) (p0 : Int32) : Option (Int32) := fX7_best_10 μ p0 FU (-1 : Int32) (0 : Int32) (0 : Int32) (0 : Int32)
abbrev rmX7_best : Room := { frames := 8, cells := 0, slots := 0, locals := 179 }
theorem hdX7_best : yX7_best.cls = RX7 ∧ yX7_best.cls ≠ "java/lang/invoke/MethodHandle" ∧ yX7_best.cls ≠ "java/lang/invoke/VarHandle" ∧ (parseMethodDescriptor yX7_best.desc).map (fun d => d.parameters.length) = some 1 := by decide +kernel
set_option maxHeartbeats 4000000 in
set_option maxRecDepth 100000 in
theorem cX7_best_ok (l : Launch) (g : Gg) (m0 m1 m2 m3 m4 : Nat) (μ : Mo) (p0 : Int32) {r : Int32} (hf : fX7_best μ p0 = some r) : Met l yX7_best wsX7_best rmX7_best (va_Pc [.ref m0, .int p0] (PP g (wM g m0 m1 m2 m3 m4 μ))) (vp_Si (fun r' => r' = r)) 0 0 (fun _ => False) := by
  refine Met.ofW (cc := cX7_best) (maxL := 9) (ret := (some .int)) (by decide) rfl ?_
  intro p e s m args below meth c s₁ B hml hv
  obtain ⟨rfl, hP, hE, hZ⟩ := hv
  have hx := B.exec
  have hb := B.bytes
  have hr := B.returns
  have hts := atoms_spec (ws := wsX7_best) B.pre
  have hown : s.vm.findClass RX7 = some m.cls := findClass_of_methodNamed B.named
  have hlocks := B.notSynchronized
  have hS : va_S (fun _ => False) s.heap s.heap [] := va_S.rf
  have hl := lv_entry ([.ref m0, .int p0]) (n := 9) (Nat.le_of_ble_eq_true rfl)
  rw [lg_entry_eq]
  generalize (lg_sl ([.ref m0, .int p0]) ++ List.replicate (9 - (lg_sl ([.ref m0, .int p0])).length) Slot.unset).toArray = ls at hl ⊢
  have hl : lv_has ls 9 [(0, .ref m0), (1, .int p0)] := hl
  have hB10 : ∀ (n10 : Nat) (v2_10 : Int32) (v3_10 : Int32) (v4_10 : Int32) (v5_10 : Int32) (ls : Array Slot), lv_has ls 9 [(0, .ref m0), (1, .int p0), (2, .int v2_10), (3, .int v3_10), (4, .int v4_10), (5, .int v5_10)] → fX7_best_10 μ p0 n10 v2_10 v3_10 v4_10 v5_10 = some r → W p l e (headSpec wsX7_best rmX7_best).room s m ([.ref m0, .int p0] : List Value).toArray below meth c s.heap [] 0 0 (MQ below (vp_Si (fun r' => r' = r)) ([.ref m0, .int p0] : List Value).toArray s 0 0 (fun _ => False)) (F0 m 10 ls []) := by
    intro  n10
    induction n10 with
    | zero => intro v2_10 v3_10 v4_10 v5_10 ls hl hf; exact nomatch (show (none : Option (Int32)) = some _ from hf)
    | succ n10 ih10 =>
      have hB91 : ∀ (v3_91 : Int32) (v4_91 : Int32) (v5_91 : Int32) (v6_91 : Int32) (v7_91 : Int32) (v8_91 : Bool) (t0_91 : Int32) (ls : Array Slot), lv_has ls 9 [(0, .ref m0), (1, .int p0), (3, .int v3_91), (4, .int v4_91), (5, .int v5_91), (6, .int v6_91), (7, .int v7_91), (8, .int (b2i v8_91))] → fX7_best_91 μ p0 (fX7_best_10 μ p0 n10) v3_91 v4_91 v5_91 v6_91 v7_91 v8_91 t0_91 = some r → W p l e (headSpec wsX7_best rmX7_best).room s m ([.ref m0, .int p0] : List Value).toArray below meth c s.heap [] 0 0 (MQ below (vp_Si (fun r' => r' = r)) ([.ref m0, .int p0] : List Value).toArray s 0 0 (fun _ => False)) (F0 m 91 ls [.int t0_91]) := by
        intro  v3_91 v4_91 v5_91 v6_91 v7_91 v8_91 t0_91 ls hl hf
        unfold fX7_best_91 at hf
        refine lv_istore_n (lv' := [(2, .int t0_91), (0, .ref m0), (1, .int p0), (3, .int v3_91), (4, .int v4_91), (5, .int v5_91), (6, .int v6_91), (7, .int v7_91), (8, .int (b2i v8_91))]) hx hb dX7_best_91 rfl hl (by decide) rfl (fun ls hl => ?_)
        refine lv_iload hx hb dX7_best_92 (lv_at hl 8 rfl) ?_
        refine lv_beq (tgt := 102) hx hb dX7_best_94 (by decide) (fun c_1 => ?_) (fun c_1 => ?_)
        · have hf := iq c_1 hf
          refine lv_iload_n hx hb dX7_best_102 rfl (lv_at hl 3 rfl) ?_
          refine lv_istore_n (lv' := [(3, .int v3_91), (2, .int t0_91), (0, .ref m0), (1, .int p0), (4, .int v4_91), (5, .int v5_91), (6, .int v6_91), (7, .int v7_91), (8, .int (b2i v8_91))]) hx hb dX7_best_103 rfl hl (by decide) rfl (fun ls hl => ?_)
          refine lv_iload hx hb dX7_best_104 (lv_at hl 8 rfl) ?_
          refine lv_beq (tgt := 114) hx hb dX7_best_106 (by decide) (fun c_2 => ?_) (fun c_2 => absurd c_2 c_1)
          refine lv_iload hx hb dX7_best_114 (lv_at hl 4 rfl) ?_
          refine lv_istore (lv' := [(4, .int v4_91), (3, .int v3_91), (2, .int t0_91), (0, .ref m0), (1, .int p0), (5, .int v5_91), (6, .int v6_91), (7, .int v7_91), (8, .int (b2i v8_91))]) hx hb dX7_best_116 hl (by decide) rfl (fun ls hl => ?_)
          refine lv_iinc (v := (v5_91 + 1)) (lv' := [(5, .int (v5_91 + 1)), (4, .int v4_91), (3, .int v3_91), (2, .int t0_91), (0, .ref m0), (1, .int p0), (6, .int v6_91), (7, .int v7_91), (8, .int (b2i v8_91))]) hx hb dX7_best_118 hl (k := 5) rfl rfl (by decide) rfl (fun ls hl => ?_)
          refine lv_goto (tgt := 10) hx hb dX7_best_121 (by decide) ?_
          exact ih10 t0_91 v3_91 v4_91 (v5_91 + 1) ls (lv_sub hl [4, 5, 3, 2, 1, 0] rfl) hf
        · have hf := ip c_1 hf
          refine lv_iload hx hb dX7_best_97 (lv_at hl 6 rfl) ?_
          refine lv_goto (tgt := 103) hx hb dX7_best_99 (by decide) ?_
          refine lv_istore_n (lv' := [(3, .int v6_91), (2, .int t0_91), (0, .ref m0), (1, .int p0), (4, .int v4_91), (5, .int v5_91), (6, .int v6_91), (7, .int v7_91), (8, .int (b2i v8_91))]) hx hb dX7_best_103 rfl hl (by decide) rfl (fun ls hl => ?_)
          refine lv_iload hx hb dX7_best_104 (lv_at hl 8 rfl) ?_
          refine lv_beq (tgt := 114) hx hb dX7_best_106 (by decide) (fun c_3 => absurd c_1 c_3) (fun c_3 => ?_)
          refine lv_iload hx hb dX7_best_109 (lv_at hl 7 rfl) ?_
          refine lv_goto (tgt := 116) hx hb dX7_best_111 (by decide) ?_
          refine lv_istore (lv' := [(4, .int v7_91), (3, .int v6_91), (2, .int t0_91), (0, .ref m0), (1, .int p0), (5, .int v5_91), (6, .int v6_91), (7, .int v7_91), (8, .int (b2i v8_91))]) hx hb dX7_best_116 hl (by decide) rfl (fun ls hl => ?_)
          refine lv_iinc (v := (v5_91 + 1)) (lv' := [(5, .int (v5_91 + 1)), (4, .int v7_91), (3, .int v6_91), (2, .int t0_91), (0, .ref m0), (1, .int p0), (6, .int v6_91), (7, .int v7_91), (8, .int (b2i v8_91))]) hx hb dX7_best_118 hl (k := 5) rfl rfl (by decide) rfl (fun ls hl => ?_)
          refine lv_goto (tgt := 10) hx hb dX7_best_121 (by decide) ?_
          exact ih10 t0_91 v6_91 v7_91 (v5_91 + 1) ls (lv_sub hl [4, 5, 3, 2, 1, 0] rfl) hf
      intro v2_10 v3_10 v4_10 v5_10 ls hl hf
      rw [fX7_best_10] at hf
      refine lv_iload hx hb dX7_best_10 (lv_at hl 5 rfl) ?_
      refine lv_aload_n hx hb dX7_best_12 rfl (lv_at hl 0 rfl) ?_
      refine lv_iload_n hx hb dX7_best_13 rfl (lv_at hl 1 rfl) ?_
      refine lv_iconst (v := (2 : Int32)) hx hb dX7_best_14 (by decide) ?_
      obtain ⟨r_4, e_4, hf⟩ := bo hf
      refine pcallV (W0 := (wM g m0 m1 m2 m3 m4 μ)) (As := [.int p0, .int (2 : Int32)]) (rest := [.int v5_10]) [0, 1, 2, 3, 4] 5 0 ⟨hx, hb, hml, hown, hts⟩ hP hE hZ hS (cX7_of_ok l g m0 m1 m2 m3 m4 μ p0 (2 : Int32) e_4) (cwV 2 hts gX7_best_X7_of rfl rfl rfl hdX7_of ⟨(Nat.le_of_ble_eq_true rfl), (Nat.le_of_ble_eq_true rfl)⟩) rfl rfl rfl rfl rfl hl.1 rfl (Nat.le_of_ble_eq_true rfl) ⟨(Nat.le_of_ble_eq_true rfl), (Nat.le_of_ble_eq_true rfl)⟩ dX7_best_15 ?_
      refine lv_icmp_gt (tgt := 124) hx hb dX7_best_18 (by decide) (fun c_5 => ?_) (fun c_5 => ?_)
      · have hf := ip c_5 hf
        refine lv_iload_n hx hb dX7_best_124 rfl (lv_at hl 2 rfl) ?_
        exact p_iret (v := v2_10) hx hb hr hlocks (Option.some.inj hf) dX7_best_125
      · have hf := iq c_5 hf
        refine lv_aload_n hx hb dX7_best_21 rfl (lv_at hl 0 rfl) ?_
        refine lv_iload_n hx hb dX7_best_22 rfl (lv_at hl 1 rfl) ?_
        refine lv_iload hx hb dX7_best_23 (lv_at hl 5 rfl) ?_
        obtain ⟨r_6, e_6, hf⟩ := bo hf
        refine pcallV (W0 := (wM g m0 m1 m2 m3 m4 μ)) (As := [.int p0, .int v5_10]) (rest := []) [0, 1, 2, 3, 4] 5 0 ⟨hx, hb, hml, hown, hts⟩ hP hE hZ hS (cX7_whyNoLabel_ok l g m0 m1 m2 m3 m4 μ p0 v5_10 e_6) (cwV 2 hts gX7_best_X7_whyNoLabel rfl rfl rfl hdX7_whyNoLabel ⟨(Nat.le_of_ble_eq_true rfl), (Nat.le_of_ble_eq_true rfl)⟩) rfl rfl rfl rfl rfl hl.1 rfl (Nat.le_of_ble_eq_true rfl) ⟨(Nat.le_of_ble_eq_true rfl), (Nat.le_of_ble_eq_true rfl)⟩ dX7_best_25 ?_
        refine lv_if_ne (tgt := 118) hx hb dX7_best_28 (by decide) (fun c_7 => ?_) (fun c_7 => ?_)
        · have hf := iq c_7 hf
          refine lv_iinc (v := (v5_10 + 1)) (lv' := [(5, .int (v5_10 + 1)), (0, .ref m0), (1, .int p0), (2, .int v2_10), (3, .int v3_10), (4, .int v4_10)]) hx hb dX7_best_118 hl (k := 5) rfl rfl (by decide) rfl (fun ls hl => ?_)
          refine lv_goto (tgt := 10) hx hb dX7_best_121 (by decide) ?_
          exact ih10 v2_10 v3_10 v4_10 (v5_10 + 1) ls (lv_sub hl [1, 2, 3, 4, 5, 0] rfl) hf
        · have hf := ip c_7 hf
          refine lv_aload_n hx hb dX7_best_31 rfl (lv_at hl 0 rfl) ?_
          refine lv_iload_n hx hb dX7_best_32 rfl (lv_at hl 1 rfl) ?_
          refine lv_iload hx hb dX7_best_33 (lv_at hl 5 rfl) ?_
          obtain ⟨r_8, e_8, hf⟩ := bo hf
          refine pcallV (W0 := (wM g m0 m1 m2 m3 m4 μ)) (As := [.int p0, .int v5_10]) (rest := []) [0, 1, 2, 3, 4] 5 0 ⟨hx, hb, hml, hown, hts⟩ hP hE hZ hS (cX7_bends_ok l g m0 m1 m2 m3 m4 μ p0 v5_10 e_8) (cwV 2 hts gX7_best_X7_bends rfl rfl rfl hdX7_bends ⟨(Nat.le_of_ble_eq_true rfl), (Nat.le_of_ble_eq_true rfl)⟩) rfl rfl rfl rfl rfl hl.1 rfl (Nat.le_of_ble_eq_true rfl) ⟨(Nat.le_of_ble_eq_true rfl), (Nat.le_of_ble_eq_true rfl)⟩ dX7_best_35 ?_
          refine lv_istore (lv' := [(6, .int r_8), (0, .ref m0), (1, .int p0), (2, .int v2_10), (3, .int v3_10), (4, .int v4_10), (5, .int v5_10)]) hx hb dX7_best_38 hl (by decide) rfl (fun ls hl => ?_)
          refine lv_aload_n hx hb dX7_best_40 rfl (lv_at hl 1 rfl) ?_
          refine lv_iload_n hx hb dX7_best_41 rfl (lv_at hl 2 rfl) ?_
          refine lv_iload hx hb dX7_best_42 (lv_at hl 6 rfl) ?_
          obtain ⟨r_9, e_9, hf⟩ := bo hf
          refine pcallV (W0 := (wM g m0 m1 m2 m3 m4 μ)) (As := [.int p0, .int v5_10]) (rest := []) [0, 1, 2, 3, 4] 5 0 ⟨hx, hb, hml, hown, hts⟩ hP hE hZ hS (cX7_free_ok l g m0 m1 m2 m3 m4 μ p0 v5_10 e_9) (cwV 2 hts gX7_best_X7_free rfl rfl rfl hdX7_free ⟨(Nat.le_of_ble_eq_true rfl), (Nat.le_of_ble_eq_true rfl)⟩) rfl rfl rfl rfl rfl hl.1 rfl (Nat.le_of_ble_eq_true rfl) ⟨(Nat.le_of_ble_eq_true rfl), (Nat.le_of_ble_eq_true rfl)⟩ dX7_best_44 ?_
          refine lv_istore (lv' := [(7, .int r_9), (6, .int r_8), (0, .ref m0), (1, .int p0), (2, .int v2_10), (3, .int v3_10), (4, .int v4_10), (5, .int v5_10)]) hx hb dX7_best_47 hl (by decide) rfl (fun ls hl => ?_)
          refine lv_iload_n hx hb dX7_best_49 rfl (lv_at hl 4 rfl) ?_
          refine lv_iconst (v := (-1 : Int32)) hx hb dX7_best_50 (by decide) ?_
          refine lv_icmp_eq (tgt := 73) hx hb dX7_best_51 (by decide) (fun c_10 => ?_) (fun c_10 => ?_)
          · have hf := ip c_10 hf
            refine lv_iconst (v := (1 : Int32)) hx hb dX7_best_73 (by decide) ?_
            refine lv_goto (tgt := 78) hx hb dX7_best_74 (by decide) ?_
            refine lv_istore (lv' := [(8, .int (1 : Int32)), (7, .int r_9), (6, .int r_8), (0, .ref m0), (1, .int p0), (2, .int v2_10), (3, .int v3_10), (4, .int v4_10), (5, .int v5_10)]) hx hb dX7_best_78 hl (by decide) rfl (fun ls hl => ?_)
            refine lv_iload hx hb dX7_best_80 (lv_at hl 0 rfl) ?_
            refine lv_if_eq (tgt := 90) hx hb dX7_best_82 (by decide) (fun c_11 => absurd c_11 (by decide)) (fun c_11 => ?_)
            refine lv_iload hx hb dX7_best_85 (lv_at hl 8 rfl) ?_
            refine lv_goto (tgt := 91) hx hb dX7_best_87 (by decide) ?_
            exact hB91 v3_10 v4_10 v5_10 r_8 r_9 true v5_10 ls (lv_sub hl [3, 4, 6, 7, 8, 2, 1, 0] rfl) hf
          · have hf := iq c_10 hf
            refine lv_iload hx hb dX7_best_54 (lv_at hl 1 rfl) ?_
            refine lv_iload_n hx hb dX7_best_56 rfl (lv_at hl 5 rfl) ?_
            refine lv_icmp_lt (tgt := 73) hx hb dX7_best_57 (by decide) (fun c_12 => ?_) (fun c_12 => ?_)
            · have hf := ip c_12 hf
              refine lv_iconst (v := (1 : Int32)) hx hb dX7_best_73 (by decide) ?_
              refine lv_goto (tgt := 78) hx hb dX7_best_74 (by decide) ?_
              refine lv_istore (lv' := [(8, .int (1 : Int32)), (7, .int r_9), (6, .int r_8), (0, .ref m0), (1, .int p0), (2, .int v2_10), (3, .int v3_10), (4, .int v4_10), (5, .int v5_10)]) hx hb dX7_best_78 hl (by decide) rfl (fun ls hl => ?_)
              refine lv_iload hx hb dX7_best_80 (lv_at hl 0 rfl) ?_
              refine lv_if_eq (tgt := 90) hx hb dX7_best_82 (by decide) (fun c_13 => absurd c_13 (by decide)) (fun c_13 => ?_)
              refine lv_iload hx hb dX7_best_85 (lv_at hl 8 rfl) ?_
              refine lv_goto (tgt := 91) hx hb dX7_best_87 (by decide) ?_
              exact hB91 v3_10 v4_10 v5_10 r_8 r_9 true v5_10 ls (lv_sub hl [3, 4, 6, 7, 8, 2, 1, 0] rfl) hf
            · have hf := iq c_12 hf
              refine lv_iload hx hb dX7_best_60 (lv_at hl 1 rfl) ?_
              refine lv_iload_n hx hb dX7_best_62 rfl (lv_at hl 5 rfl) ?_
              refine lv_icmp_ne (tgt := 77) hx hb dX7_best_63 (by decide) (fun c_14 => ?_) (fun c_14 => ?_)
              · have hf := iq c_14 hf
                refine lv_iconst (v := (0 : Int32)) hx hb dX7_best_77 (by decide) ?_
                refine lv_istore (lv' := [(8, .int (0 : Int32)), (7, .int r_9), (6, .int r_8), (0, .ref m0), (1, .int p0), (2, .int v2_10), (3, .int v3_10), (4, .int v4_10), (5, .int v5_10)]) hx hb dX7_best_78 hl (by decide) rfl (fun ls hl => ?_)
                refine lv_iload hx hb dX7_best_80 (lv_at hl 0 rfl) ?_
                refine lv_if_eq (tgt := 90) hx hb dX7_best_82 (by decide) (fun c_15 => ?_) (fun c_15 => absurd (by decide) c_15)
                refine lv_iload_n hx hb dX7_best_90 rfl (lv_at hl 5 rfl) ?_
                exact hB91 v3_10 v4_10 v5_10 r_8 r_9 false v2_10 ls (lv_sub hl [3, 4, 6, 7, 8, 2, 1, 0] rfl) hf
              · have hf := ip c_14 hf
                refine lv_iload hx hb dX7_best_66 (lv_at hl 0 rfl) ?_
                refine lv_iload hx hb dX7_best_68 (lv_at hl 6 rfl) ?_
                refine lv_icmp_le (tgt := 77) hx hb dX7_best_70 (by decide) (fun c_16 => ?_) (fun c_16 => ?_)
                · have hf := ip c_16 hf
                  refine lv_iconst (v := (0 : Int32)) hx hb dX7_best_77 (by decide) ?_
                  refine lv_istore (lv' := [(8, .int (0 : Int32)), (7, .int r_9), (6, .int r_8), (0, .ref m0), (1, .int p0), (2, .int v2_10), (3, .int v3_10), (4, .int v4_10), (5, .int v5_10)]) hx hb dX7_best_78 hl (by decide) rfl (fun ls hl => ?_)
                  refine lv_iload hx hb dX7_best_80 (lv_at hl 0 rfl) ?_
                  refine lv_if_eq (tgt := 90) hx hb dX7_best_82 (by decide) (fun c_17 => ?_) (fun c_17 => absurd (by decide) c_17)
                  refine lv_iload_n hx hb dX7_best_90 rfl (lv_at hl 5 rfl) ?_
                  exact hB91 v3_10 v4_10 v5_10 r_8 r_9 false v2_10 ls (lv_sub hl [3, 4, 6, 7, 8, 2, 1, 0] rfl) hf
                · have hf := iq c_16 hf
                  refine lv_iconst (v := (1 : Int32)) hx hb dX7_best_73 (by decide) ?_
                  refine lv_goto (tgt := 78) hx hb dX7_best_74 (by decide) ?_
                  refine lv_istore (lv' := [(8, .int (1 : Int32)), (7, .int r_9), (6, .int r_8), (0, .ref m0), (1, .int p0), (2, .int v2_10), (3, .int v3_10), (4, .int v4_10), (5, .int v5_10)]) hx hb dX7_best_78 hl (by decide) rfl (fun ls hl => ?_)
                  refine lv_iload hx hb dX7_best_80 (lv_at hl 0 rfl) ?_
                  refine lv_if_eq (tgt := 90) hx hb dX7_best_82 (by decide) (fun c_18 => absurd c_18 (by decide)) (fun c_18 => ?_)
                  refine lv_iload hx hb dX7_best_85 (lv_at hl 8 rfl) ?_
                  refine lv_goto (tgt := 91) hx hb dX7_best_87 (by decide) ?_
                  exact hB91 v3_10 v4_10 v5_10 r_8 r_9 true v5_10 ls (lv_sub hl [3, 4, 6, 7, 8, 2, 1, 0] rfl) hf
  unfold fX7_best at hf
  refine lv_iconst (v := (-1 : Int32)) hx hb dX7_best_0 (by decide) ?_
  refine lv_istore_n (lv' := [(2, .int (-1 : Int32)), (0, .ref m0), (1, .int p0)]) hx hb dX7_best_1 rfl hl (by decide) rfl (fun ls hl => ?_)
  refine lv_iconst (v := (0 : Int32)) hx hb dX7_best_2 (by decide) ?_
  refine lv_istore_n (lv' := [(3, .int (0 : Int32)), (2, .int (-1 : Int32)), (0, .ref m0), (1, .int p0)]) hx hb dX7_best_3 rfl hl (by decide) rfl (fun ls hl => ?_)
  refine lv_iconst (v := (0 : Int32)) hx hb dX7_best_4 (by decide) ?_
  refine lv_istore (lv' := [(4, .int (0 : Int32)), (3, .int (0 : Int32)), (2, .int (-1 : Int32)), (0, .ref m0), (1, .int p0)]) hx hb dX7_best_5 hl (by decide) rfl (fun ls hl => ?_)
  refine lv_iconst (v := (0 : Int32)) hx hb dX7_best_7 (by decide) ?_
  refine lv_istore (lv' := [(5, .int (0 : Int32)), (4, .int (0 : Int32)), (3, .int (0 : Int32)), (2, .int (-1 : Int32)), (0, .ref m0), (1, .int p0)]) hx hb dX7_best_8 hl (by decide) rfl (fun ls hl => ?_)
  exact hB10 FU (-1 : Int32) (0 : Int32) (0 : Int32) (0 : Int32) ls (lv_sub hl [4, 5, 3, 2, 1, 0] rfl) hf

def fX7_labelled_4 (μ : Mo) : Nat → Int32 → Int32 → Option (Int32)
  | 0, _, _ => none
  | n + 1, v1_4, v2_4 => (if (M_row μ (Int32.toNatClampNeg (0 : Int32))) ≤ v2_4 then (some v1_4) else ((fX7_of μ v2_4 (3 : Int32)).bind fun r_2 => (if r_2 = (-1 : Int32) then fX7_labelled_4 μ n (v1_4 + (0 : Int32)) (v2_4 + 1) else fX7_labelled_4 μ n (v1_4 + (1 : Int32)) (v2_4 + 1))))
def fX7_labelled (μ : Mo) : Option (Int32) := fX7_labelled_4 μ FU (0 : Int32) (0 : Int32)
abbrev rmX7_labelled : Room := { frames := 1, cells := 0, slots := 0, locals := 22 }
theorem hdX7_labelled : yX7_labelled.cls = RX7 ∧ yX7_labelled.cls ≠ "java/lang/invoke/MethodHandle" ∧ yX7_labelled.cls ≠ "java/lang/invoke/VarHandle" ∧ (parseMethodDescriptor yX7_labelled.desc).map (fun d => d.parameters.length) = some 0 := by decide +kernel
theorem fiX7_labelled_X7 : ∀ w ∈ wsX70, w ∈ wsX7_labelled := by decide +kernel
theorem flX7_labelled_7 : (.fieldLink RX7 7 "ContourLabelsModel" "row" "[I" : Cond) ∈ wsX7_labelled := by decide +kernel
set_option maxHeartbeats 4000000 in
set_option maxRecDepth 100000 in
theorem cX7_labelled_ok (l : Launch) (g : Gg) (m0 m1 m2 m3 m4 : Nat) (μ : Mo) {r : Int32} (hf : fX7_labelled μ = some r) : Met l yX7_labelled wsX7_labelled rmX7_labelled (va_Pc [.ref m0] (PP g (wM g m0 m1 m2 m3 m4 μ))) (vp_Si (fun r' => r' = r)) 0 0 (fun _ => False) := by
  refine Met.ofW (cc := cX7_labelled) (maxL := 3) (ret := (some .int)) (by decide) rfl ?_
  intro p e s m args below meth c s₁ B hml hv
  obtain ⟨rfl, hP, hE, hZ⟩ := hv
  have hx := B.exec
  have hb := B.bytes
  have hr := B.returns
  have hts := atoms_spec (ws := wsX7_labelled) B.pre
  have hown : s.vm.findClass RX7 = some m.cls := findClass_of_methodNamed B.named
  have hlocks := B.notSynchronized
  have hS : va_S (fun _ => False) s.heap s.heap [] := va_S.rf
  have hl := lv_entry ([.ref m0]) (n := 3) (Nat.le_of_ble_eq_true rfl)
  rw [lg_entry_eq]
  generalize (lg_sl ([.ref m0]) ++ List.replicate (3 - (lg_sl ([.ref m0])).length) Slot.unset).toArray = ls at hl ⊢
  have hl : lv_has ls 3 [(0, .ref m0)] := hl
  have hB4 : ∀ (n4 : Nat) (v1_4 : Int32) (v2_4 : Int32) (ls : Array Slot), lv_has ls 3 [(0, .ref m0), (1, .int v1_4), (2, .int v2_4)] → fX7_labelled_4 μ n4 v1_4 v2_4 = some r → W p l e (headSpec wsX7_labelled rmX7_labelled).room s m ([.ref m0] : List Value).toArray below meth c s.heap [] 0 0 (MQ below (vp_Si (fun r' => r' = r)) ([.ref m0] : List Value).toArray s 0 0 (fun _ => False)) (F0 m 4 ls []) := by
    intro  n4
    induction n4 with
    | zero => intro v1_4 v2_4 ls hl hf; exact nomatch (show (none : Option (Int32)) = some _ from hf)
    | succ n4 ih4 =>
      intro v1_4 v2_4 ls hl hf
      rw [fX7_labelled_4] at hf
      refine lv_iload_n hx hb dX7_labelled_4 rfl (lv_at hl 2 rfl) ?_
      refine lv_aload_n hx hb dX7_labelled_5 rfl (lv_at hl 0 rfl) ?_
      refine va_get (v := .ref m1) (C := RX7) (T := TX7) (N := 13) hx hb hts fiX7_labelled_X7 hown hE.1 hP 0 rfl rfl 0 (by decide) (hts _ flX7_labelled_7) (fun _ h9 => h9) rfl dX7_labelled_6 ?_
      refine lv_iconst (v := (0 : Int32)) hx hb dX7_labelled_9 (by decide) ?_
      refine va_iald hx hb hE.1 hP 1 0 rfl rfl (vin (by decide)) dX7_labelled_10 ?_
      refine lv_icmp_ge (tgt := 38) hx hb dX7_labelled_11 (by decide) (fun c_1 => ?_) (fun c_1 => ?_)
      · have hf := ip c_1 hf
        refine lv_iload_n hx hb dX7_labelled_38 rfl (lv_at hl 1 rfl) ?_
        exact p_iret (v := v1_4) hx hb hr hlocks (Option.some.inj hf) dX7_labelled_39
      · have hf := iq c_1 hf
        refine lv_iload_n hx hb dX7_labelled_14 rfl (lv_at hl 1 rfl) ?_
        refine lv_aload_n hx hb dX7_labelled_15 rfl (lv_at hl 0 rfl) ?_
        refine lv_iload_n hx hb dX7_labelled_16 rfl (lv_at hl 2 rfl) ?_
        refine lv_iconst (v := (3 : Int32)) hx hb dX7_labelled_17 (by decide) ?_
        obtain ⟨r_2, e_2, hf⟩ := bo hf
        refine pcallV (W0 := (wM g m0 m1 m2 m3 m4 μ)) (As := [.int v2_4, .int (3 : Int32)]) (rest := [.int v1_4]) [0, 1, 2, 3, 4] 5 0 ⟨hx, hb, hml, hown, hts⟩ hP hE hZ hS (cX7_of_ok l g m0 m1 m2 m3 m4 μ v2_4 (3 : Int32) e_2) (cwV 2 hts gX7_labelled_X7_of rfl rfl rfl hdX7_of ⟨(Nat.le_of_ble_eq_true rfl), (Nat.le_of_ble_eq_true rfl)⟩) rfl rfl rfl rfl rfl hl.1 rfl (Nat.le_of_ble_eq_true rfl) ⟨(Nat.le_of_ble_eq_true rfl), (Nat.le_of_ble_eq_true rfl)⟩ dX7_labelled_18 ?_
        refine lv_iconst (v := (-1 : Int32)) hx hb dX7_labelled_21 (by decide) ?_
        refine lv_icmp_eq (tgt := 29) hx hb dX7_labelled_22 (by decide) (fun c_3 => ?_) (fun c_3 => ?_)
        · have hf := ip c_3 hf
          refine lv_iconst (v := (0 : Int32)) hx hb dX7_labelled_29 (by decide) ?_
          refine lv_iadd hx hb dX7_labelled_30 ?_
          refine lv_istore_n (lv' := [(1, .int (v1_4 + (0 : Int32))), (0, .ref m0), (2, .int v2_4)]) hx hb dX7_labelled_31 rfl hl (by decide) rfl (fun ls hl => ?_)
          refine lv_iinc (v := (v2_4 + 1)) (lv' := [(2, .int (v2_4 + 1)), (1, .int (v1_4 + (0 : Int32))), (0, .ref m0)]) hx hb dX7_labelled_32 hl (k := 2) rfl rfl (by decide) rfl (fun ls hl => ?_)
          refine lv_goto (tgt := 4) hx hb dX7_labelled_35 (by decide) ?_
          exact ih4 (v1_4 + (0 : Int32)) (v2_4 + 1) ls (lv_sub hl [2, 1, 0] rfl) hf
        · have hf := iq c_3 hf
          refine lv_iconst (v := (1 : Int32)) hx hb dX7_labelled_25 (by decide) ?_
          refine lv_goto (tgt := 30) hx hb dX7_labelled_26 (by decide) ?_
          refine lv_iadd hx hb dX7_labelled_30 ?_
          refine lv_istore_n (lv' := [(1, .int (v1_4 + (1 : Int32))), (0, .ref m0), (2, .int v2_4)]) hx hb dX7_labelled_31 rfl hl (by decide) rfl (fun ls hl => ?_)
          refine lv_iinc (v := (v2_4 + 1)) (lv' := [(2, .int (v2_4 + 1)), (1, .int (v1_4 + (1 : Int32))), (0, .ref m0)]) hx hb dX7_labelled_32 hl (k := 2) rfl rfl (by decide) rfl (fun ls hl => ?_)
          refine lv_goto (tgt := 4) hx hb dX7_labelled_35 (by decide) ?_
          exact ih4 (v1_4 + (1 : Int32)) (v2_4 + 1) ls (lv_sub hl [2, 1, 0] rfl) hf
  unfold fX7_labelled at hf
  refine lv_iconst (v := (0 : Int32)) hx hb dX7_labelled_0 (by decide) ?_
  refine lv_istore_n (lv' := [(1, .int (0 : Int32)), (0, .ref m0)]) hx hb dX7_labelled_1 rfl hl (by decide) rfl (fun ls hl => ?_)
  refine lv_iconst (v := (0 : Int32)) hx hb dX7_labelled_2 (by decide) ?_
  refine lv_istore_n (lv' := [(2, .int (0 : Int32)), (1, .int (0 : Int32)), (0, .ref m0)]) hx hb dX7_labelled_3 rfl hl (by decide) rfl (fun ls hl => ?_)
  exact hB4 FU (0 : Int32) (0 : Int32) ls (lv_sub hl [2, 1, 0] rfl) hf

def fX7_byLevel_74 (μ : Mo) (p0 : Int32) (v2_20 : Int32) (v3_20 : Int32) (k4 : Int32 → Int32 → Option (Int32)) (k20 : Int32 → Int32 → Option (Int32)) (v4_74 : Int32) (v5_74 : Int32) (t0_74 : Bool) : Option (Int32) := (if t0_74 = true then k20 (v4_74 + (1 : Int32)) (v5_74 + 1) else k20 (v4_74 + (0 : Int32)) (v5_74 + 1))
def fX7_byLevel_20 (μ : Mo) (p0 : Int32) (v2_20 : Int32) (v3_20 : Int32) (k4 : Int32 → Int32 → Option (Int32)) : Nat → Int32 → Int32 → Option (Int32)
  | 0, _, _ => none
  | n + 1, v4_20, v5_20 => (if (M_row μ (Int32.toNatClampNeg (0 : Int32))) ≤ v5_20 then (if v4_20 = p0 then k4 v3_20 (v3_20 + 1) else k4 v2_20 (v3_20 + 1)) else ((fX7_of μ v5_20 (0 : Int32)).bind fun r_4 => ((fX7_of μ v3_20 (0 : Int32)).bind fun r_5 => (if r_4 < r_5 then fX7_byLevel_74 μ p0 v2_20 v3_20 k4 (fX7_byLevel_20 μ p0 v2_20 v3_20 k4 n) v4_20 v5_20 true else ((fX7_of μ v5_20 (0 : Int32)).bind fun r_7 => ((fX7_of μ v3_20 (0 : Int32)).bind fun r_8 => (if r_7 = r_8 then (if v3_20 ≤ v5_20 then fX7_byLevel_74 μ p0 v2_20 v3_20 k4 (fX7_byLevel_20 μ p0 v2_20 v3_20 k4 n) v4_20 v5_20 false else fX7_byLevel_74 μ p0 v2_20 v3_20 k4 (fX7_byLevel_20 μ p0 v2_20 v3_20 k4 n) v4_20 v5_20 true) else fX7_byLevel_74 μ p0 v2_20 v3_20 k4 (fX7_byLevel_20 μ p0 v2_20 v3_20 k4 n) v4_20 v5_20 false)))))))
def fX7_byLevel_4 (μ : Mo) (p0 : Int32) : Nat → Int32 → Int32 → Option (Int32)
  | 0, _, _ => none
  | n + 1, v2_4, v3_4 => (if (M_row μ (Int32.toNatClampNeg (0 : Int32))) ≤ v3_4 then (some v2_4) else fX7_byLevel_20 μ p0 v2_4 v3_4 (fX7_byLevel_4 μ p0 n) FU (0 : Int32) (0 : Int32))
def fX7_byLevel (μ : Mo) (p0 : Int32) : Option (Int32) := fX7_byLevel_4 μ p0 FU (-1 : Int32) (0 : Int32)
abbrev rmX7_byLevel : Room := { frames := 1, cells := 0, slots := 0, locals := 22 }
theorem hdX7_byLevel : yX7_byLevel.cls = RX7 ∧ yX7_byLevel.cls ≠ "java/lang/invoke/MethodHandle" ∧ yX7_byLevel.cls ≠ "java/lang/invoke/VarHandle" ∧ (parseMethodDescriptor yX7_byLevel.desc).map (fun d => d.parameters.length) = some 1 := by decide +kernel
theorem fiX7_byLevel_X7 : ∀ w ∈ wsX70, w ∈ wsX7_byLevel := by decide +kernel
theorem flX7_byLevel_7 : (.fieldLink RX7 7 "ContourLabelsModel" "row" "[I" : Cond) ∈ wsX7_byLevel := by decide +kernel
set_option maxHeartbeats 4000000 in
set_option maxRecDepth 100000 in
theorem cX7_byLevel_ok (l : Launch) (g : Gg) (m0 m1 m2 m3 m4 : Nat) (μ : Mo) (p0 : Int32) {r : Int32} (hf : fX7_byLevel μ p0 = some r) : Met l yX7_byLevel wsX7_byLevel rmX7_byLevel (va_Pc [.ref m0, .int p0] (PP g (wM g m0 m1 m2 m3 m4 μ))) (vp_Si (fun r' => r' = r)) 0 0 (fun _ => False) := by
  refine Met.ofW (cc := cX7_byLevel) (maxL := 7) (ret := (some .int)) (by decide) rfl ?_
  intro p e s m args below meth c s₁ B hml hv
  obtain ⟨rfl, hP, hE, hZ⟩ := hv
  have hx := B.exec
  have hb := B.bytes
  have hr := B.returns
  have hts := atoms_spec (ws := wsX7_byLevel) B.pre
  have hown : s.vm.findClass RX7 = some m.cls := findClass_of_methodNamed B.named
  have hlocks := B.notSynchronized
  have hS : va_S (fun _ => False) s.heap s.heap [] := va_S.rf
  have hl := lv_entry ([.ref m0, .int p0]) (n := 7) (Nat.le_of_ble_eq_true rfl)
  rw [lg_entry_eq]
  generalize (lg_sl ([.ref m0, .int p0]) ++ List.replicate (7 - (lg_sl ([.ref m0, .int p0])).length) Slot.unset).toArray = ls at hl ⊢
  have hl : lv_has ls 7 [(0, .ref m0), (1, .int p0)] := hl
  have hB4 : ∀ (n4 : Nat) (v2_4 : Int32) (v3_4 : Int32) (ls : Array Slot), lv_has ls 7 [(0, .ref m0), (1, .int p0), (2, .int v2_4), (3, .int v3_4)] → fX7_byLevel_4 μ p0 n4 v2_4 v3_4 = some r → W p l e (headSpec wsX7_byLevel rmX7_byLevel).room s m ([.ref m0, .int p0] : List Value).toArray below meth c s.heap [] 0 0 (MQ below (vp_Si (fun r' => r' = r)) ([.ref m0, .int p0] : List Value).toArray s 0 0 (fun _ => False)) (F0 m 4 ls []) := by
    intro  n4
    induction n4 with
    | zero => intro v2_4 v3_4 ls hl hf; exact nomatch (show (none : Option (Int32)) = some _ from hf)
    | succ n4 ih4 =>
      have hB20 : ∀ (v2_20 : Int32) (v3_20 : Int32) (n20 : Nat) (v4_20 : Int32) (v5_20 : Int32) (ls : Array Slot), lv_has ls 7 [(0, .ref m0), (1, .int p0), (2, .int v2_20), (3, .int v3_20), (4, .int v4_20), (5, .int v5_20)] → fX7_byLevel_20 μ p0 v2_20 v3_20 (fX7_byLevel_4 μ p0 n4) n20 v4_20 v5_20 = some r → W p l e (headSpec wsX7_byLevel rmX7_byLevel).room s m ([.ref m0, .int p0] : List Value).toArray below meth c s.heap [] 0 0 (MQ below (vp_Si (fun r' => r' = r)) ([.ref m0, .int p0] : List Value).toArray s 0 0 (fun _ => False)) (F0 m 20 ls []) := by
        intro v2_20 v3_20 n20
        induction n20 with
        | zero => intro v4_20 v5_20 ls hl hf; exact nomatch (show (none : Option (Int32)) = some _ from hf)
        | succ n20 ih20 =>
          have hB74 : ∀ (v4_74 : Int32) (v5_74 : Int32) (t0_74 : Bool) (ls : Array Slot), lv_has ls 7 [(0, .ref m0), (1, .int p0), (2, .int v2_20), (3, .int v3_20), (4, .int v4_74), (5, .int v5_74)] → fX7_byLevel_74 μ p0 v2_20 v3_20 (fX7_byLevel_4 μ p0 n4) (fX7_byLevel_20 μ p0 v2_20 v3_20 (fX7_byLevel_4 μ p0 n4) n20) v4_74 v5_74 t0_74 = some r → W p l e (headSpec wsX7_byLevel rmX7_byLevel).room s m ([.ref m0, .int p0] : List Value).toArray below meth c s.heap [] 0 0 (MQ below (vp_Si (fun r' => r' = r)) ([.ref m0, .int p0] : List Value).toArray s 0 0 (fun _ => False)) (F0 m 74 ls [.int (b2i t0_74)]) := by
            intro  v4_74 v5_74 t0_74 ls hl hf
            unfold fX7_byLevel_74 at hf
            refine lv_istore (lv' := [(6, .int (b2i t0_74)), (0, .ref m0), (1, .int p0), (2, .int v2_20), (3, .int v3_20), (4, .int v4_74), (5, .int v5_74)]) hx hb dX7_byLevel_74 hl (by decide) rfl (fun ls hl => ?_)
            refine lv_iload hx hb dX7_byLevel_76 (lv_at hl 5 rfl) ?_
            refine lv_iload hx hb dX7_byLevel_78 (lv_at hl 0 rfl) ?_
            refine lv_beq (tgt := 87) hx hb dX7_byLevel_80 (by decide) (fun c_1 => ?_) (fun c_1 => ?_)
            · have hf := iq c_1 hf
              refine lv_iconst (v := (0 : Int32)) hx hb dX7_byLevel_87 (by decide) ?_
              refine lv_iadd hx hb dX7_byLevel_88 ?_
              refine lv_istore (lv' := [(4, .int (v4_74 + (0 : Int32))), (6, .int (b2i t0_74)), (0, .ref m0), (1, .int p0), (2, .int v2_20), (3, .int v3_20), (5, .int v5_74)]) hx hb dX7_byLevel_89 hl (by decide) rfl (fun ls hl => ?_)
              refine lv_iinc (v := (v5_74 + 1)) (lv' := [(5, .int (v5_74 + 1)), (4, .int (v4_74 + (0 : Int32))), (6, .int (b2i t0_74)), (0, .ref m0), (1, .int p0), (2, .int v2_20), (3, .int v3_20)]) hx hb dX7_byLevel_91 hl (k := 6) rfl rfl (by decide) rfl (fun ls hl => ?_)
              refine lv_goto (tgt := 20) hx hb dX7_byLevel_94 (by decide) ?_
              exact ih20 (v4_74 + (0 : Int32)) (v5_74 + 1) ls (lv_sub hl [3, 4, 5, 6, 1, 0] rfl) hf
            · have hf := ip c_1 hf
              refine lv_iconst (v := (1 : Int32)) hx hb dX7_byLevel_83 (by decide) ?_
              refine lv_goto (tgt := 88) hx hb dX7_byLevel_84 (by decide) ?_
              refine lv_iadd hx hb dX7_byLevel_88 ?_
              refine lv_istore (lv' := [(4, .int (v4_74 + (1 : Int32))), (6, .int (b2i t0_74)), (0, .ref m0), (1, .int p0), (2, .int v2_20), (3, .int v3_20), (5, .int v5_74)]) hx hb dX7_byLevel_89 hl (by decide) rfl (fun ls hl => ?_)
              refine lv_iinc (v := (v5_74 + 1)) (lv' := [(5, .int (v5_74 + 1)), (4, .int (v4_74 + (1 : Int32))), (6, .int (b2i t0_74)), (0, .ref m0), (1, .int p0), (2, .int v2_20), (3, .int v3_20)]) hx hb dX7_byLevel_91 hl (k := 6) rfl rfl (by decide) rfl (fun ls hl => ?_)
              refine lv_goto (tgt := 20) hx hb dX7_byLevel_94 (by decide) ?_
              exact ih20 (v4_74 + (1 : Int32)) (v5_74 + 1) ls (lv_sub hl [3, 4, 5, 6, 1, 0] rfl) hf
          intro v4_20 v5_20 ls hl hf
          rw [fX7_byLevel_20] at hf
          refine lv_iload hx hb dX7_byLevel_20 (lv_at hl 5 rfl) ?_
          refine lv_aload_n hx hb dX7_byLevel_22 rfl (lv_at hl 0 rfl) ?_
          refine va_get (v := .ref m1) (C := RX7) (T := TX7) (N := 13) hx hb hts fiX7_byLevel_X7 hown hE.1 hP 0 rfl rfl 0 (by decide) (hts _ flX7_byLevel_7) (fun _ h9 => h9) rfl dX7_byLevel_23 ?_
          refine lv_iconst (v := (0 : Int32)) hx hb dX7_byLevel_26 (by decide) ?_
          refine va_iald hx hb hE.1 hP 1 0 rfl rfl (vin (by decide)) dX7_byLevel_27 ?_
          refine lv_icmp_ge (tgt := 97) hx hb dX7_byLevel_28 (by decide) (fun c_2 => ?_) (fun c_2 => ?_)
          · have hf := ip c_2 hf
            refine lv_iload hx hb dX7_byLevel_97 (lv_at hl 4 rfl) ?_
            refine lv_iload_n hx hb dX7_byLevel_99 rfl (lv_at hl 1 rfl) ?_
            refine lv_icmp_ne (tgt := 107) hx hb dX7_byLevel_100 (by decide) (fun c_3 => ?_) (fun c_3 => ?_)
            · have hf := iq c_3 hf
              refine lv_iload_n hx hb dX7_byLevel_107 rfl (lv_at hl 2 rfl) ?_
              refine lv_istore_n (lv' := [(2, .int v2_20), (0, .ref m0), (1, .int p0), (3, .int v3_20), (4, .int v4_20), (5, .int v5_20)]) hx hb dX7_byLevel_108 rfl hl (by decide) rfl (fun ls hl => ?_)
              refine lv_iinc (v := (v3_20 + 1)) (lv' := [(3, .int (v3_20 + 1)), (2, .int v2_20), (0, .ref m0), (1, .int p0), (4, .int v4_20), (5, .int v5_20)]) hx hb dX7_byLevel_109 hl (k := 3) rfl rfl (by decide) rfl (fun ls hl => ?_)
              refine lv_goto (tgt := 4) hx hb dX7_byLevel_112 (by decide) ?_
              exact ih4 v2_20 (v3_20 + 1) ls (lv_sub hl [2, 3, 1, 0] rfl) hf
            · have hf := ip c_3 hf
              refine lv_iload_n hx hb dX7_byLevel_103 rfl (lv_at hl 3 rfl) ?_
              refine lv_goto (tgt := 108) hx hb dX7_byLevel_104 (by decide) ?_
              refine lv_istore_n (lv' := [(2, .int v3_20), (0, .ref m0), (1, .int p0), (3, .int v3_20), (4, .int v4_20), (5, .int v5_20)]) hx hb dX7_byLevel_108 rfl hl (by decide) rfl (fun ls hl => ?_)
              refine lv_iinc (v := (v3_20 + 1)) (lv' := [(3, .int (v3_20 + 1)), (2, .int v3_20), (0, .ref m0), (1, .int p0), (4, .int v4_20), (5, .int v5_20)]) hx hb dX7_byLevel_109 hl (k := 3) rfl rfl (by decide) rfl (fun ls hl => ?_)
              refine lv_goto (tgt := 4) hx hb dX7_byLevel_112 (by decide) ?_
              exact ih4 v3_20 (v3_20 + 1) ls (lv_sub hl [2, 3, 1, 0] rfl) hf
          · have hf := iq c_2 hf
            refine lv_aload_n hx hb dX7_byLevel_31 rfl (lv_at hl 0 rfl) ?_
            refine lv_iload hx hb dX7_byLevel_32 (lv_at hl 5 rfl) ?_
            refine lv_iconst (v := (0 : Int32)) hx hb dX7_byLevel_34 (by decide) ?_
            obtain ⟨r_4, e_4, hf⟩ := bo hf
            refine pcallV (W0 := (wM g m0 m1 m2 m3 m4 μ)) (As := [.int v5_20, .int (0 : Int32)]) (rest := []) [0, 1, 2, 3, 4] 5 0 ⟨hx, hb, hml, hown, hts⟩ hP hE hZ hS (cX7_of_ok l g m0 m1 m2 m3 m4 μ v5_20 (0 : Int32) e_4) (cwV 2 hts gX7_byLevel_X7_of rfl rfl rfl hdX7_of ⟨(Nat.le_of_ble_eq_true rfl), (Nat.le_of_ble_eq_true rfl)⟩) rfl rfl rfl rfl rfl hl.1 rfl (Nat.le_of_ble_eq_true rfl) ⟨(Nat.le_of_ble_eq_true rfl), (Nat.le_of_ble_eq_true rfl)⟩ dX7_byLevel_35 ?_
            refine lv_aload_n hx hb dX7_byLevel_38 rfl (lv_at hl 0 rfl) ?_
            refine lv_iload_n hx hb dX7_byLevel_39 rfl (lv_at hl 3 rfl) ?_
            refine lv_iconst (v := (0 : Int32)) hx hb dX7_byLevel_40 (by decide) ?_
            obtain ⟨r_5, e_5, hf⟩ := bo hf
            refine pcallV (W0 := (wM g m0 m1 m2 m3 m4 μ)) (As := [.int v3_20, .int (0 : Int32)]) (rest := [.int r_4]) [0, 1, 2, 3, 4] 5 0 ⟨hx, hb, hml, hown, hts⟩ hP hE hZ hS (cX7_of_ok l g m0 m1 m2 m3 m4 μ v3_20 (0 : Int32) e_5) (cwV 2 hts gX7_byLevel_X7_of rfl rfl rfl hdX7_of ⟨(Nat.le_of_ble_eq_true rfl), (Nat.le_of_ble_eq_true rfl)⟩) rfl rfl rfl rfl rfl hl.1 rfl (Nat.le_of_ble_eq_true rfl) ⟨(Nat.le_of_ble_eq_true rfl), (Nat.le_of_ble_eq_true rfl)⟩ dX7_byLevel_41 ?_
            refine lv_icmp_lt (tgt := 69) hx hb dX7_byLevel_44 (by decide) (fun c_6 => ?_) (fun c_6 => ?_)
            · have hf := ip c_6 hf
              refine lv_iconst (v := (1 : Int32)) hx hb dX7_byLevel_69 (by decide) ?_
              refine lv_goto (tgt := 74) hx hb dX7_byLevel_70 (by decide) ?_
              exact hB74 v4_20 v5_20 true ls (lv_sub hl [0, 1, 2, 3, 4, 5] rfl) hf
            · have hf := iq c_6 hf
              refine lv_aload_n hx hb dX7_byLevel_47 rfl (lv_at hl 0 rfl) ?_
              refine lv_iload hx hb dX7_byLevel_48 (lv_at hl 5 rfl) ?_
              refine lv_iconst (v := (0 : Int32)) hx hb dX7_byLevel_50 (by decide) ?_
              obtain ⟨r_7, e_7, hf⟩ := bo hf
              refine pcallV (W0 := (wM g m0 m1 m2 m3 m4 μ)) (As := [.int v5_20, .int (0 : Int32)]) (rest := []) [0, 1, 2, 3, 4] 5 0 ⟨hx, hb, hml, hown, hts⟩ hP hE hZ hS (cX7_of_ok l g m0 m1 m2 m3 m4 μ v5_20 (0 : Int32) e_7) (cwV 2 hts gX7_byLevel_X7_of rfl rfl rfl hdX7_of ⟨(Nat.le_of_ble_eq_true rfl), (Nat.le_of_ble_eq_true rfl)⟩) rfl rfl rfl rfl rfl hl.1 rfl (Nat.le_of_ble_eq_true rfl) ⟨(Nat.le_of_ble_eq_true rfl), (Nat.le_of_ble_eq_true rfl)⟩ dX7_byLevel_51 ?_
              refine lv_aload_n hx hb dX7_byLevel_54 rfl (lv_at hl 0 rfl) ?_
              refine lv_iload_n hx hb dX7_byLevel_55 rfl (lv_at hl 3 rfl) ?_
              refine lv_iconst (v := (0 : Int32)) hx hb dX7_byLevel_56 (by decide) ?_
              obtain ⟨r_8, e_8, hf⟩ := bo hf
              refine pcallV (W0 := (wM g m0 m1 m2 m3 m4 μ)) (As := [.int v3_20, .int (0 : Int32)]) (rest := [.int r_7]) [0, 1, 2, 3, 4] 5 0 ⟨hx, hb, hml, hown, hts⟩ hP hE hZ hS (cX7_of_ok l g m0 m1 m2 m3 m4 μ v3_20 (0 : Int32) e_8) (cwV 2 hts gX7_byLevel_X7_of rfl rfl rfl hdX7_of ⟨(Nat.le_of_ble_eq_true rfl), (Nat.le_of_ble_eq_true rfl)⟩) rfl rfl rfl rfl rfl hl.1 rfl (Nat.le_of_ble_eq_true rfl) ⟨(Nat.le_of_ble_eq_true rfl), (Nat.le_of_ble_eq_true rfl)⟩ dX7_byLevel_57 ?_
              refine lv_icmp_ne (tgt := 73) hx hb dX7_byLevel_60 (by decide) (fun c_9 => ?_) (fun c_9 => ?_)
              · have hf := iq c_9 hf
                refine lv_iconst (v := (0 : Int32)) hx hb dX7_byLevel_73 (by decide) ?_
                exact hB74 v4_20 v5_20 false ls (lv_sub hl [0, 1, 2, 3, 4, 5] rfl) hf
              · have hf := ip c_9 hf
                refine lv_iload hx hb dX7_byLevel_63 (lv_at hl 5 rfl) ?_
                refine lv_iload_n hx hb dX7_byLevel_65 rfl (lv_at hl 3 rfl) ?_
                refine lv_icmp_ge (tgt := 73) hx hb dX7_byLevel_66 (by decide) (fun c_10 => ?_) (fun c_10 => ?_)
                · have hf := ip c_10 hf
                  refine lv_iconst (v := (0 : Int32)) hx hb dX7_byLevel_73 (by decide) ?_
                  exact hB74 v4_20 v5_20 false ls (lv_sub hl [0, 1, 2, 3, 4, 5] rfl) hf
                · have hf := iq c_10 hf
                  refine lv_iconst (v := (1 : Int32)) hx hb dX7_byLevel_69 (by decide) ?_
                  refine lv_goto (tgt := 74) hx hb dX7_byLevel_70 (by decide) ?_
                  exact hB74 v4_20 v5_20 true ls (lv_sub hl [0, 1, 2, 3, 4, 5] rfl) hf
      intro v2_4 v3_4 ls hl hf
      rw [fX7_byLevel_4] at hf
      refine lv_iload_n hx hb dX7_byLevel_4 rfl (lv_at hl 3 rfl) ?_
      refine lv_aload_n hx hb dX7_byLevel_5 rfl (lv_at hl 0 rfl) ?_
      refine va_get (v := .ref m1) (C := RX7) (T := TX7) (N := 13) hx hb hts fiX7_byLevel_X7 hown hE.1 hP 0 rfl rfl 0 (by decide) (hts _ flX7_byLevel_7) (fun _ h9 => h9) rfl dX7_byLevel_6 ?_
      refine lv_iconst (v := (0 : Int32)) hx hb dX7_byLevel_9 (by decide) ?_
      refine va_iald hx hb hE.1 hP 1 0 rfl rfl (vin (by decide)) dX7_byLevel_10 ?_
      refine lv_icmp_ge (tgt := 115) hx hb dX7_byLevel_11 (by decide) (fun c_11 => ?_) (fun c_11 => ?_)
      · have hf := ip c_11 hf
        refine lv_iload_n hx hb dX7_byLevel_115 rfl (lv_at hl 2 rfl) ?_
        exact p_iret (v := v2_4) hx hb hr hlocks (Option.some.inj hf) dX7_byLevel_116
      · have hf := iq c_11 hf
        refine lv_iconst (v := (0 : Int32)) hx hb dX7_byLevel_14 (by decide) ?_
        refine lv_istore (lv' := [(4, .int (0 : Int32)), (0, .ref m0), (1, .int p0), (2, .int v2_4), (3, .int v3_4)]) hx hb dX7_byLevel_15 hl (by decide) rfl (fun ls hl => ?_)
        refine lv_iconst (v := (0 : Int32)) hx hb dX7_byLevel_17 (by decide) ?_
        refine lv_istore (lv' := [(5, .int (0 : Int32)), (4, .int (0 : Int32)), (0, .ref m0), (1, .int p0), (2, .int v2_4), (3, .int v3_4)]) hx hb dX7_byLevel_18 hl (by decide) rfl (fun ls hl => ?_)
        exact hB20 v2_4 v3_4 FU (0 : Int32) (0 : Int32) ls (lv_sub hl [2, 3, 4, 5, 1, 0] rfl) hf
  unfold fX7_byLevel at hf
  refine lv_iconst (v := (-1 : Int32)) hx hb dX7_byLevel_0 (by decide) ?_
  refine lv_istore_n (lv' := [(2, .int (-1 : Int32)), (0, .ref m0), (1, .int p0)]) hx hb dX7_byLevel_1 rfl hl (by decide) rfl (fun ls hl => ?_)
  refine lv_iconst (v := (0 : Int32)) hx hb dX7_byLevel_2 (by decide) ?_
  refine lv_istore_n (lv' := [(3, .int (0 : Int32)), (2, .int (-1 : Int32)), (0, .ref m0), (1, .int p0)]) hx hb dX7_byLevel_3 rfl hl (by decide) rfl (fun ls hl => ?_)
  exact hB4 FU (-1 : Int32) (0 : Int32) ls (lv_sub hl [2, 3, 1, 0] rfl) hf

def fX7_records_51  : Nat → Int32 → Mo → Option (Mo)
  | 0, _, _ => none
  | n + 1, v1_51, μ_51 => (if (514 : Int32) ≤ v1_51 then (some (M_sm' μ_51 ((M_sm μ_51) + (1 : Int32)))) else (if inR v1_51 514 then (if inR (((514 : Int32) * (M_sm μ_51)) + v1_51) 2570 then fX7_records_51 n (v1_51 + 1) (M_sv' μ_51 (upd (M_sv μ_51) (Int32.toNatClampNeg (((514 : Int32) * (M_sm μ_51)) + v1_51)) (M_row μ_51 (Int32.toNatClampNeg v1_51)))) else none) else none))
def fX7_records_10  : Nat → Int32 → Mo → Option (Mo)
  | 0, _, _ => none
  | n + 1, v1_10, μ_10 => (if (2056 : Int32) ≤ v1_10 then fX7_records_51 FU (0 : Int32) (M_sm' μ_10 ((M_sm μ_10) - (1 : Int32))) else (if inR ((514 : Int32) + v1_10) 2570 then (if inR v1_10 2570 then fX7_records_10 n (v1_10 + 1) (M_sv' μ_10 (upd (M_sv μ_10) (Int32.toNatClampNeg v1_10) (M_sv μ_10 (Int32.toNatClampNeg ((514 : Int32) + v1_10))))) else none) else none))
def fX7_records (μ : Mo) : Option (Mo) := (if (M_sm μ) = (5 : Int32) then fX7_records_10 FU (0 : Int32) μ else fX7_records_51 FU (0 : Int32) μ)
abbrev rmX7_records : Room := { frames := 0, cells := 0, slots := 0, locals := 0 }
theorem hdX7_records : yX7_records.cls = RX7 ∧ yX7_records.cls ≠ "java/lang/invoke/MethodHandle" ∧ yX7_records.cls ≠ "java/lang/invoke/VarHandle" ∧ (parseMethodDescriptor yX7_records.desc).map (fun d => d.parameters.length) = some 0 := by decide +kernel
theorem fiX7_records_X7 : ∀ w ∈ wsX70, w ∈ wsX7_records := by decide +kernel
theorem flX7_records_92 : (.fieldLink RX7 92 "ContourLabelsModel" "savedMany" "I" : Cond) ∈ wsX7_records := by decide +kernel
theorem flX7_records_13 : (.fieldLink RX7 13 "ContourLabelsModel" "saved" "[I" : Cond) ∈ wsX7_records := by decide +kernel
theorem flX7_records_7 : (.fieldLink RX7 7 "ContourLabelsModel" "row" "[I" : Cond) ∈ wsX7_records := by decide +kernel
set_option maxHeartbeats 4000000 in
set_option maxRecDepth 100000 in
theorem cX7_records_ok (l : Launch) (g : Gg) (m0 m1 m2 m3 m4 : Nat) (μ : Mo) (sz : Nat) {o : Mo} (hf : fX7_records μ = some o) : Met l yX7_records wsX7_records rmX7_records (va_Pc [.ref m0] (PM g (wM g m0 m1 m2 m3 m4 μ) sz)) (va_Qv (fun _ : Unit => True) (fun _ t => PQ g (wM g m0 m1 m2 m3 m4 o) (va_A (wM g m0 m1 m2 m3 m4 μ) sz) t) (va_A (wM g m0 m1 m2 m3 m4 μ) sz)) 0 0 (va_A (wM g m0 m1 m2 m3 m4 μ) sz) := by
  refine Met.ofW (cc := cX7_records) (maxL := 2) (ret := none) (by decide) rfl ?_
  intro p e s m args below meth c s₁ B hml hv
  obtain ⟨rfl, rfl, hP, hD0, hE, hZ⟩ := hv
  have hx := B.exec
  have hb := B.bytes
  have hr := B.returns
  have hts := atoms_spec (ws := wsX7_records) B.pre
  have hown : s.vm.findClass RX7 = some m.cls := findClass_of_methodNamed B.named
  have hlocks := B.notSynchronized
  have hD := hD0.self (sz := s.heap.size)
  generalize hAe : (va_A (wM g m0 m1 m2 m3 m4 μ) s.heap.size) = A at hD hZ ⊢
  have hA : ∀ q : Nat, s.heap.size ≤ q → A q := fun q h => by rw [← hAe]; exact Or.inr h
  have hS : va_S A s.heap s.heap [] := va_S.rf
  have hP : va_P g.1 vwCl (wM g m0 m1 m2 m3 m4 μ) s.heap := hP
  have hl := lv_entry ([.ref m0]) (n := 2) (Nat.le_of_ble_eq_true rfl)
  rw [lg_entry_eq]
  generalize (lg_sl ([.ref m0]) ++ List.replicate (2 - (lg_sl ([.ref m0])).length) Slot.unset).toArray = ls at hl ⊢
  have hl : lv_has ls 2 [(0, .ref m0)] := hl
  have hB51 : ∀ (n51 : Nat) (v1_51 : Int32) (μ_51 : Mo) (H : Heap) (locs : List Loc) (ls : Array Slot), va_P g.1 vwCl (wM g m0 m1 m2 m3 m4 μ_51) H → va_D A (wM g m0 m1 m2 m3 m4 μ_51) → va_S A s.heap H locs → lv_has ls 2 [(0, .ref m0), (1, .int v1_51)] → fX7_records_51 n51 v1_51 μ_51 = some o → W p l e (headSpec wsX7_records rmX7_records).room s m ([.ref m0] : List Value).toArray below meth c H locs 0 0 (MQ below (va_Qv (fun _ : Unit => True) (fun _ t => PQ g (wM g m0 m1 m2 m3 m4 o) A t) A) ([.ref m0] : List Value).toArray s 0 0 A) (F0 m 51 ls []) := by
    intro  n51
    induction n51 with
    | zero => intro v1_51 μ_51 H locs ls hP hD hS hl hf; exact nomatch (show (none : Option (Mo)) = some _ from hf)
    | succ n51 ih51 =>
      intro v1_51 μ_51 H locs ls hP hD hS hl hf
      rw [fX7_records_51] at hf
      refine lv_iload_n hx hb dX7_records_51 rfl (lv_at hl 1 rfl) ?_
      refine lv_sipush (v := (514 : Int32)) hx hb dX7_records_52 (by decide) ?_
      refine lv_icmp_ge (tgt := 85) hx hb dX7_records_55 (by decide) (fun c_1 => ?_) (fun c_1 => ?_)
      · have hf := ip c_1 hf
        refine lv_aload_n hx hb dX7_records_85 rfl (lv_at hl 0 rfl) ?_
        refine lv_dup hx hb dX7_records_86 rfl ?_
        refine va_get (v := .int (M_sm μ_51)) (C := RX7) (T := TX7) (N := 13) hx hb hts fiX7_records_X7 hown hE.1 hP 0 rfl rfl 2 (by decide) (hts _ flX7_records_92) (fun _ h9 => h9) rfl dX7_records_87 ?_
        refine lv_iconst (v := (1 : Int32)) hx hb dX7_records_90 (by decide) ?_
        refine lv_iadd hx hb dX7_records_91 ?_
        refine va_put (v := .int ((M_sm μ_51) + (1 : Int32))) (ty := .int) (C := RX7) (T := TX7) (N := 13) hx hb hts fiX7_records_X7 tyX7 tyX7_ok nmX7 hown hE.1 hP hD hS 0 rfl rfl 2 (by decide) (hts _ flX7_records_92) (fun _ h9 => h9) rfl (by decide +kernel) rfl rfl (Nat.le_of_ble_eq_true rfl) dX7_records_92 (fun H locs hP hD hS => ?_)
        have hP : va_P g.1 vwCl (wM g m0 m1 m2 m3 m4 (M_sm' μ_51 ((M_sm μ_51) + (1 : Int32)))) H := hP
        have hD : va_D A (wM g m0 m1 m2 m3 m4 (M_sm' μ_51 ((M_sm μ_51) + (1 : Int32)))) := hD
        have ho := Option.some.inj hf
        subst ho
        exact m_vret hx hb hr hlocks hP hD hS dX7_records_95
      · have hf := iq c_1 hf
        refine lv_aload_n hx hb dX7_records_58 rfl (lv_at hl 0 rfl) ?_
        refine va_get (v := .ref m2) (C := RX7) (T := TX7) (N := 13) hx hb hts fiX7_records_X7 hown hE.1 hP 0 rfl rfl 1 (by decide) (hts _ flX7_records_13) (fun _ h9 => h9) rfl dX7_records_59 ?_
        refine lv_sipush (v := (514 : Int32)) hx hb dX7_records_62 (by decide) ?_
        refine lv_aload_n hx hb dX7_records_65 rfl (lv_at hl 0 rfl) ?_
        refine va_get (v := .int (M_sm μ_51)) (C := RX7) (T := TX7) (N := 13) hx hb hts fiX7_records_X7 hown hE.1 hP 0 rfl rfl 2 (by decide) (hts _ flX7_records_92) (fun _ h9 => h9) rfl dX7_records_66 ?_
        refine lv_imul hx hb dX7_records_69 ?_
        refine lv_iload_n hx hb dX7_records_70 rfl (lv_at hl 1 rfl) ?_
        refine lv_iadd hx hb dX7_records_71 ?_
        refine lv_aload_n hx hb dX7_records_72 rfl (lv_at hl 0 rfl) ?_
        refine va_get (v := .ref m1) (C := RX7) (T := TX7) (N := 13) hx hb hts fiX7_records_X7 hown hE.1 hP 0 rfl rfl 0 (by decide) (hts _ flX7_records_7) (fun _ h9 => h9) rfl dX7_records_73 ?_
        refine lv_iload_n hx hb dX7_records_76 rfl (lv_at hl 1 rfl) ?_
        obtain ⟨h_2, hf⟩ := ck hf
        refine va_iald hx hb hE.1 hP 1 0 rfl rfl (vin h_2) dX7_records_77 ?_
        obtain ⟨h_3, hf⟩ := ck hf
        refine va_iast hx hb hE.1 hP hD hS 2 0 rfl rfl (vin h_3) dX7_records_78 (fun H locs hP hD hS => ?_)
        have hP : va_P g.1 vwCl (wM g m0 m1 m2 m3 m4 (M_sv' μ_51 (upd (M_sv μ_51) (Int32.toNatClampNeg (((514 : Int32) * (M_sm μ_51)) + v1_51)) (M_row μ_51 (Int32.toNatClampNeg v1_51))))) H := hP
        have hD : va_D A (wM g m0 m1 m2 m3 m4 (M_sv' μ_51 (upd (M_sv μ_51) (Int32.toNatClampNeg (((514 : Int32) * (M_sm μ_51)) + v1_51)) (M_row μ_51 (Int32.toNatClampNeg v1_51))))) := hD
        refine lv_iinc (v := (v1_51 + 1)) (lv' := [(1, .int (v1_51 + 1)), (0, .ref m0)]) hx hb dX7_records_79 hl (k := 1) rfl rfl (by decide) rfl (fun ls hl => ?_)
        refine lv_goto (tgt := 51) hx hb dX7_records_82 (by decide) ?_
        exact ih51 (v1_51 + 1) (M_sv' μ_51 (upd (M_sv μ_51) (Int32.toNatClampNeg (((514 : Int32) * (M_sm μ_51)) + v1_51)) (M_row μ_51 (Int32.toNatClampNeg v1_51)))) _ _ ls hP hD hS (lv_sub hl [1, 0] rfl) hf
  have hB10 : ∀ (n10 : Nat) (v1_10 : Int32) (μ_10 : Mo) (H : Heap) (locs : List Loc) (ls : Array Slot), va_P g.1 vwCl (wM g m0 m1 m2 m3 m4 μ_10) H → va_D A (wM g m0 m1 m2 m3 m4 μ_10) → va_S A s.heap H locs → lv_has ls 2 [(0, .ref m0), (1, .int v1_10)] → fX7_records_10 n10 v1_10 μ_10 = some o → W p l e (headSpec wsX7_records rmX7_records).room s m ([.ref m0] : List Value).toArray below meth c H locs 0 0 (MQ below (va_Qv (fun _ : Unit => True) (fun _ t => PQ g (wM g m0 m1 m2 m3 m4 o) A t) A) ([.ref m0] : List Value).toArray s 0 0 A) (F0 m 10 ls []) := by
    intro  n10
    induction n10 with
    | zero => intro v1_10 μ_10 H locs ls hP hD hS hl hf; exact nomatch (show (none : Option (Mo)) = some _ from hf)
    | succ n10 ih10 =>
      intro v1_10 μ_10 H locs ls hP hD hS hl hf
      rw [fX7_records_10] at hf
      refine lv_iload_n hx hb dX7_records_10 rfl (lv_at hl 1 rfl) ?_
      refine lv_sipush (v := (2056 : Int32)) hx hb dX7_records_11 (by decide) ?_
      refine lv_icmp_ge (tgt := 39) hx hb dX7_records_14 (by decide) (fun c_4 => ?_) (fun c_4 => ?_)
      · have hf := ip c_4 hf
        refine lv_aload_n hx hb dX7_records_39 rfl (lv_at hl 0 rfl) ?_
        refine lv_dup hx hb dX7_records_40 rfl ?_
        refine va_get (v := .int (M_sm μ_10)) (C := RX7) (T := TX7) (N := 13) hx hb hts fiX7_records_X7 hown hE.1 hP 0 rfl rfl 2 (by decide) (hts _ flX7_records_92) (fun _ h9 => h9) rfl dX7_records_41 ?_
        refine lv_iconst (v := (1 : Int32)) hx hb dX7_records_44 (by decide) ?_
        refine lv_isub hx hb dX7_records_45 ?_
        refine va_put (v := .int ((M_sm μ_10) - (1 : Int32))) (ty := .int) (C := RX7) (T := TX7) (N := 13) hx hb hts fiX7_records_X7 tyX7 tyX7_ok nmX7 hown hE.1 hP hD hS 0 rfl rfl 2 (by decide) (hts _ flX7_records_92) (fun _ h9 => h9) rfl (by decide +kernel) rfl rfl (Nat.le_of_ble_eq_true rfl) dX7_records_46 (fun H locs hP hD hS => ?_)
        have hP : va_P g.1 vwCl (wM g m0 m1 m2 m3 m4 (M_sm' μ_10 ((M_sm μ_10) - (1 : Int32)))) H := hP
        have hD : va_D A (wM g m0 m1 m2 m3 m4 (M_sm' μ_10 ((M_sm μ_10) - (1 : Int32)))) := hD
        refine lv_iconst (v := (0 : Int32)) hx hb dX7_records_49 (by decide) ?_
        refine lv_istore_n (lv' := [(1, .int (0 : Int32)), (0, .ref m0)]) hx hb dX7_records_50 rfl hl (by decide) rfl (fun ls hl => ?_)
        exact hB51 FU (0 : Int32) (M_sm' μ_10 ((M_sm μ_10) - (1 : Int32))) _ _ ls hP hD hS (lv_sub hl [1, 0] rfl) hf
      · have hf := iq c_4 hf
        refine lv_aload_n hx hb dX7_records_17 rfl (lv_at hl 0 rfl) ?_
        refine va_get (v := .ref m2) (C := RX7) (T := TX7) (N := 13) hx hb hts fiX7_records_X7 hown hE.1 hP 0 rfl rfl 1 (by decide) (hts _ flX7_records_13) (fun _ h9 => h9) rfl dX7_records_18 ?_
        refine lv_iload_n hx hb dX7_records_21 rfl (lv_at hl 1 rfl) ?_
        refine lv_aload_n hx hb dX7_records_22 rfl (lv_at hl 0 rfl) ?_
        refine va_get (v := .ref m2) (C := RX7) (T := TX7) (N := 13) hx hb hts fiX7_records_X7 hown hE.1 hP 0 rfl rfl 1 (by decide) (hts _ flX7_records_13) (fun _ h9 => h9) rfl dX7_records_23 ?_
        refine lv_sipush (v := (514 : Int32)) hx hb dX7_records_26 (by decide) ?_
        refine lv_iload_n hx hb dX7_records_29 rfl (lv_at hl 1 rfl) ?_
        refine lv_iadd hx hb dX7_records_30 ?_
        obtain ⟨h_5, hf⟩ := ck hf
        refine va_iald hx hb hE.1 hP 2 0 rfl rfl (vin h_5) dX7_records_31 ?_
        obtain ⟨h_6, hf⟩ := ck hf
        refine va_iast hx hb hE.1 hP hD hS 2 0 rfl rfl (vin h_6) dX7_records_32 (fun H locs hP hD hS => ?_)
        have hP : va_P g.1 vwCl (wM g m0 m1 m2 m3 m4 (M_sv' μ_10 (upd (M_sv μ_10) (Int32.toNatClampNeg v1_10) (M_sv μ_10 (Int32.toNatClampNeg ((514 : Int32) + v1_10)))))) H := hP
        have hD : va_D A (wM g m0 m1 m2 m3 m4 (M_sv' μ_10 (upd (M_sv μ_10) (Int32.toNatClampNeg v1_10) (M_sv μ_10 (Int32.toNatClampNeg ((514 : Int32) + v1_10)))))) := hD
        refine lv_iinc (v := (v1_10 + 1)) (lv' := [(1, .int (v1_10 + 1)), (0, .ref m0)]) hx hb dX7_records_33 hl (k := 1) rfl rfl (by decide) rfl (fun ls hl => ?_)
        refine lv_goto (tgt := 10) hx hb dX7_records_36 (by decide) ?_
        exact ih10 (v1_10 + 1) (M_sv' μ_10 (upd (M_sv μ_10) (Int32.toNatClampNeg v1_10) (M_sv μ_10 (Int32.toNatClampNeg ((514 : Int32) + v1_10))))) _ _ ls hP hD hS (lv_sub hl [1, 0] rfl) hf
  unfold fX7_records at hf
  refine lv_aload_n hx hb dX7_records_0 rfl (lv_at hl 0 rfl) ?_
  refine va_get (v := .int (M_sm μ)) (C := RX7) (T := TX7) (N := 13) hx hb hts fiX7_records_X7 hown hE.1 hP 0 rfl rfl 2 (by decide) (hts _ flX7_records_92) (fun _ h9 => h9) rfl dX7_records_1 ?_
  refine lv_iconst (v := (5 : Int32)) hx hb dX7_records_4 (by decide) ?_
  refine lv_icmp_ne (tgt := 49) hx hb dX7_records_5 (by decide) (fun c_7 => ?_) (fun c_7 => ?_)
  · have hf := iq c_7 hf
    refine lv_iconst (v := (0 : Int32)) hx hb dX7_records_49 (by decide) ?_
    refine lv_istore_n (lv' := [(1, .int (0 : Int32)), (0, .ref m0)]) hx hb dX7_records_50 rfl hl (by decide) rfl (fun ls hl => ?_)
    exact hB51 FU (0 : Int32) μ _ _ ls hP hD hS (lv_sub hl [1, 0] rfl) hf
  · have hf := ip c_7 hf
    refine lv_iconst (v := (0 : Int32)) hx hb dX7_records_8 (by decide) ?_
    refine lv_istore_n (lv' := [(1, .int (0 : Int32)), (0, .ref m0)]) hx hb dX7_records_9 rfl hl (by decide) rfl (fun ls hl => ?_)
    exact hB10 FU (0 : Int32) μ _ _ ls hP hD hS (lv_sub hl [1, 0] rfl) hf

def fX7_refusal (μ : Mo) (p0 p1 p2 : Int32) : Option (Int32) := (if p0 = (98 : Int32) then ((fX7_isLine μ p1).bind fun r_2 => (if r_2 = true then ((fX7_best μ p1).bind fun r_4 => (if r_4 = (-1 : Int32) then (some (2 : Int32)) else (some (0 : Int32)))) else (some (1 : Int32)))) else (if p0 = (103 : Int32) then ((fX7_in p1 (1 : Int32) (6 : Int32)).bind fun r_7 => (if r_7 = true then (some (0 : Int32)) else (some (1 : Int32)))) else (if p0 = (108 : Int32) then ((fX7_isLine μ p1).bind fun r_10 => (if r_10 = true then ((fX7_of μ p1 (2 : Int32)).bind fun r_12 => ((fX7_in p2 (0 : Int32) r_12).bind fun r_13 => (if r_13 = true then ((fX7_whyNoLabel μ p1 p2).bind fun r_15 => (if r_15 ≤ 0 then (some (0 : Int32)) else (some (2 : Int32)))) else (some (1 : Int32))))) else (some (1 : Int32)))) else (if p0 = (110 : Int32) then ((fX7_isPoint p2).bind fun r_18 => (if r_18 = true then ((fX7_in p1 (0 : Int32) (99 : Int32)).bind fun r_20 => (if r_20 = true then (if (M_row μ (Int32.toNatClampNeg (0 : Int32))) = (8 : Int32) then (some (3 : Int32)) else ((fX7_owner μ p2).bind fun r_23 => (if r_23 = (-1 : Int32) then (some (0 : Int32)) else (some (3 : Int32))))) else (some (2 : Int32)))) else (some (1 : Int32)))) else (if p0 = (115 : Int32) then ((fX7_isLine μ p1).bind fun r_26 => (if r_26 = true then ((fX7_in p2 (0 : Int32) (7 : Int32)).bind fun r_28 => (if r_28 = true then ((fX7_whyNot μ p1 p2).bind fun r_30 => (if r_30 ≤ 0 then (some (0 : Int32)) else (some (3 : Int32)))) else (some (2 : Int32)))) else (some (1 : Int32)))) else (if p0 = (117 : Int32) then ((fX7_isLine μ p1).bind fun r_33 => (if r_33 = true then ((fX7_of μ p1 (3 : Int32)).bind fun r_35 => (if r_35 = (-1 : Int32) then (some (2 : Int32)) else (some (0 : Int32)))) else (some (1 : Int32)))) else (if p0 = (119 : Int32) then ((fX7_isLine μ p1).bind fun r_38 => (if r_38 = true then (some (0 : Int32)) else (some (1 : Int32)))) else (some (0 : Int32)))))))))
abbrev rmX7_refusal : Room := { frames := 9, cells := 0, slots := 0, locals := 207 }
theorem hdX7_refusal : yX7_refusal.cls = RX7 ∧ yX7_refusal.cls ≠ "java/lang/invoke/MethodHandle" ∧ yX7_refusal.cls ≠ "java/lang/invoke/VarHandle" ∧ (parseMethodDescriptor yX7_refusal.desc).map (fun d => d.parameters.length) = some 3 := by decide +kernel
theorem fiX7_refusal_X7 : ∀ w ∈ wsX70, w ∈ wsX7_refusal := by decide +kernel
theorem flX7_refusal_7 : (.fieldLink RX7 7 "ContourLabelsModel" "row" "[I" : Cond) ∈ wsX7_refusal := by decide +kernel
set_option maxHeartbeats 4000000 in
set_option maxRecDepth 100000 in
theorem cX7_refusal_ok (l : Launch) (g : Gg) (m0 m1 m2 m3 m4 : Nat) (μ : Mo) (p0 p1 p2 : Int32) {r : Int32} (hf : fX7_refusal μ p0 p1 p2 = some r) : Met l yX7_refusal wsX7_refusal rmX7_refusal (va_Pc [.ref m0, .int p0, .int p1, .int p2] (PP g (wM g m0 m1 m2 m3 m4 μ))) (vp_Si (fun r' => r' = r)) 0 0 (fun _ => False) := by
  refine Met.ofW (cc := cX7_refusal) (maxL := 4) (ret := (some .int)) (by decide) rfl ?_
  intro p e s m args below meth c s₁ B hml hv
  obtain ⟨rfl, hP, hE, hZ⟩ := hv
  have hx := B.exec
  have hb := B.bytes
  have hr := B.returns
  have hts := atoms_spec (ws := wsX7_refusal) B.pre
  have hown : s.vm.findClass RX7 = some m.cls := findClass_of_methodNamed B.named
  have hlocks := B.notSynchronized
  have hS : va_S (fun _ => False) s.heap s.heap [] := va_S.rf
  have hl := lv_entry ([.ref m0, .int p0, .int p1, .int p2]) (n := 4) (Nat.le_of_ble_eq_true rfl)
  rw [lg_entry_eq]
  generalize (lg_sl ([.ref m0, .int p0, .int p1, .int p2]) ++ List.replicate (4 - (lg_sl ([.ref m0, .int p0, .int p1, .int p2])).length) Slot.unset).toArray = ls at hl ⊢
  have hl : lv_has ls 4 [(0, .ref m0), (1, .int p0), (2, .int p1), (3, .int p2)] := hl
  unfold fX7_refusal at hf
  refine lv_iload_n hx hb dX7_refusal_0 rfl (lv_at hl 1 rfl) ?_
  by_cases s_1 : p0 = (98 : Int32)
  · have hf := ip s_1 hf
    refine lv_tableIn (off := 278) (tgt := 279) hx hb dX7_refusal_1 (by rw [s_1]; decide) (by rw [s_1]; decide) (by rw [s_1]; rfl) (by decide) ?_
    refine lv_aload_n hx hb dX7_refusal_279 rfl (lv_at hl 0 rfl) ?_
    refine lv_iload_n hx hb dX7_refusal_280 rfl (lv_at hl 2 rfl) ?_
    obtain ⟨r_2, e_2, hf⟩ := bo hf
    refine pcallV (W0 := (wM g m0 m1 m2 m3 m4 μ)) (As := [.int p1]) (rest := []) [0, 1, 2, 3, 4] 5 0 ⟨hx, hb, hml, hown, hts⟩ hP hE hZ hS (cX7_isLine_ok l g m0 m1 m2 m3 m4 μ p1 e_2) (cwV 1 hts gX7_refusal_X7_isLine rfl rfl rfl hdX7_isLine ⟨(Nat.le_of_ble_eq_true rfl), (Nat.le_of_ble_eq_true rfl)⟩) rfl rfl rfl rfl rfl hl.1 rfl (Nat.le_of_ble_eq_true rfl) ⟨(Nat.le_of_ble_eq_true rfl), (Nat.le_of_ble_eq_true rfl)⟩ dX7_refusal_281 ?_
    refine lv_bne (tgt := 291) hx hb dX7_refusal_284 (by decide) (fun c_3 => ?_) (fun c_3 => ?_)
    · have hf := ip c_3 hf
      refine lv_aload_n hx hb dX7_refusal_291 rfl (lv_at hl 0 rfl) ?_
      refine lv_iload_n hx hb dX7_refusal_292 rfl (lv_at hl 2 rfl) ?_
      obtain ⟨r_4, e_4, hf⟩ := bo hf
      refine pcallV (W0 := (wM g m0 m1 m2 m3 m4 μ)) (As := [.int p1]) (rest := []) [0, 1, 2, 3, 4] 5 0 ⟨hx, hb, hml, hown, hts⟩ hP hE hZ hS (cX7_best_ok l g m0 m1 m2 m3 m4 μ p1 e_4) (cwV 1 hts gX7_refusal_X7_best rfl rfl rfl hdX7_best ⟨(Nat.le_of_ble_eq_true rfl), (Nat.le_of_ble_eq_true rfl)⟩) rfl rfl rfl rfl rfl hl.1 rfl (Nat.le_of_ble_eq_true rfl) ⟨(Nat.le_of_ble_eq_true rfl), (Nat.le_of_ble_eq_true rfl)⟩ dX7_refusal_293 ?_
      refine lv_iconst (v := (-1 : Int32)) hx hb dX7_refusal_296 (by decide) ?_
      refine lv_icmp_ne (tgt := 304) hx hb dX7_refusal_297 (by decide) (fun c_5 => ?_) (fun c_5 => ?_)
      · have hf := iq c_5 hf
        refine lv_iconst (v := (0 : Int32)) hx hb dX7_refusal_304 (by decide) ?_
        exact p_iret (v := (0 : Int32)) hx hb hr hlocks (Option.some.inj hf) dX7_refusal_305
      · have hf := ip c_5 hf
        refine lv_iconst (v := (2 : Int32)) hx hb dX7_refusal_300 (by decide) ?_
        refine lv_goto (tgt := 305) hx hb dX7_refusal_301 (by decide) ?_
        exact p_iret (v := (2 : Int32)) hx hb hr hlocks (Option.some.inj hf) dX7_refusal_305
    · have hf := iq c_3 hf
      refine lv_iconst (v := (1 : Int32)) hx hb dX7_refusal_287 (by decide) ?_
      refine lv_goto (tgt := 305) hx hb dX7_refusal_288 (by decide) ?_
      exact p_iret (v := (1 : Int32)) hx hb hr hlocks (Option.some.inj hf) dX7_refusal_305
  · have hf := iq s_1 hf
    by_cases s_6 : p0 = (103 : Int32)
    · have hf := ip s_6 hf
      refine lv_tableIn (off := 305) (tgt := 306) hx hb dX7_refusal_1 (by rw [s_6]; decide) (by rw [s_6]; decide) (by rw [s_6]; rfl) (by decide) ?_
      refine lv_iload_n hx hb dX7_refusal_306 rfl (lv_at hl 2 rfl) ?_
      refine lv_iconst (v := (1 : Int32)) hx hb dX7_refusal_307 (by decide) ?_
      refine lv_bipush (v := (6 : Int32)) hx hb dX7_refusal_308 (by decide) ?_
      obtain ⟨r_7, e_7, hf⟩ := bo hf
      refine pcallS (W0 := (wM g m0 m1 m2 m3 m4 μ)) (As := [.int p1, .int (1 : Int32), .int (6 : Int32)]) (rest := []) [] ⟨hx, hb, hml, hown, hts⟩ hP hE hZ hS (cX7_in_ok l g  p1 (1 : Int32) (6 : Int32) e_7) (va_cwS 3 hts gX7_refusal_X7_in rfl rfl rfl hdX7_in.2 ⟨(Nat.le_of_ble_eq_true rfl), (Nat.le_of_ble_eq_true rfl)⟩) rfl rfl hl.1 rfl (Nat.le_of_ble_eq_true rfl) ⟨(Nat.le_of_ble_eq_true rfl), (Nat.le_of_ble_eq_true rfl)⟩ dX7_refusal_310 ?_
      refine lv_beq (tgt := 320) hx hb dX7_refusal_313 (by decide) (fun c_8 => ?_) (fun c_8 => ?_)
      · have hf := iq c_8 hf
        refine lv_iconst (v := (1 : Int32)) hx hb dX7_refusal_320 (by decide) ?_
        exact p_iret (v := (1 : Int32)) hx hb hr hlocks (Option.some.inj hf) dX7_refusal_321
      · have hf := ip c_8 hf
        refine lv_iconst (v := (0 : Int32)) hx hb dX7_refusal_316 (by decide) ?_
        refine lv_goto (tgt := 321) hx hb dX7_refusal_317 (by decide) ?_
        exact p_iret (v := (0 : Int32)) hx hb hr hlocks (Option.some.inj hf) dX7_refusal_321
    · have hf := iq s_6 hf
      by_cases s_9 : p0 = (108 : Int32)
      · have hf := ip s_9 hf
        refine lv_tableIn (off := 209) (tgt := 210) hx hb dX7_refusal_1 (by rw [s_9]; decide) (by rw [s_9]; decide) (by rw [s_9]; rfl) (by decide) ?_
        refine lv_aload_n hx hb dX7_refusal_210 rfl (lv_at hl 0 rfl) ?_
        refine lv_iload_n hx hb dX7_refusal_211 rfl (lv_at hl 2 rfl) ?_
        obtain ⟨r_10, e_10, hf⟩ := bo hf
        refine pcallV (W0 := (wM g m0 m1 m2 m3 m4 μ)) (As := [.int p1]) (rest := []) [0, 1, 2, 3, 4] 5 0 ⟨hx, hb, hml, hown, hts⟩ hP hE hZ hS (cX7_isLine_ok l g m0 m1 m2 m3 m4 μ p1 e_10) (cwV 1 hts gX7_refusal_X7_isLine rfl rfl rfl hdX7_isLine ⟨(Nat.le_of_ble_eq_true rfl), (Nat.le_of_ble_eq_true rfl)⟩) rfl rfl rfl rfl rfl hl.1 rfl (Nat.le_of_ble_eq_true rfl) ⟨(Nat.le_of_ble_eq_true rfl), (Nat.le_of_ble_eq_true rfl)⟩ dX7_refusal_212 ?_
        refine lv_beq (tgt := 232) hx hb dX7_refusal_215 (by decide) (fun c_11 => ?_) (fun c_11 => ?_)
        · have hf := iq c_11 hf
          refine lv_iconst (v := (1 : Int32)) hx hb dX7_refusal_232 (by decide) ?_
          refine lv_goto (tgt := 250) hx hb dX7_refusal_233 (by decide) ?_
          exact p_iret (v := (1 : Int32)) hx hb hr hlocks (Option.some.inj hf) dX7_refusal_250
        · have hf := ip c_11 hf
          refine lv_iload_n hx hb dX7_refusal_218 rfl (lv_at hl 3 rfl) ?_
          refine lv_iconst (v := (0 : Int32)) hx hb dX7_refusal_219 (by decide) ?_
          refine lv_aload_n hx hb dX7_refusal_220 rfl (lv_at hl 0 rfl) ?_
          refine lv_iload_n hx hb dX7_refusal_221 rfl (lv_at hl 2 rfl) ?_
          refine lv_iconst (v := (2 : Int32)) hx hb dX7_refusal_222 (by decide) ?_
          obtain ⟨r_12, e_12, hf⟩ := bo hf
          refine pcallV (W0 := (wM g m0 m1 m2 m3 m4 μ)) (As := [.int p1, .int (2 : Int32)]) (rest := [.int (0 : Int32), .int p2]) [0, 1, 2, 3, 4] 5 0 ⟨hx, hb, hml, hown, hts⟩ hP hE hZ hS (cX7_of_ok l g m0 m1 m2 m3 m4 μ p1 (2 : Int32) e_12) (cwV 2 hts gX7_refusal_X7_of rfl rfl rfl hdX7_of ⟨(Nat.le_of_ble_eq_true rfl), (Nat.le_of_ble_eq_true rfl)⟩) rfl rfl rfl rfl rfl hl.1 rfl (Nat.le_of_ble_eq_true rfl) ⟨(Nat.le_of_ble_eq_true rfl), (Nat.le_of_ble_eq_true rfl)⟩ dX7_refusal_223 ?_
          obtain ⟨r_13, e_13, hf⟩ := bo hf
          refine pcallS (W0 := (wM g m0 m1 m2 m3 m4 μ)) (As := [.int p2, .int (0 : Int32), .int r_12]) (rest := []) [] ⟨hx, hb, hml, hown, hts⟩ hP hE hZ hS (cX7_in_ok l g  p2 (0 : Int32) r_12 e_13) (va_cwS 3 hts gX7_refusal_X7_in rfl rfl rfl hdX7_in.2 ⟨(Nat.le_of_ble_eq_true rfl), (Nat.le_of_ble_eq_true rfl)⟩) rfl rfl hl.1 rfl (Nat.le_of_ble_eq_true rfl) ⟨(Nat.le_of_ble_eq_true rfl), (Nat.le_of_ble_eq_true rfl)⟩ dX7_refusal_226 ?_
          refine lv_bne (tgt := 236) hx hb dX7_refusal_229 (by decide) (fun c_14 => ?_) (fun c_14 => ?_)
          · have hf := ip c_14 hf
            refine lv_aload_n hx hb dX7_refusal_236 rfl (lv_at hl 0 rfl) ?_
            refine lv_iload_n hx hb dX7_refusal_237 rfl (lv_at hl 2 rfl) ?_
            refine lv_iload_n hx hb dX7_refusal_238 rfl (lv_at hl 3 rfl) ?_
            obtain ⟨r_15, e_15, hf⟩ := bo hf
            refine pcallV (W0 := (wM g m0 m1 m2 m3 m4 μ)) (As := [.int p1, .int p2]) (rest := []) [0, 1, 2, 3, 4] 5 0 ⟨hx, hb, hml, hown, hts⟩ hP hE hZ hS (cX7_whyNoLabel_ok l g m0 m1 m2 m3 m4 μ p1 p2 e_15) (cwV 2 hts gX7_refusal_X7_whyNoLabel rfl rfl rfl hdX7_whyNoLabel ⟨(Nat.le_of_ble_eq_true rfl), (Nat.le_of_ble_eq_true rfl)⟩) rfl rfl rfl rfl rfl hl.1 rfl (Nat.le_of_ble_eq_true rfl) ⟨(Nat.le_of_ble_eq_true rfl), (Nat.le_of_ble_eq_true rfl)⟩ dX7_refusal_239 ?_
            refine lv_if_le (tgt := 249) hx hb dX7_refusal_242 (by decide) (fun c_16 => ?_) (fun c_16 => ?_)
            · have hf := ip c_16 hf
              refine lv_iconst (v := (0 : Int32)) hx hb dX7_refusal_249 (by decide) ?_
              exact p_iret (v := (0 : Int32)) hx hb hr hlocks (Option.some.inj hf) dX7_refusal_250
            · have hf := iq c_16 hf
              refine lv_iconst (v := (2 : Int32)) hx hb dX7_refusal_245 (by decide) ?_
              refine lv_goto (tgt := 250) hx hb dX7_refusal_246 (by decide) ?_
              exact p_iret (v := (2 : Int32)) hx hb hr hlocks (Option.some.inj hf) dX7_refusal_250
          · have hf := iq c_14 hf
            refine lv_iconst (v := (1 : Int32)) hx hb dX7_refusal_232 (by decide) ?_
            refine lv_goto (tgt := 250) hx hb dX7_refusal_233 (by decide) ?_
            exact p_iret (v := (1 : Int32)) hx hb hr hlocks (Option.some.inj hf) dX7_refusal_250
      · have hf := iq s_9 hf
        by_cases s_17 : p0 = (110 : Int32)
        · have hf := ip s_17 hf
          refine lv_tableIn (off := 103) (tgt := 104) hx hb dX7_refusal_1 (by rw [s_17]; decide) (by rw [s_17]; decide) (by rw [s_17]; rfl) (by decide) ?_
          refine lv_iload_n hx hb dX7_refusal_104 rfl (lv_at hl 3 rfl) ?_
          obtain ⟨r_18, e_18, hf⟩ := bo hf
          refine pcallS (W0 := (wM g m0 m1 m2 m3 m4 μ)) (As := [.int p2]) (rest := []) [] ⟨hx, hb, hml, hown, hts⟩ hP hE hZ hS (cX7_isPoint_ok l g  p2 e_18) (va_cwS 1 hts gX7_refusal_X7_isPoint rfl rfl rfl hdX7_isPoint.2 ⟨(Nat.le_of_ble_eq_true rfl), (Nat.le_of_ble_eq_true rfl)⟩) rfl rfl hl.1 rfl (Nat.le_of_ble_eq_true rfl) ⟨(Nat.le_of_ble_eq_true rfl), (Nat.le_of_ble_eq_true rfl)⟩ dX7_refusal_105 ?_
          refine lv_bne (tgt := 115) hx hb dX7_refusal_108 (by decide) (fun c_19 => ?_) (fun c_19 => ?_)
          · have hf := ip c_19 hf
            refine lv_iload_n hx hb dX7_refusal_115 rfl (lv_at hl 2 rfl) ?_
            refine lv_iconst (v := (0 : Int32)) hx hb dX7_refusal_116 (by decide) ?_
            refine lv_bipush (v := (99 : Int32)) hx hb dX7_refusal_117 (by decide) ?_
            obtain ⟨r_20, e_20, hf⟩ := bo hf
            refine pcallS (W0 := (wM g m0 m1 m2 m3 m4 μ)) (As := [.int p1, .int (0 : Int32), .int (99 : Int32)]) (rest := []) [] ⟨hx, hb, hml, hown, hts⟩ hP hE hZ hS (cX7_in_ok l g  p1 (0 : Int32) (99 : Int32) e_20) (va_cwS 3 hts gX7_refusal_X7_in rfl rfl rfl hdX7_in.2 ⟨(Nat.le_of_ble_eq_true rfl), (Nat.le_of_ble_eq_true rfl)⟩) rfl rfl hl.1 rfl (Nat.le_of_ble_eq_true rfl) ⟨(Nat.le_of_ble_eq_true rfl), (Nat.le_of_ble_eq_true rfl)⟩ dX7_refusal_119 ?_
            refine lv_bne (tgt := 129) hx hb dX7_refusal_122 (by decide) (fun c_21 => ?_) (fun c_21 => ?_)
            · have hf := ip c_21 hf
              refine lv_aload_n hx hb dX7_refusal_129 rfl (lv_at hl 0 rfl) ?_
              refine va_get (v := .ref m1) (C := RX7) (T := TX7) (N := 13) hx hb hts fiX7_refusal_X7 hown hE.1 hP 0 rfl rfl 0 (by decide) (hts _ flX7_refusal_7) (fun _ h9 => h9) rfl dX7_refusal_130 ?_
              refine lv_iconst (v := (0 : Int32)) hx hb dX7_refusal_133 (by decide) ?_
              refine va_iald hx hb hE.1 hP 1 0 rfl rfl (vin (by decide)) dX7_refusal_134 ?_
              refine lv_bipush (v := (8 : Int32)) hx hb dX7_refusal_135 (by decide) ?_
              refine lv_icmp_eq (tgt := 149) hx hb dX7_refusal_137 (by decide) (fun c_22 => ?_) (fun c_22 => ?_)
              · have hf := ip c_22 hf
                refine lv_iconst (v := (3 : Int32)) hx hb dX7_refusal_149 (by decide) ?_
                refine lv_goto (tgt := 154) hx hb dX7_refusal_150 (by decide) ?_
                exact p_iret (v := (3 : Int32)) hx hb hr hlocks (Option.some.inj hf) dX7_refusal_154
              · have hf := iq c_22 hf
                refine lv_aload_n hx hb dX7_refusal_140 rfl (lv_at hl 0 rfl) ?_
                refine lv_iload_n hx hb dX7_refusal_141 rfl (lv_at hl 3 rfl) ?_
                obtain ⟨r_23, e_23, hf⟩ := bo hf
                refine pcallV (W0 := (wM g m0 m1 m2 m3 m4 μ)) (As := [.int p2]) (rest := []) [0, 1, 2, 3, 4] 5 0 ⟨hx, hb, hml, hown, hts⟩ hP hE hZ hS (cX7_owner_ok l g m0 m1 m2 m3 m4 μ p2 e_23) (cwV 1 hts gX7_refusal_X7_owner rfl rfl rfl hdX7_owner ⟨(Nat.le_of_ble_eq_true rfl), (Nat.le_of_ble_eq_true rfl)⟩) rfl rfl rfl rfl rfl hl.1 rfl (Nat.le_of_ble_eq_true rfl) ⟨(Nat.le_of_ble_eq_true rfl), (Nat.le_of_ble_eq_true rfl)⟩ dX7_refusal_142 ?_
                refine lv_iconst (v := (-1 : Int32)) hx hb dX7_refusal_145 (by decide) ?_
                refine lv_icmp_eq (tgt := 153) hx hb dX7_refusal_146 (by decide) (fun c_24 => ?_) (fun c_24 => ?_)
                · have hf := ip c_24 hf
                  refine lv_iconst (v := (0 : Int32)) hx hb dX7_refusal_153 (by decide) ?_
                  exact p_iret (v := (0 : Int32)) hx hb hr hlocks (Option.some.inj hf) dX7_refusal_154
                · have hf := iq c_24 hf
                  refine lv_iconst (v := (3 : Int32)) hx hb dX7_refusal_149 (by decide) ?_
                  refine lv_goto (tgt := 154) hx hb dX7_refusal_150 (by decide) ?_
                  exact p_iret (v := (3 : Int32)) hx hb hr hlocks (Option.some.inj hf) dX7_refusal_154
            · have hf := iq c_21 hf
              refine lv_iconst (v := (2 : Int32)) hx hb dX7_refusal_125 (by decide) ?_
              refine lv_goto (tgt := 154) hx hb dX7_refusal_126 (by decide) ?_
              exact p_iret (v := (2 : Int32)) hx hb hr hlocks (Option.some.inj hf) dX7_refusal_154
          · have hf := iq c_19 hf
            refine lv_iconst (v := (1 : Int32)) hx hb dX7_refusal_111 (by decide) ?_
            refine lv_goto (tgt := 154) hx hb dX7_refusal_112 (by decide) ?_
            exact p_iret (v := (1 : Int32)) hx hb hr hlocks (Option.some.inj hf) dX7_refusal_154
        · have hf := iq s_17 hf
          by_cases s_25 : p0 = (115 : Int32)
          · have hf := ip s_25 hf
            refine lv_tableIn (off := 154) (tgt := 155) hx hb dX7_refusal_1 (by rw [s_25]; decide) (by rw [s_25]; decide) (by rw [s_25]; rfl) (by decide) ?_
            refine lv_aload_n hx hb dX7_refusal_155 rfl (lv_at hl 0 rfl) ?_
            refine lv_iload_n hx hb dX7_refusal_156 rfl (lv_at hl 2 rfl) ?_
            obtain ⟨r_26, e_26, hf⟩ := bo hf
            refine pcallV (W0 := (wM g m0 m1 m2 m3 m4 μ)) (As := [.int p1]) (rest := []) [0, 1, 2, 3, 4] 5 0 ⟨hx, hb, hml, hown, hts⟩ hP hE hZ hS (cX7_isLine_ok l g m0 m1 m2 m3 m4 μ p1 e_26) (cwV 1 hts gX7_refusal_X7_isLine rfl rfl rfl hdX7_isLine ⟨(Nat.le_of_ble_eq_true rfl), (Nat.le_of_ble_eq_true rfl)⟩) rfl rfl rfl rfl rfl hl.1 rfl (Nat.le_of_ble_eq_true rfl) ⟨(Nat.le_of_ble_eq_true rfl), (Nat.le_of_ble_eq_true rfl)⟩ dX7_refusal_157 ?_
            refine lv_bne (tgt := 167) hx hb dX7_refusal_160 (by decide) (fun c_27 => ?_) (fun c_27 => ?_)
            · have hf := ip c_27 hf
              refine lv_iload_n hx hb dX7_refusal_167 rfl (lv_at hl 3 rfl) ?_
              refine lv_iconst (v := (0 : Int32)) hx hb dX7_refusal_168 (by decide) ?_
              refine lv_bipush (v := (7 : Int32)) hx hb dX7_refusal_169 (by decide) ?_
              obtain ⟨r_28, e_28, hf⟩ := bo hf
              refine pcallS (W0 := (wM g m0 m1 m2 m3 m4 μ)) (As := [.int p2, .int (0 : Int32), .int (7 : Int32)]) (rest := []) [] ⟨hx, hb, hml, hown, hts⟩ hP hE hZ hS (cX7_in_ok l g  p2 (0 : Int32) (7 : Int32) e_28) (va_cwS 3 hts gX7_refusal_X7_in rfl rfl rfl hdX7_in.2 ⟨(Nat.le_of_ble_eq_true rfl), (Nat.le_of_ble_eq_true rfl)⟩) rfl rfl hl.1 rfl (Nat.le_of_ble_eq_true rfl) ⟨(Nat.le_of_ble_eq_true rfl), (Nat.le_of_ble_eq_true rfl)⟩ dX7_refusal_171 ?_
              refine lv_bne (tgt := 181) hx hb dX7_refusal_174 (by decide) (fun c_29 => ?_) (fun c_29 => ?_)
              · have hf := ip c_29 hf
                refine lv_aload_n hx hb dX7_refusal_181 rfl (lv_at hl 0 rfl) ?_
                refine lv_iload_n hx hb dX7_refusal_182 rfl (lv_at hl 2 rfl) ?_
                refine lv_iload_n hx hb dX7_refusal_183 rfl (lv_at hl 3 rfl) ?_
                obtain ⟨r_30, e_30, hf⟩ := bo hf
                refine pcallV (W0 := (wM g m0 m1 m2 m3 m4 μ)) (As := [.int p1, .int p2]) (rest := []) [0, 1, 2, 3, 4] 5 0 ⟨hx, hb, hml, hown, hts⟩ hP hE hZ hS (cX7_whyNot_ok l g m0 m1 m2 m3 m4 μ p1 p2 e_30) (cwV 2 hts gX7_refusal_X7_whyNot rfl rfl rfl hdX7_whyNot ⟨(Nat.le_of_ble_eq_true rfl), (Nat.le_of_ble_eq_true rfl)⟩) rfl rfl rfl rfl rfl hl.1 rfl (Nat.le_of_ble_eq_true rfl) ⟨(Nat.le_of_ble_eq_true rfl), (Nat.le_of_ble_eq_true rfl)⟩ dX7_refusal_184 ?_
                refine lv_if_le (tgt := 194) hx hb dX7_refusal_187 (by decide) (fun c_31 => ?_) (fun c_31 => ?_)
                · have hf := ip c_31 hf
                  refine lv_iconst (v := (0 : Int32)) hx hb dX7_refusal_194 (by decide) ?_
                  exact p_iret (v := (0 : Int32)) hx hb hr hlocks (Option.some.inj hf) dX7_refusal_195
                · have hf := iq c_31 hf
                  refine lv_iconst (v := (3 : Int32)) hx hb dX7_refusal_190 (by decide) ?_
                  refine lv_goto (tgt := 195) hx hb dX7_refusal_191 (by decide) ?_
                  exact p_iret (v := (3 : Int32)) hx hb hr hlocks (Option.some.inj hf) dX7_refusal_195
              · have hf := iq c_29 hf
                refine lv_iconst (v := (2 : Int32)) hx hb dX7_refusal_177 (by decide) ?_
                refine lv_goto (tgt := 195) hx hb dX7_refusal_178 (by decide) ?_
                exact p_iret (v := (2 : Int32)) hx hb hr hlocks (Option.some.inj hf) dX7_refusal_195
            · have hf := iq c_27 hf
              refine lv_iconst (v := (1 : Int32)) hx hb dX7_refusal_163 (by decide) ?_
              refine lv_goto (tgt := 195) hx hb dX7_refusal_164 (by decide) ?_
              exact p_iret (v := (1 : Int32)) hx hb hr hlocks (Option.some.inj hf) dX7_refusal_195
          · have hf := iq s_25 hf
            by_cases s_32 : p0 = (117 : Int32)
            · have hf := ip s_32 hf
              refine lv_tableIn (off := 250) (tgt := 251) hx hb dX7_refusal_1 (by rw [s_32]; decide) (by rw [s_32]; decide) (by rw [s_32]; rfl) (by decide) ?_
              refine lv_aload_n hx hb dX7_refusal_251 rfl (lv_at hl 0 rfl) ?_
              refine lv_iload_n hx hb dX7_refusal_252 rfl (lv_at hl 2 rfl) ?_
              obtain ⟨r_33, e_33, hf⟩ := bo hf
              refine pcallV (W0 := (wM g m0 m1 m2 m3 m4 μ)) (As := [.int p1]) (rest := []) [0, 1, 2, 3, 4] 5 0 ⟨hx, hb, hml, hown, hts⟩ hP hE hZ hS (cX7_isLine_ok l g m0 m1 m2 m3 m4 μ p1 e_33) (cwV 1 hts gX7_refusal_X7_isLine rfl rfl rfl hdX7_isLine ⟨(Nat.le_of_ble_eq_true rfl), (Nat.le_of_ble_eq_true rfl)⟩) rfl rfl rfl rfl rfl hl.1 rfl (Nat.le_of_ble_eq_true rfl) ⟨(Nat.le_of_ble_eq_true rfl), (Nat.le_of_ble_eq_true rfl)⟩ dX7_refusal_253 ?_
              refine lv_bne (tgt := 263) hx hb dX7_refusal_256 (by decide) (fun c_34 => ?_) (fun c_34 => ?_)
              · have hf := ip c_34 hf
                refine lv_aload_n hx hb dX7_refusal_263 rfl (lv_at hl 0 rfl) ?_
                refine lv_iload_n hx hb dX7_refusal_264 rfl (lv_at hl 2 rfl) ?_
                refine lv_iconst (v := (3 : Int32)) hx hb dX7_refusal_265 (by decide) ?_
                obtain ⟨r_35, e_35, hf⟩ := bo hf
                refine pcallV (W0 := (wM g m0 m1 m2 m3 m4 μ)) (As := [.int p1, .int (3 : Int32)]) (rest := []) [0, 1, 2, 3, 4] 5 0 ⟨hx, hb, hml, hown, hts⟩ hP hE hZ hS (cX7_of_ok l g m0 m1 m2 m3 m4 μ p1 (3 : Int32) e_35) (cwV 2 hts gX7_refusal_X7_of rfl rfl rfl hdX7_of ⟨(Nat.le_of_ble_eq_true rfl), (Nat.le_of_ble_eq_true rfl)⟩) rfl rfl rfl rfl rfl hl.1 rfl (Nat.le_of_ble_eq_true rfl) ⟨(Nat.le_of_ble_eq_true rfl), (Nat.le_of_ble_eq_true rfl)⟩ dX7_refusal_266 ?_
                refine lv_iconst (v := (-1 : Int32)) hx hb dX7_refusal_269 (by decide) ?_
                refine lv_icmp_ne (tgt := 277) hx hb dX7_refusal_270 (by decide) (fun c_36 => ?_) (fun c_36 => ?_)
                · have hf := iq c_36 hf
                  refine lv_iconst (v := (0 : Int32)) hx hb dX7_refusal_277 (by decide) ?_
                  exact p_iret (v := (0 : Int32)) hx hb hr hlocks (Option.some.inj hf) dX7_refusal_278
                · have hf := ip c_36 hf
                  refine lv_iconst (v := (2 : Int32)) hx hb dX7_refusal_273 (by decide) ?_
                  refine lv_goto (tgt := 278) hx hb dX7_refusal_274 (by decide) ?_
                  exact p_iret (v := (2 : Int32)) hx hb hr hlocks (Option.some.inj hf) dX7_refusal_278
              · have hf := iq c_34 hf
                refine lv_iconst (v := (1 : Int32)) hx hb dX7_refusal_259 (by decide) ?_
                refine lv_goto (tgt := 278) hx hb dX7_refusal_260 (by decide) ?_
                exact p_iret (v := (1 : Int32)) hx hb hr hlocks (Option.some.inj hf) dX7_refusal_278
            · have hf := iq s_32 hf
              by_cases s_37 : p0 = (119 : Int32)
              · have hf := ip s_37 hf
                refine lv_tableIn (off := 195) (tgt := 196) hx hb dX7_refusal_1 (by rw [s_37]; decide) (by rw [s_37]; decide) (by rw [s_37]; rfl) (by decide) ?_
                refine lv_aload_n hx hb dX7_refusal_196 rfl (lv_at hl 0 rfl) ?_
                refine lv_iload_n hx hb dX7_refusal_197 rfl (lv_at hl 2 rfl) ?_
                obtain ⟨r_38, e_38, hf⟩ := bo hf
                refine pcallV (W0 := (wM g m0 m1 m2 m3 m4 μ)) (As := [.int p1]) (rest := []) [0, 1, 2, 3, 4] 5 0 ⟨hx, hb, hml, hown, hts⟩ hP hE hZ hS (cX7_isLine_ok l g m0 m1 m2 m3 m4 μ p1 e_38) (cwV 1 hts gX7_refusal_X7_isLine rfl rfl rfl hdX7_isLine ⟨(Nat.le_of_ble_eq_true rfl), (Nat.le_of_ble_eq_true rfl)⟩) rfl rfl rfl rfl rfl hl.1 rfl (Nat.le_of_ble_eq_true rfl) ⟨(Nat.le_of_ble_eq_true rfl), (Nat.le_of_ble_eq_true rfl)⟩ dX7_refusal_198 ?_
                refine lv_beq (tgt := 208) hx hb dX7_refusal_201 (by decide) (fun c_39 => ?_) (fun c_39 => ?_)
                · have hf := iq c_39 hf
                  refine lv_iconst (v := (1 : Int32)) hx hb dX7_refusal_208 (by decide) ?_
                  exact p_iret (v := (1 : Int32)) hx hb hr hlocks (Option.some.inj hf) dX7_refusal_209
                · have hf := ip c_39 hf
                  refine lv_iconst (v := (0 : Int32)) hx hb dX7_refusal_204 (by decide) ?_
                  refine lv_goto (tgt := 209) hx hb dX7_refusal_205 (by decide) ?_
                  exact p_iret (v := (0 : Int32)) hx hb hr hlocks (Option.some.inj hf) dX7_refusal_209
              · have hf := iq s_37 hf
                refine lv_tabD (tgt := 322) hx hb dX7_refusal_1 [98, 103, 108, 110, 115, 117, 119] (by decide) (by decide +kernel) (fun v hv => ?_) (by decide) ?_
                · simp only [List.mem_cons, List.not_mem_nil, or_false] at hv
                  rcases hv with rfl | rfl | rfl | rfl | rfl | rfl | rfl
                  · exact lv_neT s_1 (by decide)
                  · exact lv_neT s_6 (by decide)
                  · exact lv_neT s_9 (by decide)
                  · exact lv_neT s_17 (by decide)
                  · exact lv_neT s_25 (by decide)
                  · exact lv_neT s_32 (by decide)
                  · exact lv_neT s_37 (by decide)
                refine lv_iconst (v := (0 : Int32)) hx hb dX7_refusal_322 (by decide) ?_
                exact p_iret (v := (0 : Int32)) hx hb hr hlocks (Option.some.inj hf) dX7_refusal_323

def fX7_wipes_39 (p0 : Int32) : Nat → Int32 → Mo → Option (Int32 × Mo)
  | 0, _, _ => none
  | n + 1, v2_39, μ_39 => (if (514 : Int32) ≤ v2_39 then (some (((upd (M_row μ_39) (Int32.toNatClampNeg (0 : Int32)) ((M_row μ_39 (Int32.toNatClampNeg (0 : Int32))) - (1 : Int32))) (Int32.toNatClampNeg (0 : Int32))), (M_row' μ_39 (upd (M_row μ_39) (Int32.toNatClampNeg (0 : Int32)) ((M_row μ_39 (Int32.toNatClampNeg (0 : Int32))) - (1 : Int32)))))) else (if inR v2_39 514 then fX7_wipes_39 p0 n (v2_39 + 1) (M_row' μ_39 (upd (M_row μ_39) (Int32.toNatClampNeg v2_39) (0 : Int32))) else none))
def fX7_wipes_7 (p0 : Int32) : Nat → Int32 → Mo → Option (Int32 × Mo)
  | 0, _, _ => none
  | n + 1, v2_7, μ_7 => (if (450 : Int32) ≤ v2_7 then fX7_wipes_39 p0 FU (450 : Int32) μ_7 else (if inR (v2_7 + (64 : Int32)) 514 then (if inR v2_7 514 then fX7_wipes_7 p0 n (v2_7 + 1) (M_row' μ_7 (upd (M_row μ_7) (Int32.toNatClampNeg v2_7) (M_row μ_7 (Int32.toNatClampNeg (v2_7 + (64 : Int32)))))) else none) else none))
def fX7_wipes (μ : Mo) (p0 : Int32) : Option (Int32 × Mo) := fX7_wipes_7 p0 FU ((2 : Int32) + ((64 : Int32) * p0)) μ
abbrev rmX7_wipes : Room := { frames := 0, cells := 0, slots := 0, locals := 0 }
theorem hdX7_wipes : yX7_wipes.cls = RX7 ∧ yX7_wipes.cls ≠ "java/lang/invoke/MethodHandle" ∧ yX7_wipes.cls ≠ "java/lang/invoke/VarHandle" ∧ (parseMethodDescriptor yX7_wipes.desc).map (fun d => d.parameters.length) = some 1 := by decide +kernel
theorem fiX7_wipes_X7 : ∀ w ∈ wsX70, w ∈ wsX7_wipes := by decide +kernel
theorem flX7_wipes_7 : (.fieldLink RX7 7 "ContourLabelsModel" "row" "[I" : Cond) ∈ wsX7_wipes := by decide +kernel
set_option maxHeartbeats 4000000 in
set_option maxRecDepth 100000 in
theorem cX7_wipes_ok (l : Launch) (g : Gg) (m0 m1 m2 m3 m4 : Nat) (μ : Mo) (p0 : Int32) (sz : Nat) {o : Int32 × Mo} (hf : fX7_wipes μ p0 = some o) : Met l yX7_wipes wsX7_wipes rmX7_wipes (va_Pc [.ref m0, .int p0] (PM g (wM g m0 m1 m2 m3 m4 μ) sz)) (va_Qi (fun r' (_ : Unit) => r' = o.1) (fun _ t => PQ g (wM g m0 m1 m2 m3 m4 o.2) (va_A (wM g m0 m1 m2 m3 m4 μ) sz) t) (va_A (wM g m0 m1 m2 m3 m4 μ) sz)) 0 0 (va_A (wM g m0 m1 m2 m3 m4 μ) sz) := by
  refine Met.ofW (cc := cX7_wipes) (maxL := 3) (ret := (some .int)) (by decide) rfl ?_
  intro p e s m args below meth c s₁ B hml hv
  obtain ⟨rfl, rfl, hP, hD0, hE, hZ⟩ := hv
  have hx := B.exec
  have hb := B.bytes
  have hr := B.returns
  have hts := atoms_spec (ws := wsX7_wipes) B.pre
  have hown : s.vm.findClass RX7 = some m.cls := findClass_of_methodNamed B.named
  have hlocks := B.notSynchronized
  have hD := hD0.self (sz := s.heap.size)
  generalize hAe : (va_A (wM g m0 m1 m2 m3 m4 μ) s.heap.size) = A at hD hZ ⊢
  have hA : ∀ q : Nat, s.heap.size ≤ q → A q := fun q h => by rw [← hAe]; exact Or.inr h
  have hS : va_S A s.heap s.heap [] := va_S.rf
  have hP : va_P g.1 vwCl (wM g m0 m1 m2 m3 m4 μ) s.heap := hP
  have hl := lv_entry ([.ref m0, .int p0]) (n := 3) (Nat.le_of_ble_eq_true rfl)
  rw [lg_entry_eq]
  generalize (lg_sl ([.ref m0, .int p0]) ++ List.replicate (3 - (lg_sl ([.ref m0, .int p0])).length) Slot.unset).toArray = ls at hl ⊢
  have hl : lv_has ls 3 [(0, .ref m0), (1, .int p0)] := hl
  have hB39 : ∀ (n39 : Nat) (v2_39 : Int32) (μ_39 : Mo) (H : Heap) (locs : List Loc) (ls : Array Slot), va_P g.1 vwCl (wM g m0 m1 m2 m3 m4 μ_39) H → va_D A (wM g m0 m1 m2 m3 m4 μ_39) → va_S A s.heap H locs → lv_has ls 3 [(0, .ref m0), (2, .int v2_39)] → fX7_wipes_39 p0 n39 v2_39 μ_39 = some o → W p l e (headSpec wsX7_wipes rmX7_wipes).room s m ([.ref m0, .int p0] : List Value).toArray below meth c H locs 0 0 (MQ below (va_Qi (fun r' (_ : Unit) => r' = o.1) (fun _ t => PQ g (wM g m0 m1 m2 m3 m4 o.2) A t) A) ([.ref m0, .int p0] : List Value).toArray s 0 0 A) (F0 m 39 ls []) := by
    intro  n39
    induction n39 with
    | zero => intro v2_39 μ_39 H locs ls hP hD hS hl hf; exact nomatch (show (none : Option (Int32 × Mo)) = some _ from hf)
    | succ n39 ih39 =>
      intro v2_39 μ_39 H locs ls hP hD hS hl hf
      rw [fX7_wipes_39] at hf
      refine lv_iload_n hx hb dX7_wipes_39 rfl (lv_at hl 1 rfl) ?_
      refine lv_sipush (v := (514 : Int32)) hx hb dX7_wipes_40 (by decide) ?_
      refine lv_icmp_ge (tgt := 59) hx hb dX7_wipes_43 (by decide) (fun c_1 => ?_) (fun c_1 => ?_)
      · have hf := ip c_1 hf
        refine lv_aload_n hx hb dX7_wipes_59 rfl (lv_at hl 0 rfl) ?_
        refine va_get (v := .ref m1) (C := RX7) (T := TX7) (N := 13) hx hb hts fiX7_wipes_X7 hown hE.1 hP 0 rfl rfl 0 (by decide) (hts _ flX7_wipes_7) (fun _ h9 => h9) rfl dX7_wipes_60 ?_
        refine lv_iconst (v := (0 : Int32)) hx hb dX7_wipes_63 (by decide) ?_
        refine lv_dup2_11 hx hb dX7_wipes_64 rfl rfl ?_
        refine va_iald hx hb hE.1 hP 1 0 rfl rfl (vin (by decide)) dX7_wipes_65 ?_
        refine lv_iconst (v := (1 : Int32)) hx hb dX7_wipes_66 (by decide) ?_
        refine lv_isub hx hb dX7_wipes_67 ?_
        refine va_iast hx hb hE.1 hP hD hS 1 0 rfl rfl (vin (by decide)) dX7_wipes_68 (fun H locs hP hD hS => ?_)
        have hP : va_P g.1 vwCl (wM g m0 m1 m2 m3 m4 (M_row' μ_39 (upd (M_row μ_39) (Int32.toNatClampNeg (0 : Int32)) ((M_row μ_39 (Int32.toNatClampNeg (0 : Int32))) - (1 : Int32))))) H := hP
        have hD : va_D A (wM g m0 m1 m2 m3 m4 (M_row' μ_39 (upd (M_row μ_39) (Int32.toNatClampNeg (0 : Int32)) ((M_row μ_39 (Int32.toNatClampNeg (0 : Int32))) - (1 : Int32))))) := hD
        refine lv_aload_n hx hb dX7_wipes_69 rfl (lv_at hl 0 rfl) ?_
        refine va_get (v := .ref m1) (C := RX7) (T := TX7) (N := 13) hx hb hts fiX7_wipes_X7 hown hE.1 hP 0 rfl rfl 0 (by decide) (hts _ flX7_wipes_7) (fun _ h9 => h9) rfl dX7_wipes_70 ?_
        refine lv_iconst (v := (0 : Int32)) hx hb dX7_wipes_73 (by decide) ?_
        refine va_iald hx hb hE.1 hP 1 0 rfl rfl (vin (by decide)) dX7_wipes_74 ?_
        have ho := Option.some.inj hf
        subst ho
        exact m_iret (v := ((upd (M_row μ_39) (Int32.toNatClampNeg (0 : Int32)) ((M_row μ_39 (Int32.toNatClampNeg (0 : Int32))) - (1 : Int32))) (Int32.toNatClampNeg (0 : Int32)))) hx hb hr hlocks hP hD hS rfl dX7_wipes_75
      · have hf := iq c_1 hf
        refine lv_aload_n hx hb dX7_wipes_46 rfl (lv_at hl 0 rfl) ?_
        refine va_get (v := .ref m1) (C := RX7) (T := TX7) (N := 13) hx hb hts fiX7_wipes_X7 hown hE.1 hP 0 rfl rfl 0 (by decide) (hts _ flX7_wipes_7) (fun _ h9 => h9) rfl dX7_wipes_47 ?_
        refine lv_iload_n hx hb dX7_wipes_50 rfl (lv_at hl 1 rfl) ?_
        refine lv_iconst (v := (0 : Int32)) hx hb dX7_wipes_51 (by decide) ?_
        obtain ⟨h_2, hf⟩ := ck hf
        refine va_iast hx hb hE.1 hP hD hS 1 0 rfl rfl (vin h_2) dX7_wipes_52 (fun H locs hP hD hS => ?_)
        have hP : va_P g.1 vwCl (wM g m0 m1 m2 m3 m4 (M_row' μ_39 (upd (M_row μ_39) (Int32.toNatClampNeg v2_39) (0 : Int32)))) H := hP
        have hD : va_D A (wM g m0 m1 m2 m3 m4 (M_row' μ_39 (upd (M_row μ_39) (Int32.toNatClampNeg v2_39) (0 : Int32)))) := hD
        refine lv_iinc (v := (v2_39 + 1)) (lv' := [(2, .int (v2_39 + 1)), (0, .ref m0)]) hx hb dX7_wipes_53 hl (k := 1) rfl rfl (by decide) rfl (fun ls hl => ?_)
        refine lv_goto (tgt := 39) hx hb dX7_wipes_56 (by decide) ?_
        exact ih39 (v2_39 + 1) (M_row' μ_39 (upd (M_row μ_39) (Int32.toNatClampNeg v2_39) (0 : Int32))) _ _ ls hP hD hS (lv_sub hl [1, 0] rfl) hf
  have hB7 : ∀ (n7 : Nat) (v2_7 : Int32) (μ_7 : Mo) (H : Heap) (locs : List Loc) (ls : Array Slot), va_P g.1 vwCl (wM g m0 m1 m2 m3 m4 μ_7) H → va_D A (wM g m0 m1 m2 m3 m4 μ_7) → va_S A s.heap H locs → lv_has ls 3 [(0, .ref m0), (2, .int v2_7)] → fX7_wipes_7 p0 n7 v2_7 μ_7 = some o → W p l e (headSpec wsX7_wipes rmX7_wipes).room s m ([.ref m0, .int p0] : List Value).toArray below meth c H locs 0 0 (MQ below (va_Qi (fun r' (_ : Unit) => r' = o.1) (fun _ t => PQ g (wM g m0 m1 m2 m3 m4 o.2) A t) A) ([.ref m0, .int p0] : List Value).toArray s 0 0 A) (F0 m 7 ls []) := by
    intro  n7
    induction n7 with
    | zero => intro v2_7 μ_7 H locs ls hP hD hS hl hf; exact nomatch (show (none : Option (Int32 × Mo)) = some _ from hf)
    | succ n7 ih7 =>
      intro v2_7 μ_7 H locs ls hP hD hS hl hf
      rw [fX7_wipes_7] at hf
      refine lv_iload_n hx hb dX7_wipes_7 rfl (lv_at hl 1 rfl) ?_
      refine lv_sipush (v := (450 : Int32)) hx hb dX7_wipes_8 (by decide) ?_
      refine lv_icmp_ge (tgt := 35) hx hb dX7_wipes_11 (by decide) (fun c_3 => ?_) (fun c_3 => ?_)
      · have hf := ip c_3 hf
        refine lv_sipush (v := (450 : Int32)) hx hb dX7_wipes_35 (by decide) ?_
        refine lv_istore_n (lv' := [(2, .int (450 : Int32)), (0, .ref m0)]) hx hb dX7_wipes_38 rfl hl (by decide) rfl (fun ls hl => ?_)
        exact hB39 FU (450 : Int32) μ_7 _ _ ls hP hD hS (lv_sub hl [1, 0] rfl) hf
      · have hf := iq c_3 hf
        refine lv_aload_n hx hb dX7_wipes_14 rfl (lv_at hl 0 rfl) ?_
        refine va_get (v := .ref m1) (C := RX7) (T := TX7) (N := 13) hx hb hts fiX7_wipes_X7 hown hE.1 hP 0 rfl rfl 0 (by decide) (hts _ flX7_wipes_7) (fun _ h9 => h9) rfl dX7_wipes_15 ?_
        refine lv_iload_n hx hb dX7_wipes_18 rfl (lv_at hl 1 rfl) ?_
        refine lv_aload_n hx hb dX7_wipes_19 rfl (lv_at hl 0 rfl) ?_
        refine va_get (v := .ref m1) (C := RX7) (T := TX7) (N := 13) hx hb hts fiX7_wipes_X7 hown hE.1 hP 0 rfl rfl 0 (by decide) (hts _ flX7_wipes_7) (fun _ h9 => h9) rfl dX7_wipes_20 ?_
        refine lv_iload_n hx hb dX7_wipes_23 rfl (lv_at hl 1 rfl) ?_
        refine lv_bipush (v := (64 : Int32)) hx hb dX7_wipes_24 (by decide) ?_
        refine lv_iadd hx hb dX7_wipes_26 ?_
        obtain ⟨h_4, hf⟩ := ck hf
        refine va_iald hx hb hE.1 hP 1 0 rfl rfl (vin h_4) dX7_wipes_27 ?_
        obtain ⟨h_5, hf⟩ := ck hf
        refine va_iast hx hb hE.1 hP hD hS 1 0 rfl rfl (vin h_5) dX7_wipes_28 (fun H locs hP hD hS => ?_)
        have hP : va_P g.1 vwCl (wM g m0 m1 m2 m3 m4 (M_row' μ_7 (upd (M_row μ_7) (Int32.toNatClampNeg v2_7) (M_row μ_7 (Int32.toNatClampNeg (v2_7 + (64 : Int32))))))) H := hP
        have hD : va_D A (wM g m0 m1 m2 m3 m4 (M_row' μ_7 (upd (M_row μ_7) (Int32.toNatClampNeg v2_7) (M_row μ_7 (Int32.toNatClampNeg (v2_7 + (64 : Int32))))))) := hD
        refine lv_iinc (v := (v2_7 + 1)) (lv' := [(2, .int (v2_7 + 1)), (0, .ref m0)]) hx hb dX7_wipes_29 hl (k := 1) rfl rfl (by decide) rfl (fun ls hl => ?_)
        refine lv_goto (tgt := 7) hx hb dX7_wipes_32 (by decide) ?_
        exact ih7 (v2_7 + 1) (M_row' μ_7 (upd (M_row μ_7) (Int32.toNatClampNeg v2_7) (M_row μ_7 (Int32.toNatClampNeg (v2_7 + (64 : Int32)))))) _ _ ls hP hD hS (lv_sub hl [1, 0] rfl) hf
  unfold fX7_wipes at hf
  refine lv_iconst (v := (2 : Int32)) hx hb dX7_wipes_0 (by decide) ?_
  refine lv_bipush (v := (64 : Int32)) hx hb dX7_wipes_1 (by decide) ?_
  refine lv_iload_n hx hb dX7_wipes_3 rfl (lv_at hl 1 rfl) ?_
  refine lv_imul hx hb dX7_wipes_4 ?_
  refine lv_iadd hx hb dX7_wipes_5 ?_
  refine lv_istore_n (lv' := [(2, .int ((2 : Int32) + ((64 : Int32) * p0))), (0, .ref m0), (1, .int p0)]) hx hb dX7_wipes_6 rfl hl (by decide) rfl (fun ls hl => ?_)
  exact hB7 FU ((2 : Int32) + ((64 : Int32) * p0)) μ _ _ ls hP hD hS (lv_sub hl [1, 0] rfl) hf
