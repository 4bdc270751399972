def fX3_size (τ : Tx) : Option (Int32) := (some (X_len τ))
abbrev rmX3_size : Room := { frames := 0, cells := 0, slots := 0, locals := 0 }
theorem hdX3_size : yX3_size.cls = RX3 ∧ yX3_size.cls ≠ "java/lang/invoke/MethodHandle" ∧ yX3_size.cls ≠ "java/lang/invoke/VarHandle" ∧ (parseMethodDescriptor yX3_size.desc).map (fun d => d.parameters.length) = some 0 := by decide +kernel
theorem fiX3_size_X3 : ∀ w ∈ wsX30, w ∈ wsX3_size := by decide +kernel
theorem flX3_size_15 : (.fieldLink RX3 15 "ContourLabels$OrderText" "length" "I" : Cond) ∈ wsX3_size := by decide +kernel
set_option maxHeartbeats 4000000 in
set_option maxRecDepth 100000 in
theorem cX3_size_ok (l : Launch) (g : Gg) (x0 x1 : Nat) (τ : Tx) {r : Int32} (hf : fX3_size τ = some r) : Met l yX3_size wsX3_size rmX3_size (va_Pc [.ref x0] (PP g (wX g x0 x1 τ))) (vp_Si (fun r' => r' = r)) 0 0 (fun _ => False) := by
  refine Met.ofW (cc := cX3_size) (maxL := 1) (ret := (some .int)) (by decide) rfl ?_
  intro p e s m args below meth c s₁ B hml hv
  obtain ⟨rfl, hP, hE, hZ⟩ := hv
  have hx := B.exec
  have hb := B.bytes
  have hr := B.returns
  have hts := atoms_spec (ws := wsX3_size) B.pre
  have hown : s.vm.findClass RX3 = some m.cls := findClass_of_methodNamed B.named
  have hlocks := B.notSynchronized
  have hS : va_S (fun _ => False) s.heap s.heap [] := va_S.rf
  have hl := lv_entry ([.ref x0]) (n := 1) (Nat.le_of_ble_eq_true rfl)
  rw [lg_entry_eq]
  generalize (lg_sl ([.ref x0]) ++ List.replicate (1 - (lg_sl ([.ref x0])).length) Slot.unset).toArray = ls at hl ⊢
  have hl : lv_has ls 1 [(0, .ref x0)] := hl
  unfold fX3_size at hf
  refine lv_aload_n hx hb dX3_size_0 rfl (lv_at hl 0 rfl) ?_
  refine va_get (v := .int (X_len τ)) (C := RX3) (T := TX3) (N := 8) hx hb hts fiX3_size_X3 hown hE.1 hP 0 rfl rfl 1 (by decide) (hts _ flX3_size_15) (fun _ h9 => h9) rfl dX3_size_1 ?_
  exact p_iret (v := (X_len τ)) hx hb hr hlocks (Option.some.inj hf) dX3_size_4

def fX3_isFull (τ : Tx) : Option (Bool) := (if (X_len τ) < (60 : Int32) then (some false) else (some true))
abbrev rmX3_isFull : Room := { frames := 0, cells := 0, slots := 0, locals := 0 }
theorem hdX3_isFull : yX3_isFull.cls = RX3 ∧ yX3_isFull.cls ≠ "java/lang/invoke/MethodHandle" ∧ yX3_isFull.cls ≠ "java/lang/invoke/VarHandle" ∧ (parseMethodDescriptor yX3_isFull.desc).map (fun d => d.parameters.length) = some 0 := by decide +kernel
theorem fiX3_isFull_X3 : ∀ w ∈ wsX30, w ∈ wsX3_isFull := by decide +kernel
theorem flX3_isFull_15 : (.fieldLink RX3 15 "ContourLabels$OrderText" "length" "I" : Cond) ∈ wsX3_isFull := by decide +kernel
set_option maxHeartbeats 4000000 in
set_option maxRecDepth 100000 in
theorem cX3_isFull_ok (l : Launch) (g : Gg) (x0 x1 : Nat) (τ : Tx) {r : Bool} (hf : fX3_isFull τ = some r) : Met l yX3_isFull wsX3_isFull rmX3_isFull (va_Pc [.ref x0] (PP g (wX g x0 x1 τ))) (vp_Si (fun r' => r' = b2i r)) 0 0 (fun _ => False) := by
  refine Met.ofW (cc := cX3_isFull) (maxL := 1) (ret := (some .boolean)) (by decide) rfl ?_
  intro p e s m args below meth c s₁ B hml hv
  obtain ⟨rfl, hP, hE, hZ⟩ := hv
  have hx := B.exec
  have hb := B.bytes
  have hr := B.returns
  have hts := atoms_spec (ws := wsX3_isFull) B.pre
  have hown : s.vm.findClass RX3 = some m.cls := findClass_of_methodNamed B.named
  have hlocks := B.notSynchronized
  have hS : va_S (fun _ => False) s.heap s.heap [] := va_S.rf
  have hl := lv_entry ([.ref x0]) (n := 1) (Nat.le_of_ble_eq_true rfl)
  rw [lg_entry_eq]
  generalize (lg_sl ([.ref x0]) ++ List.replicate (1 - (lg_sl ([.ref x0])).length) Slot.unset).toArray = ls at hl ⊢
  have hl : lv_has ls 1 [(0, .ref x0)] := hl
  unfold fX3_isFull at hf
  refine lv_aload_n hx hb dX3_isFull_0 rfl (lv_at hl 0 rfl) ?_
  refine va_get (v := .int (X_len τ)) (C := RX3) (T := TX3) (N := 8) hx hb hts fiX3_isFull_X3 hown hE.1 hP 0 rfl rfl 1 (by decide) (hts _ flX3_isFull_15) (fun _ h9 => h9) rfl dX3_isFull_1 ?_
  refine lv_bipush (v := (60 : Int32)) hx hb dX3_isFull_4 (by decide) ?_
  refine lv_icmp_lt (tgt := 13) hx hb dX3_isFull_6 (by decide) (fun c_1 => ?_) (fun c_1 => ?_)
  · have hf := ip c_1 hf
    refine lv_iconst (v := (0 : Int32)) hx hb dX3_isFull_13 (by decide) ?_
    exact p_zret (v := false) hx hb hr hlocks (Option.some.inj hf) dX3_isFull_14
  · have hf := iq c_1 hf
    refine lv_iconst (v := (1 : Int32)) hx hb dX3_isFull_9 (by decide) ?_
    refine lv_goto (tgt := 14) hx hb dX3_isFull_10 (by decide) ?_
    exact p_zret (v := true) hx hb hr hlocks (Option.some.inj hf) dX3_isFull_14

def fX3_add (τ : Tx) (p0 : Int32) : Option (Tx) := ((fX3_isFull τ).bind fun r_1 => (if r_1 = true then (some τ) else (if inR (X_len τ) 60 then (some (X_len' (X_sg' τ (upd (X_sg τ) (Int32.toNatClampNeg (X_len τ)) p0)) ((X_len τ) + (1 : Int32)))) else none)))
abbrev rmX3_add : Room := { frames := 1, cells := 0, slots := 0, locals := 20 }
theorem hdX3_add : yX3_add.cls = RX3 ∧ yX3_add.cls ≠ "java/lang/invoke/MethodHandle" ∧ yX3_add.cls ≠ "java/lang/invoke/VarHandle" ∧ (parseMethodDescriptor yX3_add.desc).map (fun d => d.parameters.length) = some 1 := by decide +kernel
theorem fiX3_add_X3 : ∀ w ∈ wsX30, w ∈ wsX3_add := by decide +kernel
theorem flX3_add_11 : (.fieldLink RX3 11 "ContourLabels$OrderText" "signs" "[I" : Cond) ∈ wsX3_add := by decide +kernel
theorem flX3_add_15 : (.fieldLink RX3 15 "ContourLabels$OrderText" "length" "I" : Cond) ∈ wsX3_add := by decide +kernel
set_option maxHeartbeats 4000000 in
set_option maxRecDepth 100000 in
theorem cX3_add_ok (l : Launch) (g : Gg) (x0 x1 : Nat) (τ : Tx) (p0 : Int32) (sz : Nat) {o : Tx} (hf : fX3_add τ p0 = some o) : Met l yX3_add wsX3_add rmX3_add (va_Pc [.ref x0, .int p0] (PM g (wX g x0 x1 τ) sz)) (va_Qv (fun _ : Unit => True) (fun _ t => PQ g (wX g x0 x1 o) (va_A (wX g x0 x1 τ) sz) t) (va_A (wX g x0 x1 τ) sz)) 0 0 (va_A (wX g x0 x1 τ) sz) := by
  refine Met.ofW (cc := cX3_add) (maxL := 2) (ret := none) (by decide) rfl ?_
  intro p e s m args below meth c s₁ B hml hv
  obtain ⟨rfl, rfl, hP, hD0, hE, hZ⟩ := hv
  have hx := B.exec
  have hb := B.bytes
  have hr := B.returns
  have hts := atoms_spec (ws := wsX3_add) B.pre
  have hown : s.vm.findClass RX3 = some m.cls := findClass_of_methodNamed B.named
  have hlocks := B.notSynchronized
  have hD := hD0.self (sz := s.heap.size)
  generalize hAe : (va_A (wX g x0 x1 τ) s.heap.size) = A at hD hZ ⊢
  have hA : ∀ q : Nat, s.heap.size ≤ q → A q := fun q h => by rw [← hAe]; exact Or.inr h
  have hS : va_S A s.heap s.heap [] := va_S.rf
  have hP : va_P g.1 vwCl (wX g x0 x1 τ) s.heap := hP
  have hl := lv_entry ([.ref x0, .int p0]) (n := 2) (Nat.le_of_ble_eq_true rfl)
  rw [lg_entry_eq]
  generalize (lg_sl ([.ref x0, .int p0]) ++ List.replicate (2 - (lg_sl ([.ref x0, .int p0])).length) Slot.unset).toArray = ls at hl ⊢
  have hl : lv_has ls 2 [(0, .ref x0), (1, .int p0)] := hl
  unfold fX3_add at hf
  refine lv_aload_n hx hb dX3_add_0 rfl (lv_at hl 0 rfl) ?_
  obtain ⟨r_1, e_1, hf⟩ := bo hf
  refine pcallV (W0 := (wX g x0 x1 τ)) (As := []) (rest := []) [0, 1] 2 0 ⟨hx, hb, hml, hown, hts⟩ hP hE hZ hS (cX3_isFull_ok l g x0 x1 τ e_1) (cwV 0 hts gX3_add_X3_isFull rfl rfl rfl hdX3_isFull ⟨(Nat.le_of_ble_eq_true rfl), (Nat.le_of_ble_eq_true rfl)⟩) rfl rfl rfl rfl rfl hl.1 rfl (Nat.le_of_ble_eq_true rfl) ⟨(Nat.le_of_ble_eq_true rfl), (Nat.le_of_ble_eq_true rfl)⟩ dX3_add_1 ?_
  refine lv_bne (tgt := 27) hx hb dX3_add_4 (by decide) (fun c_2 => ?_) (fun c_2 => ?_)
  · have hf := ip c_2 hf
    have ho := Option.some.inj hf
    subst ho
    exact m_vret hx hb hr hlocks hP hD hS dX3_add_27
  · have hf := iq c_2 hf
    refine lv_aload_n hx hb dX3_add_7 rfl (lv_at hl 0 rfl) ?_
    refine va_get (v := .ref x1) (C := RX3) (T := TX3) (N := 8) hx hb hts fiX3_add_X3 hown hE.1 hP 0 rfl rfl 0 (by decide) (hts _ flX3_add_11) (fun _ h9 => h9) rfl dX3_add_8 ?_
    refine lv_aload_n hx hb dX3_add_11 rfl (lv_at hl 0 rfl) ?_
    refine va_get (v := .int (X_len τ)) (C := RX3) (T := TX3) (N := 8) hx hb hts fiX3_add_X3 hown hE.1 hP 0 rfl rfl 1 (by decide) (hts _ flX3_add_15) (fun _ h9 => h9) rfl dX3_add_12 ?_
    refine lv_iload_n hx hb dX3_add_15 rfl (lv_at hl 1 rfl) ?_
    obtain ⟨h_3, hf⟩ := ck hf
    refine va_iast hx hb hE.1 hP hD hS 1 0 rfl rfl (vin h_3) dX3_add_16 (fun H locs hP hD hS => ?_)
    have hP : va_P g.1 vwCl (wX g x0 x1 (X_sg' τ (upd (X_sg τ) (Int32.toNatClampNeg (X_len τ)) p0))) H := hP
    have hD : va_D A (wX g x0 x1 (X_sg' τ (upd (X_sg τ) (Int32.toNatClampNeg (X_len τ)) p0))) := hD
    refine lv_aload_n hx hb dX3_add_17 rfl (lv_at hl 0 rfl) ?_
    refine lv_dup hx hb dX3_add_18 rfl ?_
    refine va_get (v := .int (X_len τ)) (C := RX3) (T := TX3) (N := 8) hx hb hts fiX3_add_X3 hown hE.1 hP 0 rfl rfl 1 (by decide) (hts _ flX3_add_15) (fun _ h9 => h9) rfl dX3_add_19 ?_
    refine lv_iconst (v := (1 : Int32)) hx hb dX3_add_22 (by decide) ?_
    refine lv_iadd hx hb dX3_add_23 ?_
    refine va_put (v := .int ((X_len τ) + (1 : Int32))) (ty := .int) (C := RX3) (T := TX3) (N := 8) hx hb hts fiX3_add_X3 tyX3 tyX3_ok nmX3 hown hE.1 hP hD hS 0 rfl rfl 1 (by decide) (hts _ flX3_add_15) (fun _ h9 => h9) rfl (by decide +kernel) rfl rfl (Nat.le_of_ble_eq_true rfl) dX3_add_24 (fun H locs hP hD hS => ?_)
    have hP : va_P g.1 vwCl (wX g x0 x1 (X_len' (X_sg' τ (upd (X_sg τ) (Int32.toNatClampNeg (X_len τ)) p0)) ((X_len τ) + (1 : Int32)))) H := hP
    have hD : va_D A (wX g x0 x1 (X_len' (X_sg' τ (upd (X_sg τ) (Int32.toNatClampNeg (X_len τ)) p0)) ((X_len τ) + (1 : Int32)))) := hD
    have ho := Option.some.inj hf
    subst ho
    exact m_vret hx hb hr hlocks hP hD hS dX3_add_27

def fX3_empty (τ : Tx) : Option (Tx) := (some (X_len' τ (0 : Int32)))
abbrev rmX3_empty : Room := { frames := 0, cells := 0, slots := 0, locals := 0 }
theorem hdX3_empty : yX3_empty.cls = RX3 ∧ yX3_empty.cls ≠ "java/lang/invoke/MethodHandle" ∧ yX3_empty.cls ≠ "java/lang/invoke/VarHandle" ∧ (parseMethodDescriptor yX3_empty.desc).map (fun d => d.parameters.length) = some 0 := by decide +kernel
theorem fiX3_empty_X3 : ∀ w ∈ wsX30, w ∈ wsX3_empty := by decide +kernel
theorem flX3_empty_15 : (.fieldLink RX3 15 "ContourLabels$OrderText" "length" "I" : Cond) ∈ wsX3_empty := by decide +kernel
set_option maxHeartbeats 4000000 in
set_option maxRecDepth 100000 in
theorem cX3_empty_ok (l : Launch) (g : Gg) (x0 x1 : Nat) (τ : Tx) (sz : Nat) {o : Tx} (hf : fX3_empty τ = some o) : Met l yX3_empty wsX3_empty rmX3_empty (va_Pc [.ref x0] (PM g (wX g x0 x1 τ) sz)) (va_Qv (fun _ : Unit => True) (fun _ t => PQ g (wX g x0 x1 o) (va_A (wX g x0 x1 τ) sz) t) (va_A (wX g x0 x1 τ) sz)) 0 0 (va_A (wX g x0 x1 τ) sz) := by
  refine Met.ofW (cc := cX3_empty) (maxL := 1) (ret := none) (by decide) rfl ?_
  intro p e s m args below meth c s₁ B hml hv
  obtain ⟨rfl, rfl, hP, hD0, hE, hZ⟩ := hv
  have hx := B.exec
  have hb := B.bytes
  have hr := B.returns
  have hts := atoms_spec (ws := wsX3_empty) B.pre
  have hown : s.vm.findClass RX3 = some m.cls := findClass_of_methodNamed B.named
  have hlocks := B.notSynchronized
  have hD := hD0.self (sz := s.heap.size)
  generalize hAe : (va_A (wX g x0 x1 τ) s.heap.size) = A at hD hZ ⊢
  have hA : ∀ q : Nat, s.heap.size ≤ q → A q := fun q h => by rw [← hAe]; exact Or.inr h
  have hS : va_S A s.heap s.heap [] := va_S.rf
  have hP : va_P g.1 vwCl (wX g x0 x1 τ) s.heap := hP
  have hl := lv_entry ([.ref x0]) (n := 1) (Nat.le_of_ble_eq_true rfl)
  rw [lg_entry_eq]
  generalize (lg_sl ([.ref x0]) ++ List.replicate (1 - (lg_sl ([.ref x0])).length) Slot.unset).toArray = ls at hl ⊢
  have hl : lv_has ls 1 [(0, .ref x0)] := hl
  unfold fX3_empty at hf
  refine lv_aload_n hx hb dX3_empty_0 rfl (lv_at hl 0 rfl) ?_
  refine lv_iconst (v := (0 : Int32)) hx hb dX3_empty_1 (by decide) ?_
  refine va_put (v := .int (0 : Int32)) (ty := .int) (C := RX3) (T := TX3) (N := 8) hx hb hts fiX3_empty_X3 tyX3 tyX3_ok nmX3 hown hE.1 hP hD hS 0 rfl rfl 1 (by decide) (hts _ flX3_empty_15) (fun _ h9 => h9) rfl (by decide +kernel) rfl rfl (Nat.le_of_ble_eq_true rfl) dX3_empty_2 (fun H locs hP hD hS => ?_)
  have hP : va_P g.1 vwCl (wX g x0 x1 (X_len' τ (0 : Int32))) H := hP
  have hD : va_D A (wX g x0 x1 (X_len' τ (0 : Int32))) := hD
  have ho := Option.some.inj hf
  subst ho
  exact m_vret hx hb hr hlocks hP hD hS dX3_empty_5

def fX3_kind (τ : Tx) : Option (Int32) := (some (X_kind τ))
abbrev rmX3_kind : Room := { frames := 0, cells := 0, slots := 0, locals := 0 }
theorem hdX3_kind : yX3_kind.cls = RX3 ∧ yX3_kind.cls ≠ "java/lang/invoke/MethodHandle" ∧ yX3_kind.cls ≠ "java/lang/invoke/VarHandle" ∧ (parseMethodDescriptor yX3_kind.desc).map (fun d => d.parameters.length) = some 0 := by decide +kernel
theorem fiX3_kind_X3 : ∀ w ∈ wsX30, w ∈ wsX3_kind := by decide +kernel
theorem flX3_kind_23 : (.fieldLink RX3 23 "ContourLabels$OrderText" "kind" "I" : Cond) ∈ wsX3_kind := by decide +kernel
set_option maxHeartbeats 4000000 in
set_option maxRecDepth 100000 in
theorem cX3_kind_ok (l : Launch) (g : Gg) (x0 x1 : Nat) (τ : Tx) {r : Int32} (hf : fX3_kind τ = some r) : Met l yX3_kind wsX3_kind rmX3_kind (va_Pc [.ref x0] (PP g (wX g x0 x1 τ))) (vp_Si (fun r' => r' = r)) 0 0 (fun _ => False) := by
  refine Met.ofW (cc := cX3_kind) (maxL := 1) (ret := (some .int)) (by decide) rfl ?_
  intro p e s m args below meth c s₁ B hml hv
  obtain ⟨rfl, hP, hE, hZ⟩ := hv
  have hx := B.exec
  have hb := B.bytes
  have hr := B.returns
  have hts := atoms_spec (ws := wsX3_kind) B.pre
  have hown : s.vm.findClass RX3 = some m.cls := findClass_of_methodNamed B.named
  have hlocks := B.notSynchronized
  have hS : va_S (fun _ => False) s.heap s.heap [] := va_S.rf
  have hl := lv_entry ([.ref x0]) (n := 1) (Nat.le_of_ble_eq_true rfl)
  rw [lg_entry_eq]
  generalize (lg_sl ([.ref x0]) ++ List.replicate (1 - (lg_sl ([.ref x0])).length) Slot.unset).toArray = ls at hl ⊢
  have hl : lv_has ls 1 [(0, .ref x0)] := hl
  unfold fX3_kind at hf
  refine lv_aload_n hx hb dX3_kind_0 rfl (lv_at hl 0 rfl) ?_
  refine va_get (v := .int (X_kind τ)) (C := RX3) (T := TX3) (N := 8) hx hb hts fiX3_kind_X3 hown hE.1 hP 0 rfl rfl 3 (by decide) (hts _ flX3_kind_23) (fun _ h9 => h9) rfl dX3_kind_1 ?_
  exact p_iret (v := (X_kind τ)) hx hb hr hlocks (Option.some.inj hf) dX3_kind_4

def fX3_firstNumber (τ : Tx) : Option (Int32) := (some (X_fst τ))
abbrev rmX3_firstNumber : Room := { frames := 0, cells := 0, slots := 0, locals := 0 }
theorem hdX3_firstNumber : yX3_firstNumber.cls = RX3 ∧ yX3_firstNumber.cls ≠ "java/lang/invoke/MethodHandle" ∧ yX3_firstNumber.cls ≠ "java/lang/invoke/VarHandle" ∧ (parseMethodDescriptor yX3_firstNumber.desc).map (fun d => d.parameters.length) = some 0 := by decide +kernel
theorem fiX3_firstNumber_X3 : ∀ w ∈ wsX30, w ∈ wsX3_firstNumber := by decide +kernel
theorem flX3_firstNumber_26 : (.fieldLink RX3 26 "ContourLabels$OrderText" "first" "I" : Cond) ∈ wsX3_firstNumber := by decide +kernel
set_option maxHeartbeats 4000000 in
set_option maxRecDepth 100000 in
theorem cX3_firstNumber_ok (l : Launch) (g : Gg) (x0 x1 : Nat) (τ : Tx) {r : Int32} (hf : fX3_firstNumber τ = some r) : Met l yX3_firstNumber wsX3_firstNumber rmX3_firstNumber (va_Pc [.ref x0] (PP g (wX g x0 x1 τ))) (vp_Si (fun r' => r' = r)) 0 0 (fun _ => False) := by
  refine Met.ofW (cc := cX3_firstNumber) (maxL := 1) (ret := (some .int)) (by decide) rfl ?_
  intro p e s m args below meth c s₁ B hml hv
  obtain ⟨rfl, hP, hE, hZ⟩ := hv
  have hx := B.exec
  have hb := B.bytes
  have hr := B.returns
  have hts := atoms_spec (ws := wsX3_firstNumber) B.pre
  have hown : s.vm.findClass RX3 = some m.cls := findClass_of_methodNamed B.named
  have hlocks := B.notSynchronized
  have hS : va_S (fun _ => False) s.heap s.heap [] := va_S.rf
  have hl := lv_entry ([.ref x0]) (n := 1) (Nat.le_of_ble_eq_true rfl)
  rw [lg_entry_eq]
  generalize (lg_sl ([.ref x0]) ++ List.replicate (1 - (lg_sl ([.ref x0])).length) Slot.unset).toArray = ls at hl ⊢
  have hl : lv_has ls 1 [(0, .ref x0)] := hl
  unfold fX3_firstNumber at hf
  refine lv_aload_n hx hb dX3_firstNumber_0 rfl (lv_at hl 0 rfl) ?_
  refine va_get (v := .int (X_fst τ)) (C := RX3) (T := TX3) (N := 8) hx hb hts fiX3_firstNumber_X3 hown hE.1 hP 0 rfl rfl 4 (by decide) (hts _ flX3_firstNumber_26) (fun _ h9 => h9) rfl dX3_firstNumber_1 ?_
  exact p_iret (v := (X_fst τ)) hx hb hr hlocks (Option.some.inj hf) dX3_firstNumber_4

def fX3_secondNumber (τ : Tx) : Option (Int32) := (some (X_snd τ))
abbrev rmX3_secondNumber : Room := { frames := 0, cells := 0, slots := 0, locals := 0 }
theorem hdX3_secondNumber : yX3_secondNumber.cls = RX3 ∧ yX3_secondNumber.cls ≠ "java/lang/invoke/MethodHandle" ∧ yX3_secondNumber.cls ≠ "java/lang/invoke/VarHandle" ∧ (parseMethodDescriptor yX3_secondNumber.desc).map (fun d => d.parameters.length) = some 0 := by decide +kernel
theorem fiX3_secondNumber_X3 : ∀ w ∈ wsX30, w ∈ wsX3_secondNumber := by decide +kernel
theorem flX3_secondNumber_29 : (.fieldLink RX3 29 "ContourLabels$OrderText" "second" "I" : Cond) ∈ wsX3_secondNumber := by decide +kernel
set_option maxHeartbeats 4000000 in
set_option maxRecDepth 100000 in
theorem cX3_secondNumber_ok (l : Launch) (g : Gg) (x0 x1 : Nat) (τ : Tx) {r : Int32} (hf : fX3_secondNumber τ = some r) : Met l yX3_secondNumber wsX3_secondNumber rmX3_secondNumber (va_Pc [.ref x0] (PP g (wX g x0 x1 τ))) (vp_Si (fun r' => r' = r)) 0 0 (fun _ => False) := by
  refine Met.ofW (cc := cX3_secondNumber) (maxL := 1) (ret := (some .int)) (by decide) rfl ?_
  intro p e s m args below meth c s₁ B hml hv
  obtain ⟨rfl, hP, hE, hZ⟩ := hv
  have hx := B.exec
  have hb := B.bytes
  have hr := B.returns
  have hts := atoms_spec (ws := wsX3_secondNumber) B.pre
  have hown : s.vm.findClass RX3 = some m.cls := findClass_of_methodNamed B.named
  have hlocks := B.notSynchronized
  have hS : va_S (fun _ => False) s.heap s.heap [] := va_S.rf
  have hl := lv_entry ([.ref x0]) (n := 1) (Nat.le_of_ble_eq_true rfl)
  rw [lg_entry_eq]
  generalize (lg_sl ([.ref x0]) ++ List.replicate (1 - (lg_sl ([.ref x0])).length) Slot.unset).toArray = ls at hl ⊢
  have hl : lv_has ls 1 [(0, .ref x0)] := hl
  unfold fX3_secondNumber at hf
  refine lv_aload_n hx hb dX3_secondNumber_0 rfl (lv_at hl 0 rfl) ?_
  refine va_get (v := .int (X_snd τ)) (C := RX3) (T := TX3) (N := 8) hx hb hts fiX3_secondNumber_X3 hown hE.1 hP 0 rfl rfl 5 (by decide) (hts _ flX3_secondNumber_29) (fun _ h9 => h9) rfl dX3_secondNumber_1 ?_
  exact p_iret (v := (X_snd τ)) hx hb hr hlocks (Option.some.inj hf) dX3_secondNumber_4

def fX3_directionCount (τ : Tx) : Option (Int32) := (some (X_dc τ))
abbrev rmX3_directionCount : Room := { frames := 0, cells := 0, slots := 0, locals := 0 }
theorem hdX3_directionCount : yX3_directionCount.cls = RX3 ∧ yX3_directionCount.cls ≠ "java/lang/invoke/MethodHandle" ∧ yX3_directionCount.cls ≠ "java/lang/invoke/VarHandle" ∧ (parseMethodDescriptor yX3_directionCount.desc).map (fun d => d.parameters.length) = some 0 := by decide +kernel
theorem fiX3_directionCount_X3 : ∀ w ∈ wsX30, w ∈ wsX3_directionCount := by decide +kernel
theorem flX3_directionCount_32 : (.fieldLink RX3 32 "ContourLabels$OrderText" "directionCount" "I" : Cond) ∈ wsX3_directionCount := by decide +kernel
set_option maxHeartbeats 4000000 in
set_option maxRecDepth 100000 in
theorem cX3_directionCount_ok (l : Launch) (g : Gg) (x0 x1 : Nat) (τ : Tx) {r : Int32} (hf : fX3_directionCount τ = some r) : Met l yX3_directionCount wsX3_directionCount rmX3_directionCount (va_Pc [.ref x0] (PP g (wX g x0 x1 τ))) (vp_Si (fun r' => r' = r)) 0 0 (fun _ => False) := by
  refine Met.ofW (cc := cX3_directionCount) (maxL := 1) (ret := (some .int)) (by decide) rfl ?_
  intro p e s m args below meth c s₁ B hml hv
  obtain ⟨rfl, hP, hE, hZ⟩ := hv
  have hx := B.exec
  have hb := B.bytes
  have hr := B.returns
  have hts := atoms_spec (ws := wsX3_directionCount) B.pre
  have hown : s.vm.findClass RX3 = some m.cls := findClass_of_methodNamed B.named
  have hlocks := B.notSynchronized
  have hS : va_S (fun _ => False) s.heap s.heap [] := va_S.rf
  have hl := lv_entry ([.ref x0]) (n := 1) (Nat.le_of_ble_eq_true rfl)
  rw [lg_entry_eq]
  generalize (lg_sl ([.ref x0]) ++ List.replicate (1 - (lg_sl ([.ref x0])).length) Slot.unset).toArray = ls at hl ⊢
  have hl : lv_has ls 1 [(0, .ref x0)] := hl
  unfold fX3_directionCount at hf
  refine lv_aload_n hx hb dX3_directionCount_0 rfl (lv_at hl 0 rfl) ?_
  refine va_get (v := .int (X_dc τ)) (C := RX3) (T := TX3) (N := 8) hx hb hts fiX3_directionCount_X3 hown hE.1 hP 0 rfl rfl 7 (by decide) (hts _ flX3_directionCount_32) (fun _ h9 => h9) rfl dX3_directionCount_1 ?_
  exact p_iret (v := (X_dc τ)) hx hb hr hlocks (Option.some.inj hf) dX3_directionCount_4

def fX3_signAt (τ : Tx) (p0 : Int32) : Option (Int32) := (if p0 < 0 then (some (-1 : Int32)) else (if (X_len τ) ≤ p0 then (some (-1 : Int32)) else (if (60 : Int32) ≤ p0 then (some (-1 : Int32)) else (if inR p0 60 then (some (X_sg τ (Int32.toNatClampNeg p0))) else none))))
abbrev rmX3_signAt : Room := { frames := 0, cells := 0, slots := 0, locals := 0 }
theorem hdX3_signAt : yX3_signAt.cls = RX3 ∧ yX3_signAt.cls ≠ "java/lang/invoke/MethodHandle" ∧ yX3_signAt.cls ≠ "java/lang/invoke/VarHandle" ∧ (parseMethodDescriptor yX3_signAt.desc).map (fun d => d.parameters.length) = some 1 := by decide +kernel
theorem fiX3_signAt_X3 : ∀ w ∈ wsX30, w ∈ wsX3_signAt := by decide +kernel
theorem flX3_signAt_15 : (.fieldLink RX3 15 "ContourLabels$OrderText" "length" "I" : Cond) ∈ wsX3_signAt := by decide +kernel
theorem flX3_signAt_11 : (.fieldLink RX3 11 "ContourLabels$OrderText" "signs" "[I" : Cond) ∈ wsX3_signAt := by decide +kernel
set_option maxHeartbeats 4000000 in
set_option maxRecDepth 100000 in
theorem cX3_signAt_ok (l : Launch) (g : Gg) (x0 x1 : Nat) (τ : Tx) (p0 : Int32) {r : Int32} (hf : fX3_signAt τ p0 = some r) : Met l yX3_signAt wsX3_signAt rmX3_signAt (va_Pc [.ref x0, .int p0] (PP g (wX g x0 x1 τ))) (vp_Si (fun r' => r' = r)) 0 0 (fun _ => False) := by
  refine Met.ofW (cc := cX3_signAt) (maxL := 2) (ret := (some .int)) (by decide) rfl ?_
  intro p e s m args below meth c s₁ B hml hv
  obtain ⟨rfl, hP, hE, hZ⟩ := hv
  have hx := B.exec
  have hb := B.bytes
  have hr := B.returns
  have hts := atoms_spec (ws := wsX3_signAt) B.pre
  have hown : s.vm.findClass RX3 = some m.cls := findClass_of_methodNamed B.named
  have hlocks := B.notSynchronized
  have hS : va_S (fun _ => False) s.heap s.heap [] := va_S.rf
  have hl := lv_entry ([.ref x0, .int p0]) (n := 2) (Nat.le_of_ble_eq_true rfl)
  rw [lg_entry_eq]
  generalize (lg_sl ([.ref x0, .int p0]) ++ List.replicate (2 - (lg_sl ([.ref x0, .int p0])).length) Slot.unset).toArray = ls at hl ⊢
  have hl : lv_has ls 2 [(0, .ref x0), (1, .int p0)] := hl
  unfold fX3_signAt at hf
  refine lv_iload_n hx hb dX3_signAt_0 rfl (lv_at hl 1 rfl) ?_
  refine lv_if_lt (tgt := 27) hx hb dX3_signAt_1 (by decide) (fun c_1 => ?_) (fun c_1 => ?_)
  · have hf := ip c_1 hf
    refine lv_iconst (v := (-1 : Int32)) hx hb dX3_signAt_27 (by decide) ?_
    exact p_iret (v := (-1 : Int32)) hx hb hr hlocks (Option.some.inj hf) dX3_signAt_28
  · have hf := iq c_1 hf
    refine lv_iload_n hx hb dX3_signAt_4 rfl (lv_at hl 1 rfl) ?_
    refine lv_aload_n hx hb dX3_signAt_5 rfl (lv_at hl 0 rfl) ?_
    refine va_get (v := .int (X_len τ)) (C := RX3) (T := TX3) (N := 8) hx hb hts fiX3_signAt_X3 hown hE.1 hP 0 rfl rfl 1 (by decide) (hts _ flX3_signAt_15) (fun _ h9 => h9) rfl dX3_signAt_6 ?_
    refine lv_icmp_ge (tgt := 27) hx hb dX3_signAt_9 (by decide) (fun c_2 => ?_) (fun c_2 => ?_)
    · have hf := ip c_2 hf
      refine lv_iconst (v := (-1 : Int32)) hx hb dX3_signAt_27 (by decide) ?_
      exact p_iret (v := (-1 : Int32)) hx hb hr hlocks (Option.some.inj hf) dX3_signAt_28
    · have hf := iq c_2 hf
      refine lv_iload_n hx hb dX3_signAt_12 rfl (lv_at hl 1 rfl) ?_
      refine lv_bipush (v := (60 : Int32)) hx hb dX3_signAt_13 (by decide) ?_
      refine lv_icmp_ge (tgt := 27) hx hb dX3_signAt_15 (by decide) (fun c_3 => ?_) (fun c_3 => ?_)
      · have hf := ip c_3 hf
        refine lv_iconst (v := (-1 : Int32)) hx hb dX3_signAt_27 (by decide) ?_
        exact p_iret (v := (-1 : Int32)) hx hb hr hlocks (Option.some.inj hf) dX3_signAt_28
      · have hf := iq c_3 hf
        refine lv_aload_n hx hb dX3_signAt_18 rfl (lv_at hl 0 rfl) ?_
        refine va_get (v := .ref x1) (C := RX3) (T := TX3) (N := 8) hx hb hts fiX3_signAt_X3 hown hE.1 hP 0 rfl rfl 0 (by decide) (hts _ flX3_signAt_11) (fun _ h9 => h9) rfl dX3_signAt_19 ?_
        refine lv_iload_n hx hb dX3_signAt_22 rfl (lv_at hl 1 rfl) ?_
        obtain ⟨h_4, hf⟩ := ck hf
        refine va_iald hx hb hE.1 hP 1 0 rfl rfl (vin h_4) dX3_signAt_23 ?_
        refine lv_goto (tgt := 28) hx hb dX3_signAt_24 (by decide) ?_
        exact p_iret (v := (X_sg τ (Int32.toNatClampNeg p0))) hx hb hr hlocks (Option.some.inj hf) dX3_signAt_28

def fX3_digitAt (τ : Tx) (p0 : Int32) : Option (Int32) := ((fX3_signAt τ p0).bind fun r_1 => (if r_1 < (48 : Int32) then (some (-1 : Int32)) else (if (57 : Int32) < r_1 then (some (-1 : Int32)) else (some (r_1 - (48 : Int32))))))
abbrev rmX3_digitAt : Room := { frames := 1, cells := 0, slots := 0, locals := 21 }
theorem hdX3_digitAt : yX3_digitAt.cls = RX3 ∧ yX3_digitAt.cls ≠ "java/lang/invoke/MethodHandle" ∧ yX3_digitAt.cls ≠ "java/lang/invoke/VarHandle" ∧ (parseMethodDescriptor yX3_digitAt.desc).map (fun d => d.parameters.length) = some 1 := by decide +kernel
set_option maxHeartbeats 4000000 in
set_option maxRecDepth 100000 in
theorem cX3_digitAt_ok (l : Launch) (g : Gg) (x0 x1 : Nat) (τ : Tx) (p0 : Int32) {r : Int32} (hf : fX3_digitAt τ p0 = some r) : Met l yX3_digitAt wsX3_digitAt rmX3_digitAt (va_Pc [.ref x0, .int p0] (PP g (wX g x0 x1 τ))) (vp_Si (fun r' => r' = r)) 0 0 (fun _ => False) := by
  refine Met.ofW (cc := cX3_digitAt) (maxL := 3) (ret := (some .int)) (by decide) rfl ?_
  intro p e s m args below meth c s₁ B hml hv
  obtain ⟨rfl, hP, hE, hZ⟩ := hv
  have hx := B.exec
  have hb := B.bytes
  have hr := B.returns
  have hts := atoms_spec (ws := wsX3_digitAt) B.pre
  have hown : s.vm.findClass RX3 = some m.cls := findClass_of_methodNamed B.named
  have hlocks := B.notSynchronized
  have hS : va_S (fun _ => False) s.heap s.heap [] := va_S.rf
  have hl := lv_entry ([.ref x0, .int p0]) (n := 3) (Nat.le_of_ble_eq_true rfl)
  rw [lg_entry_eq]
  generalize (lg_sl ([.ref x0, .int p0]) ++ List.replicate (3 - (lg_sl ([.ref x0, .int p0])).length) Slot.unset).toArray = ls at hl ⊢
  have hl : lv_has ls 3 [(0, .ref x0), (1, .int p0)] := hl
  unfold fX3_digitAt at hf
  refine lv_aload_n hx hb dX3_digitAt_0 rfl (lv_at hl 0 rfl) ?_
  refine lv_iload_n hx hb dX3_digitAt_1 rfl (lv_at hl 1 rfl) ?_
  obtain ⟨r_1, e_1, hf⟩ := bo hf
  refine pcallV (W0 := (wX g x0 x1 τ)) (As := [.int p0]) (rest := []) [0, 1] 2 0 ⟨hx, hb, hml, hown, hts⟩ hP hE hZ hS (cX3_signAt_ok l g x0 x1 τ p0 e_1) (cwV 1 hts gX3_digitAt_X3_signAt rfl rfl rfl hdX3_signAt ⟨(Nat.le_of_ble_eq_true rfl), (Nat.le_of_ble_eq_true rfl)⟩) rfl rfl rfl rfl rfl hl.1 rfl (Nat.le_of_ble_eq_true rfl) ⟨(Nat.le_of_ble_eq_true rfl), (Nat.le_of_ble_eq_true rfl)⟩ dX3_digitAt_2 ?_
  refine lv_istore_n (lv' := [(2, .int r_1), (0, .ref x0), (1, .int p0)]) hx hb dX3_digitAt_5 rfl hl (by decide) rfl (fun ls hl => ?_)
  refine lv_iload_n hx hb dX3_digitAt_6 rfl (lv_at hl 0 rfl) ?_
  refine lv_bipush (v := (48 : Int32)) hx hb dX3_digitAt_7 (by decide) ?_
  refine lv_icmp_lt (tgt := 25) hx hb dX3_digitAt_9 (by decide) (fun c_2 => ?_) (fun c_2 => ?_)
  · have hf := ip c_2 hf
    refine lv_iconst (v := (-1 : Int32)) hx hb dX3_digitAt_25 (by decide) ?_
    exact p_iret (v := (-1 : Int32)) hx hb hr hlocks (Option.some.inj hf) dX3_digitAt_26
  · have hf := iq c_2 hf
    refine lv_iload_n hx hb dX3_digitAt_12 rfl (lv_at hl 0 rfl) ?_
    refine lv_bipush (v := (57 : Int32)) hx hb dX3_digitAt_13 (by decide) ?_
    refine lv_icmp_gt (tgt := 25) hx hb dX3_digitAt_15 (by decide) (fun c_3 => ?_) (fun c_3 => ?_)
    · have hf := ip c_3 hf
      refine lv_iconst (v := (-1 : Int32)) hx hb dX3_digitAt_25 (by decide) ?_
      exact p_iret (v := (-1 : Int32)) hx hb hr hlocks (Option.some.inj hf) dX3_digitAt_26
    · have hf := iq c_3 hf
      refine lv_iload_n hx hb dX3_digitAt_18 rfl (lv_at hl 0 rfl) ?_
      refine lv_bipush (v := (48 : Int32)) hx hb dX3_digitAt_19 (by decide) ?_
      refine lv_isub hx hb dX3_digitAt_21 ?_
      refine lv_goto (tgt := 26) hx hb dX3_digitAt_22 (by decide) ?_
      exact p_iret (v := (r_1 - (48 : Int32))) hx hb hr hlocks (Option.some.inj hf) dX3_digitAt_26

def fX3_directionAt (τ : Tx) (p0 : Int32) : Option (Int32) := ((fX3_digitAt τ ((X_df τ) + p0)).bind fun r_1 => (some r_1))
abbrev rmX3_directionAt : Room := { frames := 2, cells := 0, slots := 0, locals := 43 }
theorem hdX3_directionAt : yX3_directionAt.cls = RX3 ∧ yX3_directionAt.cls ≠ "java/lang/invoke/MethodHandle" ∧ yX3_directionAt.cls ≠ "java/lang/invoke/VarHandle" ∧ (parseMethodDescriptor yX3_directionAt.desc).map (fun d => d.parameters.length) = some 1 := by decide +kernel
theorem fiX3_directionAt_X3 : ∀ w ∈ wsX30, w ∈ wsX3_directionAt := by decide +kernel
theorem flX3_directionAt_35 : (.fieldLink RX3 35 "ContourLabels$OrderText" "directionsFrom" "I" : Cond) ∈ wsX3_directionAt := by decide +kernel
set_option maxHeartbeats 4000000 in
set_option maxRecDepth 100000 in
theorem cX3_directionAt_ok (l : Launch) (g : Gg) (x0 x1 : Nat) (τ : Tx) (p0 : Int32) {r : Int32} (hf : fX3_directionAt τ p0 = some r) : Met l yX3_directionAt wsX3_directionAt rmX3_directionAt (va_Pc [.ref x0, .int p0] (PP g (wX g x0 x1 τ))) (vp_Si (fun r' => r' = r)) 0 0 (fun _ => False) := by
  refine Met.ofW (cc := cX3_directionAt) (maxL := 2) (ret := (some .int)) (by decide) rfl ?_
  intro p e s m args below meth c s₁ B hml hv
  obtain ⟨rfl, hP, hE, hZ⟩ := hv
  have hx := B.exec
  have hb := B.bytes
  have hr := B.returns
  have hts := atoms_spec (ws := wsX3_directionAt) B.pre
  have hown : s.vm.findClass RX3 = some m.cls := findClass_of_methodNamed B.named
  have hlocks := B.notSynchronized
  have hS : va_S (fun _ => False) s.heap s.heap [] := va_S.rf
  have hl := lv_entry ([.ref x0, .int p0]) (n := 2) (Nat.le_of_ble_eq_true rfl)
  rw [lg_entry_eq]
  generalize (lg_sl ([.ref x0, .int p0]) ++ List.replicate (2 - (lg_sl ([.ref x0, .int p0])).length) Slot.unset).toArray = ls at hl ⊢
  have hl : lv_has ls 2 [(0, .ref x0), (1, .int p0)] := hl
  unfold fX3_directionAt at hf
  refine lv_aload_n hx hb dX3_directionAt_0 rfl (lv_at hl 0 rfl) ?_
  refine lv_aload_n hx hb dX3_directionAt_1 rfl (lv_at hl 0 rfl) ?_
  refine va_get (v := .int (X_df τ)) (C := RX3) (T := TX3) (N := 8) hx hb hts fiX3_directionAt_X3 hown hE.1 hP 0 rfl rfl 6 (by decide) (hts _ flX3_directionAt_35) (fun _ h9 => h9) rfl dX3_directionAt_2 ?_
  refine lv_iload_n hx hb dX3_directionAt_5 rfl (lv_at hl 1 rfl) ?_
  refine lv_iadd hx hb dX3_directionAt_6 ?_
  obtain ⟨r_1, e_1, hf⟩ := bo hf
  refine pcallV (W0 := (wX g x0 x1 τ)) (As := [.int ((X_df τ) + p0)]) (rest := []) [0, 1] 2 0 ⟨hx, hb, hml, hown, hts⟩ hP hE hZ hS (cX3_digitAt_ok l g x0 x1 τ ((X_df τ) + p0) e_1) (cwV 1 hts gX3_directionAt_X3_digitAt rfl rfl rfl hdX3_digitAt ⟨(Nat.le_of_ble_eq_true rfl), (Nat.le_of_ble_eq_true rfl)⟩) rfl rfl rfl rfl rfl hl.1 rfl (Nat.le_of_ble_eq_true rfl) ⟨(Nat.le_of_ble_eq_true rfl), (Nat.le_of_ble_eq_true rfl)⟩ dX3_directionAt_7 ?_
  exact p_iret (v := r_1) hx hb hr hlocks (Option.some.inj hf) dX3_directionAt_10

def fX3_rewind (τ : Tx) : Option (Tx) := (some (X_cur' τ (0 : Int32)))
abbrev rmX3_rewind : Room := { frames := 0, cells := 0, slots := 0, locals := 0 }
theorem hdX3_rewind : yX3_rewind.cls = RX3 ∧ yX3_rewind.cls ≠ "java/lang/invoke/MethodHandle" ∧ yX3_rewind.cls ≠ "java/lang/invoke/VarHandle" ∧ (parseMethodDescriptor yX3_rewind.desc).map (fun d => d.parameters.length) = some 0 := by decide +kernel
theorem fiX3_rewind_X3 : ∀ w ∈ wsX30, w ∈ wsX3_rewind := by decide +kernel
theorem flX3_rewind_48 : (.fieldLink RX3 48 "ContourLabels$OrderText" "cursor" "I" : Cond) ∈ wsX3_rewind := by decide +kernel
set_option maxHeartbeats 4000000 in
set_option maxRecDepth 100000 in
theorem cX3_rewind_ok (l : Launch) (g : Gg) (x0 x1 : Nat) (τ : Tx) (sz : Nat) {o : Tx} (hf : fX3_rewind τ = some o) : Met l yX3_rewind wsX3_rewind rmX3_rewind (va_Pc [.ref x0] (PM g (wX g x0 x1 τ) sz)) (va_Qv (fun _ : Unit => True) (fun _ t => PQ g (wX g x0 x1 o) (va_A (wX g x0 x1 τ) sz) t) (va_A (wX g x0 x1 τ) sz)) 0 0 (va_A (wX g x0 x1 τ) sz) := by
  refine Met.ofW (cc := cX3_rewind) (maxL := 1) (ret := none) (by decide) rfl ?_
  intro p e s m args below meth c s₁ B hml hv
  obtain ⟨rfl, rfl, hP, hD0, hE, hZ⟩ := hv
  have hx := B.exec
  have hb := B.bytes
  have hr := B.returns
  have hts := atoms_spec (ws := wsX3_rewind) B.pre
  have hown : s.vm.findClass RX3 = some m.cls := findClass_of_methodNamed B.named
  have hlocks := B.notSynchronized
  have hD := hD0.self (sz := s.heap.size)
  generalize hAe : (va_A (wX g x0 x1 τ) s.heap.size) = A at hD hZ ⊢
  have hA : ∀ q : Nat, s.heap.size ≤ q → A q := fun q h => by rw [← hAe]; exact Or.inr h
  have hS : va_S A s.heap s.heap [] := va_S.rf
  have hP : va_P g.1 vwCl (wX g x0 x1 τ) s.heap := hP
  have hl := lv_entry ([.ref x0]) (n := 1) (Nat.le_of_ble_eq_true rfl)
  rw [lg_entry_eq]
  generalize (lg_sl ([.ref x0]) ++ List.replicate (1 - (lg_sl ([.ref x0])).length) Slot.unset).toArray = ls at hl ⊢
  have hl : lv_has ls 1 [(0, .ref x0)] := hl
  unfold fX3_rewind at hf
  refine lv_aload_n hx hb dX3_rewind_0 rfl (lv_at hl 0 rfl) ?_
  refine lv_iconst (v := (0 : Int32)) hx hb dX3_rewind_1 (by decide) ?_
  refine va_put (v := .int (0 : Int32)) (ty := .int) (C := RX3) (T := TX3) (N := 8) hx hb hts fiX3_rewind_X3 tyX3 tyX3_ok nmX3 hown hE.1 hP hD hS 0 rfl rfl 2 (by decide) (hts _ flX3_rewind_48) (fun _ h9 => h9) rfl (by decide +kernel) rfl rfl (Nat.le_of_ble_eq_true rfl) dX3_rewind_2 (fun H locs hP hD hS => ?_)
  have hP : va_P g.1 vwCl (wX g x0 x1 (X_cur' τ (0 : Int32))) H := hP
  have hD : va_D A (wX g x0 x1 (X_cur' τ (0 : Int32))) := hD
  have ho := Option.some.inj hf
  subst ho
  exact m_vret hx hb hr hlocks hP hD hS dX3_rewind_5

def fX3_pass (τ : Tx) (p0 : Int32) : Option (Bool × Tx) := ((fX3_signAt τ (X_cur τ)).bind fun r_1 => (if r_1 = p0 then (some (true, (X_cur' τ ((X_cur τ) + (1 : Int32))))) else (some (false, τ))))
abbrev rmX3_pass : Room := { frames := 1, cells := 0, slots := 0, locals := 21 }
theorem hdX3_pass : yX3_pass.cls = RX3 ∧ yX3_pass.cls ≠ "java/lang/invoke/MethodHandle" ∧ yX3_pass.cls ≠ "java/lang/invoke/VarHandle" ∧ (parseMethodDescriptor yX3_pass.desc).map (fun d => d.parameters.length) = some 1 := by decide +kernel
theorem fiX3_pass_X3 : ∀ w ∈ wsX30, w ∈ wsX3_pass := by decide +kernel
theorem flX3_pass_48 : (.fieldLink RX3 48 "ContourLabels$OrderText" "cursor" "I" : Cond) ∈ wsX3_pass := by decide +kernel
set_option maxHeartbeats 4000000 in
set_option maxRecDepth 100000 in
theorem cX3_pass_ok (l : Launch) (g : Gg) (x0 x1 : Nat) (τ : Tx) (p0 : Int32) (sz : Nat) {o : Bool × Tx} (hf : fX3_pass τ p0 = some o) : Met l yX3_pass wsX3_pass rmX3_pass (va_Pc [.ref x0, .int p0] (PM g (wX g x0 x1 τ) sz)) (va_Qi (fun r' (_ : Unit) => r' = b2i o.1) (fun _ t => PQ g (wX g x0 x1 o.2) (va_A (wX g x0 x1 τ) sz) t) (va_A (wX g x0 x1 τ) sz)) 0 0 (va_A (wX g x0 x1 τ) sz) := by
  refine Met.ofW (cc := cX3_pass) (maxL := 2) (ret := (some .boolean)) (by decide) rfl ?_
  intro p e s m args below meth c s₁ B hml hv
  obtain ⟨rfl, rfl, hP, hD0, hE, hZ⟩ := hv
  have hx := B.exec
  have hb := B.bytes
  have hr := B.returns
  have hts := atoms_spec (ws := wsX3_pass) B.pre
  have hown : s.vm.findClass RX3 = some m.cls := findClass_of_methodNamed B.named
  have hlocks := B.notSynchronized
  have hD := hD0.self (sz := s.heap.size)
  generalize hAe : (va_A (wX g x0 x1 τ) s.heap.size) = A at hD hZ ⊢
  have hA : ∀ q : Nat, s.heap.size ≤ q → A q := fun q h => by rw [← hAe]; exact Or.inr h
  have hS : va_S A s.heap s.heap [] := va_S.rf
  have hP : va_P g.1 vwCl (wX g x0 x1 τ) s.heap := hP
  have hl := lv_entry ([.ref x0, .int p0]) (n := 2) (Nat.le_of_ble_eq_true rfl)
  rw [lg_entry_eq]
  generalize (lg_sl ([.ref x0, .int p0]) ++ List.replicate (2 - (lg_sl ([.ref x0, .int p0])).length) Slot.unset).toArray = ls at hl ⊢
  have hl : lv_has ls 2 [(0, .ref x0), (1, .int p0)] := hl
  unfold fX3_pass at hf
  refine lv_aload_n hx hb dX3_pass_0 rfl (lv_at hl 0 rfl) ?_
  refine lv_aload_n hx hb dX3_pass_1 rfl (lv_at hl 0 rfl) ?_
  refine va_get (v := .int (X_cur τ)) (C := RX3) (T := TX3) (N := 8) hx hb hts fiX3_pass_X3 hown hE.1 hP 0 rfl rfl 2 (by decide) (hts _ flX3_pass_48) (fun _ h9 => h9) rfl dX3_pass_2 ?_
  obtain ⟨r_1, e_1, hf⟩ := bo hf
  refine pcallV (W0 := (wX g x0 x1 τ)) (As := [.int (X_cur τ)]) (rest := []) [0, 1] 2 0 ⟨hx, hb, hml, hown, hts⟩ hP hE hZ hS (cX3_signAt_ok l g x0 x1 τ (X_cur τ) e_1) (cwV 1 hts gX3_pass_X3_signAt rfl rfl rfl hdX3_signAt ⟨(Nat.le_of_ble_eq_true rfl), (Nat.le_of_ble_eq_true rfl)⟩) rfl rfl rfl rfl rfl hl.1 rfl (Nat.le_of_ble_eq_true rfl) ⟨(Nat.le_of_ble_eq_true rfl), (Nat.le_of_ble_eq_true rfl)⟩ dX3_pass_5 ?_
  refine lv_iload_n hx hb dX3_pass_8 rfl (lv_at hl 1 rfl) ?_
  refine lv_icmp_eq (tgt := 14) hx hb dX3_pass_9 (by decide) (fun c_2 => ?_) (fun c_2 => ?_)
  · have hf := ip c_2 hf
    refine lv_aload_n hx hb dX3_pass_14 rfl (lv_at hl 0 rfl) ?_
    refine lv_dup hx hb dX3_pass_15 rfl ?_
    refine va_get (v := .int (X_cur τ)) (C := RX3) (T := TX3) (N := 8) hx hb hts fiX3_pass_X3 hown hE.1 hP 0 rfl rfl 2 (by decide) (hts _ flX3_pass_48) (fun _ h9 => h9) rfl dX3_pass_16 ?_
    refine lv_iconst (v := (1 : Int32)) hx hb dX3_pass_19 (by decide) ?_
    refine lv_iadd hx hb dX3_pass_20 ?_
    refine va_put (v := .int ((X_cur τ) + (1 : Int32))) (ty := .int) (C := RX3) (T := TX3) (N := 8) hx hb hts fiX3_pass_X3 tyX3 tyX3_ok nmX3 hown hE.1 hP hD hS 0 rfl rfl 2 (by decide) (hts _ flX3_pass_48) (fun _ h9 => h9) rfl (by decide +kernel) rfl rfl (Nat.le_of_ble_eq_true rfl) dX3_pass_21 (fun H locs hP hD hS => ?_)
    have hP : va_P g.1 vwCl (wX g x0 x1 (X_cur' τ ((X_cur τ) + (1 : Int32)))) H := hP
    have hD : va_D A (wX g x0 x1 (X_cur' τ ((X_cur τ) + (1 : Int32)))) := hD
    refine lv_iconst (v := (1 : Int32)) hx hb dX3_pass_24 (by decide) ?_
    have ho := Option.some.inj hf
    subst ho
    exact m_zret (v := true) hx hb hr hlocks hP hD hS rfl dX3_pass_25
  · have hf := iq c_2 hf
    refine lv_iconst (v := (0 : Int32)) hx hb dX3_pass_12 (by decide) ?_
    have ho := Option.some.inj hf
    subst ho
    exact m_zret (v := false) hx hb hr hlocks hP hD hS rfl dX3_pass_13

def fX3_readNumber_39 (p0 p1 : Int32) : Nat → Int32 → Int32 → Tx → Option (Int32 × Tx)
  | 0, _, _, _ => none
  | n + 1, v3_39, v4_39, τ_39 => (if (3 : Int32) ≤ v4_39 then (some (v3_39, τ_39)) else ((fX3_digitAt τ_39 (X_cur τ_39)).bind fun r_2 => (if v3_39 = 0 then (some (v3_39, τ_39)) else (if r_2 = (-1 : Int32) then (some (v3_39, τ_39)) else (if ((v3_39 * (10 : Int32)) + r_2) ≤ p1 then fX3_readNumber_39 p0 p1 n ((v3_39 * (10 : Int32)) + r_2) (v4_39 + 1) (X_cur' τ_39 ((X_cur τ_39) + (1 : Int32))) else (some (v3_39, τ_39)))))))
def fX3_readNumber (τ : Tx) (p0 p1 : Int32) : Option (Int32 × Tx) := ((fX3_digitAt τ (X_cur τ)).bind fun r_6 => (if r_6 = (-1 : Int32) then (some ((-1 : Int32), τ)) else (if r_6 < p0 then (some ((-1 : Int32), τ)) else (if r_6 ≤ p1 then fX3_readNumber_39 p0 p1 FU r_6 (1 : Int32) (X_cur' τ ((X_cur τ) + (1 : Int32))) else (some ((-1 : Int32), τ))))))
abbrev rmX3_readNumber : Room := { frames := 2, cells := 0, slots := 0, locals := 43 }
theorem hdX3_readNumber : yX3_readNumber.cls = RX3 ∧ yX3_readNumber.cls ≠ "java/lang/invoke/MethodHandle" ∧ yX3_readNumber.cls ≠ "java/lang/invoke/VarHandle" ∧ (parseMethodDescriptor yX3_readNumber.desc).map (fun d => d.parameters.length) = some 2 := by decide +kernel
theorem fiX3_readNumber_X3 : ∀ w ∈ wsX30, w ∈ wsX3_readNumber := by decide +kernel
theorem flX3_readNumber_48 : (.fieldLink RX3 48 "ContourLabels$OrderText" "cursor" "I" : Cond) ∈ wsX3_readNumber := by decide +kernel
set_option maxHeartbeats 4000000 in
set_option maxRecDepth 100000 in
theorem cX3_readNumber_ok (l : Launch) (g : Gg) (x0 x1 : Nat) (τ : Tx) (p0 p1 : Int32) (sz : Nat) {o : Int32 × Tx} (hf : fX3_readNumber τ p0 p1 = some o) : Met l yX3_readNumber wsX3_readNumber rmX3_readNumber (va_Pc [.ref x0, .int p0, .int p1] (PM g (wX g x0 x1 τ) sz)) (va_Qi (fun r' (_ : Unit) => r' = o.1) (fun _ t => PQ g (wX g x0 x1 o.2) (va_A (wX g x0 x1 τ) sz) t) (va_A (wX g x0 x1 τ) sz)) 0 0 (va_A (wX g x0 x1 τ) sz) := by
  refine Met.ofW (cc := cX3_readNumber) (maxL := 6) (ret := (some .int)) (by decide) rfl ?_
  intro p e s m args below meth c s₁ B hml hv
  obtain ⟨rfl, rfl, hP, hD0, hE, hZ⟩ := hv
  have hx := B.exec
  have hb := B.bytes
  have hr := B.returns
  have hts := atoms_spec (ws := wsX3_readNumber) B.pre
  have hown : s.vm.findClass RX3 = some m.cls := findClass_of_methodNamed B.named
  have hlocks := B.notSynchronized
  have hD := hD0.self (sz := s.heap.size)
  generalize hAe : (va_A (wX g x0 x1 τ) s.heap.size) = A at hD hZ ⊢
  have hA : ∀ q : Nat, s.heap.size ≤ q → A q := fun q h => by rw [← hAe]; exact Or.inr h
  have hS : va_S A s.heap s.heap [] := va_S.rf
  have hP : va_P g.1 vwCl (wX g x0 x1 τ) s.heap := hP
  have hl := lv_entry ([.ref x0, .int p0, .int p1]) (n := 6) (Nat.le_of_ble_eq_true rfl)
  rw [lg_entry_eq]
  generalize (lg_sl ([.ref x0, .int p0, .int p1]) ++ List.replicate (6 - (lg_sl ([.ref x0, .int p0, .int p1])).length) Slot.unset).toArray = ls at hl ⊢
  have hl : lv_has ls 6 [(0, .ref x0), (1, .int p0), (2, .int p1)] := hl
  have hB39 : ∀ (n39 : Nat) (v3_39 : Int32) (v4_39 : Int32) (τ_39 : Tx) (H : Heap) (locs : List Loc) (ls : Array Slot), va_P g.1 vwCl (wX g x0 x1 τ_39) H → va_D A (wX g x0 x1 τ_39) → va_S A s.heap H locs → lv_has ls 6 [(0, .ref x0), (2, .int p1), (3, .int v3_39), (4, .int v4_39)] → fX3_readNumber_39 p0 p1 n39 v3_39 v4_39 τ_39 = some o → W p l e (headSpec wsX3_readNumber rmX3_readNumber).room s m ([.ref x0, .int p0, .int p1] : List Value).toArray below meth c H locs 0 0 (MQ below (va_Qi (fun r' (_ : Unit) => r' = o.1) (fun _ t => PQ g (wX g x0 x1 o.2) A t) A) ([.ref x0, .int p0, .int p1] : List Value).toArray s 0 0 A) (F0 m 39 ls []) := by
    intro  n39
    induction n39 with
    | zero => intro v3_39 v4_39 τ_39 H locs ls hP hD hS hl hf; exact nomatch (show (none : Option (Int32 × Tx)) = some _ from hf)
    | succ n39 ih39 =>
      intro v3_39 v4_39 τ_39 H locs ls hP hD hS hl hf
      rw [fX3_readNumber_39] at hf
      refine lv_iload hx hb dX3_readNumber_39 (lv_at hl 3 rfl) ?_
      refine lv_iconst (v := (3 : Int32)) hx hb dX3_readNumber_41 (by decide) ?_
      refine lv_icmp_ge (tgt := 102) hx hb dX3_readNumber_42 (by decide) (fun c_1 => ?_) (fun c_1 => ?_)
      · have hf := ip c_1 hf
        refine lv_iload_n hx hb dX3_readNumber_102 rfl (lv_at hl 2 rfl) ?_
        have ho := Option.some.inj hf
        subst ho
        exact m_iret (v := v3_39) hx hb hr hlocks hP hD hS rfl dX3_readNumber_103
      · have hf := iq c_1 hf
        refine lv_aload_n hx hb dX3_readNumber_45 rfl (lv_at hl 0 rfl) ?_
        refine lv_aload_n hx hb dX3_readNumber_46 rfl (lv_at hl 0 rfl) ?_
        refine va_get (v := .int (X_cur τ_39)) (C := RX3) (T := TX3) (N := 8) hx hb hts fiX3_readNumber_X3 hown hE.1 hP 0 rfl rfl 2 (by decide) (hts _ flX3_readNumber_48) (fun _ h9 => h9) rfl dX3_readNumber_47 ?_
        obtain ⟨r_2, e_2, hf⟩ := bo hf
        refine pcallV (W0 := (wX g x0 x1 τ_39)) (As := [.int (X_cur τ_39)]) (rest := []) [0, 1] 2 0 ⟨hx, hb, hml, hown, hts⟩ hP hE hZ hS (cX3_digitAt_ok l g x0 x1 τ_39 (X_cur τ_39) e_2) (cwV 1 hts gX3_readNumber_X3_digitAt rfl rfl rfl hdX3_digitAt ⟨(Nat.le_of_ble_eq_true rfl), (Nat.le_of_ble_eq_true rfl)⟩) rfl rfl rfl rfl rfl hl.1 rfl (Nat.le_of_ble_eq_true rfl) ⟨(Nat.le_of_ble_eq_true rfl), (Nat.le_of_ble_eq_true rfl)⟩ dX3_readNumber_50 ?_
        refine lv_istore (lv' := [(5, .int r_2), (0, .ref x0), (2, .int p1), (3, .int v3_39), (4, .int v4_39)]) hx hb dX3_readNumber_53 hl (by decide) rfl (fun ls hl => ?_)
        refine lv_iload_n hx hb dX3_readNumber_55 rfl (lv_at hl 3 rfl) ?_
        refine lv_if_eq (tgt := 76) hx hb dX3_readNumber_56 (by decide) (fun c_3 => ?_) (fun c_3 => ?_)
        · have hf := ip c_3 hf
          refine lv_iload_n hx hb dX3_readNumber_76 rfl (lv_at hl 3 rfl) ?_
          have ho := Option.some.inj hf
          subst ho
          exact m_iret (v := v3_39) hx hb hr hlocks hP hD hS rfl dX3_readNumber_77
        · have hf := iq c_3 hf
          refine lv_iload hx hb dX3_readNumber_59 (lv_at hl 0 rfl) ?_
          refine lv_iconst (v := (-1 : Int32)) hx hb dX3_readNumber_61 (by decide) ?_
          refine lv_icmp_eq (tgt := 76) hx hb dX3_readNumber_62 (by decide) (fun c_4 => ?_) (fun c_4 => ?_)
          · have hf := ip c_4 hf
            refine lv_iload_n hx hb dX3_readNumber_76 rfl (lv_at hl 3 rfl) ?_
            have ho := Option.some.inj hf
            subst ho
            exact m_iret (v := v3_39) hx hb hr hlocks hP hD hS rfl dX3_readNumber_77
          · have hf := iq c_4 hf
            refine lv_iload_n hx hb dX3_readNumber_65 rfl (lv_at hl 3 rfl) ?_
            refine lv_bipush (v := (10 : Int32)) hx hb dX3_readNumber_66 (by decide) ?_
            refine lv_imul hx hb dX3_readNumber_68 ?_
            refine lv_iload hx hb dX3_readNumber_69 (lv_at hl 0 rfl) ?_
            refine lv_iadd hx hb dX3_readNumber_71 ?_
            refine lv_iload_n hx hb dX3_readNumber_72 rfl (lv_at hl 2 rfl) ?_
            refine lv_icmp_le (tgt := 78) hx hb dX3_readNumber_73 (by decide) (fun c_5 => ?_) (fun c_5 => ?_)
            · have hf := ip c_5 hf
              refine lv_iload_n hx hb dX3_readNumber_78 rfl (lv_at hl 3 rfl) ?_
              refine lv_bipush (v := (10 : Int32)) hx hb dX3_readNumber_79 (by decide) ?_
              refine lv_imul hx hb dX3_readNumber_81 ?_
              refine lv_iload hx hb dX3_readNumber_82 (lv_at hl 0 rfl) ?_
              refine lv_iadd hx hb dX3_readNumber_84 ?_
              refine lv_istore_n (lv' := [(3, .int ((v3_39 * (10 : Int32)) + r_2)), (5, .int r_2), (0, .ref x0), (2, .int p1), (4, .int v4_39)]) hx hb dX3_readNumber_85 rfl hl (by decide) rfl (fun ls hl => ?_)
              refine lv_aload_n hx hb dX3_readNumber_86 rfl (lv_at hl 2 rfl) ?_
              refine lv_dup hx hb dX3_readNumber_87 rfl ?_
              refine va_get (v := .int (X_cur τ_39)) (C := RX3) (T := TX3) (N := 8) hx hb hts fiX3_readNumber_X3 hown hE.1 hP 0 rfl rfl 2 (by decide) (hts _ flX3_readNumber_48) (fun _ h9 => h9) rfl dX3_readNumber_88 ?_
              refine lv_iconst (v := (1 : Int32)) hx hb dX3_readNumber_91 (by decide) ?_
              refine lv_iadd hx hb dX3_readNumber_92 ?_
              refine va_put (v := .int ((X_cur τ_39) + (1 : Int32))) (ty := .int) (C := RX3) (T := TX3) (N := 8) hx hb hts fiX3_readNumber_X3 tyX3 tyX3_ok nmX3 hown hE.1 hP hD hS 0 rfl rfl 2 (by decide) (hts _ flX3_readNumber_48) (fun _ h9 => h9) rfl (by decide +kernel) rfl rfl (Nat.le_of_ble_eq_true rfl) dX3_readNumber_93 (fun H locs hP hD hS => ?_)
              have hP : va_P g.1 vwCl (wX g x0 x1 (X_cur' τ_39 ((X_cur τ_39) + (1 : Int32)))) H := hP
              have hD : va_D A (wX g x0 x1 (X_cur' τ_39 ((X_cur τ_39) + (1 : Int32)))) := hD
              refine lv_iinc (v := (v4_39 + 1)) (lv' := [(4, .int (v4_39 + 1)), (3, .int ((v3_39 * (10 : Int32)) + r_2)), (5, .int r_2), (0, .ref x0), (2, .int p1)]) hx hb dX3_readNumber_96 hl (k := 4) rfl rfl (by decide) rfl (fun ls hl => ?_)
              refine lv_goto (tgt := 39) hx hb dX3_readNumber_99 (by decide) ?_
              exact ih39 ((v3_39 * (10 : Int32)) + r_2) (v4_39 + 1) (X_cur' τ_39 ((X_cur τ_39) + (1 : Int32))) _ _ ls hP hD hS (lv_sub hl [3, 4, 1, 0] rfl) hf
            · have hf := iq c_5 hf
              refine lv_iload_n hx hb dX3_readNumber_76 rfl (lv_at hl 3 rfl) ?_
              have ho := Option.some.inj hf
              subst ho
              exact m_iret (v := v3_39) hx hb hr hlocks hP hD hS rfl dX3_readNumber_77
  unfold fX3_readNumber at hf
  refine lv_aload_n hx hb dX3_readNumber_0 rfl (lv_at hl 0 rfl) ?_
  refine lv_aload_n hx hb dX3_readNumber_1 rfl (lv_at hl 0 rfl) ?_
  refine va_get (v := .int (X_cur τ)) (C := RX3) (T := TX3) (N := 8) hx hb hts fiX3_readNumber_X3 hown hE.1 hP 0 rfl rfl 2 (by decide) (hts _ flX3_readNumber_48) (fun _ h9 => h9) rfl dX3_readNumber_2 ?_
  obtain ⟨r_6, e_6, hf⟩ := bo hf
  refine pcallV (W0 := (wX g x0 x1 τ)) (As := [.int (X_cur τ)]) (rest := []) [0, 1] 2 0 ⟨hx, hb, hml, hown, hts⟩ hP hE hZ hS (cX3_digitAt_ok l g x0 x1 τ (X_cur τ) e_6) (cwV 1 hts gX3_readNumber_X3_digitAt rfl rfl rfl hdX3_digitAt ⟨(Nat.le_of_ble_eq_true rfl), (Nat.le_of_ble_eq_true rfl)⟩) rfl rfl rfl rfl rfl hl.1 rfl (Nat.le_of_ble_eq_true rfl) ⟨(Nat.le_of_ble_eq_true rfl), (Nat.le_of_ble_eq_true rfl)⟩ dX3_readNumber_5 ?_
  refine lv_istore_n (lv' := [(3, .int r_6), (0, .ref x0), (1, .int p0), (2, .int p1)]) hx hb dX3_readNumber_8 rfl hl (by decide) rfl (fun ls hl => ?_)
  refine lv_iload_n hx hb dX3_readNumber_9 rfl (lv_at hl 0 rfl) ?_
  refine lv_iconst (v := (-1 : Int32)) hx hb dX3_readNumber_10 (by decide) ?_
  refine lv_icmp_eq (tgt := 24) hx hb dX3_readNumber_11 (by decide) (fun c_7 => ?_) (fun c_7 => ?_)
  · have hf := ip c_7 hf
    refine lv_iconst (v := (-1 : Int32)) hx hb dX3_readNumber_24 (by decide) ?_
    have ho := Option.some.inj hf
    subst ho
    exact m_iret (v := (-1 : Int32)) hx hb hr hlocks hP hD hS rfl dX3_readNumber_25
  · have hf := iq c_7 hf
    refine lv_iload_n hx hb dX3_readNumber_14 rfl (lv_at hl 0 rfl) ?_
    refine lv_iload_n hx hb dX3_readNumber_15 rfl (lv_at hl 2 rfl) ?_
    refine lv_icmp_lt (tgt := 24) hx hb dX3_readNumber_16 (by decide) (fun c_8 => ?_) (fun c_8 => ?_)
    · have hf := ip c_8 hf
      refine lv_iconst (v := (-1 : Int32)) hx hb dX3_readNumber_24 (by decide) ?_
      have ho := Option.some.inj hf
      subst ho
      exact m_iret (v := (-1 : Int32)) hx hb hr hlocks hP hD hS rfl dX3_readNumber_25
    · have hf := iq c_8 hf
      refine lv_iload_n hx hb dX3_readNumber_19 rfl (lv_at hl 0 rfl) ?_
      refine lv_iload_n hx hb dX3_readNumber_20 rfl (lv_at hl 3 rfl) ?_
      refine lv_icmp_le (tgt := 26) hx hb dX3_readNumber_21 (by decide) (fun c_9 => ?_) (fun c_9 => ?_)
      · have hf := ip c_9 hf
        refine lv_aload_n hx hb dX3_readNumber_26 rfl (lv_at hl 1 rfl) ?_
        refine lv_dup hx hb dX3_readNumber_27 rfl ?_
        refine va_get (v := .int (X_cur τ)) (C := RX3) (T := TX3) (N := 8) hx hb hts fiX3_readNumber_X3 hown hE.1 hP 0 rfl rfl 2 (by decide) (hts _ flX3_readNumber_48) (fun _ h9 => h9) rfl dX3_readNumber_28 ?_
        refine lv_iconst (v := (1 : Int32)) hx hb dX3_readNumber_31 (by decide) ?_
        refine lv_iadd hx hb dX3_readNumber_32 ?_
        refine va_put (v := .int ((X_cur τ) + (1 : Int32))) (ty := .int) (C := RX3) (T := TX3) (N := 8) hx hb hts fiX3_readNumber_X3 tyX3 tyX3_ok nmX3 hown hE.1 hP hD hS 0 rfl rfl 2 (by decide) (hts _ flX3_readNumber_48) (fun _ h9 => h9) rfl (by decide +kernel) rfl rfl (Nat.le_of_ble_eq_true rfl) dX3_readNumber_33 (fun H locs hP hD hS => ?_)
        have hP : va_P g.1 vwCl (wX g x0 x1 (X_cur' τ ((X_cur τ) + (1 : Int32)))) H := hP
        have hD : va_D A (wX g x0 x1 (X_cur' τ ((X_cur τ) + (1 : Int32)))) := hD
        refine lv_iconst (v := (1 : Int32)) hx hb dX3_readNumber_36 (by decide) ?_
        refine lv_istore (lv' := [(4, .int (1 : Int32)), (3, .int r_6), (0, .ref x0), (1, .int p0), (2, .int p1)]) hx hb dX3_readNumber_37 hl (by decide) rfl (fun ls hl => ?_)
        exact hB39 FU r_6 (1 : Int32) (X_cur' τ ((X_cur τ) + (1 : Int32))) _ _ ls hP hD hS (lv_sub hl [2, 4, 1, 0] rfl) hf
      · have hf := iq c_9 hf
        refine lv_iconst (v := (-1 : Int32)) hx hb dX3_readNumber_24 (by decide) ?_
        have ho := Option.some.inj hf
        subst ho
        exact m_iret (v := (-1 : Int32)) hx hb hr hlocks hP hD hS rfl dX3_readNumber_25

def fX3_readFirst (τ : Tx) (p0 p1 : Int32) : Option (Bool × Tx) := ((fX3_readNumber τ p0 p1).bind fun r_1 => (if r_1.1 = (-1 : Int32) then (some (false, (X_fst' r_1.2 r_1.1))) else (some (true, (X_fst' r_1.2 r_1.1)))))
abbrev rmX3_readFirst : Room := { frames := 3, cells := 0, slots := 0, locals := 68 }
theorem hdX3_readFirst : yX3_readFirst.cls = RX3 ∧ yX3_readFirst.cls ≠ "java/lang/invoke/MethodHandle" ∧ yX3_readFirst.cls ≠ "java/lang/invoke/VarHandle" ∧ (parseMethodDescriptor yX3_readFirst.desc).map (fun d => d.parameters.length) = some 2 := by decide +kernel
theorem fiX3_readFirst_X3 : ∀ w ∈ wsX30, w ∈ wsX3_readFirst := by decide +kernel
theorem flX3_readFirst_26 : (.fieldLink RX3 26 "ContourLabels$OrderText" "first" "I" : Cond) ∈ wsX3_readFirst := by decide +kernel
set_option maxHeartbeats 4000000 in
set_option maxRecDepth 100000 in
theorem cX3_readFirst_ok (l : Launch) (g : Gg) (x0 x1 : Nat) (τ : Tx) (p0 p1 : Int32) (sz : Nat) {o : Bool × Tx} (hf : fX3_readFirst τ p0 p1 = some o) : Met l yX3_readFirst wsX3_readFirst rmX3_readFirst (va_Pc [.ref x0, .int p0, .int p1] (PM g (wX g x0 x1 τ) sz)) (va_Qi (fun r' (_ : Unit) => r' = b2i o.1) (fun _ t => PQ g (wX g x0 x1 o.2) (va_A (wX g x0 x1 τ) sz) t) (va_A (wX g x0 x1 τ) sz)) 0 0 (va_A (wX g x0 x1 τ) sz) := by
  refine Met.ofW (cc := cX3_readFirst) (maxL := 3) (ret := (some .boolean)) (by decide) rfl ?_
  intro p e s m args below meth c s₁ B hml hv
  obtain ⟨rfl, rfl, hP, hD0, hE, hZ⟩ := hv
  have hx := B.exec
  have hb := B.bytes
  have hr := B.returns
  have hts := atoms_spec (ws := wsX3_readFirst) B.pre
  have hown : s.vm.findClass RX3 = some m.cls := findClass_of_methodNamed B.named
  have hlocks := B.notSynchronized
  have hD := hD0.self (sz := s.heap.size)
  generalize hAe : (va_A (wX g x0 x1 τ) s.heap.size) = A at hD hZ ⊢
  have hA : ∀ q : Nat, s.heap.size ≤ q → A q := fun q h => by rw [← hAe]; exact Or.inr h
  have hS : va_S A s.heap s.heap [] := va_S.rf
  have hP : va_P g.1 vwCl (wX g x0 x1 τ) s.heap := hP
  have hl := lv_entry ([.ref x0, .int p0, .int p1]) (n := 3) (Nat.le_of_ble_eq_true rfl)
  rw [lg_entry_eq]
  generalize (lg_sl ([.ref x0, .int p0, .int p1]) ++ List.replicate (3 - (lg_sl ([.ref x0, .int p0, .int p1])).length) Slot.unset).toArray = ls at hl ⊢
  have hl : lv_has ls 3 [(0, .ref x0), (1, .int p0), (2, .int p1)] := hl
  unfold fX3_readFirst at hf
  refine lv_aload_n hx hb dX3_readFirst_0 rfl (lv_at hl 0 rfl) ?_
  refine lv_aload_n hx hb dX3_readFirst_1 rfl (lv_at hl 0 rfl) ?_
  refine lv_iload_n hx hb dX3_readFirst_2 rfl (lv_at hl 1 rfl) ?_
  refine lv_iload_n hx hb dX3_readFirst_3 rfl (lv_at hl 2 rfl) ?_
  obtain ⟨r_1, e_1, hf⟩ := bo hf
  refine mcallVi (W0 := (wX g x0 x1 τ)) (Wc := (wX g x0 x1 τ)) (Wr := ([] : va_W)) (W1 := (wX g x0 x1 r_1.2)) (W2 := (wX g x0 x1 r_1.2)) (As := [.int p0, .int p1]) (rest := [.ref x0]) [0, 1] [] [0, 1] 2 0 ⟨hx, hb, hml, hown, hts⟩ hP hD hE hZ hS hA (cX3_readNumber_ok l g x0 x1 τ p0 p1 _ e_1) (cwV 2 hts gX3_readFirst_X3_readNumber rfl rfl rfl hdX3_readNumber ⟨(Nat.le_of_ble_eq_true rfl), (Nat.le_of_ble_eq_true rfl)⟩) rfl rfl rfl (by decide) (by decide) (by decide) (by decide) rfl rfl rfl rfl hl.1 rfl (Nat.le_of_ble_eq_true rfl) ⟨(Nat.le_of_ble_eq_true rfl), (Nat.le_of_ble_eq_true rfl)⟩ dX3_readFirst_4 (fun H locs hP hD hS => ?_)
  refine va_put (v := .int r_1.1) (ty := .int) (C := RX3) (T := TX3) (N := 8) hx hb hts fiX3_readFirst_X3 tyX3 tyX3_ok nmX3 hown hE.1 hP hD hS 0 rfl rfl 4 (by decide) (hts _ flX3_readFirst_26) (fun _ h9 => h9) rfl (by decide +kernel) rfl rfl (Nat.le_of_ble_eq_true rfl) dX3_readFirst_7 (fun H locs hP hD hS => ?_)
  have hP : va_P g.1 vwCl (wX g x0 x1 (X_fst' r_1.2 r_1.1)) H := hP
  have hD : va_D A (wX g x0 x1 (X_fst' r_1.2 r_1.1)) := hD
  refine lv_aload_n hx hb dX3_readFirst_10 rfl (lv_at hl 0 rfl) ?_
  refine va_get (v := .int r_1.1) (C := RX3) (T := TX3) (N := 8) hx hb hts fiX3_readFirst_X3 hown hE.1 hP 0 rfl rfl 4 (by decide) (hts _ flX3_readFirst_26) (fun _ h9 => h9) rfl dX3_readFirst_11 ?_
  refine lv_iconst (v := (-1 : Int32)) hx hb dX3_readFirst_14 (by decide) ?_
  refine lv_icmp_eq (tgt := 22) hx hb dX3_readFirst_15 (by decide) (fun c_2 => ?_) (fun c_2 => ?_)
  · have hf := ip c_2 hf
    refine lv_iconst (v := (0 : Int32)) hx hb dX3_readFirst_22 (by decide) ?_
    have ho := Option.some.inj hf
    subst ho
    exact m_zret (v := false) hx hb hr hlocks hP hD hS rfl dX3_readFirst_23
  · have hf := iq c_2 hf
    refine lv_iconst (v := (1 : Int32)) hx hb dX3_readFirst_18 (by decide) ?_
    refine lv_goto (tgt := 23) hx hb dX3_readFirst_19 (by decide) ?_
    have ho := Option.some.inj hf
    subst ho
    exact m_zret (v := true) hx hb hr hlocks hP hD hS rfl dX3_readFirst_23

def fX3_readSecond (τ : Tx) (p0 : Int32) : Option (Bool × Tx) := ((fX3_readNumber τ (0 : Int32) p0).bind fun r_1 => (if r_1.1 = (-1 : Int32) then (some (false, (X_snd' r_1.2 r_1.1))) else (some (true, (X_snd' r_1.2 r_1.1)))))
abbrev rmX3_readSecond : Room := { frames := 3, cells := 0, slots := 0, locals := 68 }
theorem hdX3_readSecond : yX3_readSecond.cls = RX3 ∧ yX3_readSecond.cls ≠ "java/lang/invoke/MethodHandle" ∧ yX3_readSecond.cls ≠ "java/lang/invoke/VarHandle" ∧ (parseMethodDescriptor yX3_readSecond.desc).map (fun d => d.parameters.length) = some 1 := by decide +kernel
theorem fiX3_readSecond_X3 : ∀ w ∈ wsX30, w ∈ wsX3_readSecond := by decide +kernel
theorem flX3_readSecond_29 : (.fieldLink RX3 29 "ContourLabels$OrderText" "second" "I" : Cond) ∈ wsX3_readSecond := by decide +kernel
set_option maxHeartbeats 4000000 in
set_option maxRecDepth 100000 in
theorem cX3_readSecond_ok (l : Launch) (g : Gg) (x0 x1 : Nat) (τ : Tx) (p0 : Int32) (sz : Nat) {o : Bool × Tx} (hf : fX3_readSecond τ p0 = some o) : Met l yX3_readSecond wsX3_readSecond rmX3_readSecond (va_Pc [.ref x0, .int p0] (PM g (wX g x0 x1 τ) sz)) (va_Qi (fun r' (_ : Unit) => r' = b2i o.1) (fun _ t => PQ g (wX g x0 x1 o.2) (va_A (wX g x0 x1 τ) sz) t) (va_A (wX g x0 x1 τ) sz)) 0 0 (va_A (wX g x0 x1 τ) sz) := by
  refine Met.ofW (cc := cX3_readSecond) (maxL := 2) (ret := (some .boolean)) (by decide) rfl ?_
  intro p e s m args below meth c s₁ B hml hv
  obtain ⟨rfl, rfl, hP, hD0, hE, hZ⟩ := hv
  have hx := B.exec
  have hb := B.bytes
  have hr := B.returns
  have hts := atoms_spec (ws := wsX3_readSecond) B.pre
  have hown : s.vm.findClass RX3 = some m.cls := findClass_of_methodNamed B.named
  have hlocks := B.notSynchronized
  have hD := hD0.self (sz := s.heap.size)
  generalize hAe : (va_A (wX g x0 x1 τ) s.heap.size) = A at hD hZ ⊢
  have hA : ∀ q : Nat, s.heap.size ≤ q → A q := fun q h => by rw [← hAe]; exact Or.inr h
  have hS : va_S A s.heap s.heap [] := va_S.rf
  have hP : va_P g.1 vwCl (wX g x0 x1 τ) s.heap := hP
  have hl := lv_entry ([.ref x0, .int p0]) (n := 2) (Nat.le_of_ble_eq_true rfl)
  rw [lg_entry_eq]
  generalize (lg_sl ([.ref x0, .int p0]) ++ List.replicate (2 - (lg_sl ([.ref x0, .int p0])).length) Slot.unset).toArray = ls at hl ⊢
  have hl : lv_has ls 2 [(0, .ref x0), (1, .int p0)] := hl
  unfold fX3_readSecond at hf
  refine lv_aload_n hx hb dX3_readSecond_0 rfl (lv_at hl 0 rfl) ?_
  refine lv_aload_n hx hb dX3_readSecond_1 rfl (lv_at hl 0 rfl) ?_
  refine lv_iconst (v := (0 : Int32)) hx hb dX3_readSecond_2 (by decide) ?_
  refine lv_iload_n hx hb dX3_readSecond_3 rfl (lv_at hl 1 rfl) ?_
  obtain ⟨r_1, e_1, hf⟩ := bo hf
  refine mcallVi (W0 := (wX g x0 x1 τ)) (Wc := (wX g x0 x1 τ)) (Wr := ([] : va_W)) (W1 := (wX g x0 x1 r_1.2)) (W2 := (wX g x0 x1 r_1.2)) (As := [.int (0 : Int32), .int p0]) (rest := [.ref x0]) [0, 1] [] [0, 1] 2 0 ⟨hx, hb, hml, hown, hts⟩ hP hD hE hZ hS hA (cX3_readNumber_ok l g x0 x1 τ (0 : Int32) p0 _ e_1) (cwV 2 hts gX3_readSecond_X3_readNumber rfl rfl rfl hdX3_readNumber ⟨(Nat.le_of_ble_eq_true rfl), (Nat.le_of_ble_eq_true rfl)⟩) rfl rfl rfl (by decide) (by decide) (by decide) (by decide) rfl rfl rfl rfl hl.1 rfl (Nat.le_of_ble_eq_true rfl) ⟨(Nat.le_of_ble_eq_true rfl), (Nat.le_of_ble_eq_true rfl)⟩ dX3_readSecond_4 (fun H locs hP hD hS => ?_)
  refine va_put (v := .int r_1.1) (ty := .int) (C := RX3) (T := TX3) (N := 8) hx hb hts fiX3_readSecond_X3 tyX3 tyX3_ok nmX3 hown hE.1 hP hD hS 0 rfl rfl 5 (by decide) (hts _ flX3_readSecond_29) (fun _ h9 => h9) rfl (by decide +kernel) rfl rfl (Nat.le_of_ble_eq_true rfl) dX3_readSecond_7 (fun H locs hP hD hS => ?_)
  have hP : va_P g.1 vwCl (wX g x0 x1 (X_snd' r_1.2 r_1.1)) H := hP
  have hD : va_D A (wX g x0 x1 (X_snd' r_1.2 r_1.1)) := hD
  refine lv_aload_n hx hb dX3_readSecond_10 rfl (lv_at hl 0 rfl) ?_
  refine va_get (v := .int r_1.1) (C := RX3) (T := TX3) (N := 8) hx hb hts fiX3_readSecond_X3 hown hE.1 hP 0 rfl rfl 5 (by decide) (hts _ flX3_readSecond_29) (fun _ h9 => h9) rfl dX3_readSecond_11 ?_
  refine lv_iconst (v := (-1 : Int32)) hx hb dX3_readSecond_14 (by decide) ?_
  refine lv_icmp_eq (tgt := 22) hx hb dX3_readSecond_15 (by decide) (fun c_2 => ?_) (fun c_2 => ?_)
  · have hf := ip c_2 hf
    refine lv_iconst (v := (0 : Int32)) hx hb dX3_readSecond_22 (by decide) ?_
    have ho := Option.some.inj hf
    subst ho
    exact m_zret (v := false) hx hb hr hlocks hP hD hS rfl dX3_readSecond_23
  · have hf := iq c_2 hf
    refine lv_iconst (v := (1 : Int32)) hx hb dX3_readSecond_18 (by decide) ?_
    refine lv_goto (tgt := 23) hx hb dX3_readSecond_19 (by decide) ?_
    have ho := Option.some.inj hf
    subst ho
    exact m_zret (v := true) hx hb hr hlocks hP hD hS rfl dX3_readSecond_23

def fX3_readDirections_13  : Nat → Tx → Option (Bool × Tx)
  | 0, _ => none
  | n + 1, τ_13 => (if (20 : Int32) ≤ (X_dc τ_13) then (if (X_dc τ_13) ≤ 0 then (some (false, τ_13)) else (some (true, τ_13))) else ((fX3_digitAt τ_13 (X_cur τ_13)).bind fun r_3 => ((fX6_isDirection r_3).bind fun r_4 => (if r_4 = true then fX3_readDirections_13 n (X_cur' (X_dc' τ_13 ((X_dc τ_13) + (1 : Int32))) ((X_cur τ_13) + (1 : Int32))) else (if (X_dc τ_13) ≤ 0 then (some (false, τ_13)) else (some (true, τ_13)))))))
def fX3_readDirections (τ : Tx) : Option (Bool × Tx) := fX3_readDirections_13 FU (X_dc' (X_df' τ (X_cur τ)) (0 : Int32))
abbrev rmX3_readDirections : Room := { frames := 2, cells := 0, slots := 0, locals := 43 }
theorem hdX3_readDirections : yX3_readDirections.cls = RX3 ∧ yX3_readDirections.cls ≠ "java/lang/invoke/MethodHandle" ∧ yX3_readDirections.cls ≠ "java/lang/invoke/VarHandle" ∧ (parseMethodDescriptor yX3_readDirections.desc).map (fun d => d.parameters.length) = some 0 := by decide +kernel
theorem fiX3_readDirections_X3 : ∀ w ∈ wsX30, w ∈ wsX3_readDirections := by decide +kernel
theorem flX3_readDirections_32 : (.fieldLink RX3 32 "ContourLabels$OrderText" "directionCount" "I" : Cond) ∈ wsX3_readDirections := by decide +kernel
theorem flX3_readDirections_48 : (.fieldLink RX3 48 "ContourLabels$OrderText" "cursor" "I" : Cond) ∈ wsX3_readDirections := by decide +kernel
theorem inX3_readDirections_X6 : (.initialized RX6 : Cond) ∈ wsX3_readDirections := by decide +kernel
theorem stX3_readDirections_X6_isDirection : (.static yX6_isDirection : Cond) ∈ wsX3_readDirections := by decide +kernel
theorem flX3_readDirections_35 : (.fieldLink RX3 35 "ContourLabels$OrderText" "directionsFrom" "I" : Cond) ∈ wsX3_readDirections := by decide +kernel
set_option maxHeartbeats 4000000 in
set_option maxRecDepth 100000 in
theorem cX3_readDirections_ok (l : Launch) (g : Gg) (x0 x1 : Nat) (τ : Tx) (sz : Nat) {o : Bool × Tx} (hf : fX3_readDirections τ = some o) : Met l yX3_readDirections wsX3_readDirections rmX3_readDirections (va_Pc [.ref x0] (PM g (wX g x0 x1 τ) sz)) (va_Qi (fun r' (_ : Unit) => r' = b2i o.1) (fun _ t => PQ g (wX g x0 x1 o.2) (va_A (wX g x0 x1 τ) sz) t) (va_A (wX g x0 x1 τ) sz)) 0 0 (va_A (wX g x0 x1 τ) sz) := by
  refine Met.ofW (cc := cX3_readDirections) (maxL := 1) (ret := (some .boolean)) (by decide) rfl ?_
  intro p e s m args below meth c s₁ B hml hv
  obtain ⟨rfl, rfl, hP, hD0, hE, hZ⟩ := hv
  have hx := B.exec
  have hb := B.bytes
  have hr := B.returns
  have hts := atoms_spec (ws := wsX3_readDirections) B.pre
  have hown : s.vm.findClass RX3 = some m.cls := findClass_of_methodNamed B.named
  have hlocks := B.notSynchronized
  have hD := hD0.self (sz := s.heap.size)
  generalize hAe : (va_A (wX g x0 x1 τ) s.heap.size) = A at hD hZ ⊢
  have hA : ∀ q : Nat, s.heap.size ≤ q → A q := fun q h => by rw [← hAe]; exact Or.inr h
  have hS : va_S A s.heap s.heap [] := va_S.rf
  have hP : va_P g.1 vwCl (wX g x0 x1 τ) s.heap := hP
  have hl := lv_entry ([.ref x0]) (n := 1) (Nat.le_of_ble_eq_true rfl)
  rw [lg_entry_eq]
  generalize (lg_sl ([.ref x0]) ++ List.replicate (1 - (lg_sl ([.ref x0])).length) Slot.unset).toArray = ls at hl ⊢
  have hl : lv_has ls 1 [(0, .ref x0)] := hl
  have hB13 : ∀ (n13 : Nat) (τ_13 : Tx) (H : Heap) (locs : List Loc) (ls : Array Slot), va_P g.1 vwCl (wX g x0 x1 τ_13) H → va_D A (wX g x0 x1 τ_13) → va_S A s.heap H locs → lv_has ls 1 [(0, .ref x0)] → fX3_readDirections_13 n13 τ_13 = some o → W p l e (headSpec wsX3_readDirections rmX3_readDirections).room s m ([.ref x0] : List Value).toArray below meth c H locs 0 0 (MQ below (va_Qi (fun r' (_ : Unit) => r' = b2i o.1) (fun _ t => PQ g (wX g x0 x1 o.2) A t) A) ([.ref x0] : List Value).toArray s 0 0 A) (F0 m 13 ls []) := by
    intro  n13
    induction n13 with
    | zero => intro τ_13 H locs ls hP hD hS hl hf; exact nomatch (show (none : Option (Bool × Tx)) = some _ from hf)
    | succ n13 ih13 =>
      intro τ_13 H locs ls hP hD hS hl hf
      rw [fX3_readDirections_13] at hf
      refine lv_aload_n hx hb dX3_readDirections_13 rfl (lv_at hl 0 rfl) ?_
      refine va_get (v := .int (X_dc τ_13)) (C := RX3) (T := TX3) (N := 8) hx hb hts fiX3_readDirections_X3 hown hE.1 hP 0 rfl rfl 7 (by decide) (hts _ flX3_readDirections_32) (fun _ h9 => h9) rfl dX3_readDirections_14 ?_
      refine lv_bipush (v := (20 : Int32)) hx hb dX3_readDirections_17 (by decide) ?_
      refine lv_icmp_ge (tgt := 59) hx hb dX3_readDirections_19 (by decide) (fun c_1 => ?_) (fun c_1 => ?_)
      · have hf := ip c_1 hf
        refine lv_aload_n hx hb dX3_readDirections_59 rfl (lv_at hl 0 rfl) ?_
        refine va_get (v := .int (X_dc τ_13)) (C := RX3) (T := TX3) (N := 8) hx hb hts fiX3_readDirections_X3 hown hE.1 hP 0 rfl rfl 7 (by decide) (hts _ flX3_readDirections_32) (fun _ h9 => h9) rfl dX3_readDirections_60 ?_
        refine lv_if_le (tgt := 70) hx hb dX3_readDirections_63 (by decide) (fun c_2 => ?_) (fun c_2 => ?_)
        · have hf := ip c_2 hf
          refine lv_iconst (v := (0 : Int32)) hx hb dX3_readDirections_70 (by decide) ?_
          have ho := Option.some.inj hf
          subst ho
          exact m_zret (v := false) hx hb hr hlocks hP hD hS rfl dX3_readDirections_71
        · have hf := iq c_2 hf
          refine lv_iconst (v := (1 : Int32)) hx hb dX3_readDirections_66 (by decide) ?_
          refine lv_goto (tgt := 71) hx hb dX3_readDirections_67 (by decide) ?_
          have ho := Option.some.inj hf
          subst ho
          exact m_zret (v := true) hx hb hr hlocks hP hD hS rfl dX3_readDirections_71
      · have hf := iq c_1 hf
        refine lv_aload_n hx hb dX3_readDirections_22 rfl (lv_at hl 0 rfl) ?_
        refine lv_aload_n hx hb dX3_readDirections_23 rfl (lv_at hl 0 rfl) ?_
        refine va_get (v := .int (X_cur τ_13)) (C := RX3) (T := TX3) (N := 8) hx hb hts fiX3_readDirections_X3 hown hE.1 hP 0 rfl rfl 2 (by decide) (hts _ flX3_readDirections_48) (fun _ h9 => h9) rfl dX3_readDirections_24 ?_
        obtain ⟨r_3, e_3, hf⟩ := bo hf
        refine pcallV (W0 := (wX g x0 x1 τ_13)) (As := [.int (X_cur τ_13)]) (rest := []) [0, 1] 2 0 ⟨hx, hb, hml, hown, hts⟩ hP hE hZ hS (cX3_digitAt_ok l g x0 x1 τ_13 (X_cur τ_13) e_3) (cwV 1 hts gX3_readDirections_X3_digitAt rfl rfl rfl hdX3_digitAt ⟨(Nat.le_of_ble_eq_true rfl), (Nat.le_of_ble_eq_true rfl)⟩) rfl rfl rfl rfl rfl hl.1 rfl (Nat.le_of_ble_eq_true rfl) ⟨(Nat.le_of_ble_eq_true rfl), (Nat.le_of_ble_eq_true rfl)⟩ dX3_readDirections_27 ?_
        obtain ⟨r_4, e_4, hf⟩ := bo hf
        refine pcallN (W0 := (wX g x0 x1 τ_13)) (As := [.int r_3]) (rest := []) [] ⟨hx, hb, hml, hown, hts⟩ hP hE hZ hS (cX6_isDirection_ok l g  r_3 e_4) ⟨va_cnB (host := RX6) 1 hts gX3_readDirections_X6_isDirection_n75 rfl rfl rfl (hE.2.1 (.methodLinkNest RX3 75 yX6_isDirection RX6) (by decide +kernel)) (hts _ inX3_readDirections_X6) hdX6_isDirection.2 ⟨(Nat.le_of_ble_eq_true rfl), (Nat.le_of_ble_eq_true rfl)⟩, hts _ stX3_readDirections_X6_isDirection, trivial⟩ rfl rfl hl.1 rfl (Nat.le_of_ble_eq_true rfl) ⟨(Nat.le_of_ble_eq_true rfl), (Nat.le_of_ble_eq_true rfl)⟩ dX3_readDirections_30 ?_
        refine lv_beq (tgt := 59) hx hb dX3_readDirections_33 (by decide) (fun c_5 => ?_) (fun c_5 => ?_)
        · have hf := iq c_5 hf
          refine lv_aload_n hx hb dX3_readDirections_59 rfl (lv_at hl 0 rfl) ?_
          refine va_get (v := .int (X_dc τ_13)) (C := RX3) (T := TX3) (N := 8) hx hb hts fiX3_readDirections_X3 hown hE.1 hP 0 rfl rfl 7 (by decide) (hts _ flX3_readDirections_32) (fun _ h9 => h9) rfl dX3_readDirections_60 ?_
          refine lv_if_le (tgt := 70) hx hb dX3_readDirections_63 (by decide) (fun c_6 => ?_) (fun c_6 => ?_)
          · have hf := ip c_6 hf
            refine lv_iconst (v := (0 : Int32)) hx hb dX3_readDirections_70 (by decide) ?_
            have ho := Option.some.inj hf
            subst ho
            exact m_zret (v := false) hx hb hr hlocks hP hD hS rfl dX3_readDirections_71
          · have hf := iq c_6 hf
            refine lv_iconst (v := (1 : Int32)) hx hb dX3_readDirections_66 (by decide) ?_
            refine lv_goto (tgt := 71) hx hb dX3_readDirections_67 (by decide) ?_
            have ho := Option.some.inj hf
            subst ho
            exact m_zret (v := true) hx hb hr hlocks hP hD hS rfl dX3_readDirections_71
        · have hf := ip c_5 hf
          refine lv_aload_n hx hb dX3_readDirections_36 rfl (lv_at hl 0 rfl) ?_
          refine lv_dup hx hb dX3_readDirections_37 rfl ?_
          refine va_get (v := .int (X_dc τ_13)) (C := RX3) (T := TX3) (N := 8) hx hb hts fiX3_readDirections_X3 hown hE.1 hP 0 rfl rfl 7 (by decide) (hts _ flX3_readDirections_32) (fun _ h9 => h9) rfl dX3_readDirections_38 ?_
          refine lv_iconst (v := (1 : Int32)) hx hb dX3_readDirections_41 (by decide) ?_
          refine lv_iadd hx hb dX3_readDirections_42 ?_
          refine va_put (v := .int ((X_dc τ_13) + (1 : Int32))) (ty := .int) (C := RX3) (T := TX3) (N := 8) hx hb hts fiX3_readDirections_X3 tyX3 tyX3_ok nmX3 hown hE.1 hP hD hS 0 rfl rfl 7 (by decide) (hts _ flX3_readDirections_32) (fun _ h9 => h9) rfl (by decide +kernel) rfl rfl (Nat.le_of_ble_eq_true rfl) dX3_readDirections_43 (fun H locs hP hD hS => ?_)
          have hP : va_P g.1 vwCl (wX g x0 x1 (X_dc' τ_13 ((X_dc τ_13) + (1 : Int32)))) H := hP
          have hD : va_D A (wX g x0 x1 (X_dc' τ_13 ((X_dc τ_13) + (1 : Int32)))) := hD
          refine lv_aload_n hx hb dX3_readDirections_46 rfl (lv_at hl 0 rfl) ?_
          refine lv_dup hx hb dX3_readDirections_47 rfl ?_
          refine va_get (v := .int (X_cur τ_13)) (C := RX3) (T := TX3) (N := 8) hx hb hts fiX3_readDirections_X3 hown hE.1 hP 0 rfl rfl 2 (by decide) (hts _ flX3_readDirections_48) (fun _ h9 => h9) rfl dX3_readDirections_48 ?_
          refine lv_iconst (v := (1 : Int32)) hx hb dX3_readDirections_51 (by decide) ?_
          refine lv_iadd hx hb dX3_readDirections_52 ?_
          refine va_put (v := .int ((X_cur τ_13) + (1 : Int32))) (ty := .int) (C := RX3) (T := TX3) (N := 8) hx hb hts fiX3_readDirections_X3 tyX3 tyX3_ok nmX3 hown hE.1 hP hD hS 0 rfl rfl 2 (by decide) (hts _ flX3_readDirections_48) (fun _ h9 => h9) rfl (by decide +kernel) rfl rfl (Nat.le_of_ble_eq_true rfl) dX3_readDirections_53 (fun H locs hP hD hS => ?_)
          have hP : va_P g.1 vwCl (wX g x0 x1 (X_cur' (X_dc' τ_13 ((X_dc τ_13) + (1 : Int32))) ((X_cur τ_13) + (1 : Int32)))) H := hP
          have hD : va_D A (wX g x0 x1 (X_cur' (X_dc' τ_13 ((X_dc τ_13) + (1 : Int32))) ((X_cur τ_13) + (1 : Int32)))) := hD
          refine lv_goto (tgt := 13) hx hb dX3_readDirections_56 (by decide) ?_
          exact ih13 (X_cur' (X_dc' τ_13 ((X_dc τ_13) + (1 : Int32))) ((X_cur τ_13) + (1 : Int32))) _ _ ls hP hD hS (lv_sub hl [0] rfl) hf
  unfold fX3_readDirections at hf
  refine lv_aload_n hx hb dX3_readDirections_0 rfl (lv_at hl 0 rfl) ?_
  refine lv_aload_n hx hb dX3_readDirections_1 rfl (lv_at hl 0 rfl) ?_
  refine va_get (v := .int (X_cur τ)) (C := RX3) (T := TX3) (N := 8) hx hb hts fiX3_readDirections_X3 hown hE.1 hP 0 rfl rfl 2 (by decide) (hts _ flX3_readDirections_48) (fun _ h9 => h9) rfl dX3_readDirections_2 ?_
  refine va_put (v := .int (X_cur τ)) (ty := .int) (C := RX3) (T := TX3) (N := 8) hx hb hts fiX3_readDirections_X3 tyX3 tyX3_ok nmX3 hown hE.1 hP hD hS 0 rfl rfl 6 (by decide) (hts _ flX3_readDirections_35) (fun _ h9 => h9) rfl (by decide +kernel) rfl rfl (Nat.le_of_ble_eq_true rfl) dX3_readDirections_5 (fun H locs hP hD hS => ?_)
  have hP : va_P g.1 vwCl (wX g x0 x1 (X_df' τ (X_cur τ))) H := hP
  have hD : va_D A (wX g x0 x1 (X_df' τ (X_cur τ))) := hD
  refine lv_aload_n hx hb dX3_readDirections_8 rfl (lv_at hl 0 rfl) ?_
  refine lv_iconst (v := (0 : Int32)) hx hb dX3_readDirections_9 (by decide) ?_
  refine va_put (v := .int (0 : Int32)) (ty := .int) (C := RX3) (T := TX3) (N := 8) hx hb hts fiX3_readDirections_X3 tyX3 tyX3_ok nmX3 hown hE.1 hP hD hS 0 rfl rfl 7 (by decide) (hts _ flX3_readDirections_32) (fun _ h9 => h9) rfl (by decide +kernel) rfl rfl (Nat.le_of_ble_eq_true rfl) dX3_readDirections_10 (fun H locs hP hD hS => ?_)
  have hP : va_P g.1 vwCl (wX g x0 x1 (X_dc' (X_df' τ (X_cur τ)) (0 : Int32))) H := hP
  have hD : va_D A (wX g x0 x1 (X_dc' (X_df' τ (X_cur τ)) (0 : Int32))) := hD
  exact hB13 FU (X_dc' (X_df' τ (X_cur τ)) (0 : Int32)) _ _ ls hP hD hS (lv_sub hl [0] rfl) hf

def fX3_readNext_18  (τ_18 : Tx) : Option (Bool × Tx) := ((fX3_signAt τ_18 (X_cur τ_18)).bind fun r_1 => (if r_1 = (97 : Int32) then ((fX3_pass (X_kind' τ_18 r_1) (97 : Int32)).bind fun r_3 => (some (r_3.1, r_3.2))) else (if r_1 = (98 : Int32) then ((fX3_pass (X_kind' τ_18 r_1) r_1).bind fun r_5 => (if r_5.1 = true then ((fX3_readFirst r_5.2 (0 : Int32) (7 : Int32)).bind fun r_7 => (if r_7.1 = true then (some (true, r_7.2)) else (some (false, r_7.2)))) else (some (false, r_5.2)))) else (if r_1 = (103 : Int32) then ((fX3_pass (X_kind' τ_18 r_1) (103 : Int32)).bind fun r_10 => (if r_10.1 = true then ((fX3_readFirst r_10.2 (1 : Int32) (6 : Int32)).bind fun r_12 => (if r_12.1 = true then (some (true, r_12.2)) else (some (false, r_12.2)))) else (some (false, r_10.2)))) else (if r_1 = (108 : Int32) then ((fX3_pass (X_kind' τ_18 r_1) (108 : Int32)).bind fun r_15 => (if r_15.1 = true then ((fX3_readFirst r_15.2 (0 : Int32) (7 : Int32)).bind fun r_17 => (if r_17.1 = true then ((fX3_pass r_17.2 (46 : Int32)).bind fun r_19 => (if r_19.1 = true then ((fX3_readSecond r_19.2 (59 : Int32)).bind fun r_21 => (if r_21.1 = true then (some (true, r_21.2)) else (some (false, r_21.2)))) else (some (false, r_19.2)))) else (some (false, r_17.2)))) else (some (false, r_15.2)))) else (if r_1 = (110 : Int32) then ((fX3_pass (X_kind' τ_18 r_1) (110 : Int32)).bind fun r_24 => (if r_24.1 = true then ((fX3_readFirst r_24.2 (0 : Int32) (99 : Int32)).bind fun r_26 => (if r_26.1 = true then ((fX3_pass r_26.2 (64 : Int32)).bind fun r_28 => (if r_28.1 = true then ((fX3_readSecond r_28.2 (383 : Int32)).bind fun r_30 => (if r_30.1 = true then (some (true, r_30.2)) else (some (false, r_30.2)))) else (some (false, r_28.2)))) else (some (false, r_26.2)))) else (some (false, r_24.2)))) else (if r_1 = (115 : Int32) then ((fX3_pass (X_kind' τ_18 r_1) (115 : Int32)).bind fun r_33 => (if r_33.1 = true then ((fX3_readDirections r_33.2).bind fun r_35 => (if r_35.1 = true then (some (true, r_35.2)) else (some (false, r_35.2)))) else (some (false, r_33.2)))) else (if r_1 = (117 : Int32) then ((fX3_pass (X_kind' τ_18 r_1) r_1).bind fun r_38 => (if r_38.1 = true then ((fX3_readFirst r_38.2 (0 : Int32) (7 : Int32)).bind fun r_40 => (if r_40.1 = true then (some (true, r_40.2)) else (some (false, r_40.2)))) else (some (false, r_38.2)))) else (if r_1 = (119 : Int32) then ((fX3_pass (X_kind' τ_18 r_1) r_1).bind fun r_43 => (if r_43.1 = true then ((fX3_readFirst r_43.2 (0 : Int32) (7 : Int32)).bind fun r_45 => (if r_45.1 = true then (some (true, r_45.2)) else (some (false, r_45.2)))) else (some (false, r_43.2)))) else (some (false, (X_kind' τ_18 r_1))))))))))))
def fX3_readNext (τ : Tx) : Option (Bool × Tx) := (if (X_cur τ) ≤ 0 then fX3_readNext_18 τ else ((fX3_pass τ (59 : Int32)).bind fun r_49 => (if r_49.1 = true then fX3_readNext_18 r_49.2 else (some (false, r_49.2)))))
abbrev rmX3_readNext : Room := { frames := 4, cells := 0, slots := 0, locals := 90 }
theorem hdX3_readNext : yX3_readNext.cls = RX3 ∧ yX3_readNext.cls ≠ "java/lang/invoke/MethodHandle" ∧ yX3_readNext.cls ≠ "java/lang/invoke/VarHandle" ∧ (parseMethodDescriptor yX3_readNext.desc).map (fun d => d.parameters.length) = some 0 := by decide +kernel
theorem fiX3_readNext_X3 : ∀ w ∈ wsX30, w ∈ wsX3_readNext := by decide +kernel
theorem flX3_readNext_48 : (.fieldLink RX3 48 "ContourLabels$OrderText" "cursor" "I" : Cond) ∈ wsX3_readNext := by decide +kernel
theorem flX3_readNext_23 : (.fieldLink RX3 23 "ContourLabels$OrderText" "kind" "I" : Cond) ∈ wsX3_readNext := by decide +kernel
set_option maxHeartbeats 4000000 in
set_option maxRecDepth 100000 in
theorem cX3_readNext_ok (l : Launch) (g : Gg) (x0 x1 : Nat) (τ : Tx) (sz : Nat) {o : Bool × Tx} (hf : fX3_readNext τ = some o) : Met l yX3_readNext wsX3_readNext rmX3_readNext (va_Pc [.ref x0] (PM g (wX g x0 x1 τ) sz)) (va_Qi (fun r' (_ : Unit) => r' = b2i o.1) (fun _ t => PQ g (wX g x0 x1 o.2) (va_A (wX g x0 x1 τ) sz) t) (va_A (wX g x0 x1 τ) sz)) 0 0 (va_A (wX g x0 x1 τ) sz) := by
  refine Met.ofW (cc := cX3_readNext) (maxL := 1) (ret := (some .boolean)) (by decide) rfl ?_
  intro p e s m args below meth c s₁ B hml hv
  obtain ⟨rfl, rfl, hP, hD0, hE, hZ⟩ := hv
  have hx := B.exec
  have hb := B.bytes
  have hr := B.returns
  have hts := atoms_spec (ws := wsX3_readNext) B.pre
  have hown : s.vm.findClass RX3 = some m.cls := findClass_of_methodNamed B.named
  have hlocks := B.notSynchronized
  have hD := hD0.self (sz := s.heap.size)
  generalize hAe : (va_A (wX g x0 x1 τ) s.heap.size) = A at hD hZ ⊢
  have hA : ∀ q : Nat, s.heap.size ≤ q → A q := fun q h => by rw [← hAe]; exact Or.inr h
  have hS : va_S A s.heap s.heap [] := va_S.rf
  have hP : va_P g.1 vwCl (wX g x0 x1 τ) s.heap := hP
  have hl := lv_entry ([.ref x0]) (n := 1) (Nat.le_of_ble_eq_true rfl)
  rw [lg_entry_eq]
  generalize (lg_sl ([.ref x0]) ++ List.replicate (1 - (lg_sl ([.ref x0])).length) Slot.unset).toArray = ls at hl ⊢
  have hl : lv_has ls 1 [(0, .ref x0)] := hl
  have hB18 : ∀ (τ_18 : Tx) (H : Heap) (locs : List Loc) (ls : Array Slot), va_P g.1 vwCl (wX g x0 x1 τ_18) H → va_D A (wX g x0 x1 τ_18) → va_S A s.heap H locs → lv_has ls 1 [(0, .ref x0)] → fX3_readNext_18 τ_18 = some o → W p l e (headSpec wsX3_readNext rmX3_readNext).room s m ([.ref x0] : List Value).toArray below meth c H locs 0 0 (MQ below (va_Qi (fun r' (_ : Unit) => r' = b2i o.1) (fun _ t => PQ g (wX g x0 x1 o.2) A t) A) ([.ref x0] : List Value).toArray s 0 0 A) (F0 m 18 ls []) := by
    intro  τ_18 H locs ls hP hD hS hl hf
    unfold fX3_readNext_18 at hf
    refine lv_aload_n hx hb dX3_readNext_18 rfl (lv_at hl 0 rfl) ?_
    refine lv_aload_n hx hb dX3_readNext_19 rfl (lv_at hl 0 rfl) ?_
    refine lv_aload_n hx hb dX3_readNext_20 rfl (lv_at hl 0 rfl) ?_
    refine va_get (v := .int (X_cur τ_18)) (C := RX3) (T := TX3) (N := 8) hx hb hts fiX3_readNext_X3 hown hE.1 hP 0 rfl rfl 2 (by decide) (hts _ flX3_readNext_48) (fun _ h9 => h9) rfl dX3_readNext_21 ?_
    obtain ⟨r_1, e_1, hf⟩ := bo hf
    refine pcallV (W0 := (wX g x0 x1 τ_18)) (As := [.int (X_cur τ_18)]) (rest := [.ref x0]) [0, 1] 2 0 ⟨hx, hb, hml, hown, hts⟩ hP hE hZ hS (cX3_signAt_ok l g x0 x1 τ_18 (X_cur τ_18) e_1) (cwV 1 hts gX3_readNext_X3_signAt rfl rfl rfl hdX3_signAt ⟨(Nat.le_of_ble_eq_true rfl), (Nat.le_of_ble_eq_true rfl)⟩) rfl rfl rfl rfl rfl hl.1 rfl (Nat.le_of_ble_eq_true rfl) ⟨(Nat.le_of_ble_eq_true rfl), (Nat.le_of_ble_eq_true rfl)⟩ dX3_readNext_24 ?_
    refine va_put (v := .int r_1) (ty := .int) (C := RX3) (T := TX3) (N := 8) hx hb hts fiX3_readNext_X3 tyX3 tyX3_ok nmX3 hown hE.1 hP hD hS 0 rfl rfl 3 (by decide) (hts _ flX3_readNext_23) (fun _ h9 => h9) rfl (by decide +kernel) rfl rfl (Nat.le_of_ble_eq_true rfl) dX3_readNext_27 (fun H locs hP hD hS => ?_)
    have hP : va_P g.1 vwCl (wX g x0 x1 (X_kind' τ_18 r_1)) H := hP
    have hD : va_D A (wX g x0 x1 (X_kind' τ_18 r_1)) := hD
    refine lv_aload_n hx hb dX3_readNext_30 rfl (lv_at hl 0 rfl) ?_
    refine va_get (v := .int r_1) (C := RX3) (T := TX3) (N := 8) hx hb hts fiX3_readNext_X3 hown hE.1 hP 0 rfl rfl 3 (by decide) (hts _ flX3_readNext_23) (fun _ h9 => h9) rfl dX3_readNext_31 ?_
    by_cases s_2 : r_1 = (97 : Int32)
    · have hf := ip s_2 hf
      refine lv_tableIn (off := 267) (tgt := 301) hx hb dX3_readNext_34 (by rw [s_2]; decide) (by rw [s_2]; decide) (by rw [s_2]; rfl) (by decide) ?_
      refine lv_aload_n hx hb dX3_readNext_301 rfl (lv_at hl 0 rfl) ?_
      refine lv_bipush (v := (97 : Int32)) hx hb dX3_readNext_302 (by decide) ?_
      obtain ⟨r_3, e_3, hf⟩ := bo hf
      refine mcallVi (W0 := (wX g x0 x1 (X_kind' τ_18 r_1))) (Wc := (wX g x0 x1 (X_kind' τ_18 r_1))) (Wr := ([] : va_W)) (W1 := (wX g x0 x1 r_3.2)) (W2 := (wX g x0 x1 r_3.2)) (As := [.int (97 : Int32)]) (rest := []) [0, 1] [] [0, 1] 2 0 ⟨hx, hb, hml, hown, hts⟩ hP hD hE hZ hS hA (cX3_pass_ok l g x0 x1 (X_kind' τ_18 r_1) (97 : Int32) _ e_3) (cwV 1 hts gX3_readNext_X3_pass rfl rfl rfl hdX3_pass ⟨(Nat.le_of_ble_eq_true rfl), (Nat.le_of_ble_eq_true rfl)⟩) rfl rfl rfl (by decide) (by decide) (by decide) (by decide) rfl rfl rfl rfl hl.1 rfl (Nat.le_of_ble_eq_true rfl) ⟨(Nat.le_of_ble_eq_true rfl), (Nat.le_of_ble_eq_true rfl)⟩ dX3_readNext_304 (fun H locs hP hD hS => ?_)
      have ho := Option.some.inj hf
      subst ho
      exact m_zret (v := r_3.1) hx hb hr hlocks hP hD hS rfl dX3_readNext_307
    · have hf := iq s_2 hf
      by_cases s_4 : r_1 = (98 : Int32)
      · have hf := ip s_4 hf
        refine lv_tableIn (off := 215) (tgt := 249) hx hb dX3_readNext_34 (by rw [s_4]; decide) (by rw [s_4]; decide) (by rw [s_4]; rfl) (by decide) ?_
        refine lv_aload_n hx hb dX3_readNext_249 rfl (lv_at hl 0 rfl) ?_
        refine lv_aload_n hx hb dX3_readNext_250 rfl (lv_at hl 0 rfl) ?_
        refine va_get (v := .int r_1) (C := RX3) (T := TX3) (N := 8) hx hb hts fiX3_readNext_X3 hown hE.1 hP 0 rfl rfl 3 (by decide) (hts _ flX3_readNext_23) (fun _ h9 => h9) rfl dX3_readNext_251 ?_
        obtain ⟨r_5, e_5, hf⟩ := bo hf
        refine mcallVi (W0 := (wX g x0 x1 (X_kind' τ_18 r_1))) (Wc := (wX g x0 x1 (X_kind' τ_18 r_1))) (Wr := ([] : va_W)) (W1 := (wX g x0 x1 r_5.2)) (W2 := (wX g x0 x1 r_5.2)) (As := [.int r_1]) (rest := []) [0, 1] [] [0, 1] 2 0 ⟨hx, hb, hml, hown, hts⟩ hP hD hE hZ hS hA (cX3_pass_ok l g x0 x1 (X_kind' τ_18 r_1) r_1 _ e_5) (cwV 1 hts gX3_readNext_X3_pass rfl rfl rfl hdX3_pass ⟨(Nat.le_of_ble_eq_true rfl), (Nat.le_of_ble_eq_true rfl)⟩) rfl rfl rfl (by decide) (by decide) (by decide) (by decide) rfl rfl rfl rfl hl.1 rfl (Nat.le_of_ble_eq_true rfl) ⟨(Nat.le_of_ble_eq_true rfl), (Nat.le_of_ble_eq_true rfl)⟩ dX3_readNext_254 (fun H locs hP hD hS => ?_)
        refine lv_beq (tgt := 274) hx hb dX3_readNext_257 (by decide) (fun c_6 => ?_) (fun c_6 => ?_)
        · have hf := iq c_6 hf
          refine lv_iconst (v := (0 : Int32)) hx hb dX3_readNext_274 (by decide) ?_
          have ho := Option.some.inj hf
          subst ho
          exact m_zret (v := false) hx hb hr hlocks hP hD hS rfl dX3_readNext_275
        · have hf := ip c_6 hf
          refine lv_aload_n hx hb dX3_readNext_260 rfl (lv_at hl 0 rfl) ?_
          refine lv_iconst (v := (0 : Int32)) hx hb dX3_readNext_261 (by decide) ?_
          refine lv_bipush (v := (7 : Int32)) hx hb dX3_readNext_262 (by decide) ?_
          obtain ⟨r_7, e_7, hf⟩ := bo hf
          refine mcallVi (W0 := (wX g x0 x1 r_5.2)) (Wc := (wX g x0 x1 r_5.2)) (Wr := ([] : va_W)) (W1 := (wX g x0 x1 r_7.2)) (W2 := (wX g x0 x1 r_7.2)) (As := [.int (0 : Int32), .int (7 : Int32)]) (rest := []) [0, 1] [] [0, 1] 2 0 ⟨hx, hb, hml, hown, hts⟩ hP hD hE hZ hS hA (cX3_readFirst_ok l g x0 x1 r_5.2 (0 : Int32) (7 : Int32) _ e_7) (cwV 2 hts gX3_readNext_X3_readFirst rfl rfl rfl hdX3_readFirst ⟨(Nat.le_of_ble_eq_true rfl), (Nat.le_of_ble_eq_true rfl)⟩) rfl rfl rfl (by decide) (by decide) (by decide) (by decide) rfl rfl rfl rfl hl.1 rfl (Nat.le_of_ble_eq_true rfl) ⟨(Nat.le_of_ble_eq_true rfl), (Nat.le_of_ble_eq_true rfl)⟩ dX3_readNext_264 (fun H locs hP hD hS => ?_)
          refine lv_beq (tgt := 274) hx hb dX3_readNext_267 (by decide) (fun c_8 => ?_) (fun c_8 => ?_)
          · have hf := iq c_8 hf
            refine lv_iconst (v := (0 : Int32)) hx hb dX3_readNext_274 (by decide) ?_
            have ho := Option.some.inj hf
            subst ho
            exact m_zret (v := false) hx hb hr hlocks hP hD hS rfl dX3_readNext_275
          · have hf := ip c_8 hf
            refine lv_iconst (v := (1 : Int32)) hx hb dX3_readNext_270 (by decide) ?_
            refine lv_goto (tgt := 275) hx hb dX3_readNext_271 (by decide) ?_
            have ho := Option.some.inj hf
            subst ho
            exact m_zret (v := true) hx hb hr hlocks hP hD hS rfl dX3_readNext_275
      · have hf := iq s_4 hf
        by_cases s_9 : r_1 = (103 : Int32)
        · have hf := ip s_9 hf
          refine lv_tableIn (off := 242) (tgt := 276) hx hb dX3_readNext_34 (by rw [s_9]; decide) (by rw [s_9]; decide) (by rw [s_9]; rfl) (by decide) ?_
          refine lv_aload_n hx hb dX3_readNext_276 rfl (lv_at hl 0 rfl) ?_
          refine lv_bipush (v := (103 : Int32)) hx hb dX3_readNext_277 (by decide) ?_
          obtain ⟨r_10, e_10, hf⟩ := bo hf
          refine mcallVi (W0 := (wX g x0 x1 (X_kind' τ_18 r_1))) (Wc := (wX g x0 x1 (X_kind' τ_18 r_1))) (Wr := ([] : va_W)) (W1 := (wX g x0 x1 r_10.2)) (W2 := (wX g x0 x1 r_10.2)) (As := [.int (103 : Int32)]) (rest := []) [0, 1] [] [0, 1] 2 0 ⟨hx, hb, hml, hown, hts⟩ hP hD hE hZ hS hA (cX3_pass_ok l g x0 x1 (X_kind' τ_18 r_1) (103 : Int32) _ e_10) (cwV 1 hts gX3_readNext_X3_pass rfl rfl rfl hdX3_pass ⟨(Nat.le_of_ble_eq_true rfl), (Nat.le_of_ble_eq_true rfl)⟩) rfl rfl rfl (by decide) (by decide) (by decide) (by decide) rfl rfl rfl rfl hl.1 rfl (Nat.le_of_ble_eq_true rfl) ⟨(Nat.le_of_ble_eq_true rfl), (Nat.le_of_ble_eq_true rfl)⟩ dX3_readNext_279 (fun H locs hP hD hS => ?_)
          refine lv_beq (tgt := 299) hx hb dX3_readNext_282 (by decide) (fun c_11 => ?_) (fun c_11 => ?_)
          · have hf := iq c_11 hf
            refine lv_iconst (v := (0 : Int32)) hx hb dX3_readNext_299 (by decide) ?_
            have ho := Option.some.inj hf
            subst ho
            exact m_zret (v := false) hx hb hr hlocks hP hD hS rfl dX3_readNext_300
          · have hf := ip c_11 hf
            refine lv_aload_n hx hb dX3_readNext_285 rfl (lv_at hl 0 rfl) ?_
            refine lv_iconst (v := (1 : Int32)) hx hb dX3_readNext_286 (by decide) ?_
            refine lv_bipush (v := (6 : Int32)) hx hb dX3_readNext_287 (by decide) ?_
            obtain ⟨r_12, e_12, hf⟩ := bo hf
            refine mcallVi (W0 := (wX g x0 x1 r_10.2)) (Wc := (wX g x0 x1 r_10.2)) (Wr := ([] : va_W)) (W1 := (wX g x0 x1 r_12.2)) (W2 := (wX g x0 x1 r_12.2)) (As := [.int (1 : Int32), .int (6 : Int32)]) (rest := []) [0, 1] [] [0, 1] 2 0 ⟨hx, hb, hml, hown, hts⟩ hP hD hE hZ hS hA (cX3_readFirst_ok l g x0 x1 r_10.2 (1 : Int32) (6 : Int32) _ e_12) (cwV 2 hts gX3_readNext_X3_readFirst rfl rfl rfl hdX3_readFirst ⟨(Nat.le_of_ble_eq_true rfl), (Nat.le_of_ble_eq_true rfl)⟩) rfl rfl rfl (by decide) (by decide) (by decide) (by decide) rfl rfl rfl rfl hl.1 rfl (Nat.le_of_ble_eq_true rfl) ⟨(Nat.le_of_ble_eq_true rfl), (Nat.le_of_ble_eq_true rfl)⟩ dX3_readNext_289 (fun H locs hP hD hS => ?_)
            refine lv_beq (tgt := 299) hx hb dX3_readNext_292 (by decide) (fun c_13 => ?_) (fun c_13 => ?_)
            · have hf := iq c_13 hf
              refine lv_iconst (v := (0 : Int32)) hx hb dX3_readNext_299 (by decide) ?_
              have ho := Option.some.inj hf
              subst ho
              exact m_zret (v := false) hx hb hr hlocks hP hD hS rfl dX3_readNext_300
            · have hf := ip c_13 hf
              refine lv_iconst (v := (1 : Int32)) hx hb dX3_readNext_295 (by decide) ?_
              refine lv_goto (tgt := 300) hx hb dX3_readNext_296 (by decide) ?_
              have ho := Option.some.inj hf
              subst ho
              exact m_zret (v := true) hx hb hr hlocks hP hD hS rfl dX3_readNext_300
        · have hf := iq s_9 hf
          by_cases s_14 : r_1 = (108 : Int32)
          · have hf := ip s_14 hf
            refine lv_tableIn (off := 172) (tgt := 206) hx hb dX3_readNext_34 (by rw [s_14]; decide) (by rw [s_14]; decide) (by rw [s_14]; rfl) (by decide) ?_
            refine lv_aload_n hx hb dX3_readNext_206 rfl (lv_at hl 0 rfl) ?_
            refine lv_bipush (v := (108 : Int32)) hx hb dX3_readNext_207 (by decide) ?_
            obtain ⟨r_15, e_15, hf⟩ := bo hf
            refine mcallVi (W0 := (wX g x0 x1 (X_kind' τ_18 r_1))) (Wc := (wX g x0 x1 (X_kind' τ_18 r_1))) (Wr := ([] : va_W)) (W1 := (wX g x0 x1 r_15.2)) (W2 := (wX g x0 x1 r_15.2)) (As := [.int (108 : Int32)]) (rest := []) [0, 1] [] [0, 1] 2 0 ⟨hx, hb, hml, hown, hts⟩ hP hD hE hZ hS hA (cX3_pass_ok l g x0 x1 (X_kind' τ_18 r_1) (108 : Int32) _ e_15) (cwV 1 hts gX3_readNext_X3_pass rfl rfl rfl hdX3_pass ⟨(Nat.le_of_ble_eq_true rfl), (Nat.le_of_ble_eq_true rfl)⟩) rfl rfl rfl (by decide) (by decide) (by decide) (by decide) rfl rfl rfl rfl hl.1 rfl (Nat.le_of_ble_eq_true rfl) ⟨(Nat.le_of_ble_eq_true rfl), (Nat.le_of_ble_eq_true rfl)⟩ dX3_readNext_209 (fun H locs hP hD hS => ?_)
            refine lv_beq (tgt := 247) hx hb dX3_readNext_212 (by decide) (fun c_16 => ?_) (fun c_16 => ?_)
            · have hf := iq c_16 hf
              refine lv_iconst (v := (0 : Int32)) hx hb dX3_readNext_247 (by decide) ?_
              have ho := Option.some.inj hf
              subst ho
              exact m_zret (v := false) hx hb hr hlocks hP hD hS rfl dX3_readNext_248
            · have hf := ip c_16 hf
              refine lv_aload_n hx hb dX3_readNext_215 rfl (lv_at hl 0 rfl) ?_
              refine lv_iconst (v := (0 : Int32)) hx hb dX3_readNext_216 (by decide) ?_
              refine lv_bipush (v := (7 : Int32)) hx hb dX3_readNext_217 (by decide) ?_
              obtain ⟨r_17, e_17, hf⟩ := bo hf
              refine mcallVi (W0 := (wX g x0 x1 r_15.2)) (Wc := (wX g x0 x1 r_15.2)) (Wr := ([] : va_W)) (W1 := (wX g x0 x1 r_17.2)) (W2 := (wX g x0 x1 r_17.2)) (As := [.int (0 : Int32), .int (7 : Int32)]) (rest := []) [0, 1] [] [0, 1] 2 0 ⟨hx, hb, hml, hown, hts⟩ hP hD hE hZ hS hA (cX3_readFirst_ok l g x0 x1 r_15.2 (0 : Int32) (7 : Int32) _ e_17) (cwV 2 hts gX3_readNext_X3_readFirst rfl rfl rfl hdX3_readFirst ⟨(Nat.le_of_ble_eq_true rfl), (Nat.le_of_ble_eq_true rfl)⟩) rfl rfl rfl (by decide) (by decide) (by decide) (by decide) rfl rfl rfl rfl hl.1 rfl (Nat.le_of_ble_eq_true rfl) ⟨(Nat.le_of_ble_eq_true rfl), (Nat.le_of_ble_eq_true rfl)⟩ dX3_readNext_219 (fun H locs hP hD hS => ?_)
              refine lv_beq (tgt := 247) hx hb dX3_readNext_222 (by decide) (fun c_18 => ?_) (fun c_18 => ?_)
              · have hf := iq c_18 hf
                refine lv_iconst (v := (0 : Int32)) hx hb dX3_readNext_247 (by decide) ?_
                have ho := Option.some.inj hf
                subst ho
                exact m_zret (v := false) hx hb hr hlocks hP hD hS rfl dX3_readNext_248
              · have hf := ip c_18 hf
                refine lv_aload_n hx hb dX3_readNext_225 rfl (lv_at hl 0 rfl) ?_
                refine lv_bipush (v := (46 : Int32)) hx hb dX3_readNext_226 (by decide) ?_
                obtain ⟨r_19, e_19, hf⟩ := bo hf
                refine mcallVi (W0 := (wX g x0 x1 r_17.2)) (Wc := (wX g x0 x1 r_17.2)) (Wr := ([] : va_W)) (W1 := (wX g x0 x1 r_19.2)) (W2 := (wX g x0 x1 r_19.2)) (As := [.int (46 : Int32)]) (rest := []) [0, 1] [] [0, 1] 2 0 ⟨hx, hb, hml, hown, hts⟩ hP hD hE hZ hS hA (cX3_pass_ok l g x0 x1 r_17.2 (46 : Int32) _ e_19) (cwV 1 hts gX3_readNext_X3_pass rfl rfl rfl hdX3_pass ⟨(Nat.le_of_ble_eq_true rfl), (Nat.le_of_ble_eq_true rfl)⟩) rfl rfl rfl (by decide) (by decide) (by decide) (by decide) rfl rfl rfl rfl hl.1 rfl (Nat.le_of_ble_eq_true rfl) ⟨(Nat.le_of_ble_eq_true rfl), (Nat.le_of_ble_eq_true rfl)⟩ dX3_readNext_228 (fun H locs hP hD hS => ?_)
                refine lv_beq (tgt := 247) hx hb dX3_readNext_231 (by decide) (fun c_20 => ?_) (fun c_20 => ?_)
                · have hf := iq c_20 hf
                  refine lv_iconst (v := (0 : Int32)) hx hb dX3_readNext_247 (by decide) ?_
                  have ho := Option.some.inj hf
                  subst ho
                  exact m_zret (v := false) hx hb hr hlocks hP hD hS rfl dX3_readNext_248
                · have hf := ip c_20 hf
                  refine lv_aload_n hx hb dX3_readNext_234 rfl (lv_at hl 0 rfl) ?_
                  refine lv_bipush (v := (59 : Int32)) hx hb dX3_readNext_235 (by decide) ?_
                  obtain ⟨r_21, e_21, hf⟩ := bo hf
                  refine mcallVi (W0 := (wX g x0 x1 r_19.2)) (Wc := (wX g x0 x1 r_19.2)) (Wr := ([] : va_W)) (W1 := (wX g x0 x1 r_21.2)) (W2 := (wX g x0 x1 r_21.2)) (As := [.int (59 : Int32)]) (rest := []) [0, 1] [] [0, 1] 2 0 ⟨hx, hb, hml, hown, hts⟩ hP hD hE hZ hS hA (cX3_readSecond_ok l g x0 x1 r_19.2 (59 : Int32) _ e_21) (cwV 1 hts gX3_readNext_X3_readSecond rfl rfl rfl hdX3_readSecond ⟨(Nat.le_of_ble_eq_true rfl), (Nat.le_of_ble_eq_true rfl)⟩) rfl rfl rfl (by decide) (by decide) (by decide) (by decide) rfl rfl rfl rfl hl.1 rfl (Nat.le_of_ble_eq_true rfl) ⟨(Nat.le_of_ble_eq_true rfl), (Nat.le_of_ble_eq_true rfl)⟩ dX3_readNext_237 (fun H locs hP hD hS => ?_)
                  refine lv_beq (tgt := 247) hx hb dX3_readNext_240 (by decide) (fun c_22 => ?_) (fun c_22 => ?_)
                  · have hf := iq c_22 hf
                    refine lv_iconst (v := (0 : Int32)) hx hb dX3_readNext_247 (by decide) ?_
                    have ho := Option.some.inj hf
                    subst ho
                    exact m_zret (v := false) hx hb hr hlocks hP hD hS rfl dX3_readNext_248
                  · have hf := ip c_22 hf
                    refine lv_iconst (v := (1 : Int32)) hx hb dX3_readNext_243 (by decide) ?_
                    refine lv_goto (tgt := 248) hx hb dX3_readNext_244 (by decide) ?_
                    have ho := Option.some.inj hf
                    subst ho
                    exact m_zret (v := true) hx hb hr hlocks hP hD hS rfl dX3_readNext_248
          · have hf := iq s_14 hf
            by_cases s_23 : r_1 = (110 : Int32)
            · have hf := ip s_23 hf
              refine lv_tableIn (off := 106) (tgt := 140) hx hb dX3_readNext_34 (by rw [s_23]; decide) (by rw [s_23]; decide) (by rw [s_23]; rfl) (by decide) ?_
              refine lv_aload_n hx hb dX3_readNext_140 rfl (lv_at hl 0 rfl) ?_
              refine lv_bipush (v := (110 : Int32)) hx hb dX3_readNext_141 (by decide) ?_
              obtain ⟨r_24, e_24, hf⟩ := bo hf
              refine mcallVi (W0 := (wX g x0 x1 (X_kind' τ_18 r_1))) (Wc := (wX g x0 x1 (X_kind' τ_18 r_1))) (Wr := ([] : va_W)) (W1 := (wX g x0 x1 r_24.2)) (W2 := (wX g x0 x1 r_24.2)) (As := [.int (110 : Int32)]) (rest := []) [0, 1] [] [0, 1] 2 0 ⟨hx, hb, hml, hown, hts⟩ hP hD hE hZ hS hA (cX3_pass_ok l g x0 x1 (X_kind' τ_18 r_1) (110 : Int32) _ e_24) (cwV 1 hts gX3_readNext_X3_pass rfl rfl rfl hdX3_pass ⟨(Nat.le_of_ble_eq_true rfl), (Nat.le_of_ble_eq_true rfl)⟩) rfl rfl rfl (by decide) (by decide) (by decide) (by decide) rfl rfl rfl rfl hl.1 rfl (Nat.le_of_ble_eq_true rfl) ⟨(Nat.le_of_ble_eq_true rfl), (Nat.le_of_ble_eq_true rfl)⟩ dX3_readNext_143 (fun H locs hP hD hS => ?_)
              refine lv_beq (tgt := 182) hx hb dX3_readNext_146 (by decide) (fun c_25 => ?_) (fun c_25 => ?_)
              · have hf := iq c_25 hf
                refine lv_iconst (v := (0 : Int32)) hx hb dX3_readNext_182 (by decide) ?_
                have ho := Option.some.inj hf
                subst ho
                exact m_zret (v := false) hx hb hr hlocks hP hD hS rfl dX3_readNext_183
              · have hf := ip c_25 hf
                refine lv_aload_n hx hb dX3_readNext_149 rfl (lv_at hl 0 rfl) ?_
                refine lv_iconst (v := (0 : Int32)) hx hb dX3_readNext_150 (by decide) ?_
                refine lv_bipush (v := (99 : Int32)) hx hb dX3_readNext_151 (by decide) ?_
                obtain ⟨r_26, e_26, hf⟩ := bo hf
                refine mcallVi (W0 := (wX g x0 x1 r_24.2)) (Wc := (wX g x0 x1 r_24.2)) (Wr := ([] : va_W)) (W1 := (wX g x0 x1 r_26.2)) (W2 := (wX g x0 x1 r_26.2)) (As := [.int (0 : Int32), .int (99 : Int32)]) (rest := []) [0, 1] [] [0, 1] 2 0 ⟨hx, hb, hml, hown, hts⟩ hP hD hE hZ hS hA (cX3_readFirst_ok l g x0 x1 r_24.2 (0 : Int32) (99 : Int32) _ e_26) (cwV 2 hts gX3_readNext_X3_readFirst rfl rfl rfl hdX3_readFirst ⟨(Nat.le_of_ble_eq_true rfl), (Nat.le_of_ble_eq_true rfl)⟩) rfl rfl rfl (by decide) (by decide) (by decide) (by decide) rfl rfl rfl rfl hl.1 rfl (Nat.le_of_ble_eq_true rfl) ⟨(Nat.le_of_ble_eq_true rfl), (Nat.le_of_ble_eq_true rfl)⟩ dX3_readNext_153 (fun H locs hP hD hS => ?_)
                refine lv_beq (tgt := 182) hx hb dX3_readNext_156 (by decide) (fun c_27 => ?_) (fun c_27 => ?_)
                · have hf := iq c_27 hf
                  refine lv_iconst (v := (0 : Int32)) hx hb dX3_readNext_182 (by decide) ?_
                  have ho := Option.some.inj hf
                  subst ho
                  exact m_zret (v := false) hx hb hr hlocks hP hD hS rfl dX3_readNext_183
                · have hf := ip c_27 hf
                  refine lv_aload_n hx hb dX3_readNext_159 rfl (lv_at hl 0 rfl) ?_
                  refine lv_bipush (v := (64 : Int32)) hx hb dX3_readNext_160 (by decide) ?_
                  obtain ⟨r_28, e_28, hf⟩ := bo hf
                  refine mcallVi (W0 := (wX g x0 x1 r_26.2)) (Wc := (wX g x0 x1 r_26.2)) (Wr := ([] : va_W)) (W1 := (wX g x0 x1 r_28.2)) (W2 := (wX g x0 x1 r_28.2)) (As := [.int (64 : Int32)]) (rest := []) [0, 1] [] [0, 1] 2 0 ⟨hx, hb, hml, hown, hts⟩ hP hD hE hZ hS hA (cX3_pass_ok l g x0 x1 r_26.2 (64 : Int32) _ e_28) (cwV 1 hts gX3_readNext_X3_pass rfl rfl rfl hdX3_pass ⟨(Nat.le_of_ble_eq_true rfl), (Nat.le_of_ble_eq_true rfl)⟩) rfl rfl rfl (by decide) (by decide) (by decide) (by decide) rfl rfl rfl rfl hl.1 rfl (Nat.le_of_ble_eq_true rfl) ⟨(Nat.le_of_ble_eq_true rfl), (Nat.le_of_ble_eq_true rfl)⟩ dX3_readNext_162 (fun H locs hP hD hS => ?_)
                  refine lv_beq (tgt := 182) hx hb dX3_readNext_165 (by decide) (fun c_29 => ?_) (fun c_29 => ?_)
                  · have hf := iq c_29 hf
                    refine lv_iconst (v := (0 : Int32)) hx hb dX3_readNext_182 (by decide) ?_
                    have ho := Option.some.inj hf
                    subst ho
                    exact m_zret (v := false) hx hb hr hlocks hP hD hS rfl dX3_readNext_183
                  · have hf := ip c_29 hf
                    refine lv_aload_n hx hb dX3_readNext_168 rfl (lv_at hl 0 rfl) ?_
                    refine lv_sipush (v := (383 : Int32)) hx hb dX3_readNext_169 (by decide) ?_
                    obtain ⟨r_30, e_30, hf⟩ := bo hf
                    refine mcallVi (W0 := (wX g x0 x1 r_28.2)) (Wc := (wX g x0 x1 r_28.2)) (Wr := ([] : va_W)) (W1 := (wX g x0 x1 r_30.2)) (W2 := (wX g x0 x1 r_30.2)) (As := [.int (383 : Int32)]) (rest := []) [0, 1] [] [0, 1] 2 0 ⟨hx, hb, hml, hown, hts⟩ hP hD hE hZ hS hA (cX3_readSecond_ok l g x0 x1 r_28.2 (383 : Int32) _ e_30) (cwV 1 hts gX3_readNext_X3_readSecond rfl rfl rfl hdX3_readSecond ⟨(Nat.le_of_ble_eq_true rfl), (Nat.le_of_ble_eq_true rfl)⟩) rfl rfl rfl (by decide) (by decide) (by decide) (by decide) rfl rfl rfl rfl hl.1 rfl (Nat.le_of_ble_eq_true rfl) ⟨(Nat.le_of_ble_eq_true rfl), (Nat.le_of_ble_eq_true rfl)⟩ dX3_readNext_172 (fun H locs hP hD hS => ?_)
                    refine lv_beq (tgt := 182) hx hb dX3_readNext_175 (by decide) (fun c_31 => ?_) (fun c_31 => ?_)
                    · have hf := iq c_31 hf
                      refine lv_iconst (v := (0 : Int32)) hx hb dX3_readNext_182 (by decide) ?_
                      have ho := Option.some.inj hf
                      subst ho
                      exact m_zret (v := false) hx hb hr hlocks hP hD hS rfl dX3_readNext_183
                    · have hf := ip c_31 hf
                      refine lv_iconst (v := (1 : Int32)) hx hb dX3_readNext_178 (by decide) ?_
                      refine lv_goto (tgt := 183) hx hb dX3_readNext_179 (by decide) ?_
                      have ho := Option.some.inj hf
                      subst ho
                      exact m_zret (v := true) hx hb hr hlocks hP hD hS rfl dX3_readNext_183
            · have hf := iq s_23 hf
              by_cases s_32 : r_1 = (115 : Int32)
              · have hf := ip s_32 hf
                refine lv_tableIn (off := 150) (tgt := 184) hx hb dX3_readNext_34 (by rw [s_32]; decide) (by rw [s_32]; decide) (by rw [s_32]; rfl) (by decide) ?_
                refine lv_aload_n hx hb dX3_readNext_184 rfl (lv_at hl 0 rfl) ?_
                refine lv_bipush (v := (115 : Int32)) hx hb dX3_readNext_185 (by decide) ?_
                obtain ⟨r_33, e_33, hf⟩ := bo hf
                refine mcallVi (W0 := (wX g x0 x1 (X_kind' τ_18 r_1))) (Wc := (wX g x0 x1 (X_kind' τ_18 r_1))) (Wr := ([] : va_W)) (W1 := (wX g x0 x1 r_33.2)) (W2 := (wX g x0 x1 r_33.2)) (As := [.int (115 : Int32)]) (rest := []) [0, 1] [] [0, 1] 2 0 ⟨hx, hb, hml, hown, hts⟩ hP hD hE hZ hS hA (cX3_pass_ok l g x0 x1 (X_kind' τ_18 r_1) (115 : Int32) _ e_33) (cwV 1 hts gX3_readNext_X3_pass rfl rfl rfl hdX3_pass ⟨(Nat.le_of_ble_eq_true rfl), (Nat.le_of_ble_eq_true rfl)⟩) rfl rfl rfl (by decide) (by decide) (by decide) (by decide) rfl rfl rfl rfl hl.1 rfl (Nat.le_of_ble_eq_true rfl) ⟨(Nat.le_of_ble_eq_true rfl), (Nat.le_of_ble_eq_true rfl)⟩ dX3_readNext_187 (fun H locs hP hD hS => ?_)
                refine lv_beq (tgt := 204) hx hb dX3_readNext_190 (by decide) (fun c_34 => ?_) (fun c_34 => ?_)
                · have hf := iq c_34 hf
                  refine lv_iconst (v := (0 : Int32)) hx hb dX3_readNext_204 (by decide) ?_
                  have ho := Option.some.inj hf
                  subst ho
                  exact m_zret (v := false) hx hb hr hlocks hP hD hS rfl dX3_readNext_205
                · have hf := ip c_34 hf
                  refine lv_aload_n hx hb dX3_readNext_193 rfl (lv_at hl 0 rfl) ?_
                  obtain ⟨r_35, e_35, hf⟩ := bo hf
                  refine mcallVi (W0 := (wX g x0 x1 r_33.2)) (Wc := (wX g x0 x1 r_33.2)) (Wr := ([] : va_W)) (W1 := (wX g x0 x1 r_35.2)) (W2 := (wX g x0 x1 r_35.2)) (As := []) (rest := []) [0, 1] [] [0, 1] 2 0 ⟨hx, hb, hml, hown, hts⟩ hP hD hE hZ hS hA (cX3_readDirections_ok l g x0 x1 r_33.2 _ e_35) (cwV 0 hts gX3_readNext_X3_readDirections rfl rfl rfl hdX3_readDirections ⟨(Nat.le_of_ble_eq_true rfl), (Nat.le_of_ble_eq_true rfl)⟩) rfl rfl rfl (by decide) (by decide) (by decide) (by decide) rfl rfl rfl rfl hl.1 rfl (Nat.le_of_ble_eq_true rfl) ⟨(Nat.le_of_ble_eq_true rfl), (Nat.le_of_ble_eq_true rfl)⟩ dX3_readNext_194 (fun H locs hP hD hS => ?_)
                  refine lv_beq (tgt := 204) hx hb dX3_readNext_197 (by decide) (fun c_36 => ?_) (fun c_36 => ?_)
                  · have hf := iq c_36 hf
                    refine lv_iconst (v := (0 : Int32)) hx hb dX3_readNext_204 (by decide) ?_
                    have ho := Option.some.inj hf
                    subst ho
                    exact m_zret (v := false) hx hb hr hlocks hP hD hS rfl dX3_readNext_205
                  · have hf := ip c_36 hf
                    refine lv_iconst (v := (1 : Int32)) hx hb dX3_readNext_200 (by decide) ?_
                    refine lv_goto (tgt := 205) hx hb dX3_readNext_201 (by decide) ?_
                    have ho := Option.some.inj hf
                    subst ho
                    exact m_zret (v := true) hx hb hr hlocks hP hD hS rfl dX3_readNext_205
              · have hf := iq s_32 hf
                by_cases s_37 : r_1 = (117 : Int32)
                · have hf := ip s_37 hf
                  refine lv_tableIn (off := 215) (tgt := 249) hx hb dX3_readNext_34 (by rw [s_37]; decide) (by rw [s_37]; decide) (by rw [s_37]; rfl) (by decide) ?_
                  refine lv_aload_n hx hb dX3_readNext_249 rfl (lv_at hl 0 rfl) ?_
                  refine lv_aload_n hx hb dX3_readNext_250 rfl (lv_at hl 0 rfl) ?_
                  refine va_get (v := .int r_1) (C := RX3) (T := TX3) (N := 8) hx hb hts fiX3_readNext_X3 hown hE.1 hP 0 rfl rfl 3 (by decide) (hts _ flX3_readNext_23) (fun _ h9 => h9) rfl dX3_readNext_251 ?_
                  obtain ⟨r_38, e_38, hf⟩ := bo hf
                  refine mcallVi (W0 := (wX g x0 x1 (X_kind' τ_18 r_1))) (Wc := (wX g x0 x1 (X_kind' τ_18 r_1))) (Wr := ([] : va_W)) (W1 := (wX g x0 x1 r_38.2)) (W2 := (wX g x0 x1 r_38.2)) (As := [.int r_1]) (rest := []) [0, 1] [] [0, 1] 2 0 ⟨hx, hb, hml, hown, hts⟩ hP hD hE hZ hS hA (cX3_pass_ok l g x0 x1 (X_kind' τ_18 r_1) r_1 _ e_38) (cwV 1 hts gX3_readNext_X3_pass rfl rfl rfl hdX3_pass ⟨(Nat.le_of_ble_eq_true rfl), (Nat.le_of_ble_eq_true rfl)⟩) rfl rfl rfl (by decide) (by decide) (by decide) (by decide) rfl rfl rfl rfl hl.1 rfl (Nat.le_of_ble_eq_true rfl) ⟨(Nat.le_of_ble_eq_true rfl), (Nat.le_of_ble_eq_true rfl)⟩ dX3_readNext_254 (fun H locs hP hD hS => ?_)
                  refine lv_beq (tgt := 274) hx hb dX3_readNext_257 (by decide) (fun c_39 => ?_) (fun c_39 => ?_)
                  · have hf := iq c_39 hf
                    refine lv_iconst (v := (0 : Int32)) hx hb dX3_readNext_274 (by decide) ?_
                    have ho := Option.some.inj hf
                    subst ho
                    exact m_zret (v := false) hx hb hr hlocks hP hD hS rfl dX3_readNext_275
                  · have hf := ip c_39 hf
                    refine lv_aload_n hx hb dX3_readNext_260 rfl (lv_at hl 0 rfl) ?_
                    refine lv_iconst (v := (0 : Int32)) hx hb dX3_readNext_261 (by decide) ?_
                    refine lv_bipush (v := (7 : Int32)) hx hb dX3_readNext_262 (by decide) ?_
                    obtain ⟨r_40, e_40, hf⟩ := bo hf
                    refine mcallVi (W0 := (wX g x0 x1 r_38.2)) (Wc := (wX g x0 x1 r_38.2)) (Wr := ([] : va_W)) (W1 := (wX g x0 x1 r_40.2)) (W2 := (wX g x0 x1 r_40.2)) (As := [.int (0 : Int32), .int (7 : Int32)]) (rest := []) [0, 1] [] [0, 1] 2 0 ⟨hx, hb, hml, hown, hts⟩ hP hD hE hZ hS hA (cX3_readFirst_ok l g x0 x1 r_38.2 (0 : Int32) (7 : Int32) _ e_40) (cwV 2 hts gX3_readNext_X3_readFirst rfl rfl rfl hdX3_readFirst ⟨(Nat.le_of_ble_eq_true rfl), (Nat.le_of_ble_eq_true rfl)⟩) rfl rfl rfl (by decide) (by decide) (by decide) (by decide) rfl rfl rfl rfl hl.1 rfl (Nat.le_of_ble_eq_true rfl) ⟨(Nat.le_of_ble_eq_true rfl), (Nat.le_of_ble_eq_true rfl)⟩ dX3_readNext_264 (fun H locs hP hD hS => ?_)
                    refine lv_beq (tgt := 274) hx hb dX3_readNext_267 (by decide) (fun c_41 => ?_) (fun c_41 => ?_)
                    · have hf := iq c_41 hf
                      refine lv_iconst (v := (0 : Int32)) hx hb dX3_readNext_274 (by decide) ?_
                      have ho := Option.some.inj hf
                      subst ho
                      exact m_zret (v := false) hx hb hr hlocks hP hD hS rfl dX3_readNext_275
                    · have hf := ip c_41 hf
                      refine lv_iconst (v := (1 : Int32)) hx hb dX3_readNext_270 (by decide) ?_
                      refine lv_goto (tgt := 275) hx hb dX3_readNext_271 (by decide) ?_
                      have ho := Option.some.inj hf
                      subst ho
                      exact m_zret (v := true) hx hb hr hlocks hP hD hS rfl dX3_readNext_275
                · have hf := iq s_37 hf
                  by_cases s_42 : r_1 = (119 : Int32)
                  · have hf := ip s_42 hf
                    refine lv_tableIn (off := 215) (tgt := 249) hx hb dX3_readNext_34 (by rw [s_42]; decide) (by rw [s_42]; decide) (by rw [s_42]; rfl) (by decide) ?_
                    refine lv_aload_n hx hb dX3_readNext_249 rfl (lv_at hl 0 rfl) ?_
                    refine lv_aload_n hx hb dX3_readNext_250 rfl (lv_at hl 0 rfl) ?_
                    refine va_get (v := .int r_1) (C := RX3) (T := TX3) (N := 8) hx hb hts fiX3_readNext_X3 hown hE.1 hP 0 rfl rfl 3 (by decide) (hts _ flX3_readNext_23) (fun _ h9 => h9) rfl dX3_readNext_251 ?_
                    obtain ⟨r_43, e_43, hf⟩ := bo hf
                    refine mcallVi (W0 := (wX g x0 x1 (X_kind' τ_18 r_1))) (Wc := (wX g x0 x1 (X_kind' τ_18 r_1))) (Wr := ([] : va_W)) (W1 := (wX g x0 x1 r_43.2)) (W2 := (wX g x0 x1 r_43.2)) (As := [.int r_1]) (rest := []) [0, 1] [] [0, 1] 2 0 ⟨hx, hb, hml, hown, hts⟩ hP hD hE hZ hS hA (cX3_pass_ok l g x0 x1 (X_kind' τ_18 r_1) r_1 _ e_43) (cwV 1 hts gX3_readNext_X3_pass rfl rfl rfl hdX3_pass ⟨(Nat.le_of_ble_eq_true rfl), (Nat.le_of_ble_eq_true rfl)⟩) rfl rfl rfl (by decide) (by decide) (by decide) (by decide) rfl rfl rfl rfl hl.1 rfl (Nat.le_of_ble_eq_true rfl) ⟨(Nat.le_of_ble_eq_true rfl), (Nat.le_of_ble_eq_true rfl)⟩ dX3_readNext_254 (fun H locs hP hD hS => ?_)
                    refine lv_beq (tgt := 274) hx hb dX3_readNext_257 (by decide) (fun c_44 => ?_) (fun c_44 => ?_)
                    · have hf := iq c_44 hf
                      refine lv_iconst (v := (0 : Int32)) hx hb dX3_readNext_274 (by decide) ?_
                      have ho := Option.some.inj hf
                      subst ho
                      exact m_zret (v := false) hx hb hr hlocks hP hD hS rfl dX3_readNext_275
                    · have hf := ip c_44 hf
                      refine lv_aload_n hx hb dX3_readNext_260 rfl (lv_at hl 0 rfl) ?_
                      refine lv_iconst (v := (0 : Int32)) hx hb dX3_readNext_261 (by decide) ?_
                      refine lv_bipush (v := (7 : Int32)) hx hb dX3_readNext_262 (by decide) ?_
                      obtain ⟨r_45, e_45, hf⟩ := bo hf
                      refine mcallVi (W0 := (wX g x0 x1 r_43.2)) (Wc := (wX g x0 x1 r_43.2)) (Wr := ([] : va_W)) (W1 := (wX g x0 x1 r_45.2)) (W2 := (wX g x0 x1 r_45.2)) (As := [.int (0 : Int32), .int (7 : Int32)]) (rest := []) [0, 1] [] [0, 1] 2 0 ⟨hx, hb, hml, hown, hts⟩ hP hD hE hZ hS hA (cX3_readFirst_ok l g x0 x1 r_43.2 (0 : Int32) (7 : Int32) _ e_45) (cwV 2 hts gX3_readNext_X3_readFirst rfl rfl rfl hdX3_readFirst ⟨(Nat.le_of_ble_eq_true rfl), (Nat.le_of_ble_eq_true rfl)⟩) rfl rfl rfl (by decide) (by decide) (by decide) (by decide) rfl rfl rfl rfl hl.1 rfl (Nat.le_of_ble_eq_true rfl) ⟨(Nat.le_of_ble_eq_true rfl), (Nat.le_of_ble_eq_true rfl)⟩ dX3_readNext_264 (fun H locs hP hD hS => ?_)
                      refine lv_beq (tgt := 274) hx hb dX3_readNext_267 (by decide) (fun c_46 => ?_) (fun c_46 => ?_)
                      · have hf := iq c_46 hf
                        refine lv_iconst (v := (0 : Int32)) hx hb dX3_readNext_274 (by decide) ?_
                        have ho := Option.some.inj hf
                        subst ho
                        exact m_zret (v := false) hx hb hr hlocks hP hD hS rfl dX3_readNext_275
                      · have hf := ip c_46 hf
                        refine lv_iconst (v := (1 : Int32)) hx hb dX3_readNext_270 (by decide) ?_
                        refine lv_goto (tgt := 275) hx hb dX3_readNext_271 (by decide) ?_
                        have ho := Option.some.inj hf
                        subst ho
                        exact m_zret (v := true) hx hb hr hlocks hP hD hS rfl dX3_readNext_275
                  · have hf := iq s_42 hf
                    refine lv_tabD (tgt := 308) hx hb dX3_readNext_34 [97, 98, 103, 108, 110, 115, 117, 119] (by decide) (by decide +kernel) (fun v hv => ?_) (by decide) ?_
                    · simp only [List.mem_cons, List.not_mem_nil, or_false] at hv
                      rcases hv with rfl | rfl | rfl | rfl | rfl | rfl | rfl | rfl
                      · exact lv_neT s_2 (by decide)
                      · exact lv_neT s_4 (by decide)
                      · exact lv_neT s_9 (by decide)
                      · exact lv_neT s_14 (by decide)
                      · exact lv_neT s_23 (by decide)
                      · exact lv_neT s_32 (by decide)
                      · exact lv_neT s_37 (by decide)
                      · exact lv_neT s_42 (by decide)
                    refine lv_iconst (v := (0 : Int32)) hx hb dX3_readNext_308 (by decide) ?_
                    have ho := Option.some.inj hf
                    subst ho
                    exact m_zret (v := false) hx hb hr hlocks hP hD hS rfl dX3_readNext_309
  unfold fX3_readNext at hf
  refine lv_aload_n hx hb dX3_readNext_0 rfl (lv_at hl 0 rfl) ?_
  refine va_get (v := .int (X_cur τ)) (C := RX3) (T := TX3) (N := 8) hx hb hts fiX3_readNext_X3 hown hE.1 hP 0 rfl rfl 2 (by decide) (hts _ flX3_readNext_48) (fun _ h9 => h9) rfl dX3_readNext_1 ?_
  refine lv_if_le (tgt := 18) hx hb dX3_readNext_4 (by decide) (fun c_48 => ?_) (fun c_48 => ?_)
  · have hf := ip c_48 hf
    exact hB18 τ _ _ ls hP hD hS (lv_sub hl [0] rfl) hf
  · have hf := iq c_48 hf
    refine lv_aload_n hx hb dX3_readNext_7 rfl (lv_at hl 0 rfl) ?_
    refine lv_bipush (v := (59 : Int32)) hx hb dX3_readNext_8 (by decide) ?_
    obtain ⟨r_49, e_49, hf⟩ := bo hf
    refine mcallVi (W0 := (wX g x0 x1 τ)) (Wc := (wX g x0 x1 τ)) (Wr := ([] : va_W)) (W1 := (wX g x0 x1 r_49.2)) (W2 := (wX g x0 x1 r_49.2)) (As := [.int (59 : Int32)]) (rest := []) [0, 1] [] [0, 1] 2 0 ⟨hx, hb, hml, hown, hts⟩ hP hD hE hZ hS hA (cX3_pass_ok l g x0 x1 τ (59 : Int32) _ e_49) (cwV 1 hts gX3_readNext_X3_pass rfl rfl rfl hdX3_pass ⟨(Nat.le_of_ble_eq_true rfl), (Nat.le_of_ble_eq_true rfl)⟩) rfl rfl rfl (by decide) (by decide) (by decide) (by decide) rfl rfl rfl rfl hl.1 rfl (Nat.le_of_ble_eq_true rfl) ⟨(Nat.le_of_ble_eq_true rfl), (Nat.le_of_ble_eq_true rfl)⟩ dX3_readNext_10 (fun H locs hP hD hS => ?_)
    refine lv_bne (tgt := 18) hx hb dX3_readNext_13 (by decide) (fun c_50 => ?_) (fun c_50 => ?_)
    · have hf := ip c_50 hf
      exact hB18 r_49.2 _ _ ls hP hD hS (lv_sub hl [0] rfl) hf
    · have hf := iq c_50 hf
      refine lv_iconst (v := (0 : Int32)) hx hb dX3_readNext_16 (by decide) ?_
      have ho := Option.some.inj hf
      subst ho
      exact m_zret (v := false) hx hb hr hlocks hP hD hS rfl dX3_readNext_17

def fX3_isValid_6  : Nat → Int32 → Tx → Option (Bool × Tx)
  | 0, _, _ => none
  | n + 1, v1_6, τ_6 => (if (60 : Int32) ≤ v1_6 then (some (false, τ_6)) else ((fX3_readNext τ_6).bind fun r_2 => (if r_2.1 = true then (if (X_cur r_2.2) = (X_len r_2.2) then (some (true, r_2.2)) else fX3_isValid_6 n (v1_6 + 1) r_2.2) else (some (false, r_2.2)))))
def fX3_isValid (τ : Tx) : Option (Bool × Tx) := ((fX3_rewind τ).bind fun r_5 => fX3_isValid_6 FU (0 : Int32) r_5)
abbrev rmX3_isValid : Room := { frames := 5, cells := 0, slots := 0, locals := 110 }
theorem hdX3_isValid : yX3_isValid.cls = RX3 ∧ yX3_isValid.cls ≠ "java/lang/invoke/MethodHandle" ∧ yX3_isValid.cls ≠ "java/lang/invoke/VarHandle" ∧ (parseMethodDescriptor yX3_isValid.desc).map (fun d => d.parameters.length) = some 0 := by decide +kernel
theorem fiX3_isValid_X3 : ∀ w ∈ wsX30, w ∈ wsX3_isValid := by decide +kernel
theorem flX3_isValid_48 : (.fieldLink RX3 48 "ContourLabels$OrderText" "cursor" "I" : Cond) ∈ wsX3_isValid := by decide +kernel
theorem flX3_isValid_15 : (.fieldLink RX3 15 "ContourLabels$OrderText" "length" "I" : Cond) ∈ wsX3_isValid := by decide +kernel
set_option maxHeartbeats 4000000 in
set_option maxRecDepth 100000 in
theorem cX3_isValid_ok (l : Launch) (g : Gg) (x0 x1 : Nat) (τ : Tx) (sz : Nat) {o : Bool × Tx} (hf : fX3_isValid τ = some o) : Met l yX3_isValid wsX3_isValid rmX3_isValid (va_Pc [.ref x0] (PM g (wX g x0 x1 τ) sz)) (va_Qi (fun r' (_ : Unit) => r' = b2i o.1) (fun _ t => PQ g (wX g x0 x1 o.2) (va_A (wX g x0 x1 τ) sz) t) (va_A (wX g x0 x1 τ) sz)) 0 0 (va_A (wX g x0 x1 τ) sz) := by
  refine Met.ofW (cc := cX3_isValid) (maxL := 2) (ret := (some .boolean)) (by decide) rfl ?_
  intro p e s m args below meth c s₁ B hml hv
  obtain ⟨rfl, rfl, hP, hD0, hE, hZ⟩ := hv
  have hx := B.exec
  have hb := B.bytes
  have hr := B.returns
  have hts := atoms_spec (ws := wsX3_isValid) B.pre
  have hown : s.vm.findClass RX3 = some m.cls := findClass_of_methodNamed B.named
  have hlocks := B.notSynchronized
  have hD := hD0.self (sz := s.heap.size)
  generalize hAe : (va_A (wX g x0 x1 τ) s.heap.size) = A at hD hZ ⊢
  have hA : ∀ q : Nat, s.heap.size ≤ q → A q := fun q h => by rw [← hAe]; exact Or.inr h
  have hS : va_S A s.heap s.heap [] := va_S.rf
  have hP : va_P g.1 vwCl (wX g x0 x1 τ) s.heap := hP
  have hl := lv_entry ([.ref x0]) (n := 2) (Nat.le_of_ble_eq_true rfl)
  rw [lg_entry_eq]
  generalize (lg_sl ([.ref x0]) ++ List.replicate (2 - (lg_sl ([.ref x0])).length) Slot.unset).toArray = ls at hl ⊢
  have hl : lv_has ls 2 [(0, .ref x0)] := hl
  have hB6 : ∀ (n6 : Nat) (v1_6 : Int32) (τ_6 : Tx) (H : Heap) (locs : List Loc) (ls : Array Slot), va_P g.1 vwCl (wX g x0 x1 τ_6) H → va_D A (wX g x0 x1 τ_6) → va_S A s.heap H locs → lv_has ls 2 [(0, .ref x0), (1, .int v1_6)] → fX3_isValid_6 n6 v1_6 τ_6 = some o → W p l e (headSpec wsX3_isValid rmX3_isValid).room s m ([.ref x0] : List Value).toArray below meth c H locs 0 0 (MQ below (va_Qi (fun r' (_ : Unit) => r' = b2i o.1) (fun _ t => PQ g (wX g x0 x1 o.2) A t) A) ([.ref x0] : List Value).toArray s 0 0 A) (F0 m 6 ls []) := by
    intro  n6
    induction n6 with
    | zero => intro v1_6 τ_6 H locs ls hP hD hS hl hf; exact nomatch (show (none : Option (Bool × Tx)) = some _ from hf)
    | succ n6 ih6 =>
      intro v1_6 τ_6 H locs ls hP hD hS hl hf
      rw [fX3_isValid_6] at hf
      refine lv_iload_n hx hb dX3_isValid_6 rfl (lv_at hl 1 rfl) ?_
      refine lv_bipush (v := (60 : Int32)) hx hb dX3_isValid_7 (by decide) ?_
      refine lv_icmp_ge (tgt := 38) hx hb dX3_isValid_9 (by decide) (fun c_1 => ?_) (fun c_1 => ?_)
      · have hf := ip c_1 hf
        refine lv_iconst (v := (0 : Int32)) hx hb dX3_isValid_38 (by decide) ?_
        have ho := Option.some.inj hf
        subst ho
        exact m_zret (v := false) hx hb hr hlocks hP hD hS rfl dX3_isValid_39
      · have hf := iq c_1 hf
        refine lv_aload_n hx hb dX3_isValid_12 rfl (lv_at hl 0 rfl) ?_
        obtain ⟨r_2, e_2, hf⟩ := bo hf
        refine mcallVi (W0 := (wX g x0 x1 τ_6)) (Wc := (wX g x0 x1 τ_6)) (Wr := ([] : va_W)) (W1 := (wX g x0 x1 r_2.2)) (W2 := (wX g x0 x1 r_2.2)) (As := []) (rest := []) [0, 1] [] [0, 1] 2 0 ⟨hx, hb, hml, hown, hts⟩ hP hD hE hZ hS hA (cX3_readNext_ok l g x0 x1 τ_6 _ e_2) (cwV 0 hts gX3_isValid_X3_readNext rfl rfl rfl hdX3_readNext ⟨(Nat.le_of_ble_eq_true rfl), (Nat.le_of_ble_eq_true rfl)⟩) rfl rfl rfl (by decide) (by decide) (by decide) (by decide) rfl rfl rfl rfl hl.1 rfl (Nat.le_of_ble_eq_true rfl) ⟨(Nat.le_of_ble_eq_true rfl), (Nat.le_of_ble_eq_true rfl)⟩ dX3_isValid_13 (fun H locs hP hD hS => ?_)
        refine lv_beq (tgt := 38) hx hb dX3_isValid_16 (by decide) (fun c_3 => ?_) (fun c_3 => ?_)
        · have hf := iq c_3 hf
          refine lv_iconst (v := (0 : Int32)) hx hb dX3_isValid_38 (by decide) ?_
          have ho := Option.some.inj hf
          subst ho
          exact m_zret (v := false) hx hb hr hlocks hP hD hS rfl dX3_isValid_39
        · have hf := ip c_3 hf
          refine lv_aload_n hx hb dX3_isValid_19 rfl (lv_at hl 0 rfl) ?_
          refine va_get (v := .int (X_cur r_2.2)) (C := RX3) (T := TX3) (N := 8) hx hb hts fiX3_isValid_X3 hown hE.1 hP 0 rfl rfl 2 (by decide) (hts _ flX3_isValid_48) (fun _ h9 => h9) rfl dX3_isValid_20 ?_
          refine lv_aload_n hx hb dX3_isValid_23 rfl (lv_at hl 0 rfl) ?_
          refine va_get (v := .int (X_len r_2.2)) (C := RX3) (T := TX3) (N := 8) hx hb hts fiX3_isValid_X3 hown hE.1 hP 0 rfl rfl 1 (by decide) (hts _ flX3_isValid_15) (fun _ h9 => h9) rfl dX3_isValid_24 ?_
          refine lv_icmp_ne (tgt := 32) hx hb dX3_isValid_27 (by decide) (fun c_4 => ?_) (fun c_4 => ?_)
          · have hf := iq c_4 hf
            refine lv_iinc (v := (v1_6 + 1)) (lv' := [(1, .int (v1_6 + 1)), (0, .ref x0)]) hx hb dX3_isValid_32 hl (k := 1) rfl rfl (by decide) rfl (fun ls hl => ?_)
            refine lv_goto (tgt := 6) hx hb dX3_isValid_35 (by decide) ?_
            exact ih6 (v1_6 + 1) r_2.2 _ _ ls hP hD hS (lv_sub hl [1, 0] rfl) hf
          · have hf := ip c_4 hf
            refine lv_iconst (v := (1 : Int32)) hx hb dX3_isValid_30 (by decide) ?_
            have ho := Option.some.inj hf
            subst ho
            exact m_zret (v := true) hx hb hr hlocks hP hD hS rfl dX3_isValid_31
  unfold fX3_isValid at hf
  refine lv_aload_n hx hb dX3_isValid_0 rfl (lv_at hl 0 rfl) ?_
  obtain ⟨r_5, e_5, hf⟩ := bo hf
  refine mcallVv (W0 := (wX g x0 x1 τ)) (Wc := (wX g x0 x1 τ)) (Wr := ([] : va_W)) (W1 := (wX g x0 x1 r_5)) (W2 := (wX g x0 x1 r_5)) (As := []) (rest := []) [0, 1] [] [0, 1] 2 0 ⟨hx, hb, hml, hown, hts⟩ hP hD hE hZ hS hA (cX3_rewind_ok l g x0 x1 τ _ e_5) (cwV 0 hts gX3_isValid_X3_rewind rfl rfl rfl hdX3_rewind ⟨(Nat.le_of_ble_eq_true rfl), (Nat.le_of_ble_eq_true rfl)⟩) rfl rfl rfl (by decide) (by decide) (by decide) (by decide) rfl rfl rfl rfl hl.1 rfl (Nat.le_of_ble_eq_true rfl) ⟨(Nat.le_of_ble_eq_true rfl), (Nat.le_of_ble_eq_true rfl)⟩ dX3_isValid_1 (fun H locs hP hD hS => ?_)
  refine lv_iconst (v := (0 : Int32)) hx hb dX3_isValid_4 (by decide) ?_
  refine lv_istore_n (lv' := [(1, .int (0 : Int32)), (0, .ref x0)]) hx hb dX3_isValid_5 rfl hl (by decide) rfl (fun ls hl => ?_)
  exact hB6 FU (0 : Int32) r_5 _ _ ls hP hD hS (lv_sub hl [1, 0] rfl) hf

def fX3_firstError (τ : Tx) : Option (Int32 × Tx) := ((fX3_isValid τ).bind fun r_1 => (some ((X_cur r_1.2), r_1.2)))
abbrev rmX3_firstError : Room := { frames := 6, cells := 0, slots := 0, locals := 131 }
theorem hdX3_firstError : yX3_firstError.cls = RX3 ∧ yX3_firstError.cls ≠ "java/lang/invoke/MethodHandle" ∧ yX3_firstError.cls ≠ "java/lang/invoke/VarHandle" ∧ (parseMethodDescriptor yX3_firstError.desc).map (fun d => d.parameters.length) = some 0 := by decide +kernel
theorem fiX3_firstError_X3 : ∀ w ∈ wsX30, w ∈ wsX3_firstError := by decide +kernel
theorem flX3_firstError_48 : (.fieldLink RX3 48 "ContourLabels$OrderText" "cursor" "I" : Cond) ∈ wsX3_firstError := by decide +kernel
set_option maxHeartbeats 4000000 in
set_option maxRecDepth 100000 in
theorem cX3_firstError_ok (l : Launch) (g : Gg) (x0 x1 : Nat) (τ : Tx) (sz : Nat) {o : Int32 × Tx} (hf : fX3_firstError τ = some o) : Met l yX3_firstError wsX3_firstError rmX3_firstError (va_Pc [.ref x0] (PM g (wX g x0 x1 τ) sz)) (va_Qi (fun r' (_ : Unit) => r' = o.1) (fun _ t => PQ g (wX g x0 x1 o.2) (va_A (wX g x0 x1 τ) sz) t) (va_A (wX g x0 x1 τ) sz)) 0 0 (va_A (wX g x0 x1 τ) sz) := by
  refine Met.ofW (cc := cX3_firstError) (maxL := 1) (ret := (some .int)) (by decide) rfl ?_
  intro p e s m args below meth c s₁ B hml hv
  obtain ⟨rfl, rfl, hP, hD0, hE, hZ⟩ := hv
  have hx := B.exec
  have hb := B.bytes
  have hr := B.returns
  have hts := atoms_spec (ws := wsX3_firstError) B.pre
  have hown : s.vm.findClass RX3 = some m.cls := findClass_of_methodNamed B.named
  have hlocks := B.notSynchronized
  have hD := hD0.self (sz := s.heap.size)
  generalize hAe : (va_A (wX g x0 x1 τ) s.heap.size) = A at hD hZ ⊢
  have hA : ∀ q : Nat, s.heap.size ≤ q → A q := fun q h => by rw [← hAe]; exact Or.inr h
  have hS : va_S A s.heap s.heap [] := va_S.rf
  have hP : va_P g.1 vwCl (wX g x0 x1 τ) s.heap := hP
  have hl := lv_entry ([.ref x0]) (n := 1) (Nat.le_of_ble_eq_true rfl)
  rw [lg_entry_eq]
  generalize (lg_sl ([.ref x0]) ++ List.replicate (1 - (lg_sl ([.ref x0])).length) Slot.unset).toArray = ls at hl ⊢
  have hl : lv_has ls 1 [(0, .ref x0)] := hl
  unfold fX3_firstError at hf
  refine lv_aload_n hx hb dX3_firstError_0 rfl (lv_at hl 0 rfl) ?_
  obtain ⟨r_1, e_1, hf⟩ := bo hf
  refine mcallVi (W0 := (wX g x0 x1 τ)) (Wc := (wX g x0 x1 τ)) (Wr := ([] : va_W)) (W1 := (wX g x0 x1 r_1.2)) (W2 := (wX g x0 x1 r_1.2)) (As := []) (rest := []) [0, 1] [] [0, 1] 2 0 ⟨hx, hb, hml, hown, hts⟩ hP hD hE hZ hS hA (cX3_isValid_ok l g x0 x1 τ _ e_1) (cwV 0 hts gX3_firstError_X3_isValid rfl rfl rfl hdX3_isValid ⟨(Nat.le_of_ble_eq_true rfl), (Nat.le_of_ble_eq_true rfl)⟩) rfl rfl rfl (by decide) (by decide) (by decide) (by decide) rfl rfl rfl rfl hl.1 rfl (Nat.le_of_ble_eq_true rfl) ⟨(Nat.le_of_ble_eq_true rfl), (Nat.le_of_ble_eq_true rfl)⟩ dX3_firstError_1 (fun H locs hP hD hS => ?_)
  refine lv_pop hx hb dX3_firstError_4 rfl ?_
  refine lv_aload_n hx hb dX3_firstError_5 rfl (lv_at hl 0 rfl) ?_
  refine va_get (v := .int (X_cur r_1.2)) (C := RX3) (T := TX3) (N := 8) hx hb hts fiX3_firstError_X3 hown hE.1 hP 0 rfl rfl 2 (by decide) (hts _ flX3_firstError_48) (fun _ h9 => h9) rfl dX3_firstError_6 ?_
  have ho := Option.some.inj hf
  subst ho
  exact m_iret (v := (X_cur r_1.2)) hx hb hr hlocks hP hD hS rfl dX3_firstError_9
