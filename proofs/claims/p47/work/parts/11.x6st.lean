def fX6_rowOf (p0 : Int32) : Option (Int32) := (some (p0 / (24 : Int32)))
abbrev rmX6_rowOf : Room := { frames := 0, cells := 0, slots := 0, locals := 0 }
theorem hdX6_rowOf : yX6_rowOf.cls = RX6 ∧ yX6_rowOf.cls ≠ "java/lang/invoke/MethodHandle" ∧ yX6_rowOf.cls ≠ "java/lang/invoke/VarHandle" ∧ (parseMethodDescriptor yX6_rowOf.desc).map (fun d => d.parameters.length) = some 1 := by decide +kernel
set_option maxHeartbeats 4000000 in
set_option maxRecDepth 100000 in
theorem cX6_rowOf_ok (l : Launch) (g : Gg) (p0 : Int32) {r : Int32} (hf : fX6_rowOf p0 = some r) : Met l yX6_rowOf wsX6_rowOf rmX6_rowOf (va_Pc [.int p0] (PP g ([] : va_W))) (vp_Si (fun r' => r' = r)) 0 0 (fun _ => False) := by
  refine Met.ofW (cc := cX6_rowOf) (maxL := 1) (ret := (some .int)) (by decide) rfl ?_
  intro p e s m args below meth c s₁ B hml hv
  obtain ⟨rfl, hP, hE, hZ⟩ := hv
  have hx := B.exec
  have hb := B.bytes
  have hr := B.returns
  have hts := atoms_spec (ws := wsX6_rowOf) B.pre
  have hown : s.vm.findClass RX6 = some m.cls := findClass_of_methodNamed B.named
  have hlocks := B.notSynchronized
  have hS : va_S (fun _ => False) s.heap s.heap [] := va_S.rf
  have hl := lv_entry ([.int p0]) (n := 1) (Nat.le_of_ble_eq_true rfl)
  rw [lg_entry_eq]
  generalize (lg_sl ([.int p0]) ++ List.replicate (1 - (lg_sl ([.int p0])).length) Slot.unset).toArray = ls at hl ⊢
  have hl : lv_has ls 1 [(0, .int p0)] := hl
  unfold fX6_rowOf at hf
  refine lv_iload_n hx hb dX6_rowOf_0 rfl (lv_at hl 0 rfl) ?_
  refine lv_bipush (v := (24 : Int32)) hx hb dX6_rowOf_1 (by decide) ?_
  refine lv_idiv hx hb dX6_rowOf_3 (by decide) ?_
  exact p_iret (v := (p0 / (24 : Int32))) hx hb hr hlocks (Option.some.inj hf) dX6_rowOf_4

def fX6_columnOf (p0 : Int32) : Option (Int32) := (some (irm p0 (24 : Int32)))
abbrev rmX6_columnOf : Room := { frames := 0, cells := 0, slots := 0, locals := 0 }
theorem hdX6_columnOf : yX6_columnOf.cls = RX6 ∧ yX6_columnOf.cls ≠ "java/lang/invoke/MethodHandle" ∧ yX6_columnOf.cls ≠ "java/lang/invoke/VarHandle" ∧ (parseMethodDescriptor yX6_columnOf.desc).map (fun d => d.parameters.length) = some 1 := by decide +kernel
set_option maxHeartbeats 4000000 in
set_option maxRecDepth 100000 in
theorem cX6_columnOf_ok (l : Launch) (g : Gg) (p0 : Int32) {r : Int32} (hf : fX6_columnOf p0 = some r) : Met l yX6_columnOf wsX6_columnOf rmX6_columnOf (va_Pc [.int p0] (PP g ([] : va_W))) (vp_Si (fun r' => r' = r)) 0 0 (fun _ => False) := by
  refine Met.ofW (cc := cX6_columnOf) (maxL := 1) (ret := (some .int)) (by decide) rfl ?_
  intro p e s m args below meth c s₁ B hml hv
  obtain ⟨rfl, hP, hE, hZ⟩ := hv
  have hx := B.exec
  have hb := B.bytes
  have hr := B.returns
  have hts := atoms_spec (ws := wsX6_columnOf) B.pre
  have hown : s.vm.findClass RX6 = some m.cls := findClass_of_methodNamed B.named
  have hlocks := B.notSynchronized
  have hS : va_S (fun _ => False) s.heap s.heap [] := va_S.rf
  have hl := lv_entry ([.int p0]) (n := 1) (Nat.le_of_ble_eq_true rfl)
  rw [lg_entry_eq]
  generalize (lg_sl ([.int p0]) ++ List.replicate (1 - (lg_sl ([.int p0])).length) Slot.unset).toArray = ls at hl ⊢
  have hl : lv_has ls 1 [(0, .int p0)] := hl
  unfold fX6_columnOf at hf
  refine lv_iload_n hx hb dX6_columnOf_0 rfl (lv_at hl 0 rfl) ?_
  refine lv_bipush (v := (24 : Int32)) hx hb dX6_columnOf_1 (by decide) ?_
  refine lv_irm hx hb dX6_columnOf_3 (by decide) ?_
  exact p_iret (v := (irm p0 (24 : Int32))) hx hb hr hlocks (Option.some.inj hf) dX6_columnOf_4

def fX6_isOnMap (p0 : Int32) : Option (Bool) := (if p0 < 0 then (some false) else (if (384 : Int32) ≤ p0 then (some false) else (some true)))
abbrev rmX6_isOnMap : Room := { frames := 0, cells := 0, slots := 0, locals := 0 }
theorem hdX6_isOnMap : yX6_isOnMap.cls = RX6 ∧ yX6_isOnMap.cls ≠ "java/lang/invoke/MethodHandle" ∧ yX6_isOnMap.cls ≠ "java/lang/invoke/VarHandle" ∧ (parseMethodDescriptor yX6_isOnMap.desc).map (fun d => d.parameters.length) = some 1 := by decide +kernel
set_option maxHeartbeats 4000000 in
set_option maxRecDepth 100000 in
theorem cX6_isOnMap_ok (l : Launch) (g : Gg) (p0 : Int32) {r : Bool} (hf : fX6_isOnMap p0 = some r) : Met l yX6_isOnMap wsX6_isOnMap rmX6_isOnMap (va_Pc [.int p0] (PP g ([] : va_W))) (vp_Si (fun r' => r' = b2i r)) 0 0 (fun _ => False) := by
  refine Met.ofW (cc := cX6_isOnMap) (maxL := 1) (ret := (some .boolean)) (by decide) rfl ?_
  intro p e s m args below meth c s₁ B hml hv
  obtain ⟨rfl, hP, hE, hZ⟩ := hv
  have hx := B.exec
  have hb := B.bytes
  have hr := B.returns
  have hts := atoms_spec (ws := wsX6_isOnMap) B.pre
  have hown : s.vm.findClass RX6 = some m.cls := findClass_of_methodNamed B.named
  have hlocks := B.notSynchronized
  have hS : va_S (fun _ => False) s.heap s.heap [] := va_S.rf
  have hl := lv_entry ([.int p0]) (n := 1) (Nat.le_of_ble_eq_true rfl)
  rw [lg_entry_eq]
  generalize (lg_sl ([.int p0]) ++ List.replicate (1 - (lg_sl ([.int p0])).length) Slot.unset).toArray = ls at hl ⊢
  have hl : lv_has ls 1 [(0, .int p0)] := hl
  unfold fX6_isOnMap at hf
  refine lv_iload_n hx hb dX6_isOnMap_0 rfl (lv_at hl 0 rfl) ?_
  refine lv_if_lt (tgt := 15) hx hb dX6_isOnMap_1 (by decide) (fun c_1 => ?_) (fun c_1 => ?_)
  · have hf := ip c_1 hf
    refine lv_iconst (v := (0 : Int32)) hx hb dX6_isOnMap_15 (by decide) ?_
    exact p_zret (v := false) hx hb hr hlocks (Option.some.inj hf) dX6_isOnMap_16
  · have hf := iq c_1 hf
    refine lv_iload_n hx hb dX6_isOnMap_4 rfl (lv_at hl 0 rfl) ?_
    refine lv_sipush (v := (384 : Int32)) hx hb dX6_isOnMap_5 (by decide) ?_
    refine lv_icmp_ge (tgt := 15) hx hb dX6_isOnMap_8 (by decide) (fun c_2 => ?_) (fun c_2 => ?_)
    · have hf := ip c_2 hf
      refine lv_iconst (v := (0 : Int32)) hx hb dX6_isOnMap_15 (by decide) ?_
      exact p_zret (v := false) hx hb hr hlocks (Option.some.inj hf) dX6_isOnMap_16
    · have hf := iq c_2 hf
      refine lv_iconst (v := (1 : Int32)) hx hb dX6_isOnMap_11 (by decide) ?_
      refine lv_goto (tgt := 16) hx hb dX6_isOnMap_12 (by decide) ?_
      exact p_zret (v := true) hx hb hr hlocks (Option.some.inj hf) dX6_isOnMap_16

def fX6_isDirection (p0 : Int32) : Option (Bool) := (if p0 < 0 then (some false) else (if (8 : Int32) ≤ p0 then (some false) else (some true)))
abbrev rmX6_isDirection : Room := { frames := 0, cells := 0, slots := 0, locals := 0 }
theorem hdX6_isDirection : yX6_isDirection.cls = RX6 ∧ yX6_isDirection.cls ≠ "java/lang/invoke/MethodHandle" ∧ yX6_isDirection.cls ≠ "java/lang/invoke/VarHandle" ∧ (parseMethodDescriptor yX6_isDirection.desc).map (fun d => d.parameters.length) = some 1 := by decide +kernel
set_option maxHeartbeats 4000000 in
set_option maxRecDepth 100000 in
theorem cX6_isDirection_ok (l : Launch) (g : Gg) (p0 : Int32) {r : Bool} (hf : fX6_isDirection p0 = some r) : Met l yX6_isDirection wsX6_isDirection rmX6_isDirection (va_Pc [.int p0] (PP g ([] : va_W))) (vp_Si (fun r' => r' = b2i r)) 0 0 (fun _ => False) := by
  refine Met.ofW (cc := cX6_isDirection) (maxL := 1) (ret := (some .boolean)) (by decide) rfl ?_
  intro p e s m args below meth c s₁ B hml hv
  obtain ⟨rfl, hP, hE, hZ⟩ := hv
  have hx := B.exec
  have hb := B.bytes
  have hr := B.returns
  have hts := atoms_spec (ws := wsX6_isDirection) B.pre
  have hown : s.vm.findClass RX6 = some m.cls := findClass_of_methodNamed B.named
  have hlocks := B.notSynchronized
  have hS : va_S (fun _ => False) s.heap s.heap [] := va_S.rf
  have hl := lv_entry ([.int p0]) (n := 1) (Nat.le_of_ble_eq_true rfl)
  rw [lg_entry_eq]
  generalize (lg_sl ([.int p0]) ++ List.replicate (1 - (lg_sl ([.int p0])).length) Slot.unset).toArray = ls at hl ⊢
  have hl : lv_has ls 1 [(0, .int p0)] := hl
  unfold fX6_isDirection at hf
  refine lv_iload_n hx hb dX6_isDirection_0 rfl (lv_at hl 0 rfl) ?_
  refine lv_if_lt (tgt := 14) hx hb dX6_isDirection_1 (by decide) (fun c_1 => ?_) (fun c_1 => ?_)
  · have hf := ip c_1 hf
    refine lv_iconst (v := (0 : Int32)) hx hb dX6_isDirection_14 (by decide) ?_
    exact p_zret (v := false) hx hb hr hlocks (Option.some.inj hf) dX6_isDirection_15
  · have hf := iq c_1 hf
    refine lv_iload_n hx hb dX6_isDirection_4 rfl (lv_at hl 0 rfl) ?_
    refine lv_bipush (v := (8 : Int32)) hx hb dX6_isDirection_5 (by decide) ?_
    refine lv_icmp_ge (tgt := 14) hx hb dX6_isDirection_7 (by decide) (fun c_2 => ?_) (fun c_2 => ?_)
    · have hf := ip c_2 hf
      refine lv_iconst (v := (0 : Int32)) hx hb dX6_isDirection_14 (by decide) ?_
      exact p_zret (v := false) hx hb hr hlocks (Option.some.inj hf) dX6_isDirection_15
    · have hf := iq c_2 hf
      refine lv_iconst (v := (1 : Int32)) hx hb dX6_isDirection_10 (by decide) ?_
      refine lv_goto (tgt := 15) hx hb dX6_isDirection_11 (by decide) ?_
      exact p_zret (v := true) hx hb hr hlocks (Option.some.inj hf) dX6_isDirection_15

def fX6_isSlanting (p0 : Int32) : Option (Bool) := (if (p0 &&& (1 : Int32)) = 0 then (some false) else (some true))
abbrev rmX6_isSlanting : Room := { frames := 0, cells := 0, slots := 0, locals := 0 }
theorem hdX6_isSlanting : yX6_isSlanting.cls = RX6 ∧ yX6_isSlanting.cls ≠ "java/lang/invoke/MethodHandle" ∧ yX6_isSlanting.cls ≠ "java/lang/invoke/VarHandle" ∧ (parseMethodDescriptor yX6_isSlanting.desc).map (fun d => d.parameters.length) = some 1 := by decide +kernel
set_option maxHeartbeats 4000000 in
set_option maxRecDepth 100000 in
theorem cX6_isSlanting_ok (l : Launch) (g : Gg) (p0 : Int32) {r : Bool} (hf : fX6_isSlanting p0 = some r) : Met l yX6_isSlanting wsX6_isSlanting rmX6_isSlanting (va_Pc [.int p0] (PP g ([] : va_W))) (vp_Si (fun r' => r' = b2i r)) 0 0 (fun _ => False) := by
  refine Met.ofW (cc := cX6_isSlanting) (maxL := 1) (ret := (some .boolean)) (by decide) rfl ?_
  intro p e s m args below meth c s₁ B hml hv
  obtain ⟨rfl, hP, hE, hZ⟩ := hv
  have hx := B.exec
  have hb := B.bytes
  have hr := B.returns
  have hts := atoms_spec (ws := wsX6_isSlanting) B.pre
  have hown : s.vm.findClass RX6 = some m.cls := findClass_of_methodNamed B.named
  have hlocks := B.notSynchronized
  have hS : va_S (fun _ => False) s.heap s.heap [] := va_S.rf
  have hl := lv_entry ([.int p0]) (n := 1) (Nat.le_of_ble_eq_true rfl)
  rw [lg_entry_eq]
  generalize (lg_sl ([.int p0]) ++ List.replicate (1 - (lg_sl ([.int p0])).length) Slot.unset).toArray = ls at hl ⊢
  have hl : lv_has ls 1 [(0, .int p0)] := hl
  unfold fX6_isSlanting at hf
  refine lv_iload_n hx hb dX6_isSlanting_0 rfl (lv_at hl 0 rfl) ?_
  refine lv_iconst (v := (1 : Int32)) hx hb dX6_isSlanting_1 (by decide) ?_
  refine lv_iand hx hb dX6_isSlanting_2 ?_
  refine lv_if_eq (tgt := 10) hx hb dX6_isSlanting_3 (by decide) (fun c_1 => ?_) (fun c_1 => ?_)
  · have hf := ip c_1 hf
    refine lv_iconst (v := (0 : Int32)) hx hb dX6_isSlanting_10 (by decide) ?_
    exact p_zret (v := false) hx hb hr hlocks (Option.some.inj hf) dX6_isSlanting_11
  · have hf := iq c_1 hf
    refine lv_iconst (v := (1 : Int32)) hx hb dX6_isSlanting_6 (by decide) ?_
    refine lv_goto (tgt := 11) hx hb dX6_isSlanting_7 (by decide) ?_
    exact p_zret (v := true) hx hb hr hlocks (Option.some.inj hf) dX6_isSlanting_11

def fX6_pointBeside (p0 p1 : Int32) : Option (Int32) := ((fX6_isOnMap p0).bind fun r_1 => (if r_1 = true then ((fX6_isDirection p1).bind fun r_3 => (if r_3 = true then ((fX6_columnOf p0).bind fun r_5 => (if inR p1 8 then ((fX6_rowOf p0).bind fun r_7 => (if (r_5 + (tac p1)) < 0 then (some (-1 : Int32)) else (if (24 : Int32) ≤ (r_5 + (tac p1)) then (some (-1 : Int32)) else (if (r_7 + (tdn p1)) < 0 then (some (-1 : Int32)) else (if (r_7 + (tdn p1)) < (16 : Int32) then (some (((24 : Int32) * (r_7 + (tdn p1))) + (r_5 + (tac p1)))) else (some (-1 : Int32))))))) else none)) else (some (-1 : Int32)))) else (some (-1 : Int32))))
abbrev rmX6_pointBeside : Room := { frames := 1, cells := 0, slots := 0, locals := 20 }
theorem hdX6_pointBeside : yX6_pointBeside.cls = RX6 ∧ yX6_pointBeside.cls ≠ "java/lang/invoke/MethodHandle" ∧ yX6_pointBeside.cls ≠ "java/lang/invoke/VarHandle" ∧ (parseMethodDescriptor yX6_pointBeside.desc).map (fun d => d.parameters.length) = some 2 := by decide +kernel
theorem flX6_pointBeside_316 : (.fieldLink RX6 316 "ContourLabels" "ACROSS" "[I" : Cond) ∈ wsX6_pointBeside := by decide +kernel
theorem flX6_pointBeside_323 : (.fieldLink RX6 323 "ContourLabels" "DOWN" "[I" : Cond) ∈ wsX6_pointBeside := by decide +kernel
set_option maxHeartbeats 4000000 in
set_option maxRecDepth 100000 in
theorem cX6_pointBeside_ok (l : Launch) (g : Gg) (p0 p1 : Int32) {r : Int32} (hf : fX6_pointBeside p0 p1 = some r) : Met l yX6_pointBeside wsX6_pointBeside rmX6_pointBeside (va_Pc [.int p0, .int p1] (PP g ([] : va_W))) (vp_Si (fun r' => r' = r)) 0 0 (fun _ => False) := by
  refine Met.ofW (cc := cX6_pointBeside) (maxL := 4) (ret := (some .int)) (by decide) rfl ?_
  intro p e s m args below meth c s₁ B hml hv
  obtain ⟨rfl, hP, hE, hZ⟩ := hv
  have hx := B.exec
  have hb := B.bytes
  have hr := B.returns
  have hts := atoms_spec (ws := wsX6_pointBeside) B.pre
  have hown : s.vm.findClass RX6 = some m.cls := findClass_of_methodNamed B.named
  have hlocks := B.notSynchronized
  have hS : va_S (fun _ => False) s.heap s.heap [] := va_S.rf
  have hl := lv_entry ([.int p0, .int p1]) (n := 4) (Nat.le_of_ble_eq_true rfl)
  rw [lg_entry_eq]
  generalize (lg_sl ([.int p0, .int p1]) ++ List.replicate (4 - (lg_sl ([.int p0, .int p1])).length) Slot.unset).toArray = ls at hl ⊢
  have hl : lv_has ls 4 [(0, .int p0), (1, .int p1)] := hl
  unfold fX6_pointBeside at hf
  refine lv_iload_n hx hb dX6_pointBeside_0 rfl (lv_at hl 0 rfl) ?_
  obtain ⟨r_1, e_1, hf⟩ := bo hf
  refine pcallS (W0 := ([] : va_W)) (As := [.int p0]) (rest := []) [] ⟨hx, hb, hml, hown, hts⟩ hP hE hZ hS (cX6_isOnMap_ok l g  p0 e_1) (va_cwS 1 hts gX6_pointBeside_X6_isOnMap rfl rfl rfl hdX6_isOnMap.2 ⟨(Nat.le_of_ble_eq_true rfl), (Nat.le_of_ble_eq_true rfl)⟩) rfl rfl hl.1 rfl (Nat.le_of_ble_eq_true rfl) ⟨(Nat.le_of_ble_eq_true rfl), (Nat.le_of_ble_eq_true rfl)⟩ dX6_pointBeside_1 ?_
  refine lv_beq (tgt := 14) hx hb dX6_pointBeside_4 (by decide) (fun c_2 => ?_) (fun c_2 => ?_)
  · have hf := iq c_2 hf
    refine lv_iconst (v := (-1 : Int32)) hx hb dX6_pointBeside_14 (by decide) ?_
    exact p_iret (v := (-1 : Int32)) hx hb hr hlocks (Option.some.inj hf) dX6_pointBeside_15
  · have hf := ip c_2 hf
    refine lv_iload_n hx hb dX6_pointBeside_7 rfl (lv_at hl 1 rfl) ?_
    obtain ⟨r_3, e_3, hf⟩ := bo hf
    refine pcallS (W0 := ([] : va_W)) (As := [.int p1]) (rest := []) [] ⟨hx, hb, hml, hown, hts⟩ hP hE hZ hS (cX6_isDirection_ok l g  p1 e_3) (va_cwS 1 hts gX6_pointBeside_X6_isDirection rfl rfl rfl hdX6_isDirection.2 ⟨(Nat.le_of_ble_eq_true rfl), (Nat.le_of_ble_eq_true rfl)⟩) rfl rfl hl.1 rfl (Nat.le_of_ble_eq_true rfl) ⟨(Nat.le_of_ble_eq_true rfl), (Nat.le_of_ble_eq_true rfl)⟩ dX6_pointBeside_8 ?_
    refine lv_bne (tgt := 16) hx hb dX6_pointBeside_11 (by decide) (fun c_4 => ?_) (fun c_4 => ?_)
    · have hf := ip c_4 hf
      refine lv_iload_n hx hb dX6_pointBeside_16 rfl (lv_at hl 0 rfl) ?_
      obtain ⟨r_5, e_5, hf⟩ := bo hf
      refine pcallS (W0 := ([] : va_W)) (As := [.int p0]) (rest := []) [] ⟨hx, hb, hml, hown, hts⟩ hP hE hZ hS (cX6_columnOf_ok l g  p0 e_5) (va_cwS 1 hts gX6_pointBeside_X6_columnOf rfl rfl rfl hdX6_columnOf.2 ⟨(Nat.le_of_ble_eq_true rfl), (Nat.le_of_ble_eq_true rfl)⟩) rfl rfl hl.1 rfl (Nat.le_of_ble_eq_true rfl) ⟨(Nat.le_of_ble_eq_true rfl), (Nat.le_of_ble_eq_true rfl)⟩ dX6_pointBeside_17 ?_
      refine va_gets hx hb hZ.1 hS hown (hts _ flX6_pointBeside_316) (fun _ h9 => h9) dX6_pointBeside_20 ?_
      refine lv_iload_n hx hb dX6_pointBeside_23 rfl (lv_at hl 1 rfl) ?_
      obtain ⟨h_6, hf⟩ := ck hf
      refine va_ti (v := .int (tac p1)) hx hb hZ.2.1 hS (vin h_6) rfl dX6_pointBeside_24 ?_
      refine lv_iadd hx hb dX6_pointBeside_25 ?_
      refine lv_istore_n (lv' := [(2, .int (r_5 + (tac p1))), (0, .int p0), (1, .int p1)]) hx hb dX6_pointBeside_26 rfl hl (by decide) rfl (fun ls hl => ?_)
      refine lv_iload_n hx hb dX6_pointBeside_27 rfl (lv_at hl 1 rfl) ?_
      obtain ⟨r_7, e_7, hf⟩ := bo hf
      refine pcallS (W0 := ([] : va_W)) (As := [.int p0]) (rest := []) [] ⟨hx, hb, hml, hown, hts⟩ hP hE hZ hS (cX6_rowOf_ok l g  p0 e_7) (va_cwS 1 hts gX6_pointBeside_X6_rowOf rfl rfl rfl hdX6_rowOf.2 ⟨(Nat.le_of_ble_eq_true rfl), (Nat.le_of_ble_eq_true rfl)⟩) rfl rfl hl.1 rfl (Nat.le_of_ble_eq_true rfl) ⟨(Nat.le_of_ble_eq_true rfl), (Nat.le_of_ble_eq_true rfl)⟩ dX6_pointBeside_28 ?_
      refine va_gets hx hb hZ.2.2.1 hS hown (hts _ flX6_pointBeside_323) (fun _ h9 => h9) dX6_pointBeside_31 ?_
      refine lv_iload_n hx hb dX6_pointBeside_34 rfl (lv_at hl 2 rfl) ?_
      refine va_ti (v := .int (tdn p1)) hx hb hZ.2.2.2.1 hS (vin h_6) rfl dX6_pointBeside_35 ?_
      refine lv_iadd hx hb dX6_pointBeside_36 ?_
      refine lv_istore_n (lv' := [(3, .int (r_7 + (tdn p1))), (2, .int (r_5 + (tac p1))), (0, .int p0), (1, .int p1)]) hx hb dX6_pointBeside_37 rfl hl (by decide) rfl (fun ls hl => ?_)
      refine lv_iload_n hx hb dX6_pointBeside_38 rfl (lv_at hl 1 rfl) ?_
      refine lv_if_lt (tgt := 58) hx hb dX6_pointBeside_39 (by decide) (fun c_8 => ?_) (fun c_8 => ?_)
      · have hf := ip c_8 hf
        refine lv_iconst (v := (-1 : Int32)) hx hb dX6_pointBeside_58 (by decide) ?_
        exact p_iret (v := (-1 : Int32)) hx hb hr hlocks (Option.some.inj hf) dX6_pointBeside_59
      · have hf := iq c_8 hf
        refine lv_iload_n hx hb dX6_pointBeside_42 rfl (lv_at hl 1 rfl) ?_
        refine lv_bipush (v := (24 : Int32)) hx hb dX6_pointBeside_43 (by decide) ?_
        refine lv_icmp_ge (tgt := 58) hx hb dX6_pointBeside_45 (by decide) (fun c_9 => ?_) (fun c_9 => ?_)
        · have hf := ip c_9 hf
          refine lv_iconst (v := (-1 : Int32)) hx hb dX6_pointBeside_58 (by decide) ?_
          exact p_iret (v := (-1 : Int32)) hx hb hr hlocks (Option.some.inj hf) dX6_pointBeside_59
        · have hf := iq c_9 hf
          refine lv_iload_n hx hb dX6_pointBeside_48 rfl (lv_at hl 0 rfl) ?_
          refine lv_if_lt (tgt := 58) hx hb dX6_pointBeside_49 (by decide) (fun c_10 => ?_) (fun c_10 => ?_)
          · have hf := ip c_10 hf
            refine lv_iconst (v := (-1 : Int32)) hx hb dX6_pointBeside_58 (by decide) ?_
            exact p_iret (v := (-1 : Int32)) hx hb hr hlocks (Option.some.inj hf) dX6_pointBeside_59
          · have hf := iq c_10 hf
            refine lv_iload_n hx hb dX6_pointBeside_52 rfl (lv_at hl 0 rfl) ?_
            refine lv_bipush (v := (16 : Int32)) hx hb dX6_pointBeside_53 (by decide) ?_
            refine lv_icmp_lt (tgt := 60) hx hb dX6_pointBeside_55 (by decide) (fun c_11 => ?_) (fun c_11 => ?_)
            · have hf := ip c_11 hf
              refine lv_bipush (v := (24 : Int32)) hx hb dX6_pointBeside_60 (by decide) ?_
              refine lv_iload_n hx hb dX6_pointBeside_62 rfl (lv_at hl 0 rfl) ?_
              refine lv_imul hx hb dX6_pointBeside_63 ?_
              refine lv_iload_n hx hb dX6_pointBeside_64 rfl (lv_at hl 1 rfl) ?_
              refine lv_iadd hx hb dX6_pointBeside_65 ?_
              exact p_iret (v := (((24 : Int32) * (r_7 + (tdn p1))) + (r_5 + (tac p1)))) hx hb hr hlocks (Option.some.inj hf) dX6_pointBeside_66
            · have hf := iq c_11 hf
              refine lv_iconst (v := (-1 : Int32)) hx hb dX6_pointBeside_58 (by decide) ?_
              exact p_iret (v := (-1 : Int32)) hx hb hr hlocks (Option.some.inj hf) dX6_pointBeside_59
    · have hf := iq c_4 hf
      refine lv_iconst (v := (-1 : Int32)) hx hb dX6_pointBeside_14 (by decide) ?_
      exact p_iret (v := (-1 : Int32)) hx hb hr hlocks (Option.some.inj hf) dX6_pointBeside_15

def fX6_distance (p0 p1 : Int32) : Option (Int32) := ((fX6_columnOf p0).bind fun r_1 => ((fX6_columnOf p1).bind fun r_2 => ((fX6_rowOf p0).bind fun r_3 => ((fX6_rowOf p1).bind fun r_4 => (some (imax (iabs (r_1 - r_2)) (iabs (r_3 - r_4))))))))
abbrev rmX6_distance : Room := { frames := 1, cells := 0, slots := 0, locals := 21 }
theorem hdX6_distance : yX6_distance.cls = RX6 ∧ yX6_distance.cls ≠ "java/lang/invoke/MethodHandle" ∧ yX6_distance.cls ≠ "java/lang/invoke/VarHandle" ∧ (parseMethodDescriptor yX6_distance.desc).map (fun d => d.parameters.length) = some 2 := by decide +kernel
theorem mlX6_distance_197 : (.methodLink RX6 197 Lib.Math.abs.name : Cond) ∈ wsX6_distance := by decide +kernel
theorem msX6_distance_abs : (.static Lib.Math.abs.name : Cond) ∈ wsX6_distance := by decide +kernel
theorem miX6_distance : (.initialized "java/lang/Math" : Cond) ∈ wsX6_distance := by decide +kernel
theorem mcX6_distance_abs : (.code Lib.Math.abs.name Lib.Math.abs.code 1 (some .int) : Cond) ∈ wsX6_distance := by decide +kernel
theorem mlX6_distance_326 : (.methodLink RX6 326 Lib.Math.max.name : Cond) ∈ wsX6_distance := by decide +kernel
theorem msX6_distance_max : (.static Lib.Math.max.name : Cond) ∈ wsX6_distance := by decide +kernel
theorem mcX6_distance_max : (.code Lib.Math.max.name Lib.Math.max.code 2 (some .int) : Cond) ∈ wsX6_distance := by decide +kernel
set_option maxHeartbeats 4000000 in
set_option maxRecDepth 100000 in
theorem cX6_distance_ok (l : Launch) (g : Gg) (p0 p1 : Int32) {r : Int32} (hf : fX6_distance p0 p1 = some r) : Met l yX6_distance wsX6_distance rmX6_distance (va_Pc [.int p0, .int p1] (PP g ([] : va_W))) (vp_Si (fun r' => r' = r)) 0 0 (fun _ => False) := by
  refine Met.ofW (cc := cX6_distance) (maxL := 4) (ret := (some .int)) (by decide) rfl ?_
  intro p e s m args below meth c s₁ B hml hv
  obtain ⟨rfl, hP, hE, hZ⟩ := hv
  have hx := B.exec
  have hb := B.bytes
  have hr := B.returns
  have hts := atoms_spec (ws := wsX6_distance) B.pre
  have hown : s.vm.findClass RX6 = some m.cls := findClass_of_methodNamed B.named
  have hlocks := B.notSynchronized
  have hS : va_S (fun _ => False) s.heap s.heap [] := va_S.rf
  have hl := lv_entry ([.int p0, .int p1]) (n := 4) (Nat.le_of_ble_eq_true rfl)
  rw [lg_entry_eq]
  generalize (lg_sl ([.int p0, .int p1]) ++ List.replicate (4 - (lg_sl ([.int p0, .int p1])).length) Slot.unset).toArray = ls at hl ⊢
  have hl : lv_has ls 4 [(0, .int p0), (1, .int p1)] := hl
  unfold fX6_distance at hf
  refine lv_iload_n hx hb dX6_distance_0 rfl (lv_at hl 0 rfl) ?_
  obtain ⟨r_1, e_1, hf⟩ := bo hf
  refine pcallS (W0 := ([] : va_W)) (As := [.int p0]) (rest := []) [] ⟨hx, hb, hml, hown, hts⟩ hP hE hZ hS (cX6_columnOf_ok l g  p0 e_1) (va_cwS 1 hts gX6_distance_X6_columnOf rfl rfl rfl hdX6_columnOf.2 ⟨(Nat.le_of_ble_eq_true rfl), (Nat.le_of_ble_eq_true rfl)⟩) rfl rfl hl.1 rfl (Nat.le_of_ble_eq_true rfl) ⟨(Nat.le_of_ble_eq_true rfl), (Nat.le_of_ble_eq_true rfl)⟩ dX6_distance_1 ?_
  refine lv_iload_n hx hb dX6_distance_4 rfl (lv_at hl 1 rfl) ?_
  obtain ⟨r_2, e_2, hf⟩ := bo hf
  refine pcallS (W0 := ([] : va_W)) (As := [.int p1]) (rest := [.int r_1]) [] ⟨hx, hb, hml, hown, hts⟩ hP hE hZ hS (cX6_columnOf_ok l g  p1 e_2) (va_cwS 1 hts gX6_distance_X6_columnOf rfl rfl rfl hdX6_columnOf.2 ⟨(Nat.le_of_ble_eq_true rfl), (Nat.le_of_ble_eq_true rfl)⟩) rfl rfl hl.1 rfl (Nat.le_of_ble_eq_true rfl) ⟨(Nat.le_of_ble_eq_true rfl), (Nat.le_of_ble_eq_true rfl)⟩ dX6_distance_5 ?_
  refine lv_isub hx hb dX6_distance_8 ?_
  refine va_mabs hx hb (hml.trans hl.1.symm) hown (hts _ mlX6_distance_197) (hts _ msX6_distance_abs) (hts _ miX6_distance) (hts _ mcX6_distance_abs) (Nat.le_of_ble_eq_true rfl) (Nat.le_of_ble_eq_true rfl) (Nat.le_of_ble_eq_true rfl) (Nat.le_of_ble_eq_true rfl) dX6_distance_9 ?_
  refine W.eq (g2 := F0 m 12 ls [.int (iabs (r_1 - r_2))]) rfl ?_
  refine lv_istore_n (lv' := [(2, .int (iabs (r_1 - r_2))), (0, .int p0), (1, .int p1)]) hx hb dX6_distance_12 rfl hl (by decide) rfl (fun ls hl => ?_)
  refine lv_iload_n hx hb dX6_distance_13 rfl (lv_at hl 1 rfl) ?_
  obtain ⟨r_3, e_3, hf⟩ := bo hf
  refine pcallS (W0 := ([] : va_W)) (As := [.int p0]) (rest := []) [] ⟨hx, hb, hml, hown, hts⟩ hP hE hZ hS (cX6_rowOf_ok l g  p0 e_3) (va_cwS 1 hts gX6_distance_X6_rowOf rfl rfl rfl hdX6_rowOf.2 ⟨(Nat.le_of_ble_eq_true rfl), (Nat.le_of_ble_eq_true rfl)⟩) rfl rfl hl.1 rfl (Nat.le_of_ble_eq_true rfl) ⟨(Nat.le_of_ble_eq_true rfl), (Nat.le_of_ble_eq_true rfl)⟩ dX6_distance_14 ?_
  refine lv_iload_n hx hb dX6_distance_17 rfl (lv_at hl 2 rfl) ?_
  obtain ⟨r_4, e_4, hf⟩ := bo hf
  refine pcallS (W0 := ([] : va_W)) (As := [.int p1]) (rest := [.int r_3]) [] ⟨hx, hb, hml, hown, hts⟩ hP hE hZ hS (cX6_rowOf_ok l g  p1 e_4) (va_cwS 1 hts gX6_distance_X6_rowOf rfl rfl rfl hdX6_rowOf.2 ⟨(Nat.le_of_ble_eq_true rfl), (Nat.le_of_ble_eq_true rfl)⟩) rfl rfl hl.1 rfl (Nat.le_of_ble_eq_true rfl) ⟨(Nat.le_of_ble_eq_true rfl), (Nat.le_of_ble_eq_true rfl)⟩ dX6_distance_18 ?_
  refine lv_isub hx hb dX6_distance_21 ?_
  refine va_mabs hx hb (hml.trans hl.1.symm) hown (hts _ mlX6_distance_197) (hts _ msX6_distance_abs) (hts _ miX6_distance) (hts _ mcX6_distance_abs) (Nat.le_of_ble_eq_true rfl) (Nat.le_of_ble_eq_true rfl) (Nat.le_of_ble_eq_true rfl) (Nat.le_of_ble_eq_true rfl) dX6_distance_22 ?_
  refine W.eq (g2 := F0 m 25 ls [.int (iabs (r_3 - r_4))]) rfl ?_
  refine lv_istore_n (lv' := [(3, .int (iabs (r_3 - r_4))), (2, .int (iabs (r_1 - r_2))), (0, .int p0), (1, .int p1)]) hx hb dX6_distance_25 rfl hl (by decide) rfl (fun ls hl => ?_)
  refine lv_iload_n hx hb dX6_distance_26 rfl (lv_at hl 1 rfl) ?_
  refine lv_iload_n hx hb dX6_distance_27 rfl (lv_at hl 0 rfl) ?_
  refine va_mmax hx hb (hml.trans hl.1.symm) hown (hts _ mlX6_distance_326) (hts _ msX6_distance_max) (hts _ miX6_distance) (hts _ mcX6_distance_max) (Nat.le_of_ble_eq_true rfl) (Nat.le_of_ble_eq_true rfl) (Nat.le_of_ble_eq_true rfl) (Nat.le_of_ble_eq_true rfl) dX6_distance_28 ?_
  refine W.eq (g2 := F0 m 31 ls [.int (imax (iabs (r_1 - r_2)) (iabs (r_3 - r_4)))]) rfl ?_
  exact p_iret (v := (imax (iabs (r_1 - r_2)) (iabs (r_3 - r_4)))) hx hb hr hlocks (Option.some.inj hf) dX6_distance_31
