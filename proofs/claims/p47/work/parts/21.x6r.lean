def fX6_requireLine (σ : Sh) (p0 : Int32) : Option (Except String (Unit)) := ((fX4_hasLine σ p0).bind fun r_1 => (if r_1 = true then (some (.ok ())) else (some (.error "java/lang/IndexOutOfBoundsException"))))
abbrev rmX6_requireLine : Room := { frames := 6, cells := 1, slots := 6, locals := 90 }
theorem hdX6_requireLine : yX6_requireLine.cls = RX6 ∧ yX6_requireLine.cls ≠ "java/lang/invoke/MethodHandle" ∧ yX6_requireLine.cls ≠ "java/lang/invoke/VarHandle" ∧ (parseMethodDescriptor yX6_requireLine.desc).map (fun d => d.parameters.length) = some 1 := by decide +kernel
theorem fiX6_requireLine_X6 : ∀ w ∈ wsX60, w ∈ wsX6_requireLine := by decide +kernel
theorem flX6_requireLine_10 : (.fieldLink RX6 10 "ContourLabels" "sheet" "LContourLabels$Sheet;" : Cond) ∈ wsX6_requireLine := by decide +kernel
theorem tkX6_requireLine_I : (.classLink RX6 205 "java/lang/IndexOutOfBoundsException" : Cond) ∈ wsX6_requireLine := by decide +kernel
theorem tiX6_requireLine_I : (.initialized "java/lang/IndexOutOfBoundsException" : Cond) ∈ wsX6_requireLine := by decide +kernel
theorem taX6_requireLine_I : ∀ w ∈ (vx_atS RX6 209 "java/lang/IndexOutOfBoundsException" nms).filter goodWord, w ∈ wsX6_requireLine := by decide +kernel
set_option maxHeartbeats 4000000 in
set_option maxRecDepth 100000 in
theorem cX6_requireLine_ok (l : Launch) (hl0 : l.stackTraces = false) (g : Gg) (c0 h k0 x0 d0 a1 a2 a3 a4 : Nat) (σ : Sh) (p0 : Int32) (sz : Nat) {o : Except String (Unit)} (hf : fX6_requireLine σ p0 = some o) : vx_Met l yX6_requireLine wsX6_requireLine rmX6_requireLine (va_Pc [.ref c0, .int p0] (PM g (wC c0 h k0 x0 d0 ++ (wS g h a1 a2 a3 a4 σ)) sz)) (QXv g (wC c0 h k0 x0 d0 ++ (wS g h a1 a2 a3 a4 σ)) (va_A (wC c0 h k0 x0 d0 ++ (wS g h a1 a2 a3 a4 σ)) sz) o) (XE g (wC c0 h k0 x0 d0 ++ (wS g h a1 a2 a3 a4 σ)) (va_A (wC c0 h k0 x0 d0 ++ (wS g h a1 a2 a3 a4 σ)) sz) o) 1 6 (va_A (wC c0 h k0 x0 d0 ++ (wS g h a1 a2 a3 a4 σ)) sz) := by
  refine vx_ofW (cc := cX6_requireLine) (maxL := 2) (ret := none) (by decide) rfl ?_
  intro p e s m args below meth c s₁ B hml hnt hv
  obtain ⟨rfl, rfl, hP, hD0, hE, hZ⟩ := hv
  have hx := B.exec
  have hb := B.bytes
  have hr := B.returns
  have hts := atoms_spec (ws := wsX6_requireLine) B.pre
  have hown : s.vm.findClass RX6 = some m.cls := findClass_of_methodNamed B.named
  have hlocks := B.notSynchronized
  have hD := hD0.self (sz := s.heap.size)
  generalize hAe : (va_A (wC c0 h k0 x0 d0 ++ (wS g h a1 a2 a3 a4 σ)) s.heap.size) = A at hD hZ ⊢
  have hA : ∀ q : Nat, s.heap.size ≤ q → A q := fun q h => by rw [← hAe]; exact Or.inr h
  have hS : va_S A s.heap s.heap [] := va_S.rf
  have hP : va_P g.1 vwCl (wC c0 h k0 x0 d0 ++ (wS g h a1 a2 a3 a4 σ)) s.heap := hP
  have hl := lv_entry ([.ref c0, .int p0]) (n := 2) (Nat.le_of_ble_eq_true rfl)
  rw [lg_entry_eq]
  generalize (lg_sl ([.ref c0, .int p0]) ++ List.replicate (2 - (lg_sl ([.ref c0, .int p0])).length) Slot.unset).toArray = ls at hl ⊢
  have hl : lv_has ls 2 [(0, .ref c0), (1, .int p0)] := hl
  unfold fX6_requireLine at hf
  refine lv_aload_n hx hb dX6_requireLine_0 rfl (lv_at hl 0 rfl) ?_
  refine va_get (v := .ref h) (C := RX6) (T := TX6) (N := 4) hx hb hts fiX6_requireLine_X6 hown hE.1 hP 0 rfl rfl 0 (by decide) (hts _ flX6_requireLine_10) (fun _ h9 => h9) rfl dX6_requireLine_1 ?_
  refine lv_iload_n hx hb dX6_requireLine_4 rfl (lv_at hl 1 rfl) ?_
  obtain ⟨r_1, e_1, hf⟩ := bo hf
  refine pcallV (W0 := (wC c0 h k0 x0 d0 ++ (wS g h a1 a2 a3 a4 σ))) (As := [.int p0]) (rest := []) [1, 2, 3, 4, 5] 3 0 ⟨hx, hb, hml, hown, hts⟩ hP hE hZ hS (cX4_hasLine_ok l g h a1 a2 a3 a4 σ p0 e_1) (cwV 1 hts gX6_requireLine_X4_hasLine rfl rfl rfl hdX4_hasLine ⟨(Nat.le_of_ble_eq_true rfl), (Nat.le_of_ble_eq_true rfl)⟩) rfl rfl rfl rfl rfl hl.1 rfl (Nat.le_of_ble_eq_true rfl) ⟨(Nat.le_of_ble_eq_true rfl), (Nat.le_of_ble_eq_true rfl)⟩ dX6_requireLine_5 ?_
  refine lv_bne (tgt := 22) hx hb dX6_requireLine_8 (by decide) (fun c_2 => ?_) (fun c_2 => ?_)
  · have hf := ip c_2 hf
    exact x_vret hx hb hr hlocks hP hD hS ⟨(Nat.le_of_ble_eq_true rfl), (Nat.le_of_ble_eq_true rfl)⟩ (Option.some.inj hf).symm dX6_requireLine_22
  · have hf := iq c_2 hf
    exact xthrowW (text := "there is no such line") hl0 tfI hx hb hown hlocks hts tkX6_requireLine_I tiX6_requireLine_I taX6_requireLine_I hE (by decide +kernel) hZ hP hD hS (hl.1.trans hml.symm) hnt dX6_requireLine_11 dX6_requireLine_14 dX6_requireLine_15 dX6_requireLine_18 dX6_requireLine_21 ⟨(Nat.le_of_ble_eq_true rfl), (Nat.le_of_ble_eq_true rfl)⟩ (Nat.le_of_ble_eq_true rfl) ⟨(Nat.le_of_ble_eq_true rfl), (Nat.le_of_ble_eq_true rfl)⟩ ⟨(Nat.le_of_ble_eq_true rfl), (Nat.le_of_ble_eq_true rfl)⟩ (Option.some.inj hf).symm

def fX6_requireNumber (σ : Sh) (p0 p1 : Int32) : Option (Except String (Unit)) := ((fX4_hasNumber σ p0 p1).bind fun r_1 => (if r_1 = true then (some (.ok ())) else (some (.error "java/lang/IndexOutOfBoundsException"))))
abbrev rmX6_requireNumber : Room := { frames := 6, cells := 1, slots := 6, locals := 90 }
theorem hdX6_requireNumber : yX6_requireNumber.cls = RX6 ∧ yX6_requireNumber.cls ≠ "java/lang/invoke/MethodHandle" ∧ yX6_requireNumber.cls ≠ "java/lang/invoke/VarHandle" ∧ (parseMethodDescriptor yX6_requireNumber.desc).map (fun d => d.parameters.length) = some 2 := by decide +kernel
theorem fiX6_requireNumber_X6 : ∀ w ∈ wsX60, w ∈ wsX6_requireNumber := by decide +kernel
theorem flX6_requireNumber_10 : (.fieldLink RX6 10 "ContourLabels" "sheet" "LContourLabels$Sheet;" : Cond) ∈ wsX6_requireNumber := by decide +kernel
theorem tkX6_requireNumber_I : (.classLink RX6 205 "java/lang/IndexOutOfBoundsException" : Cond) ∈ wsX6_requireNumber := by decide +kernel
theorem tiX6_requireNumber_I : (.initialized "java/lang/IndexOutOfBoundsException" : Cond) ∈ wsX6_requireNumber := by decide +kernel
theorem taX6_requireNumber_I : ∀ w ∈ (vx_atS RX6 209 "java/lang/IndexOutOfBoundsException" nms).filter goodWord, w ∈ wsX6_requireNumber := by decide +kernel
set_option maxHeartbeats 4000000 in
set_option maxRecDepth 100000 in
theorem cX6_requireNumber_ok (l : Launch) (hl0 : l.stackTraces = false) (g : Gg) (c0 h k0 x0 d0 a1 a2 a3 a4 : Nat) (σ : Sh) (p0 p1 : Int32) (sz : Nat) {o : Except String (Unit)} (hf : fX6_requireNumber σ p0 p1 = some o) : vx_Met l yX6_requireNumber wsX6_requireNumber rmX6_requireNumber (va_Pc [.ref c0, .int p0, .int p1] (PM g (wC c0 h k0 x0 d0 ++ (wS g h a1 a2 a3 a4 σ)) sz)) (QXv g (wC c0 h k0 x0 d0 ++ (wS g h a1 a2 a3 a4 σ)) (va_A (wC c0 h k0 x0 d0 ++ (wS g h a1 a2 a3 a4 σ)) sz) o) (XE g (wC c0 h k0 x0 d0 ++ (wS g h a1 a2 a3 a4 σ)) (va_A (wC c0 h k0 x0 d0 ++ (wS g h a1 a2 a3 a4 σ)) sz) o) 1 6 (va_A (wC c0 h k0 x0 d0 ++ (wS g h a1 a2 a3 a4 σ)) sz) := by
  refine vx_ofW (cc := cX6_requireNumber) (maxL := 3) (ret := none) (by decide) rfl ?_
  intro p e s m args below meth c s₁ B hml hnt hv
  obtain ⟨rfl, rfl, hP, hD0, hE, hZ⟩ := hv
  have hx := B.exec
  have hb := B.bytes
  have hr := B.returns
  have hts := atoms_spec (ws := wsX6_requireNumber) B.pre
  have hown : s.vm.findClass RX6 = some m.cls := findClass_of_methodNamed B.named
  have hlocks := B.notSynchronized
  have hD := hD0.self (sz := s.heap.size)
  generalize hAe : (va_A (wC c0 h k0 x0 d0 ++ (wS g h a1 a2 a3 a4 σ)) s.heap.size) = A at hD hZ ⊢
  have hA : ∀ q : Nat, s.heap.size ≤ q → A q := fun q h => by rw [← hAe]; exact Or.inr h
  have hS : va_S A s.heap s.heap [] := va_S.rf
  have hP : va_P g.1 vwCl (wC c0 h k0 x0 d0 ++ (wS g h a1 a2 a3 a4 σ)) s.heap := hP
  have hl := lv_entry ([.ref c0, .int p0, .int p1]) (n := 3) (Nat.le_of_ble_eq_true rfl)
  rw [lg_entry_eq]
  generalize (lg_sl ([.ref c0, .int p0, .int p1]) ++ List.replicate (3 - (lg_sl ([.ref c0, .int p0, .int p1])).length) Slot.unset).toArray = ls at hl ⊢
  have hl : lv_has ls 3 [(0, .ref c0), (1, .int p0), (2, .int p1)] := hl
  unfold fX6_requireNumber at hf
  refine lv_aload_n hx hb dX6_requireNumber_0 rfl (lv_at hl 0 rfl) ?_
  refine va_get (v := .ref h) (C := RX6) (T := TX6) (N := 4) hx hb hts fiX6_requireNumber_X6 hown hE.1 hP 0 rfl rfl 0 (by decide) (hts _ flX6_requireNumber_10) (fun _ h9 => h9) rfl dX6_requireNumber_1 ?_
  refine lv_iload_n hx hb dX6_requireNumber_4 rfl (lv_at hl 1 rfl) ?_
  refine lv_iload_n hx hb dX6_requireNumber_5 rfl (lv_at hl 2 rfl) ?_
  obtain ⟨r_1, e_1, hf⟩ := bo hf
  refine pcallV (W0 := (wC c0 h k0 x0 d0 ++ (wS g h a1 a2 a3 a4 σ))) (As := [.int p0, .int p1]) (rest := []) [1, 2, 3, 4, 5] 3 0 ⟨hx, hb, hml, hown, hts⟩ hP hE hZ hS (cX4_hasNumber_ok l g h a1 a2 a3 a4 σ p0 p1 e_1) (cwV 2 hts gX6_requireNumber_X4_hasNumber rfl rfl rfl hdX4_hasNumber ⟨(Nat.le_of_ble_eq_true rfl), (Nat.le_of_ble_eq_true rfl)⟩) rfl rfl rfl rfl rfl hl.1 rfl (Nat.le_of_ble_eq_true rfl) ⟨(Nat.le_of_ble_eq_true rfl), (Nat.le_of_ble_eq_true rfl)⟩ dX6_requireNumber_6 ?_
  refine lv_bne (tgt := 23) hx hb dX6_requireNumber_9 (by decide) (fun c_2 => ?_) (fun c_2 => ?_)
  · have hf := ip c_2 hf
    exact x_vret hx hb hr hlocks hP hD hS ⟨(Nat.le_of_ble_eq_true rfl), (Nat.le_of_ble_eq_true rfl)⟩ (Option.some.inj hf).symm dX6_requireNumber_23
  · have hf := iq c_2 hf
    exact xthrowW (text := "there is no such line or point of the line") hl0 tfI hx hb hown hlocks hts tkX6_requireNumber_I tiX6_requireNumber_I taX6_requireNumber_I hE (by decide +kernel) hZ hP hD hS (hl.1.trans hml.symm) hnt dX6_requireNumber_12 dX6_requireNumber_15 dX6_requireNumber_16 dX6_requireNumber_19 dX6_requireNumber_22 ⟨(Nat.le_of_ble_eq_true rfl), (Nat.le_of_ble_eq_true rfl)⟩ (Nat.le_of_ble_eq_true rfl) ⟨(Nat.le_of_ble_eq_true rfl), (Nat.le_of_ble_eq_true rfl)⟩ ⟨(Nat.le_of_ble_eq_true rfl), (Nat.le_of_ble_eq_true rfl)⟩ (Option.some.inj hf).symm

def fX6_requirePoint (p0 : Int32) : Option (Except String (Unit)) := ((fX6_isOnMap p0).bind fun r_1 => (if r_1 = true then (some (.ok ())) else (some (.error "java/lang/IndexOutOfBoundsException"))))
abbrev rmX6_requirePoint : Room := { frames := 6, cells := 1, slots := 6, locals := 90 }
theorem hdX6_requirePoint : yX6_requirePoint.cls = RX6 ∧ yX6_requirePoint.cls ≠ "java/lang/invoke/MethodHandle" ∧ yX6_requirePoint.cls ≠ "java/lang/invoke/VarHandle" ∧ (parseMethodDescriptor yX6_requirePoint.desc).map (fun d => d.parameters.length) = some 1 := by decide +kernel
theorem tkX6_requirePoint_I : (.classLink RX6 205 "java/lang/IndexOutOfBoundsException" : Cond) ∈ wsX6_requirePoint := by decide +kernel
theorem tiX6_requirePoint_I : (.initialized "java/lang/IndexOutOfBoundsException" : Cond) ∈ wsX6_requirePoint := by decide +kernel
theorem taX6_requirePoint_I : ∀ w ∈ (vx_atS RX6 209 "java/lang/IndexOutOfBoundsException" nms).filter goodWord, w ∈ wsX6_requirePoint := by decide +kernel
set_option maxHeartbeats 4000000 in
set_option maxRecDepth 100000 in
theorem cX6_requirePoint_ok (l : Launch) (hl0 : l.stackTraces = false) (g : Gg) (p0 : Int32) (sz : Nat) {o : Except String (Unit)} (hf : fX6_requirePoint p0 = some o) : vx_Met l yX6_requirePoint wsX6_requirePoint rmX6_requirePoint (va_Pc [.int p0] (PM g ([] : va_W) sz)) (QXv g ([] : va_W) (va_A ([] : va_W) sz) o) (XE g ([] : va_W) (va_A ([] : va_W) sz) o) 1 6 (va_A ([] : va_W) sz) := by
  refine vx_ofW (cc := cX6_requirePoint) (maxL := 1) (ret := none) (by decide) rfl ?_
  intro p e s m args below meth c s₁ B hml hnt hv
  obtain ⟨rfl, rfl, hP, hD0, hE, hZ⟩ := hv
  have hx := B.exec
  have hb := B.bytes
  have hr := B.returns
  have hts := atoms_spec (ws := wsX6_requirePoint) B.pre
  have hown : s.vm.findClass RX6 = some m.cls := findClass_of_methodNamed B.named
  have hlocks := B.notSynchronized
  have hD := hD0.self (sz := s.heap.size)
  generalize hAe : (va_A ([] : va_W) s.heap.size) = A at hD hZ ⊢
  have hA : ∀ q : Nat, s.heap.size ≤ q → A q := fun q h => by rw [← hAe]; exact Or.inr h
  have hS : va_S A s.heap s.heap [] := va_S.rf
  have hP : va_P g.1 vwCl ([] : va_W) s.heap := hP
  have hl := lv_entry ([.int p0]) (n := 1) (Nat.le_of_ble_eq_true rfl)
  rw [lg_entry_eq]
  generalize (lg_sl ([.int p0]) ++ List.replicate (1 - (lg_sl ([.int p0])).length) Slot.unset).toArray = ls at hl ⊢
  have hl : lv_has ls 1 [(0, .int p0)] := hl
  unfold fX6_requirePoint at hf
  refine lv_iload_n hx hb dX6_requirePoint_0 rfl (lv_at hl 0 rfl) ?_
  obtain ⟨r_1, e_1, hf⟩ := bo hf
  refine pcallS (W0 := ([] : va_W)) (As := [.int p0]) (rest := []) [] ⟨hx, hb, hml, hown, hts⟩ hP hE hZ hS (cX6_isOnMap_ok l g  p0 e_1) (va_cwS 1 hts gX6_requirePoint_X6_isOnMap rfl rfl rfl hdX6_isOnMap.2 ⟨(Nat.le_of_ble_eq_true rfl), (Nat.le_of_ble_eq_true rfl)⟩) rfl rfl hl.1 rfl (Nat.le_of_ble_eq_true rfl) ⟨(Nat.le_of_ble_eq_true rfl), (Nat.le_of_ble_eq_true rfl)⟩ dX6_requirePoint_1 ?_
  refine lv_bne (tgt := 18) hx hb dX6_requirePoint_4 (by decide) (fun c_2 => ?_) (fun c_2 => ?_)
  · have hf := ip c_2 hf
    exact x_vret hx hb hr hlocks hP hD hS ⟨(Nat.le_of_ble_eq_true rfl), (Nat.le_of_ble_eq_true rfl)⟩ (Option.some.inj hf).symm dX6_requirePoint_18
  · have hf := iq c_2 hf
    exact xthrowW (text := "there is no such point of the map") hl0 tfI hx hb hown hlocks hts tkX6_requirePoint_I tiX6_requirePoint_I taX6_requirePoint_I hE (by decide +kernel) hZ hP hD hS (hl.1.trans hml.symm) hnt dX6_requirePoint_7 dX6_requirePoint_10 dX6_requirePoint_11 dX6_requirePoint_14 dX6_requirePoint_17 ⟨(Nat.le_of_ble_eq_true rfl), (Nat.le_of_ble_eq_true rfl)⟩ (Nat.le_of_ble_eq_true rfl) ⟨(Nat.le_of_ble_eq_true rfl), (Nat.le_of_ble_eq_true rfl)⟩ ⟨(Nat.le_of_ble_eq_true rfl), (Nat.le_of_ble_eq_true rfl)⟩ (Option.some.inj hf).symm

def fX6_requireLevel (p0 : Int32) : Option (Except String (Unit)) := (if p0 < 0 then (some (.error "java/lang/IllegalArgumentException")) else (if p0 ≤ (99 : Int32) then (some (.ok ())) else (some (.error "java/lang/IllegalArgumentException"))))
abbrev rmX6_requireLevel : Room := { frames := 6, cells := 1, slots := 6, locals := 90 }
theorem hdX6_requireLevel : yX6_requireLevel.cls = RX6 ∧ yX6_requireLevel.cls ≠ "java/lang/invoke/MethodHandle" ∧ yX6_requireLevel.cls ≠ "java/lang/invoke/VarHandle" ∧ (parseMethodDescriptor yX6_requireLevel.desc).map (fun d => d.parameters.length) = some 1 := by decide +kernel
theorem tkX6_requireLevel_A : (.classLink RX6 129 "java/lang/IllegalArgumentException" : Cond) ∈ wsX6_requireLevel := by decide +kernel
theorem tiX6_requireLevel_A : (.initialized "java/lang/IllegalArgumentException" : Cond) ∈ wsX6_requireLevel := by decide +kernel
theorem taX6_requireLevel_A : ∀ w ∈ (vx_atS RX6 133 "java/lang/IllegalArgumentException" nms).filter goodWord, w ∈ wsX6_requireLevel := by decide +kernel
set_option maxHeartbeats 4000000 in
set_option maxRecDepth 100000 in
theorem cX6_requireLevel_ok (l : Launch) (hl0 : l.stackTraces = false) (g : Gg) (p0 : Int32) (sz : Nat) {o : Except String (Unit)} (hf : fX6_requireLevel p0 = some o) : vx_Met l yX6_requireLevel wsX6_requireLevel rmX6_requireLevel (va_Pc [.int p0] (PM g ([] : va_W) sz)) (QXv g ([] : va_W) (va_A ([] : va_W) sz) o) (XE g ([] : va_W) (va_A ([] : va_W) sz) o) 1 6 (va_A ([] : va_W) sz) := by
  refine vx_ofW (cc := cX6_requireLevel) (maxL := 1) (ret := none) (by decide) rfl ?_
  intro p e s m args below meth c s₁ B hml hnt hv
  obtain ⟨rfl, rfl, hP, hD0, hE, hZ⟩ := hv
  have hx := B.exec
  have hb := B.bytes
  have hr := B.returns
  have hts := atoms_spec (ws := wsX6_requireLevel) B.pre
  have hown : s.vm.findClass RX6 = some m.cls := findClass_of_methodNamed B.named
  have hlocks := B.notSynchronized
  have hD := hD0.self (sz := s.heap.size)
  generalize hAe : (va_A ([] : va_W) s.heap.size) = A at hD hZ ⊢
  have hA : ∀ q : Nat, s.heap.size ≤ q → A q := fun q h => by rw [← hAe]; exact Or.inr h
  have hS : va_S A s.heap s.heap [] := va_S.rf
  have hP : va_P g.1 vwCl ([] : va_W) s.heap := hP
  have hl := lv_entry ([.int p0]) (n := 1) (Nat.le_of_ble_eq_true rfl)
  rw [lg_entry_eq]
  generalize (lg_sl ([.int p0]) ++ List.replicate (1 - (lg_sl ([.int p0])).length) Slot.unset).toArray = ls at hl ⊢
  have hl : lv_has ls 1 [(0, .int p0)] := hl
  unfold fX6_requireLevel at hf
  refine lv_iload_n hx hb dX6_requireLevel_0 rfl (lv_at hl 0 rfl) ?_
  refine lv_if_lt (tgt := 10) hx hb dX6_requireLevel_1 (by decide) (fun c_1 => ?_) (fun c_1 => ?_)
  · have hf := ip c_1 hf
    exact xthrowW (text := "level is out of range") hl0 tfA hx hb hown hlocks hts tkX6_requireLevel_A tiX6_requireLevel_A taX6_requireLevel_A hE (by decide +kernel) hZ hP hD hS (hl.1.trans hml.symm) hnt dX6_requireLevel_10 dX6_requireLevel_13 dX6_requireLevel_14 dX6_requireLevel_17 dX6_requireLevel_20 ⟨(Nat.le_of_ble_eq_true rfl), (Nat.le_of_ble_eq_true rfl)⟩ (Nat.le_of_ble_eq_true rfl) ⟨(Nat.le_of_ble_eq_true rfl), (Nat.le_of_ble_eq_true rfl)⟩ ⟨(Nat.le_of_ble_eq_true rfl), (Nat.le_of_ble_eq_true rfl)⟩ (Option.some.inj hf).symm
  · have hf := iq c_1 hf
    refine lv_iload_n hx hb dX6_requireLevel_4 rfl (lv_at hl 0 rfl) ?_
    refine lv_bipush (v := (99 : Int32)) hx hb dX6_requireLevel_5 (by decide) ?_
    refine lv_icmp_le (tgt := 21) hx hb dX6_requireLevel_7 (by decide) (fun c_2 => ?_) (fun c_2 => ?_)
    · have hf := ip c_2 hf
      exact x_vret hx hb hr hlocks hP hD hS ⟨(Nat.le_of_ble_eq_true rfl), (Nat.le_of_ble_eq_true rfl)⟩ (Option.some.inj hf).symm dX6_requireLevel_21
    · have hf := iq c_2 hf
      exact xthrowW (text := "level is out of range") hl0 tfA hx hb hown hlocks hts tkX6_requireLevel_A tiX6_requireLevel_A taX6_requireLevel_A hE (by decide +kernel) hZ hP hD hS (hl.1.trans hml.symm) hnt dX6_requireLevel_10 dX6_requireLevel_13 dX6_requireLevel_14 dX6_requireLevel_17 dX6_requireLevel_20 ⟨(Nat.le_of_ble_eq_true rfl), (Nat.le_of_ble_eq_true rfl)⟩ (Nat.le_of_ble_eq_true rfl) ⟨(Nat.le_of_ble_eq_true rfl), (Nat.le_of_ble_eq_true rfl)⟩ ⟨(Nat.le_of_ble_eq_true rfl), (Nat.le_of_ble_eq_true rfl)⟩ (Option.some.inj hf).symm

def fX6_requireDirection (p0 : Int32) : Option (Except String (Unit)) := ((fX6_isDirection p0).bind fun r_1 => (if r_1 = true then (some (.ok ())) else (some (.error "java/lang/IllegalArgumentException"))))
abbrev rmX6_requireDirection : Room := { frames := 6, cells := 1, slots := 6, locals := 90 }
theorem hdX6_requireDirection : yX6_requireDirection.cls = RX6 ∧ yX6_requireDirection.cls ≠ "java/lang/invoke/MethodHandle" ∧ yX6_requireDirection.cls ≠ "java/lang/invoke/VarHandle" ∧ (parseMethodDescriptor yX6_requireDirection.desc).map (fun d => d.parameters.length) = some 1 := by decide +kernel
theorem tkX6_requireDirection_A : (.classLink RX6 129 "java/lang/IllegalArgumentException" : Cond) ∈ wsX6_requireDirection := by decide +kernel
theorem tiX6_requireDirection_A : (.initialized "java/lang/IllegalArgumentException" : Cond) ∈ wsX6_requireDirection := by decide +kernel
theorem taX6_requireDirection_A : ∀ w ∈ (vx_atS RX6 133 "java/lang/IllegalArgumentException" nms).filter goodWord, w ∈ wsX6_requireDirection := by decide +kernel
set_option maxHeartbeats 4000000 in
set_option maxRecDepth 100000 in
theorem cX6_requireDirection_ok (l : Launch) (hl0 : l.stackTraces = false) (g : Gg) (p0 : Int32) (sz : Nat) {o : Except String (Unit)} (hf : fX6_requireDirection p0 = some o) : vx_Met l yX6_requireDirection wsX6_requireDirection rmX6_requireDirection (va_Pc [.int p0] (PM g ([] : va_W) sz)) (QXv g ([] : va_W) (va_A ([] : va_W) sz) o) (XE g ([] : va_W) (va_A ([] : va_W) sz) o) 1 6 (va_A ([] : va_W) sz) := by
  refine vx_ofW (cc := cX6_requireDirection) (maxL := 1) (ret := none) (by decide) rfl ?_
  intro p e s m args below meth c s₁ B hml hnt hv
  obtain ⟨rfl, rfl, hP, hD0, hE, hZ⟩ := hv
  have hx := B.exec
  have hb := B.bytes
  have hr := B.returns
  have hts := atoms_spec (ws := wsX6_requireDirection) B.pre
  have hown : s.vm.findClass RX6 = some m.cls := findClass_of_methodNamed B.named
  have hlocks := B.notSynchronized
  have hD := hD0.self (sz := s.heap.size)
  generalize hAe : (va_A ([] : va_W) s.heap.size) = A at hD hZ ⊢
  have hA : ∀ q : Nat, s.heap.size ≤ q → A q := fun q h => by rw [← hAe]; exact Or.inr h
  have hS : va_S A s.heap s.heap [] := va_S.rf
  have hP : va_P g.1 vwCl ([] : va_W) s.heap := hP
  have hl := lv_entry ([.int p0]) (n := 1) (Nat.le_of_ble_eq_true rfl)
  rw [lg_entry_eq]
  generalize (lg_sl ([.int p0]) ++ List.replicate (1 - (lg_sl ([.int p0])).length) Slot.unset).toArray = ls at hl ⊢
  have hl : lv_has ls 1 [(0, .int p0)] := hl
  unfold fX6_requireDirection at hf
  refine lv_iload_n hx hb dX6_requireDirection_0 rfl (lv_at hl 0 rfl) ?_
  obtain ⟨r_1, e_1, hf⟩ := bo hf
  refine pcallS (W0 := ([] : va_W)) (As := [.int p0]) (rest := []) [] ⟨hx, hb, hml, hown, hts⟩ hP hE hZ hS (cX6_isDirection_ok l g  p0 e_1) (va_cwS 1 hts gX6_requireDirection_X6_isDirection rfl rfl rfl hdX6_isDirection.2 ⟨(Nat.le_of_ble_eq_true rfl), (Nat.le_of_ble_eq_true rfl)⟩) rfl rfl hl.1 rfl (Nat.le_of_ble_eq_true rfl) ⟨(Nat.le_of_ble_eq_true rfl), (Nat.le_of_ble_eq_true rfl)⟩ dX6_requireDirection_1 ?_
  refine lv_bne (tgt := 18) hx hb dX6_requireDirection_4 (by decide) (fun c_2 => ?_) (fun c_2 => ?_)
  · have hf := ip c_2 hf
    exact x_vret hx hb hr hlocks hP hD hS ⟨(Nat.le_of_ble_eq_true rfl), (Nat.le_of_ble_eq_true rfl)⟩ (Option.some.inj hf).symm dX6_requireDirection_18
  · have hf := iq c_2 hf
    exact xthrowW (text := "direction is out of range") hl0 tfA hx hb hown hlocks hts tkX6_requireDirection_A tiX6_requireDirection_A taX6_requireDirection_A hE (by decide +kernel) hZ hP hD hS (hl.1.trans hml.symm) hnt dX6_requireDirection_7 dX6_requireDirection_10 dX6_requireDirection_11 dX6_requireDirection_14 dX6_requireDirection_17 ⟨(Nat.le_of_ble_eq_true rfl), (Nat.le_of_ble_eq_true rfl)⟩ (Nat.le_of_ble_eq_true rfl) ⟨(Nat.le_of_ble_eq_true rfl), (Nat.le_of_ble_eq_true rfl)⟩ ⟨(Nat.le_of_ble_eq_true rfl), (Nat.le_of_ble_eq_true rfl)⟩ (Option.some.inj hf).symm
