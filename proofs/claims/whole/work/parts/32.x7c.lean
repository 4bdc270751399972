def fX7_isLeft (μ : Mo) (p0 : Int32) : Option (Bool) := ((fX7_of μ p0 (3 : Int32)).bind fun r_1 => (if r_1 = (-1 : Int32) then (some false) else ((fX7_labelEnd μ p0).bind fun r_3 => ((fX7_of μ p0 (3 : Int32)).bind fun r_4 => ((fX7_at μ p0 r_4).bind fun r_5 => (if (irm r_5 (24 : Int32)) ≤ (irm r_3 (24 : Int32)) then (some false) else (some true)))))))
abbrev rmX7_isLeft : Room := { frames := 4, cells := 0, slots := 0, locals := 87 }
theorem hdX7_isLeft : yX7_isLeft.cls = RX7 ∧ yX7_isLeft.cls ≠ "java/lang/invoke/MethodHandle" ∧ yX7_isLeft.cls ≠ "java/lang/invoke/VarHandle" ∧ (parseMethodDescriptor yX7_isLeft.desc).map (fun d => d.parameters.length) = some 1 := by decide +kernel
set_option maxHeartbeats 4000000 in
set_option maxRecDepth 100000 in
theorem cX7_isLeft_ok (l : Launch) (g : Gg) (m0 m1 m2 m3 m4 : Nat) (μ : Mo) (p0 : Int32) {r : Bool} (hf : fX7_isLeft μ p0 = some r) : Met l yX7_isLeft wsX7_isLeft rmX7_isLeft (va_Pc [.ref m0, .int p0] (PP g (wM g m0 m1 m2 m3 m4 μ))) (vp_Si (fun r' => r' = b2i r)) 0 0 (fun _ => False) := by
  refine Met.ofW (cc := cX7_isLeft) (maxL := 2) (ret := (some .boolean)) (by decide) rfl ?_
  intro p e s m args below meth c s₁ B hml hv
  obtain ⟨rfl, hP, hE, hZ⟩ := hv
  have hx := B.exec
  have hb := B.bytes
  have hr := B.returns
  have hts := atoms_spec (ws := wsX7_isLeft) B.pre
  have hown : s.vm.findClass RX7 = some m.cls := findClass_of_methodNamed B.named
  have hlocks := B.notSynchronized
  have hS : va_S (fun _ => False) s.heap s.heap [] := va_S.rf
  have hl := lv_entry ([.ref m0, .int p0]) (n := 2) (Nat.le_of_ble_eq_true rfl)
  rw [lg_entry_eq]
  generalize (lg_sl ([.ref m0, .int p0]) ++ List.replicate (2 - (lg_sl ([.ref m0, .int p0])).length) Slot.unset).toArray = ls at hl ⊢
  have hl : lv_has ls 2 [(0, .ref m0), (1, .int p0)] := hl
  unfold fX7_isLeft at hf
  refine lv_aload_n hx hb dX7_isLeft_0 rfl (lv_at hl 0 rfl) ?_
  refine lv_iload_n hx hb dX7_isLeft_1 rfl (lv_at hl 1 rfl) ?_
  refine lv_iconst (v := (3 : Int32)) hx hb dX7_isLeft_2 (by decide) ?_
  obtain ⟨r_1, e_1, hf⟩ := bo hf
  refine pcallV (W0 := (wM g m0 m1 m2 m3 m4 μ)) (As := [.int p0, .int (3 : Int32)]) (rest := []) [0, 1, 2, 3, 4] 5 0 ⟨hx, hb, hml, hown, hts⟩ hP hE hZ hS (cX7_of_ok l g m0 m1 m2 m3 m4 μ p0 (3 : Int32) e_1) (cwV 2 hts gX7_isLeft_X7_of rfl rfl rfl hdX7_of ⟨(Nat.le_of_ble_eq_true rfl), (Nat.le_of_ble_eq_true rfl)⟩) rfl rfl rfl rfl rfl hl.1 rfl (Nat.le_of_ble_eq_true rfl) ⟨(Nat.le_of_ble_eq_true rfl), (Nat.le_of_ble_eq_true rfl)⟩ dX7_isLeft_3 ?_
  refine lv_iconst (v := (-1 : Int32)) hx hb dX7_isLeft_6 (by decide) ?_
  refine lv_icmp_eq (tgt := 39) hx hb dX7_isLeft_7 (by decide) (fun c_2 => ?_) (fun c_2 => ?_)
  · have hf := ip c_2 hf
    refine lv_iconst (v := (0 : Int32)) hx hb dX7_isLeft_39 (by decide) ?_
    exact p_zret (v := false) hx hb hr hlocks (Option.some.inj hf) dX7_isLeft_40
  · have hf := iq c_2 hf
    refine lv_aload_n hx hb dX7_isLeft_10 rfl (lv_at hl 0 rfl) ?_
    refine lv_iload_n hx hb dX7_isLeft_11 rfl (lv_at hl 1 rfl) ?_
    obtain ⟨r_3, e_3, hf⟩ := bo hf
    refine pcallV (W0 := (wM g m0 m1 m2 m3 m4 μ)) (As := [.int p0]) (rest := []) [0, 1, 2, 3, 4] 5 0 ⟨hx, hb, hml, hown, hts⟩ hP hE hZ hS (cX7_labelEnd_ok l g m0 m1 m2 m3 m4 μ p0 e_3) (cwV 1 hts gX7_isLeft_X7_labelEnd rfl rfl rfl hdX7_labelEnd ⟨(Nat.le_of_ble_eq_true rfl), (Nat.le_of_ble_eq_true rfl)⟩) rfl rfl rfl rfl rfl hl.1 rfl (Nat.le_of_ble_eq_true rfl) ⟨(Nat.le_of_ble_eq_true rfl), (Nat.le_of_ble_eq_true rfl)⟩ dX7_isLeft_12 ?_
    refine lv_bipush (v := (24 : Int32)) hx hb dX7_isLeft_15 (by decide) ?_
    refine lv_irm hx hb dX7_isLeft_17 (by decide) ?_
    refine lv_aload_n hx hb dX7_isLeft_18 rfl (lv_at hl 0 rfl) ?_
    refine lv_iload_n hx hb dX7_isLeft_19 rfl (lv_at hl 1 rfl) ?_
    refine lv_aload_n hx hb dX7_isLeft_20 rfl (lv_at hl 0 rfl) ?_
    refine lv_iload_n hx hb dX7_isLeft_21 rfl (lv_at hl 1 rfl) ?_
    refine lv_iconst (v := (3 : Int32)) hx hb dX7_isLeft_22 (by decide) ?_
    obtain ⟨r_4, e_4, hf⟩ := bo hf
    refine pcallV (W0 := (wM g m0 m1 m2 m3 m4 μ)) (As := [.int p0, .int (3 : Int32)]) (rest := [.int p0, .ref m0, .int (irm r_3 (24 : Int32))]) [0, 1, 2, 3, 4] 5 0 ⟨hx, hb, hml, hown, hts⟩ hP hE hZ hS (cX7_of_ok l g m0 m1 m2 m3 m4 μ p0 (3 : Int32) e_4) (cwV 2 hts gX7_isLeft_X7_of rfl rfl rfl hdX7_of ⟨(Nat.le_of_ble_eq_true rfl), (Nat.le_of_ble_eq_true rfl)⟩) rfl rfl rfl rfl rfl hl.1 rfl (Nat.le_of_ble_eq_true rfl) ⟨(Nat.le_of_ble_eq_true rfl), (Nat.le_of_ble_eq_true rfl)⟩ dX7_isLeft_23 ?_
    obtain ⟨r_5, e_5, hf⟩ := bo hf
    refine pcallV (W0 := (wM g m0 m1 m2 m3 m4 μ)) (As := [.int p0, .int r_4]) (rest := [.int (irm r_3 (24 : Int32))]) [0, 1, 2, 3, 4] 5 0 ⟨hx, hb, hml, hown, hts⟩ hP hE hZ hS (cX7_at_ok l g m0 m1 m2 m3 m4 μ p0 r_4 e_5) (cwV 2 hts gX7_isLeft_X7_at rfl rfl rfl hdX7_at ⟨(Nat.le_of_ble_eq_true rfl), (Nat.le_of_ble_eq_true rfl)⟩) rfl rfl rfl rfl rfl hl.1 rfl (Nat.le_of_ble_eq_true rfl) ⟨(Nat.le_of_ble_eq_true rfl), (Nat.le_of_ble_eq_true rfl)⟩ dX7_isLeft_26 ?_
    refine lv_bipush (v := (24 : Int32)) hx hb dX7_isLeft_29 (by decide) ?_
    refine lv_irm hx hb dX7_isLeft_31 (by decide) ?_
    refine lv_icmp_ge (tgt := 39) hx hb dX7_isLeft_32 (by decide) (fun c_6 => ?_) (fun c_6 => ?_)
    · have hf := ip c_6 hf
      refine lv_iconst (v := (0 : Int32)) hx hb dX7_isLeft_39 (by decide) ?_
      exact p_zret (v := false) hx hb hr hlocks (Option.some.inj hf) dX7_isLeft_40
    · have hf := iq c_6 hf
      refine lv_iconst (v := (1 : Int32)) hx hb dX7_isLeft_35 (by decide) ?_
      refine lv_goto (tgt := 40) hx hb dX7_isLeft_36 (by decide) ?_
      exact p_zret (v := true) hx hb hr hlocks (Option.some.inj hf) dX7_isLeft_40

def fX7_isTurned (μ : Mo) (p0 : Int32) : Option (Bool × Mo) := ((fX7_knows μ p0).bind fun r_1 => (if r_1.1 = true then ((fX7_isLeft r_1.2 p0).bind fun r_3 => (if r_3 = true then (some (true, r_1.2)) else (some (false, r_1.2)))) else (some (false, r_1.2))))
abbrev rmX7_isTurned : Room := { frames := 5, cells := 0, slots := 0, locals := 108 }
theorem hdX7_isTurned : yX7_isTurned.cls = RX7 ∧ yX7_isTurned.cls ≠ "java/lang/invoke/MethodHandle" ∧ yX7_isTurned.cls ≠ "java/lang/invoke/VarHandle" ∧ (parseMethodDescriptor yX7_isTurned.desc).map (fun d => d.parameters.length) = some 1 := by decide +kernel
set_option maxHeartbeats 4000000 in
set_option maxRecDepth 100000 in
theorem cX7_isTurned_ok (l : Launch) (g : Gg) (m0 m1 m2 m3 m4 : Nat) (μ : Mo) (p0 : Int32) (sz : Nat) {o : Bool × Mo} (hf : fX7_isTurned μ p0 = some o) : Met l yX7_isTurned wsX7_isTurned rmX7_isTurned (va_Pc [.ref m0, .int p0] (PM g (wM g m0 m1 m2 m3 m4 μ) sz)) (va_Qi (fun r' (_ : Unit) => r' = b2i o.1) (fun _ t => PQ g (wM g m0 m1 m2 m3 m4 o.2) (va_A (wM g m0 m1 m2 m3 m4 μ) sz) t) (va_A (wM g m0 m1 m2 m3 m4 μ) sz)) 0 0 (va_A (wM g m0 m1 m2 m3 m4 μ) sz) := by
  refine Met.ofW (cc := cX7_isTurned) (maxL := 2) (ret := (some .boolean)) (by decide) rfl ?_
  intro p e s m args below meth c s₁ B hml hv
  obtain ⟨rfl, rfl, hP, hD0, hE, hZ⟩ := hv
  have hx := B.exec
  have hb := B.bytes
  have hr := B.returns
  have hts := atoms_spec (ws := wsX7_isTurned) B.pre
  have hown : s.vm.findClass RX7 = some m.cls := findClass_of_methodNamed B.named
  have hlocks := B.notSynchronized
  have hD := hD0.self (sz := s.heap.size)
  generalize hAe : (va_A (wM g m0 m1 m2 m3 m4 μ) s.heap.size) = A at hD hZ ⊢
  have hA : ∀ q : Nat, s.heap.size ≤ q → A q := fun q h => by rw [← hAe]; exact Or.inr h
  have hS : va_S A s.heap s.heap [] := va_S.rf
  have hP : va_P g.1 vwCl (wM g m0 m1 m2 m3 m4 μ) s.heap := hP
  have hl := lv_entry ([.ref m0, .int p0]) (n := 2) (Nat.le_of_ble_eq_true rfl)
  rw [lg_entry_eq]
  generalize (lg_sl ([.ref m0, .int p0]) ++ List.replicate (2 - (lg_sl ([.ref m0, .int p0])).length) Slot.unset).toArray = ls at hl ⊢
  have hl : lv_has ls 2 [(0, .ref m0), (1, .int p0)] := hl
  unfold fX7_isTurned at hf
  refine lv_aload_n hx hb dX7_isTurned_0 rfl (lv_at hl 0 rfl) ?_
  refine lv_iload_n hx hb dX7_isTurned_1 rfl (lv_at hl 1 rfl) ?_
  obtain ⟨r_1, e_1, hf⟩ := bo hf
  refine mcallVi (W0 := (wM g m0 m1 m2 m3 m4 μ)) (Wc := (wM g m0 m1 m2 m3 m4 μ)) (Wr := ([] : va_W)) (W1 := (wM g m0 m1 m2 m3 m4 r_1.2)) (W2 := (wM g m0 m1 m2 m3 m4 r_1.2)) (As := [.int p0]) (rest := []) [0, 1, 2, 3, 4] [] [0, 1, 2, 3, 4] 5 0 ⟨hx, hb, hml, hown, hts⟩ hP hD hE hZ hS hA (cX7_knows_ok l g m0 m1 m2 m3 m4 μ p0 _ e_1) (cwV 1 hts gX7_isTurned_X7_knows rfl rfl rfl hdX7_knows ⟨(Nat.le_of_ble_eq_true rfl), (Nat.le_of_ble_eq_true rfl)⟩) rfl rfl rfl (by decide) (by decide) (by decide) (by decide) rfl rfl rfl rfl hl.1 rfl (Nat.le_of_ble_eq_true rfl) ⟨(Nat.le_of_ble_eq_true rfl), (Nat.le_of_ble_eq_true rfl)⟩ dX7_isTurned_2 (fun H locs hP hD hS => ?_)
  refine lv_beq (tgt := 20) hx hb dX7_isTurned_5 (by decide) (fun c_2 => ?_) (fun c_2 => ?_)
  · have hf := iq c_2 hf
    refine lv_iconst (v := (0 : Int32)) hx hb dX7_isTurned_20 (by decide) ?_
    have ho := Option.some.inj hf
    subst ho
    exact m_zret (v := false) hx hb hr hlocks hP hD hS rfl dX7_isTurned_21
  · have hf := ip c_2 hf
    refine lv_aload_n hx hb dX7_isTurned_8 rfl (lv_at hl 0 rfl) ?_
    refine lv_iload_n hx hb dX7_isTurned_9 rfl (lv_at hl 1 rfl) ?_
    obtain ⟨r_3, e_3, hf⟩ := bo hf
    refine pcallV (W0 := (wM g m0 m1 m2 m3 m4 r_1.2)) (As := [.int p0]) (rest := []) [0, 1, 2, 3, 4] 5 0 ⟨hx, hb, hml, hown, hts⟩ hP hE hZ hS (cX7_isLeft_ok l g m0 m1 m2 m3 m4 r_1.2 p0 e_3) (cwV 1 hts gX7_isTurned_X7_isLeft rfl rfl rfl hdX7_isLeft ⟨(Nat.le_of_ble_eq_true rfl), (Nat.le_of_ble_eq_true rfl)⟩) rfl rfl rfl rfl rfl hl.1 rfl (Nat.le_of_ble_eq_true rfl) ⟨(Nat.le_of_ble_eq_true rfl), (Nat.le_of_ble_eq_true rfl)⟩ dX7_isTurned_10 ?_
    refine lv_beq (tgt := 20) hx hb dX7_isTurned_13 (by decide) (fun c_4 => ?_) (fun c_4 => ?_)
    · have hf := iq c_4 hf
      refine lv_iconst (v := (0 : Int32)) hx hb dX7_isTurned_20 (by decide) ?_
      have ho := Option.some.inj hf
      subst ho
      exact m_zret (v := false) hx hb hr hlocks hP hD hS rfl dX7_isTurned_21
    · have hf := ip c_4 hf
      refine lv_iconst (v := (1 : Int32)) hx hb dX7_isTurned_16 (by decide) ?_
      refine lv_goto (tgt := 21) hx hb dX7_isTurned_17 (by decide) ?_
      have ho := Option.some.inj hf
      subst ho
      exact m_zret (v := true) hx hb hr hlocks hP hD hS rfl dX7_isTurned_21

def fX7_readFrom (μ : Mo) (p0 : Int32) : Option (Int32 × Mo) := ((fX7_knows μ p0).bind fun r_1 => (if r_1.1 = true then ((fX7_of r_1.2 p0 (3 : Int32)).bind fun r_3 => (if r_3 = (-1 : Int32) then (some ((-1 : Int32), r_1.2)) else ((fX7_isLeft r_1.2 p0).bind fun r_5 => (if r_5 = true then ((fX7_labelEnd r_1.2 p0).bind fun r_9 => (some (r_9, r_1.2))) else ((fX7_of r_1.2 p0 (3 : Int32)).bind fun r_7 => ((fX7_at r_1.2 p0 r_7).bind fun r_8 => (some (r_8, r_1.2)))))))) else (some ((0 : Int32), r_1.2))))
abbrev rmX7_readFrom : Room := { frames := 5, cells := 0, slots := 0, locals := 108 }
theorem hdX7_readFrom : yX7_readFrom.cls = RX7 ∧ yX7_readFrom.cls ≠ "java/lang/invoke/MethodHandle" ∧ yX7_readFrom.cls ≠ "java/lang/invoke/VarHandle" ∧ (parseMethodDescriptor yX7_readFrom.desc).map (fun d => d.parameters.length) = some 1 := by decide +kernel
set_option maxHeartbeats 4000000 in
set_option maxRecDepth 100000 in
theorem cX7_readFrom_ok (l : Launch) (g : Gg) (m0 m1 m2 m3 m4 : Nat) (μ : Mo) (p0 : Int32) (sz : Nat) {o : Int32 × Mo} (hf : fX7_readFrom μ p0 = some o) : Met l yX7_readFrom wsX7_readFrom rmX7_readFrom (va_Pc [.ref m0, .int p0] (PM g (wM g m0 m1 m2 m3 m4 μ) sz)) (va_Qi (fun r' (_ : Unit) => r' = o.1) (fun _ t => PQ g (wM g m0 m1 m2 m3 m4 o.2) (va_A (wM g m0 m1 m2 m3 m4 μ) sz) t) (va_A (wM g m0 m1 m2 m3 m4 μ) sz)) 0 0 (va_A (wM g m0 m1 m2 m3 m4 μ) sz) := by
  refine Met.ofW (cc := cX7_readFrom) (maxL := 2) (ret := (some .int)) (by decide) rfl ?_
  intro p e s m args below meth c s₁ B hml hv
  obtain ⟨rfl, rfl, hP, hD0, hE, hZ⟩ := hv
  have hx := B.exec
  have hb := B.bytes
  have hr := B.returns
  have hts := atoms_spec (ws := wsX7_readFrom) B.pre
  have hown : s.vm.findClass RX7 = some m.cls := findClass_of_methodNamed B.named
  have hlocks := B.notSynchronized
  have hD := hD0.self (sz := s.heap.size)
  generalize hAe : (va_A (wM g m0 m1 m2 m3 m4 μ) s.heap.size) = A at hD hZ ⊢
  have hA : ∀ q : Nat, s.heap.size ≤ q → A q := fun q h => by rw [← hAe]; exact Or.inr h
  have hS : va_S A s.heap s.heap [] := va_S.rf
  have hP : va_P g.1 vwCl (wM g m0 m1 m2 m3 m4 μ) s.heap := hP
  have hl := lv_entry ([.ref m0, .int p0]) (n := 2) (Nat.le_of_ble_eq_true rfl)
  rw [lg_entry_eq]
  generalize (lg_sl ([.ref m0, .int p0]) ++ List.replicate (2 - (lg_sl ([.ref m0, .int p0])).length) Slot.unset).toArray = ls at hl ⊢
  have hl : lv_has ls 2 [(0, .ref m0), (1, .int p0)] := hl
  unfold fX7_readFrom at hf
  refine lv_aload_n hx hb dX7_readFrom_0 rfl (lv_at hl 0 rfl) ?_
  refine lv_iload_n hx hb dX7_readFrom_1 rfl (lv_at hl 1 rfl) ?_
  obtain ⟨r_1, e_1, hf⟩ := bo hf
  refine mcallVi (W0 := (wM g m0 m1 m2 m3 m4 μ)) (Wc := (wM g m0 m1 m2 m3 m4 μ)) (Wr := ([] : va_W)) (W1 := (wM g m0 m1 m2 m3 m4 r_1.2)) (W2 := (wM g m0 m1 m2 m3 m4 r_1.2)) (As := [.int p0]) (rest := []) [0, 1, 2, 3, 4] [] [0, 1, 2, 3, 4] 5 0 ⟨hx, hb, hml, hown, hts⟩ hP hD hE hZ hS hA (cX7_knows_ok l g m0 m1 m2 m3 m4 μ p0 _ e_1) (cwV 1 hts gX7_readFrom_X7_knows rfl rfl rfl hdX7_knows ⟨(Nat.le_of_ble_eq_true rfl), (Nat.le_of_ble_eq_true rfl)⟩) rfl rfl rfl (by decide) (by decide) (by decide) (by decide) rfl rfl rfl rfl hl.1 rfl (Nat.le_of_ble_eq_true rfl) ⟨(Nat.le_of_ble_eq_true rfl), (Nat.le_of_ble_eq_true rfl)⟩ dX7_readFrom_2 (fun H locs hP hD hS => ?_)
  refine lv_bne (tgt := 10) hx hb dX7_readFrom_5 (by decide) (fun c_2 => ?_) (fun c_2 => ?_)
  · have hf := ip c_2 hf
    refine lv_aload_n hx hb dX7_readFrom_10 rfl (lv_at hl 0 rfl) ?_
    refine lv_iload_n hx hb dX7_readFrom_11 rfl (lv_at hl 1 rfl) ?_
    refine lv_iconst (v := (3 : Int32)) hx hb dX7_readFrom_12 (by decide) ?_
    obtain ⟨r_3, e_3, hf⟩ := bo hf
    refine pcallV (W0 := (wM g m0 m1 m2 m3 m4 r_1.2)) (As := [.int p0, .int (3 : Int32)]) (rest := []) [0, 1, 2, 3, 4] 5 0 ⟨hx, hb, hml, hown, hts⟩ hP hE hZ hS (cX7_of_ok l g m0 m1 m2 m3 m4 r_1.2 p0 (3 : Int32) e_3) (cwV 2 hts gX7_readFrom_X7_of rfl rfl rfl hdX7_of ⟨(Nat.le_of_ble_eq_true rfl), (Nat.le_of_ble_eq_true rfl)⟩) rfl rfl rfl rfl rfl hl.1 rfl (Nat.le_of_ble_eq_true rfl) ⟨(Nat.le_of_ble_eq_true rfl), (Nat.le_of_ble_eq_true rfl)⟩ dX7_readFrom_13 ?_
    refine lv_iconst (v := (-1 : Int32)) hx hb dX7_readFrom_16 (by decide) ?_
    refine lv_icmp_ne (tgt := 24) hx hb dX7_readFrom_17 (by decide) (fun c_4 => ?_) (fun c_4 => ?_)
    · have hf := iq c_4 hf
      refine lv_aload_n hx hb dX7_readFrom_24 rfl (lv_at hl 0 rfl) ?_
      refine lv_iload_n hx hb dX7_readFrom_25 rfl (lv_at hl 1 rfl) ?_
      obtain ⟨r_5, e_5, hf⟩ := bo hf
      refine pcallV (W0 := (wM g m0 m1 m2 m3 m4 r_1.2)) (As := [.int p0]) (rest := []) [0, 1, 2, 3, 4] 5 0 ⟨hx, hb, hml, hown, hts⟩ hP hE hZ hS (cX7_isLeft_ok l g m0 m1 m2 m3 m4 r_1.2 p0 e_5) (cwV 1 hts gX7_readFrom_X7_isLeft rfl rfl rfl hdX7_isLeft ⟨(Nat.le_of_ble_eq_true rfl), (Nat.le_of_ble_eq_true rfl)⟩) rfl rfl rfl rfl rfl hl.1 rfl (Nat.le_of_ble_eq_true rfl) ⟨(Nat.le_of_ble_eq_true rfl), (Nat.le_of_ble_eq_true rfl)⟩ dX7_readFrom_26 ?_
      refine lv_beq (tgt := 40) hx hb dX7_readFrom_29 (by decide) (fun c_6 => ?_) (fun c_6 => ?_)
      · have hf := iq c_6 hf
        refine lv_aload_n hx hb dX7_readFrom_40 rfl (lv_at hl 0 rfl) ?_
        refine lv_iload_n hx hb dX7_readFrom_41 rfl (lv_at hl 1 rfl) ?_
        refine lv_aload_n hx hb dX7_readFrom_42 rfl (lv_at hl 0 rfl) ?_
        refine lv_iload_n hx hb dX7_readFrom_43 rfl (lv_at hl 1 rfl) ?_
        refine lv_iconst (v := (3 : Int32)) hx hb dX7_readFrom_44 (by decide) ?_
        obtain ⟨r_7, e_7, hf⟩ := bo hf
        refine pcallV (W0 := (wM g m0 m1 m2 m3 m4 r_1.2)) (As := [.int p0, .int (3 : Int32)]) (rest := [.int p0, .ref m0]) [0, 1, 2, 3, 4] 5 0 ⟨hx, hb, hml, hown, hts⟩ hP hE hZ hS (cX7_of_ok l g m0 m1 m2 m3 m4 r_1.2 p0 (3 : Int32) e_7) (cwV 2 hts gX7_readFrom_X7_of rfl rfl rfl hdX7_of ⟨(Nat.le_of_ble_eq_true rfl), (Nat.le_of_ble_eq_true rfl)⟩) rfl rfl rfl rfl rfl hl.1 rfl (Nat.le_of_ble_eq_true rfl) ⟨(Nat.le_of_ble_eq_true rfl), (Nat.le_of_ble_eq_true rfl)⟩ dX7_readFrom_45 ?_
        obtain ⟨r_8, e_8, hf⟩ := bo hf
        refine pcallV (W0 := (wM g m0 m1 m2 m3 m4 r_1.2)) (As := [.int p0, .int r_7]) (rest := []) [0, 1, 2, 3, 4] 5 0 ⟨hx, hb, hml, hown, hts⟩ hP hE hZ hS (cX7_at_ok l g m0 m1 m2 m3 m4 r_1.2 p0 r_7 e_8) (cwV 2 hts gX7_readFrom_X7_at rfl rfl rfl hdX7_at ⟨(Nat.le_of_ble_eq_true rfl), (Nat.le_of_ble_eq_true rfl)⟩) rfl rfl rfl rfl rfl hl.1 rfl (Nat.le_of_ble_eq_true rfl) ⟨(Nat.le_of_ble_eq_true rfl), (Nat.le_of_ble_eq_true rfl)⟩ dX7_readFrom_48 ?_
        have ho := Option.some.inj hf
        subst ho
        exact m_iret (v := r_8) hx hb hr hlocks hP hD hS rfl dX7_readFrom_51
      · have hf := ip c_6 hf
        refine lv_aload_n hx hb dX7_readFrom_32 rfl (lv_at hl 0 rfl) ?_
        refine lv_iload_n hx hb dX7_readFrom_33 rfl (lv_at hl 1 rfl) ?_
        obtain ⟨r_9, e_9, hf⟩ := bo hf
        refine pcallV (W0 := (wM g m0 m1 m2 m3 m4 r_1.2)) (As := [.int p0]) (rest := []) [0, 1, 2, 3, 4] 5 0 ⟨hx, hb, hml, hown, hts⟩ hP hE hZ hS (cX7_labelEnd_ok l g m0 m1 m2 m3 m4 r_1.2 p0 e_9) (cwV 1 hts gX7_readFrom_X7_labelEnd rfl rfl rfl hdX7_labelEnd ⟨(Nat.le_of_ble_eq_true rfl), (Nat.le_of_ble_eq_true rfl)⟩) rfl rfl rfl rfl rfl hl.1 rfl (Nat.le_of_ble_eq_true rfl) ⟨(Nat.le_of_ble_eq_true rfl), (Nat.le_of_ble_eq_true rfl)⟩ dX7_readFrom_34 ?_
        refine lv_goto (tgt := 51) hx hb dX7_readFrom_37 (by decide) ?_
        have ho := Option.some.inj hf
        subst ho
        exact m_iret (v := r_9) hx hb hr hlocks hP hD hS rfl dX7_readFrom_51
    · have hf := ip c_4 hf
      refine lv_iconst (v := (-1 : Int32)) hx hb dX7_readFrom_20 (by decide) ?_
      refine lv_goto (tgt := 51) hx hb dX7_readFrom_21 (by decide) ?_
      have ho := Option.some.inj hf
      subst ho
      exact m_iret (v := (-1 : Int32)) hx hb hr hlocks hP hD hS rfl dX7_readFrom_51
  · have hf := iq c_2 hf
    refine lv_iconst (v := (0 : Int32)) hx hb dX7_readFrom_8 (by decide) ?_
    have ho := Option.some.inj hf
    subst ho
    exact m_iret (v := (0 : Int32)) hx hb hr hlocks hP hD hS rfl dX7_readFrom_9

def fX7_sizeOf (μ : Mo) (p0 : Int32) : Option (Int32 × Mo) := ((fX7_knows μ p0).bind fun r_1 => (if r_1.1 = true then ((fX7_size r_1.2 p0).bind fun r_3 => (some (r_3, r_1.2))) else (some ((0 : Int32), r_1.2))))
abbrev rmX7_sizeOf : Room := { frames := 3, cells := 0, slots := 0, locals := 64 }
theorem hdX7_sizeOf : yX7_sizeOf.cls = RX7 ∧ yX7_sizeOf.cls ≠ "java/lang/invoke/MethodHandle" ∧ yX7_sizeOf.cls ≠ "java/lang/invoke/VarHandle" ∧ (parseMethodDescriptor yX7_sizeOf.desc).map (fun d => d.parameters.length) = some 1 := by decide +kernel
set_option maxHeartbeats 4000000 in
set_option maxRecDepth 100000 in
theorem cX7_sizeOf_ok (l : Launch) (g : Gg) (m0 m1 m2 m3 m4 : Nat) (μ : Mo) (p0 : Int32) (sz : Nat) {o : Int32 × Mo} (hf : fX7_sizeOf μ p0 = some o) : Met l yX7_sizeOf wsX7_sizeOf rmX7_sizeOf (va_Pc [.ref m0, .int p0] (PM g (wM g m0 m1 m2 m3 m4 μ) sz)) (va_Qi (fun r' (_ : Unit) => r' = o.1) (fun _ t => PQ g (wM g m0 m1 m2 m3 m4 o.2) (va_A (wM g m0 m1 m2 m3 m4 μ) sz) t) (va_A (wM g m0 m1 m2 m3 m4 μ) sz)) 0 0 (va_A (wM g m0 m1 m2 m3 m4 μ) sz) := by
  refine Met.ofW (cc := cX7_sizeOf) (maxL := 2) (ret := (some .int)) (by decide) rfl ?_
  intro p e s m args below meth c s₁ B hml hv
  obtain ⟨rfl, rfl, hP, hD0, hE, hZ⟩ := hv
  have hx := B.exec
  have hb := B.bytes
  have hr := B.returns
  have hts := atoms_spec (ws := wsX7_sizeOf) B.pre
  have hown : s.vm.findClass RX7 = some m.cls := findClass_of_methodNamed B.named
  have hlocks := B.notSynchronized
  have hD := hD0.self (sz := s.heap.size)
  generalize hAe : (va_A (wM g m0 m1 m2 m3 m4 μ) s.heap.size) = A at hD hZ ⊢
  have hA : ∀ q : Nat, s.heap.size ≤ q → A q := fun q h => by rw [← hAe]; exact Or.inr h
  have hS : va_S A s.heap s.heap [] := va_S.rf
  have hP : va_P g.1 vwCl (wM g m0 m1 m2 m3 m4 μ) s.heap := hP
  have hl := lv_entry ([.ref m0, .int p0]) (n := 2) (Nat.le_of_ble_eq_true rfl)
  rw [lg_entry_eq]
  generalize (lg_sl ([.ref m0, .int p0]) ++ List.replicate (2 - (lg_sl ([.ref m0, .int p0])).length) Slot.unset).toArray = ls at hl ⊢
  have hl : lv_has ls 2 [(0, .ref m0), (1, .int p0)] := hl
  unfold fX7_sizeOf at hf
  refine lv_aload_n hx hb dX7_sizeOf_0 rfl (lv_at hl 0 rfl) ?_
  refine lv_iload_n hx hb dX7_sizeOf_1 rfl (lv_at hl 1 rfl) ?_
  obtain ⟨r_1, e_1, hf⟩ := bo hf
  refine mcallVi (W0 := (wM g m0 m1 m2 m3 m4 μ)) (Wc := (wM g m0 m1 m2 m3 m4 μ)) (Wr := ([] : va_W)) (W1 := (wM g m0 m1 m2 m3 m4 r_1.2)) (W2 := (wM g m0 m1 m2 m3 m4 r_1.2)) (As := [.int p0]) (rest := []) [0, 1, 2, 3, 4] [] [0, 1, 2, 3, 4] 5 0 ⟨hx, hb, hml, hown, hts⟩ hP hD hE hZ hS hA (cX7_knows_ok l g m0 m1 m2 m3 m4 μ p0 _ e_1) (cwV 1 hts gX7_sizeOf_X7_knows rfl rfl rfl hdX7_knows ⟨(Nat.le_of_ble_eq_true rfl), (Nat.le_of_ble_eq_true rfl)⟩) rfl rfl rfl (by decide) (by decide) (by decide) (by decide) rfl rfl rfl rfl hl.1 rfl (Nat.le_of_ble_eq_true rfl) ⟨(Nat.le_of_ble_eq_true rfl), (Nat.le_of_ble_eq_true rfl)⟩ dX7_sizeOf_2 (fun H locs hP hD hS => ?_)
  refine lv_beq (tgt := 16) hx hb dX7_sizeOf_5 (by decide) (fun c_2 => ?_) (fun c_2 => ?_)
  · have hf := iq c_2 hf
    refine lv_iconst (v := (0 : Int32)) hx hb dX7_sizeOf_16 (by decide) ?_
    have ho := Option.some.inj hf
    subst ho
    exact m_iret (v := (0 : Int32)) hx hb hr hlocks hP hD hS rfl dX7_sizeOf_17
  · have hf := ip c_2 hf
    refine lv_aload_n hx hb dX7_sizeOf_8 rfl (lv_at hl 0 rfl) ?_
    refine lv_iload_n hx hb dX7_sizeOf_9 rfl (lv_at hl 1 rfl) ?_
    obtain ⟨r_3, e_3, hf⟩ := bo hf
    refine pcallV (W0 := (wM g m0 m1 m2 m3 m4 r_1.2)) (As := [.int p0]) (rest := []) [0, 1, 2, 3, 4] 5 0 ⟨hx, hb, hml, hown, hts⟩ hP hE hZ hS (cX7_size_ok l g m0 m1 m2 m3 m4 r_1.2 p0 e_3) (cwV 1 hts gX7_sizeOf_X7_size rfl rfl rfl hdX7_size ⟨(Nat.le_of_ble_eq_true rfl), (Nat.le_of_ble_eq_true rfl)⟩) rfl rfl rfl rfl rfl hl.1 rfl (Nat.le_of_ble_eq_true rfl) ⟨(Nat.le_of_ble_eq_true rfl), (Nat.le_of_ble_eq_true rfl)⟩ dX7_sizeOf_10 ?_
    refine lv_goto (tgt := 17) hx hb dX7_sizeOf_13 (by decide) ?_
    have ho := Option.some.inj hf
    subst ho
    exact m_iret (v := r_3) hx hb hr hlocks hP hD hS rfl dX7_sizeOf_17

def fX7_bendOf (μ : Mo) (p0 p1 : Int32) : Option (Int32 × Mo) := ((fX7_has μ p0 p1).bind fun r_1 => (if r_1.1 = true then ((fX7_isPlace r_1.2 p0 p1).bind fun r_3 => (if r_3 = true then ((fX7_bends r_1.2 p0 p1).bind fun r_5 => (some (r_5, r_1.2))) else (some ((-1 : Int32), r_1.2)))) else (some ((0 : Int32), r_1.2))))
abbrev rmX7_bendOf : Room := { frames := 7, cells := 0, slots := 0, locals := 155 }
theorem hdX7_bendOf : yX7_bendOf.cls = RX7 ∧ yX7_bendOf.cls ≠ "java/lang/invoke/MethodHandle" ∧ yX7_bendOf.cls ≠ "java/lang/invoke/VarHandle" ∧ (parseMethodDescriptor yX7_bendOf.desc).map (fun d => d.parameters.length) = some 2 := by decide +kernel
set_option maxHeartbeats 4000000 in
set_option maxRecDepth 100000 in
theorem cX7_bendOf_ok (l : Launch) (g : Gg) (m0 m1 m2 m3 m4 : Nat) (μ : Mo) (p0 p1 : Int32) (sz : Nat) {o : Int32 × Mo} (hf : fX7_bendOf μ p0 p1 = some o) : Met l yX7_bendOf wsX7_bendOf rmX7_bendOf (va_Pc [.ref m0, .int p0, .int p1] (PM g (wM g m0 m1 m2 m3 m4 μ) sz)) (va_Qi (fun r' (_ : Unit) => r' = o.1) (fun _ t => PQ g (wM g m0 m1 m2 m3 m4 o.2) (va_A (wM g m0 m1 m2 m3 m4 μ) sz) t) (va_A (wM g m0 m1 m2 m3 m4 μ) sz)) 0 0 (va_A (wM g m0 m1 m2 m3 m4 μ) sz) := by
  refine Met.ofW (cc := cX7_bendOf) (maxL := 3) (ret := (some .int)) (by decide) rfl ?_
  intro p e s m args below meth c s₁ B hml hv
  obtain ⟨rfl, rfl, hP, hD0, hE, hZ⟩ := hv
  have hx := B.exec
  have hb := B.bytes
  have hr := B.returns
  have hts := atoms_spec (ws := wsX7_bendOf) B.pre
  have hown : s.vm.findClass RX7 = some m.cls := findClass_of_methodNamed B.named
  have hlocks := B.notSynchronized
  have hD := hD0.self (sz := s.heap.size)
  generalize hAe : (va_A (wM g m0 m1 m2 m3 m4 μ) s.heap.size) = A at hD hZ ⊢
  have hA : ∀ q : Nat, s.heap.size ≤ q → A q := fun q h => by rw [← hAe]; exact Or.inr h
  have hS : va_S A s.heap s.heap [] := va_S.rf
  have hP : va_P g.1 vwCl (wM g m0 m1 m2 m3 m4 μ) s.heap := hP
  have hl := lv_entry ([.ref m0, .int p0, .int p1]) (n := 3) (Nat.le_of_ble_eq_true rfl)
  rw [lg_entry_eq]
  generalize (lg_sl ([.ref m0, .int p0, .int p1]) ++ List.replicate (3 - (lg_sl ([.ref m0, .int p0, .int p1])).length) Slot.unset).toArray = ls at hl ⊢
  have hl : lv_has ls 3 [(0, .ref m0), (1, .int p0), (2, .int p1)] := hl
  unfold fX7_bendOf at hf
  refine lv_aload_n hx hb dX7_bendOf_0 rfl (lv_at hl 0 rfl) ?_
  refine lv_iload_n hx hb dX7_bendOf_1 rfl (lv_at hl 1 rfl) ?_
  refine lv_iload_n hx hb dX7_bendOf_2 rfl (lv_at hl 2 rfl) ?_
  obtain ⟨r_1, e_1, hf⟩ := bo hf
  refine mcallVi (W0 := (wM g m0 m1 m2 m3 m4 μ)) (Wc := (wM g m0 m1 m2 m3 m4 μ)) (Wr := ([] : va_W)) (W1 := (wM g m0 m1 m2 m3 m4 r_1.2)) (W2 := (wM g m0 m1 m2 m3 m4 r_1.2)) (As := [.int p0, .int p1]) (rest := []) [0, 1, 2, 3, 4] [] [0, 1, 2, 3, 4] 5 0 ⟨hx, hb, hml, hown, hts⟩ hP hD hE hZ hS hA (cX7_has_ok l g m0 m1 m2 m3 m4 μ p0 p1 _ e_1) (cwV 2 hts gX7_bendOf_X7_has rfl rfl rfl hdX7_has ⟨(Nat.le_of_ble_eq_true rfl), (Nat.le_of_ble_eq_true rfl)⟩) rfl rfl rfl (by decide) (by decide) (by decide) (by decide) rfl rfl rfl rfl hl.1 rfl (Nat.le_of_ble_eq_true rfl) ⟨(Nat.le_of_ble_eq_true rfl), (Nat.le_of_ble_eq_true rfl)⟩ dX7_bendOf_3 (fun H locs hP hD hS => ?_)
  refine lv_bne (tgt := 11) hx hb dX7_bendOf_6 (by decide) (fun c_2 => ?_) (fun c_2 => ?_)
  · have hf := ip c_2 hf
    refine lv_aload_n hx hb dX7_bendOf_11 rfl (lv_at hl 0 rfl) ?_
    refine lv_iload_n hx hb dX7_bendOf_12 rfl (lv_at hl 1 rfl) ?_
    refine lv_iload_n hx hb dX7_bendOf_13 rfl (lv_at hl 2 rfl) ?_
    obtain ⟨r_3, e_3, hf⟩ := bo hf
    refine pcallV (W0 := (wM g m0 m1 m2 m3 m4 r_1.2)) (As := [.int p0, .int p1]) (rest := []) [0, 1, 2, 3, 4] 5 0 ⟨hx, hb, hml, hown, hts⟩ hP hE hZ hS (cX7_isPlace_ok l g m0 m1 m2 m3 m4 r_1.2 p0 p1 e_3) (cwV 2 hts gX7_bendOf_X7_isPlace rfl rfl rfl hdX7_isPlace ⟨(Nat.le_of_ble_eq_true rfl), (Nat.le_of_ble_eq_true rfl)⟩) rfl rfl rfl rfl rfl hl.1 rfl (Nat.le_of_ble_eq_true rfl) ⟨(Nat.le_of_ble_eq_true rfl), (Nat.le_of_ble_eq_true rfl)⟩ dX7_bendOf_14 ?_
    refine lv_beq (tgt := 29) hx hb dX7_bendOf_17 (by decide) (fun c_4 => ?_) (fun c_4 => ?_)
    · have hf := iq c_4 hf
      refine lv_iconst (v := (-1 : Int32)) hx hb dX7_bendOf_29 (by decide) ?_
      have ho := Option.some.inj hf
      subst ho
      exact m_iret (v := (-1 : Int32)) hx hb hr hlocks hP hD hS rfl dX7_bendOf_30
    · have hf := ip c_4 hf
      refine lv_aload_n hx hb dX7_bendOf_20 rfl (lv_at hl 0 rfl) ?_
      refine lv_iload_n hx hb dX7_bendOf_21 rfl (lv_at hl 1 rfl) ?_
      refine lv_iload_n hx hb dX7_bendOf_22 rfl (lv_at hl 2 rfl) ?_
      obtain ⟨r_5, e_5, hf⟩ := bo hf
      refine pcallV (W0 := (wM g m0 m1 m2 m3 m4 r_1.2)) (As := [.int p0, .int p1]) (rest := []) [0, 1, 2, 3, 4] 5 0 ⟨hx, hb, hml, hown, hts⟩ hP hE hZ hS (cX7_bends_ok l g m0 m1 m2 m3 m4 r_1.2 p0 p1 e_5) (cwV 2 hts gX7_bendOf_X7_bends rfl rfl rfl hdX7_bends ⟨(Nat.le_of_ble_eq_true rfl), (Nat.le_of_ble_eq_true rfl)⟩) rfl rfl rfl rfl rfl hl.1 rfl (Nat.le_of_ble_eq_true rfl) ⟨(Nat.le_of_ble_eq_true rfl), (Nat.le_of_ble_eq_true rfl)⟩ dX7_bendOf_23 ?_
      refine lv_goto (tgt := 30) hx hb dX7_bendOf_26 (by decide) ?_
      have ho := Option.some.inj hf
      subst ho
      exact m_iret (v := r_5) hx hb hr hlocks hP hD hS rfl dX7_bendOf_30
  · have hf := iq c_2 hf
    refine lv_iconst (v := (0 : Int32)) hx hb dX7_bendOf_9 (by decide) ?_
    have ho := Option.some.inj hf
    subst ho
    exact m_iret (v := (0 : Int32)) hx hb hr hlocks hP hD hS rfl dX7_bendOf_10

def fX7_whyNotLabelled (μ : Mo) (p0 p1 : Int32) : Option (Int32 × Mo) := ((fX7_has μ p0 p1).bind fun r_1 => (if r_1.1 = true then ((fX7_whyNoLabel r_1.2 p0 p1).bind fun r_3 => (some (r_3, r_1.2))) else (some ((0 : Int32), r_1.2))))
abbrev rmX7_whyNotLabelled : Room := { frames := 8, cells := 0, slots := 0, locals := 179 }
theorem hdX7_whyNotLabelled : yX7_whyNotLabelled.cls = RX7 ∧ yX7_whyNotLabelled.cls ≠ "java/lang/invoke/MethodHandle" ∧ yX7_whyNotLabelled.cls ≠ "java/lang/invoke/VarHandle" ∧ (parseMethodDescriptor yX7_whyNotLabelled.desc).map (fun d => d.parameters.length) = some 2 := by decide +kernel
set_option maxHeartbeats 4000000 in
set_option maxRecDepth 100000 in
theorem cX7_whyNotLabelled_ok (l : Launch) (g : Gg) (m0 m1 m2 m3 m4 : Nat) (μ : Mo) (p0 p1 : Int32) (sz : Nat) {o : Int32 × Mo} (hf : fX7_whyNotLabelled μ p0 p1 = some o) : Met l yX7_whyNotLabelled wsX7_whyNotLabelled rmX7_whyNotLabelled (va_Pc [.ref m0, .int p0, .int p1] (PM g (wM g m0 m1 m2 m3 m4 μ) sz)) (va_Qi (fun r' (_ : Unit) => r' = o.1) (fun _ t => PQ g (wM g m0 m1 m2 m3 m4 o.2) (va_A (wM g m0 m1 m2 m3 m4 μ) sz) t) (va_A (wM g m0 m1 m2 m3 m4 μ) sz)) 0 0 (va_A (wM g m0 m1 m2 m3 m4 μ) sz) := by
  refine Met.ofW (cc := cX7_whyNotLabelled) (maxL := 3) (ret := (some .int)) (by decide) rfl ?_
  intro p e s m args below meth c s₁ B hml hv
  obtain ⟨rfl, rfl, hP, hD0, hE, hZ⟩ := hv
  have hx := B.exec
  have hb := B.bytes
  have hr := B.returns
  have hts := atoms_spec (ws := wsX7_whyNotLabelled) B.pre
  have hown : s.vm.findClass RX7 = some m.cls := findClass_of_methodNamed B.named
  have hlocks := B.notSynchronized
  have hD := hD0.self (sz := s.heap.size)
  generalize hAe : (va_A (wM g m0 m1 m2 m3 m4 μ) s.heap.size) = A at hD hZ ⊢
  have hA : ∀ q : Nat, s.heap.size ≤ q → A q := fun q h => by rw [← hAe]; exact Or.inr h
  have hS : va_S A s.heap s.heap [] := va_S.rf
  have hP : va_P g.1 vwCl (wM g m0 m1 m2 m3 m4 μ) s.heap := hP
  have hl := lv_entry ([.ref m0, .int p0, .int p1]) (n := 3) (Nat.le_of_ble_eq_true rfl)
  rw [lg_entry_eq]
  generalize (lg_sl ([.ref m0, .int p0, .int p1]) ++ List.replicate (3 - (lg_sl ([.ref m0, .int p0, .int p1])).length) Slot.unset).toArray = ls at hl ⊢
  have hl : lv_has ls 3 [(0, .ref m0), (1, .int p0), (2, .int p1)] := hl
  unfold fX7_whyNotLabelled at hf
  refine lv_aload_n hx hb dX7_whyNotLabelled_0 rfl (lv_at hl 0 rfl) ?_
  refine lv_iload_n hx hb dX7_whyNotLabelled_1 rfl (lv_at hl 1 rfl) ?_
  refine lv_iload_n hx hb dX7_whyNotLabelled_2 rfl (lv_at hl 2 rfl) ?_
  obtain ⟨r_1, e_1, hf⟩ := bo hf
  refine mcallVi (W0 := (wM g m0 m1 m2 m3 m4 μ)) (Wc := (wM g m0 m1 m2 m3 m4 μ)) (Wr := ([] : va_W)) (W1 := (wM g m0 m1 m2 m3 m4 r_1.2)) (W2 := (wM g m0 m1 m2 m3 m4 r_1.2)) (As := [.int p0, .int p1]) (rest := []) [0, 1, 2, 3, 4] [] [0, 1, 2, 3, 4] 5 0 ⟨hx, hb, hml, hown, hts⟩ hP hD hE hZ hS hA (cX7_has_ok l g m0 m1 m2 m3 m4 μ p0 p1 _ e_1) (cwV 2 hts gX7_whyNotLabelled_X7_has rfl rfl rfl hdX7_has ⟨(Nat.le_of_ble_eq_true rfl), (Nat.le_of_ble_eq_true rfl)⟩) rfl rfl rfl (by decide) (by decide) (by decide) (by decide) rfl rfl rfl rfl hl.1 rfl (Nat.le_of_ble_eq_true rfl) ⟨(Nat.le_of_ble_eq_true rfl), (Nat.le_of_ble_eq_true rfl)⟩ dX7_whyNotLabelled_3 (fun H locs hP hD hS => ?_)
  refine lv_beq (tgt := 18) hx hb dX7_whyNotLabelled_6 (by decide) (fun c_2 => ?_) (fun c_2 => ?_)
  · have hf := iq c_2 hf
    refine lv_iconst (v := (0 : Int32)) hx hb dX7_whyNotLabelled_18 (by decide) ?_
    have ho := Option.some.inj hf
    subst ho
    exact m_iret (v := (0 : Int32)) hx hb hr hlocks hP hD hS rfl dX7_whyNotLabelled_19
  · have hf := ip c_2 hf
    refine lv_aload_n hx hb dX7_whyNotLabelled_9 rfl (lv_at hl 0 rfl) ?_
    refine lv_iload_n hx hb dX7_whyNotLabelled_10 rfl (lv_at hl 1 rfl) ?_
    refine lv_iload_n hx hb dX7_whyNotLabelled_11 rfl (lv_at hl 2 rfl) ?_
    obtain ⟨r_3, e_3, hf⟩ := bo hf
    refine pcallV (W0 := (wM g m0 m1 m2 m3 m4 r_1.2)) (As := [.int p0, .int p1]) (rest := []) [0, 1, 2, 3, 4] 5 0 ⟨hx, hb, hml, hown, hts⟩ hP hE hZ hS (cX7_whyNoLabel_ok l g m0 m1 m2 m3 m4 r_1.2 p0 p1 e_3) (cwV 2 hts gX7_whyNotLabelled_X7_whyNoLabel rfl rfl rfl hdX7_whyNoLabel ⟨(Nat.le_of_ble_eq_true rfl), (Nat.le_of_ble_eq_true rfl)⟩) rfl rfl rfl rfl rfl hl.1 rfl (Nat.le_of_ble_eq_true rfl) ⟨(Nat.le_of_ble_eq_true rfl), (Nat.le_of_ble_eq_true rfl)⟩ dX7_whyNotLabelled_12 ?_
    refine lv_goto (tgt := 19) hx hb dX7_whyNotLabelled_15 (by decide) ?_
    have ho := Option.some.inj hf
    subst ho
    exact m_iret (v := r_3) hx hb hr hlocks hP hD hS rfl dX7_whyNotLabelled_19

def fX7_placesOf_27 (p0 : Int32) (v3_11 : Bool) (μ_11 : Mo) (k11 : Int32 → Int32 → Option (Int32 × Mo)) (v2_27 : Int32) (v4_27 : Int32) (t0_27 : Int32) (t1_27 : Int32) : Option (Int32 × Mo) := (if t1_27 < t0_27 then (some (v2_27, μ_11)) else ((fX7_whyNoLabel μ_11 p0 v4_27).bind fun r_2 => (if r_2 = 0 then k11 (v2_27 + (1 : Int32)) (v4_27 + 1) else k11 (v2_27 + (0 : Int32)) (v4_27 + 1))))
def fX7_placesOf_11 (p0 : Int32) (v3_11 : Bool) (μ_11 : Mo) : Nat → Int32 → Int32 → Option (Int32 × Mo)
  | 0, _, _ => none
  | n + 1, v2_11, v4_11 => (if v3_11 = true then ((fX7_of μ_11 p0 (2 : Int32)).bind fun r_5 => fX7_placesOf_27 p0 v3_11 μ_11 (fX7_placesOf_11 p0 v3_11 μ_11 n) v2_11 v4_11 v4_11 r_5) else fX7_placesOf_27 p0 v3_11 μ_11 (fX7_placesOf_11 p0 v3_11 μ_11 n) v2_11 v4_11 v4_11 (-1 : Int32))
def fX7_placesOf (μ : Mo) (p0 : Int32) : Option (Int32 × Mo) := ((fX7_knows μ p0).bind fun r_6 => fX7_placesOf_11 p0 r_6.1 r_6.2 FU (0 : Int32) (0 : Int32))
abbrev rmX7_placesOf : Room := { frames := 8, cells := 0, slots := 0, locals := 179 }
theorem hdX7_placesOf : yX7_placesOf.cls = RX7 ∧ yX7_placesOf.cls ≠ "java/lang/invoke/MethodHandle" ∧ yX7_placesOf.cls ≠ "java/lang/invoke/VarHandle" ∧ (parseMethodDescriptor yX7_placesOf.desc).map (fun d => d.parameters.length) = some 1 := by decide +kernel
set_option maxHeartbeats 4000000 in
set_option maxRecDepth 100000 in
theorem cX7_placesOf_ok (l : Launch) (g : Gg) (m0 m1 m2 m3 m4 : Nat) (μ : Mo) (p0 : Int32) (sz : Nat) {o : Int32 × Mo} (hf : fX7_placesOf μ p0 = some o) : Met l yX7_placesOf wsX7_placesOf rmX7_placesOf (va_Pc [.ref m0, .int p0] (PM g (wM g m0 m1 m2 m3 m4 μ) sz)) (va_Qi (fun r' (_ : Unit) => r' = o.1) (fun _ t => PQ g (wM g m0 m1 m2 m3 m4 o.2) (va_A (wM g m0 m1 m2 m3 m4 μ) sz) t) (va_A (wM g m0 m1 m2 m3 m4 μ) sz)) 0 0 (va_A (wM g m0 m1 m2 m3 m4 μ) sz) := by
  refine Met.ofW (cc := cX7_placesOf) (maxL := 5) (ret := (some .int)) (by decide) rfl ?_
  intro p e s m args below meth c s₁ B hml hv
  obtain ⟨rfl, rfl, hP, hD0, hE, hZ⟩ := hv
  have hx := B.exec
  have hb := B.bytes
  have hr := B.returns
  have hts := atoms_spec (ws := wsX7_placesOf) B.pre
  have hown : s.vm.findClass RX7 = some m.cls := findClass_of_methodNamed B.named
  have hlocks := B.notSynchronized
  have hD := hD0.self (sz := s.heap.size)
  generalize hAe : (va_A (wM g m0 m1 m2 m3 m4 μ) s.heap.size) = A at hD hZ ⊢
  have hA : ∀ q : Nat, s.heap.size ≤ q → A q := fun q h => by rw [← hAe]; exact Or.inr h
  have hS : va_S A s.heap s.heap [] := va_S.rf
  have hP : va_P g.1 vwCl (wM g m0 m1 m2 m3 m4 μ) s.heap := hP
  have hl := lv_entry ([.ref m0, .int p0]) (n := 5) (Nat.le_of_ble_eq_true rfl)
  rw [lg_entry_eq]
  generalize (lg_sl ([.ref m0, .int p0]) ++ List.replicate (5 - (lg_sl ([.ref m0, .int p0])).length) Slot.unset).toArray = ls at hl ⊢
  have hl : lv_has ls 5 [(0, .ref m0), (1, .int p0)] := hl
  have hB11 : ∀ (v3_11 : Bool) (μ_11 : Mo) (n11 : Nat) (v2_11 : Int32) (v4_11 : Int32) (H : Heap) (locs : List Loc) (ls : Array Slot), va_P g.1 vwCl (wM g m0 m1 m2 m3 m4 μ_11) H → va_D A (wM g m0 m1 m2 m3 m4 μ_11) → va_S A s.heap H locs → lv_has ls 5 [(0, .ref m0), (1, .int p0), (2, .int v2_11), (3, .int (b2i v3_11)), (4, .int v4_11)] → fX7_placesOf_11 p0 v3_11 μ_11 n11 v2_11 v4_11 = some o → W p l e (headSpec wsX7_placesOf rmX7_placesOf).room s m ([.ref m0, .int p0] : List Value).toArray below meth c H locs 0 0 (MQ below (va_Qi (fun r' (_ : Unit) => r' = o.1) (fun _ t => PQ g (wM g m0 m1 m2 m3 m4 o.2) A t) A) ([.ref m0, .int p0] : List Value).toArray s 0 0 A) (F0 m 11 ls []) := by
    intro v3_11 μ_11 n11
    induction n11 with
    | zero => intro v2_11 v4_11 H locs ls hP hD hS hl hf; exact nomatch (show (none : Option (Int32 × Mo)) = some _ from hf)
    | succ n11 ih11 =>
      have hB27 : ∀ (v2_27 : Int32) (v4_27 : Int32) (t0_27 : Int32) (t1_27 : Int32) (H : Heap) (locs : List Loc) (ls : Array Slot), va_P g.1 vwCl (wM g m0 m1 m2 m3 m4 μ_11) H → va_D A (wM g m0 m1 m2 m3 m4 μ_11) → va_S A s.heap H locs → lv_has ls 5 [(0, .ref m0), (1, .int p0), (2, .int v2_27), (3, .int (b2i v3_11)), (4, .int v4_27)] → fX7_placesOf_27 p0 v3_11 μ_11 (fX7_placesOf_11 p0 v3_11 μ_11 n11) v2_27 v4_27 t0_27 t1_27 = some o → W p l e (headSpec wsX7_placesOf rmX7_placesOf).room s m ([.ref m0, .int p0] : List Value).toArray below meth c H locs 0 0 (MQ below (va_Qi (fun r' (_ : Unit) => r' = o.1) (fun _ t => PQ g (wM g m0 m1 m2 m3 m4 o.2) A t) A) ([.ref m0, .int p0] : List Value).toArray s 0 0 A) (F0 m 27 ls [.int t1_27, .int t0_27]) := by
        intro  v2_27 v4_27 t0_27 t1_27 H locs ls hP hD hS hl hf
        unfold fX7_placesOf_27 at hf
        refine lv_icmp_gt (tgt := 54) hx hb dX7_placesOf_27 (by decide) (fun c_1 => ?_) (fun c_1 => ?_)
        · have hf := ip c_1 hf
          refine lv_iload_n hx hb dX7_placesOf_54 rfl (lv_at hl 2 rfl) ?_
          have ho := Option.some.inj hf
          subst ho
          exact m_iret (v := v2_27) hx hb hr hlocks hP hD hS rfl dX7_placesOf_55
        · have hf := iq c_1 hf
          refine lv_iload_n hx hb dX7_placesOf_30 rfl (lv_at hl 2 rfl) ?_
          refine lv_aload_n hx hb dX7_placesOf_31 rfl (lv_at hl 0 rfl) ?_
          refine lv_iload_n hx hb dX7_placesOf_32 rfl (lv_at hl 1 rfl) ?_
          refine lv_iload hx hb dX7_placesOf_33 (lv_at hl 4 rfl) ?_
          obtain ⟨r_2, e_2, hf⟩ := bo hf
          refine pcallV (W0 := (wM g m0 m1 m2 m3 m4 μ_11)) (As := [.int p0, .int v4_27]) (rest := [.int v2_27]) [0, 1, 2, 3, 4] 5 0 ⟨hx, hb, hml, hown, hts⟩ hP hE hZ hS (cX7_whyNoLabel_ok l g m0 m1 m2 m3 m4 μ_11 p0 v4_27 e_2) (cwV 2 hts gX7_placesOf_X7_whyNoLabel rfl rfl rfl hdX7_whyNoLabel ⟨(Nat.le_of_ble_eq_true rfl), (Nat.le_of_ble_eq_true rfl)⟩) rfl rfl rfl rfl rfl hl.1 rfl (Nat.le_of_ble_eq_true rfl) ⟨(Nat.le_of_ble_eq_true rfl), (Nat.le_of_ble_eq_true rfl)⟩ dX7_placesOf_35 ?_
          refine lv_if_ne (tgt := 45) hx hb dX7_placesOf_38 (by decide) (fun c_3 => ?_) (fun c_3 => ?_)
          · have hf := iq c_3 hf
            refine lv_iconst (v := (0 : Int32)) hx hb dX7_placesOf_45 (by decide) ?_
            refine lv_iadd hx hb dX7_placesOf_46 ?_
            refine lv_istore_n (lv' := [(2, .int (v2_27 + (0 : Int32))), (0, .ref m0), (1, .int p0), (3, .int (b2i v3_11)), (4, .int v4_27)]) hx hb dX7_placesOf_47 rfl hl (by decide) rfl (fun ls hl => ?_)
            refine lv_iinc (v := (v4_27 + 1)) (lv' := [(4, .int (v4_27 + 1)), (2, .int (v2_27 + (0 : Int32))), (0, .ref m0), (1, .int p0), (3, .int (b2i v3_11))]) hx hb dX7_placesOf_48 hl (k := 4) rfl rfl (by decide) rfl (fun ls hl => ?_)
            refine lv_goto (tgt := 11) hx hb dX7_placesOf_51 (by decide) ?_
            exact ih11 (v2_27 + (0 : Int32)) (v4_27 + 1) _ _ ls hP hD hS (lv_sub hl [2, 3, 1, 4, 0] rfl) hf
          · have hf := ip c_3 hf
            refine lv_iconst (v := (1 : Int32)) hx hb dX7_placesOf_41 (by decide) ?_
            refine lv_goto (tgt := 46) hx hb dX7_placesOf_42 (by decide) ?_
            refine lv_iadd hx hb dX7_placesOf_46 ?_
            refine lv_istore_n (lv' := [(2, .int (v2_27 + (1 : Int32))), (0, .ref m0), (1, .int p0), (3, .int (b2i v3_11)), (4, .int v4_27)]) hx hb dX7_placesOf_47 rfl hl (by decide) rfl (fun ls hl => ?_)
            refine lv_iinc (v := (v4_27 + 1)) (lv' := [(4, .int (v4_27 + 1)), (2, .int (v2_27 + (1 : Int32))), (0, .ref m0), (1, .int p0), (3, .int (b2i v3_11))]) hx hb dX7_placesOf_48 hl (k := 4) rfl rfl (by decide) rfl (fun ls hl => ?_)
            refine lv_goto (tgt := 11) hx hb dX7_placesOf_51 (by decide) ?_
            exact ih11 (v2_27 + (1 : Int32)) (v4_27 + 1) _ _ ls hP hD hS (lv_sub hl [2, 3, 1, 4, 0] rfl) hf
      intro v2_11 v4_11 H locs ls hP hD hS hl hf
      rw [fX7_placesOf_11] at hf
      refine lv_iload hx hb dX7_placesOf_11 (lv_at hl 4 rfl) ?_
      refine lv_iload_n hx hb dX7_placesOf_13 rfl (lv_at hl 3 rfl) ?_
      refine lv_beq (tgt := 26) hx hb dX7_placesOf_14 (by decide) (fun c_4 => ?_) (fun c_4 => ?_)
      · have hf := iq c_4 hf
        refine lv_iconst (v := (-1 : Int32)) hx hb dX7_placesOf_26 (by decide) ?_
        exact hB27 v2_11 v4_11 v4_11 (-1 : Int32) _ _ ls hP hD hS (lv_sub hl [0, 1, 2, 3, 4] rfl) hf
      · have hf := ip c_4 hf
        refine lv_aload_n hx hb dX7_placesOf_17 rfl (lv_at hl 0 rfl) ?_
        refine lv_iload_n hx hb dX7_placesOf_18 rfl (lv_at hl 1 rfl) ?_
        refine lv_iconst (v := (2 : Int32)) hx hb dX7_placesOf_19 (by decide) ?_
        obtain ⟨r_5, e_5, hf⟩ := bo hf
        refine pcallV (W0 := (wM g m0 m1 m2 m3 m4 μ_11)) (As := [.int p0, .int (2 : Int32)]) (rest := [.int v4_11]) [0, 1, 2, 3, 4] 5 0 ⟨hx, hb, hml, hown, hts⟩ hP hE hZ hS (cX7_of_ok l g m0 m1 m2 m3 m4 μ_11 p0 (2 : Int32) e_5) (cwV 2 hts gX7_placesOf_X7_of rfl rfl rfl hdX7_of ⟨(Nat.le_of_ble_eq_true rfl), (Nat.le_of_ble_eq_true rfl)⟩) rfl rfl rfl rfl rfl hl.1 rfl (Nat.le_of_ble_eq_true rfl) ⟨(Nat.le_of_ble_eq_true rfl), (Nat.le_of_ble_eq_true rfl)⟩ dX7_placesOf_20 ?_
        refine lv_goto (tgt := 27) hx hb dX7_placesOf_23 (by decide) ?_
        exact hB27 v2_11 v4_11 v4_11 r_5 _ _ ls hP hD hS (lv_sub hl [0, 1, 2, 3, 4] rfl) hf
  unfold fX7_placesOf at hf
  refine lv_iconst (v := (0 : Int32)) hx hb dX7_placesOf_0 (by decide) ?_
  refine lv_istore_n (lv' := [(2, .int (0 : Int32)), (0, .ref m0), (1, .int p0)]) hx hb dX7_placesOf_1 rfl hl (by decide) rfl (fun ls hl => ?_)
  refine lv_aload_n hx hb dX7_placesOf_2 rfl (lv_at hl 1 rfl) ?_
  refine lv_iload_n hx hb dX7_placesOf_3 rfl (lv_at hl 2 rfl) ?_
  obtain ⟨r_6, e_6, hf⟩ := bo hf
  refine mcallVi (W0 := (wM g m0 m1 m2 m3 m4 μ)) (Wc := (wM g m0 m1 m2 m3 m4 μ)) (Wr := ([] : va_W)) (W1 := (wM g m0 m1 m2 m3 m4 r_6.2)) (W2 := (wM g m0 m1 m2 m3 m4 r_6.2)) (As := [.int p0]) (rest := []) [0, 1, 2, 3, 4] [] [0, 1, 2, 3, 4] 5 0 ⟨hx, hb, hml, hown, hts⟩ hP hD hE hZ hS hA (cX7_knows_ok l g m0 m1 m2 m3 m4 μ p0 _ e_6) (cwV 1 hts gX7_placesOf_X7_knows rfl rfl rfl hdX7_knows ⟨(Nat.le_of_ble_eq_true rfl), (Nat.le_of_ble_eq_true rfl)⟩) rfl rfl rfl (by decide) (by decide) (by decide) (by decide) rfl rfl rfl rfl hl.1 rfl (Nat.le_of_ble_eq_true rfl) ⟨(Nat.le_of_ble_eq_true rfl), (Nat.le_of_ble_eq_true rfl)⟩ dX7_placesOf_4 (fun H locs hP hD hS => ?_)
  refine lv_istore_n (lv' := [(3, .int (b2i r_6.1)), (2, .int (0 : Int32)), (0, .ref m0), (1, .int p0)]) hx hb dX7_placesOf_7 rfl hl (by decide) rfl (fun ls hl => ?_)
  refine lv_iconst (v := (0 : Int32)) hx hb dX7_placesOf_8 (by decide) ?_
  refine lv_istore (lv' := [(4, .int (0 : Int32)), (3, .int (b2i r_6.1)), (2, .int (0 : Int32)), (0, .ref m0), (1, .int p0)]) hx hb dX7_placesOf_9 hl (by decide) rfl (fun ls hl => ?_)
  exact hB11 r_6.1 r_6.2 FU (0 : Int32) (0 : Int32) _ _ ls hP hD hS (lv_sub hl [3, 4, 2, 1, 0] rfl) hf

def fX7_bestPlace (μ : Mo) (p0 : Int32) : Option (Int32 × Mo) := ((fX7_knows μ p0).bind fun r_1 => (if r_1.1 = true then ((fX7_best r_1.2 p0).bind fun r_3 => (some (r_3, r_1.2))) else (some ((0 : Int32), r_1.2))))
abbrev rmX7_bestPlace : Room := { frames := 9, cells := 0, slots := 0, locals := 207 }
theorem hdX7_bestPlace : yX7_bestPlace.cls = RX7 ∧ yX7_bestPlace.cls ≠ "java/lang/invoke/MethodHandle" ∧ yX7_bestPlace.cls ≠ "java/lang/invoke/VarHandle" ∧ (parseMethodDescriptor yX7_bestPlace.desc).map (fun d => d.parameters.length) = some 1 := by decide +kernel
set_option maxHeartbeats 4000000 in
set_option maxRecDepth 100000 in
theorem cX7_bestPlace_ok (l : Launch) (g : Gg) (m0 m1 m2 m3 m4 : Nat) (μ : Mo) (p0 : Int32) (sz : Nat) {o : Int32 × Mo} (hf : fX7_bestPlace μ p0 = some o) : Met l yX7_bestPlace wsX7_bestPlace rmX7_bestPlace (va_Pc [.ref m0, .int p0] (PM g (wM g m0 m1 m2 m3 m4 μ) sz)) (va_Qi (fun r' (_ : Unit) => r' = o.1) (fun _ t => PQ g (wM g m0 m1 m2 m3 m4 o.2) (va_A (wM g m0 m1 m2 m3 m4 μ) sz) t) (va_A (wM g m0 m1 m2 m3 m4 μ) sz)) 0 0 (va_A (wM g m0 m1 m2 m3 m4 μ) sz) := by
  refine Met.ofW (cc := cX7_bestPlace) (maxL := 2) (ret := (some .int)) (by decide) rfl ?_
  intro p e s m args below meth c s₁ B hml hv
  obtain ⟨rfl, rfl, hP, hD0, hE, hZ⟩ := hv
  have hx := B.exec
  have hb := B.bytes
  have hr := B.returns
  have hts := atoms_spec (ws := wsX7_bestPlace) B.pre
  have hown : s.vm.findClass RX7 = some m.cls := findClass_of_methodNamed B.named
  have hlocks := B.notSynchronized
  have hD := hD0.self (sz := s.heap.size)
  generalize hAe : (va_A (wM g m0 m1 m2 m3 m4 μ) s.heap.size) = A at hD hZ ⊢
  have hA : ∀ q : Nat, s.heap.size ≤ q → A q := fun q h => by rw [← hAe]; exact Or.inr h
  have hS : va_S A s.heap s.heap [] := va_S.rf
  have hP : va_P g.1 vwCl (wM g m0 m1 m2 m3 m4 μ) s.heap := hP
  have hl := lv_entry ([.ref m0, .int p0]) (n := 2) (Nat.le_of_ble_eq_true rfl)
  rw [lg_entry_eq]
  generalize (lg_sl ([.ref m0, .int p0]) ++ List.replicate (2 - (lg_sl ([.ref m0, .int p0])).length) Slot.unset).toArray = ls at hl ⊢
  have hl : lv_has ls 2 [(0, .ref m0), (1, .int p0)] := hl
  unfold fX7_bestPlace at hf
  refine lv_aload_n hx hb dX7_bestPlace_0 rfl (lv_at hl 0 rfl) ?_
  refine lv_iload_n hx hb dX7_bestPlace_1 rfl (lv_at hl 1 rfl) ?_
  obtain ⟨r_1, e_1, hf⟩ := bo hf
  refine mcallVi (W0 := (wM g m0 m1 m2 m3 m4 μ)) (Wc := (wM g m0 m1 m2 m3 m4 μ)) (Wr := ([] : va_W)) (W1 := (wM g m0 m1 m2 m3 m4 r_1.2)) (W2 := (wM g m0 m1 m2 m3 m4 r_1.2)) (As := [.int p0]) (rest := []) [0, 1, 2, 3, 4] [] [0, 1, 2, 3, 4] 5 0 ⟨hx, hb, hml, hown, hts⟩ hP hD hE hZ hS hA (cX7_knows_ok l g m0 m1 m2 m3 m4 μ p0 _ e_1) (cwV 1 hts gX7_bestPlace_X7_knows rfl rfl rfl hdX7_knows ⟨(Nat.le_of_ble_eq_true rfl), (Nat.le_of_ble_eq_true rfl)⟩) rfl rfl rfl (by decide) (by decide) (by decide) (by decide) rfl rfl rfl rfl hl.1 rfl (Nat.le_of_ble_eq_true rfl) ⟨(Nat.le_of_ble_eq_true rfl), (Nat.le_of_ble_eq_true rfl)⟩ dX7_bestPlace_2 (fun H locs hP hD hS => ?_)
  refine lv_beq (tgt := 16) hx hb dX7_bestPlace_5 (by decide) (fun c_2 => ?_) (fun c_2 => ?_)
  · have hf := iq c_2 hf
    refine lv_iconst (v := (0 : Int32)) hx hb dX7_bestPlace_16 (by decide) ?_
    have ho := Option.some.inj hf
    subst ho
    exact m_iret (v := (0 : Int32)) hx hb hr hlocks hP hD hS rfl dX7_bestPlace_17
  · have hf := ip c_2 hf
    refine lv_aload_n hx hb dX7_bestPlace_8 rfl (lv_at hl 0 rfl) ?_
    refine lv_iload_n hx hb dX7_bestPlace_9 rfl (lv_at hl 1 rfl) ?_
    obtain ⟨r_3, e_3, hf⟩ := bo hf
    refine pcallV (W0 := (wM g m0 m1 m2 m3 m4 r_1.2)) (As := [.int p0]) (rest := []) [0, 1, 2, 3, 4] 5 0 ⟨hx, hb, hml, hown, hts⟩ hP hE hZ hS (cX7_best_ok l g m0 m1 m2 m3 m4 r_1.2 p0 e_3) (cwV 1 hts gX7_bestPlace_X7_best rfl rfl rfl hdX7_best ⟨(Nat.le_of_ble_eq_true rfl), (Nat.le_of_ble_eq_true rfl)⟩) rfl rfl rfl rfl rfl hl.1 rfl (Nat.le_of_ble_eq_true rfl) ⟨(Nat.le_of_ble_eq_true rfl), (Nat.le_of_ble_eq_true rfl)⟩ dX7_bestPlace_10 ?_
    refine lv_goto (tgt := 17) hx hb dX7_bestPlace_13 (by decide) ?_
    have ho := Option.some.inj hf
    subst ho
    exact m_iret (v := r_3) hx hb hr hlocks hP hD hS rfl dX7_bestPlace_17

def fX7_tooNear_51 (μ_9 : Mo) (v2_21 : Int32) (k9 : Int32 → Int32 → Option (Int32 × Mo)) (k21 : Int32 → Int32 → Option (Int32 × Mo)) (v1_51 : Int32) (v3_51 : Int32) (t0_51 : Bool) : Option (Int32 × Mo) := (if t0_51 = true then ((fX7_of μ_9 v2_21 (3 : Int32)).bind fun r_2 => ((fX7_of μ_9 v3_51 (3 : Int32)).bind fun r_3 => ((fX7_between μ_9 v2_21 r_2 v3_51 r_3).bind fun r_4 => (if (M_row μ_9 (Int32.toNatClampNeg (1 : Int32))) ≤ r_4 then k21 (v1_51 + (0 : Int32)) (v3_51 + 1) else k21 (v1_51 + (1 : Int32)) (v3_51 + 1))))) else k21 (v1_51 + (0 : Int32)) (v3_51 + 1))
def fX7_tooNear_21 (μ_9 : Mo) (v2_21 : Int32) (k9 : Int32 → Int32 → Option (Int32 × Mo)) : Nat → Int32 → Int32 → Option (Int32 × Mo)
  | 0, _, _ => none
  | n + 1, v1_21, v3_21 => (if v2_21 ≤ v3_21 then k9 v1_21 (v2_21 + 1) else ((fX7_of μ_9 v2_21 (3 : Int32)).bind fun r_7 => (if r_7 = (-1 : Int32) then fX7_tooNear_51 μ_9 v2_21 k9 (fX7_tooNear_21 μ_9 v2_21 k9 n) v1_21 v3_21 false else ((fX7_of μ_9 v3_21 (3 : Int32)).bind fun r_9 => (if r_9 = (-1 : Int32) then fX7_tooNear_51 μ_9 v2_21 k9 (fX7_tooNear_21 μ_9 v2_21 k9 n) v1_21 v3_21 false else fX7_tooNear_51 μ_9 v2_21 k9 (fX7_tooNear_21 μ_9 v2_21 k9 n) v1_21 v3_21 true)))))
def fX7_tooNear_9 (μ_9 : Mo) : Nat → Int32 → Int32 → Option (Int32 × Mo)
  | 0, _, _ => none
  | n + 1, v1_9, v2_9 => (if (M_row μ_9 (Int32.toNatClampNeg (0 : Int32))) ≤ v2_9 then (some (v1_9, μ_9)) else fX7_tooNear_21 μ_9 v2_9 (fX7_tooNear_9 μ_9 n) FU v1_9 (0 : Int32))
def fX7_tooNear (μ : Mo) : Option (Int32 × Mo) := fX7_tooNear_9 (M_th' μ (0 : Int32)) FU (0 : Int32) (0 : Int32)
abbrev rmX7_tooNear : Room := { frames := 4, cells := 0, slots := 0, locals := 94 }
theorem hdX7_tooNear : yX7_tooNear.cls = RX7 ∧ yX7_tooNear.cls ≠ "java/lang/invoke/MethodHandle" ∧ yX7_tooNear.cls ≠ "java/lang/invoke/VarHandle" ∧ (parseMethodDescriptor yX7_tooNear.desc).map (fun d => d.parameters.length) = some 0 := by decide +kernel
theorem fiX7_tooNear_X7 : ∀ w ∈ wsX70, w ∈ wsX7_tooNear := by decide +kernel
theorem flX7_tooNear_7 : (.fieldLink RX7 7 "ContourLabelsModel" "row" "[I" : Cond) ∈ wsX7_tooNear := by decide +kernel
theorem flX7_tooNear_22 : (.fieldLink RX7 22 "ContourLabelsModel" "thrown" "I" : Cond) ∈ wsX7_tooNear := by decide +kernel
set_option maxHeartbeats 4000000 in
set_option maxRecDepth 100000 in
theorem cX7_tooNear_ok (l : Launch) (g : Gg) (m0 m1 m2 m3 m4 : Nat) (μ : Mo) (sz : Nat) {o : Int32 × Mo} (hf : fX7_tooNear μ = some o) : Met l yX7_tooNear wsX7_tooNear rmX7_tooNear (va_Pc [.ref m0] (PM g (wM g m0 m1 m2 m3 m4 μ) sz)) (va_Qi (fun r' (_ : Unit) => r' = o.1) (fun _ t => PQ g (wM g m0 m1 m2 m3 m4 o.2) (va_A (wM g m0 m1 m2 m3 m4 μ) sz) t) (va_A (wM g m0 m1 m2 m3 m4 μ) sz)) 0 0 (va_A (wM g m0 m1 m2 m3 m4 μ) sz) := by
  refine Met.ofW (cc := cX7_tooNear) (maxL := 5) (ret := (some .int)) (by decide) rfl ?_
  intro p e s m args below meth c s₁ B hml hv
  obtain ⟨rfl, rfl, hP, hD0, hE, hZ⟩ := hv
  have hx := B.exec
  have hb := B.bytes
  have hr := B.returns
  have hts := atoms_spec (ws := wsX7_tooNear) B.pre
  have hown : s.vm.findClass RX7 = some m.cls := findClass_of_methodNamed B.named
  have hlocks := B.notSynchronized
  have hD := hD0.self (sz := s.heap.size)
  generalize hAe : (va_A (wM g m0 m1 m2 m3 m4 μ) s.heap.size) = A at hD hZ ⊢
  have hA : ∀ q : Nat, s.heap.size ≤ q → A q := fun q h => by rw [← hAe]; exact Or.inr h
  have hS : va_S A s.heap s.heap [] := va_S.rf
  have hP : va_P g.1 vwCl (wM g m0 m1 m2 m3 m4 μ) s.heap := hP
  have hl := lv_entry ([.ref m0]) (n := 5) (Nat.le_of_ble_eq_true rfl)
  rw [lg_entry_eq]
  generalize (lg_sl ([.ref m0]) ++ List.replicate (5 - (lg_sl ([.ref m0])).length) Slot.unset).toArray = ls at hl ⊢
  have hl : lv_has ls 5 [(0, .ref m0)] := hl
  have hB9 : ∀ (μ_9 : Mo) (n9 : Nat) (v1_9 : Int32) (v2_9 : Int32) (H : Heap) (locs : List Loc) (ls : Array Slot), va_P g.1 vwCl (wM g m0 m1 m2 m3 m4 μ_9) H → va_D A (wM g m0 m1 m2 m3 m4 μ_9) → va_S A s.heap H locs → lv_has ls 5 [(0, .ref m0), (1, .int v1_9), (2, .int v2_9)] → fX7_tooNear_9 μ_9 n9 v1_9 v2_9 = some o → W p l e (headSpec wsX7_tooNear rmX7_tooNear).room s m ([.ref m0] : List Value).toArray below meth c H locs 0 0 (MQ below (va_Qi (fun r' (_ : Unit) => r' = o.1) (fun _ t => PQ g (wM g m0 m1 m2 m3 m4 o.2) A t) A) ([.ref m0] : List Value).toArray s 0 0 A) (F0 m 9 ls []) := by
    intro μ_9 n9
    induction n9 with
    | zero => intro v1_9 v2_9 H locs ls hP hD hS hl hf; exact nomatch (show (none : Option (Int32 × Mo)) = some _ from hf)
    | succ n9 ih9 =>
      have hB21 : ∀ (v2_21 : Int32) (n21 : Nat) (v1_21 : Int32) (v3_21 : Int32) (H : Heap) (locs : List Loc) (ls : Array Slot), va_P g.1 vwCl (wM g m0 m1 m2 m3 m4 μ_9) H → va_D A (wM g m0 m1 m2 m3 m4 μ_9) → va_S A s.heap H locs → lv_has ls 5 [(0, .ref m0), (1, .int v1_21), (2, .int v2_21), (3, .int v3_21)] → fX7_tooNear_21 μ_9 v2_21 (fX7_tooNear_9 μ_9 n9) n21 v1_21 v3_21 = some o → W p l e (headSpec wsX7_tooNear rmX7_tooNear).room s m ([.ref m0] : List Value).toArray below meth c H locs 0 0 (MQ below (va_Qi (fun r' (_ : Unit) => r' = o.1) (fun _ t => PQ g (wM g m0 m1 m2 m3 m4 o.2) A t) A) ([.ref m0] : List Value).toArray s 0 0 A) (F0 m 21 ls []) := by
        intro v2_21 n21
        induction n21 with
        | zero => intro v1_21 v3_21 H locs ls hP hD hS hl hf; exact nomatch (show (none : Option (Int32 × Mo)) = some _ from hf)
        | succ n21 ih21 =>
          have hB51 : ∀ (v1_51 : Int32) (v3_51 : Int32) (t0_51 : Bool) (H : Heap) (locs : List Loc) (ls : Array Slot), va_P g.1 vwCl (wM g m0 m1 m2 m3 m4 μ_9) H → va_D A (wM g m0 m1 m2 m3 m4 μ_9) → va_S A s.heap H locs → lv_has ls 5 [(0, .ref m0), (1, .int v1_51), (2, .int v2_21), (3, .int v3_51)] → fX7_tooNear_51 μ_9 v2_21 (fX7_tooNear_9 μ_9 n9) (fX7_tooNear_21 μ_9 v2_21 (fX7_tooNear_9 μ_9 n9) n21) v1_51 v3_51 t0_51 = some o → W p l e (headSpec wsX7_tooNear rmX7_tooNear).room s m ([.ref m0] : List Value).toArray below meth c H locs 0 0 (MQ below (va_Qi (fun r' (_ : Unit) => r' = o.1) (fun _ t => PQ g (wM g m0 m1 m2 m3 m4 o.2) A t) A) ([.ref m0] : List Value).toArray s 0 0 A) (F0 m 51 ls [.int (b2i t0_51)]) := by
            intro  v1_51 v3_51 t0_51 H locs ls hP hD hS hl hf
            unfold fX7_tooNear_51 at hf
            refine lv_istore (lv' := [(4, .int (b2i t0_51)), (0, .ref m0), (1, .int v1_51), (2, .int v2_21), (3, .int v3_51)]) hx hb dX7_tooNear_51 hl (by decide) rfl (fun ls hl => ?_)
            refine lv_iload_n hx hb dX7_tooNear_53 rfl (lv_at hl 2 rfl) ?_
            refine lv_iload hx hb dX7_tooNear_54 (lv_at hl 0 rfl) ?_
            refine lv_beq (tgt := 90) hx hb dX7_tooNear_56 (by decide) (fun c_1 => ?_) (fun c_1 => ?_)
            · have hf := iq c_1 hf
              refine lv_iconst (v := (0 : Int32)) hx hb dX7_tooNear_90 (by decide) ?_
              refine lv_iadd hx hb dX7_tooNear_91 ?_
              refine lv_istore_n (lv' := [(1, .int (v1_51 + (0 : Int32))), (4, .int (b2i t0_51)), (0, .ref m0), (2, .int v2_21), (3, .int v3_51)]) hx hb dX7_tooNear_92 rfl hl (by decide) rfl (fun ls hl => ?_)
              refine lv_iinc (v := (v3_51 + 1)) (lv' := [(3, .int (v3_51 + 1)), (1, .int (v1_51 + (0 : Int32))), (4, .int (b2i t0_51)), (0, .ref m0), (2, .int v2_21)]) hx hb dX7_tooNear_93 hl (k := 4) rfl rfl (by decide) rfl (fun ls hl => ?_)
              refine lv_goto (tgt := 21) hx hb dX7_tooNear_96 (by decide) ?_
              exact ih21 (v1_51 + (0 : Int32)) (v3_51 + 1) _ _ ls hP hD hS (lv_sub hl [3, 1, 4, 0] rfl) hf
            · have hf := ip c_1 hf
              refine lv_aload_n hx hb dX7_tooNear_59 rfl (lv_at hl 1 rfl) ?_
              refine lv_iload_n hx hb dX7_tooNear_60 rfl (lv_at hl 3 rfl) ?_
              refine lv_aload_n hx hb dX7_tooNear_61 rfl (lv_at hl 1 rfl) ?_
              refine lv_iload_n hx hb dX7_tooNear_62 rfl (lv_at hl 3 rfl) ?_
              refine lv_iconst (v := (3 : Int32)) hx hb dX7_tooNear_63 (by decide) ?_
              obtain ⟨r_2, e_2, hf⟩ := bo hf
              refine pcallV (W0 := (wM g m0 m1 m2 m3 m4 μ_9)) (As := [.int v2_21, .int (3 : Int32)]) (rest := [.int v2_21, .ref m0, .int v1_51]) [0, 1, 2, 3, 4] 5 0 ⟨hx, hb, hml, hown, hts⟩ hP hE hZ hS (cX7_of_ok l g m0 m1 m2 m3 m4 μ_9 v2_21 (3 : Int32) e_2) (cwV 2 hts gX7_tooNear_X7_of rfl rfl rfl hdX7_of ⟨(Nat.le_of_ble_eq_true rfl), (Nat.le_of_ble_eq_true rfl)⟩) rfl rfl rfl rfl rfl hl.1 rfl (Nat.le_of_ble_eq_true rfl) ⟨(Nat.le_of_ble_eq_true rfl), (Nat.le_of_ble_eq_true rfl)⟩ dX7_tooNear_64 ?_
              refine lv_iload_n hx hb dX7_tooNear_67 rfl (lv_at hl 4 rfl) ?_
              refine lv_aload_n hx hb dX7_tooNear_68 rfl (lv_at hl 1 rfl) ?_
              refine lv_iload_n hx hb dX7_tooNear_69 rfl (lv_at hl 4 rfl) ?_
              refine lv_iconst (v := (3 : Int32)) hx hb dX7_tooNear_70 (by decide) ?_
              obtain ⟨r_3, e_3, hf⟩ := bo hf
              refine pcallV (W0 := (wM g m0 m1 m2 m3 m4 μ_9)) (As := [.int v3_51, .int (3 : Int32)]) (rest := [.int v3_51, .int r_2, .int v2_21, .ref m0, .int v1_51]) [0, 1, 2, 3, 4] 5 0 ⟨hx, hb, hml, hown, hts⟩ hP hE hZ hS (cX7_of_ok l g m0 m1 m2 m3 m4 μ_9 v3_51 (3 : Int32) e_3) (cwV 2 hts gX7_tooNear_X7_of rfl rfl rfl hdX7_of ⟨(Nat.le_of_ble_eq_true rfl), (Nat.le_of_ble_eq_true rfl)⟩) rfl rfl rfl rfl rfl hl.1 rfl (Nat.le_of_ble_eq_true rfl) ⟨(Nat.le_of_ble_eq_true rfl), (Nat.le_of_ble_eq_true rfl)⟩ dX7_tooNear_71 ?_
              obtain ⟨r_4, e_4, hf⟩ := bo hf
              refine pcallV (W0 := (wM g m0 m1 m2 m3 m4 μ_9)) (As := [.int v2_21, .int r_2, .int v3_51, .int r_3]) (rest := [.int v1_51]) [0, 1, 2, 3, 4] 5 0 ⟨hx, hb, hml, hown, hts⟩ hP hE hZ hS (cX7_between_ok l g m0 m1 m2 m3 m4 μ_9 v2_21 r_2 v3_51 r_3 e_4) (cwV 4 hts gX7_tooNear_X7_between rfl rfl rfl hdX7_between ⟨(Nat.le_of_ble_eq_true rfl), (Nat.le_of_ble_eq_true rfl)⟩) rfl rfl rfl rfl rfl hl.1 rfl (Nat.le_of_ble_eq_true rfl) ⟨(Nat.le_of_ble_eq_true rfl), (Nat.le_of_ble_eq_true rfl)⟩ dX7_tooNear_74 ?_
              refine lv_aload_n hx hb dX7_tooNear_77 rfl (lv_at hl 1 rfl) ?_
              refine va_get (v := .ref m1) (C := RX7) (T := TX7) (N := 13) hx hb hts fiX7_tooNear_X7 hown hE.1 hP 0 rfl rfl 0 (by decide) (hts _ flX7_tooNear_7) (fun _ h9 => h9) rfl dX7_tooNear_78 ?_
              refine lv_iconst (v := (1 : Int32)) hx hb dX7_tooNear_81 (by decide) ?_
              refine va_iald hx hb hE.1 hP 1 0 rfl rfl (vin (by decide)) dX7_tooNear_82 ?_
              refine lv_icmp_ge (tgt := 90) hx hb dX7_tooNear_83 (by decide) (fun c_5 => ?_) (fun c_5 => ?_)
              · have hf := ip c_5 hf
                refine lv_iconst (v := (0 : Int32)) hx hb dX7_tooNear_90 (by decide) ?_
                refine lv_iadd hx hb dX7_tooNear_91 ?_
                refine lv_istore_n (lv' := [(1, .int (v1_51 + (0 : Int32))), (4, .int (b2i t0_51)), (0, .ref m0), (2, .int v2_21), (3, .int v3_51)]) hx hb dX7_tooNear_92 rfl hl (by decide) rfl (fun ls hl => ?_)
                refine lv_iinc (v := (v3_51 + 1)) (lv' := [(3, .int (v3_51 + 1)), (1, .int (v1_51 + (0 : Int32))), (4, .int (b2i t0_51)), (0, .ref m0), (2, .int v2_21)]) hx hb dX7_tooNear_93 hl (k := 4) rfl rfl (by decide) rfl (fun ls hl => ?_)
                refine lv_goto (tgt := 21) hx hb dX7_tooNear_96 (by decide) ?_
                exact ih21 (v1_51 + (0 : Int32)) (v3_51 + 1) _ _ ls hP hD hS (lv_sub hl [3, 1, 4, 0] rfl) hf
              · have hf := iq c_5 hf
                refine lv_iconst (v := (1 : Int32)) hx hb dX7_tooNear_86 (by decide) ?_
                refine lv_goto (tgt := 91) hx hb dX7_tooNear_87 (by decide) ?_
                refine lv_iadd hx hb dX7_tooNear_91 ?_
                refine lv_istore_n (lv' := [(1, .int (v1_51 + (1 : Int32))), (4, .int (b2i t0_51)), (0, .ref m0), (2, .int v2_21), (3, .int v3_51)]) hx hb dX7_tooNear_92 rfl hl (by decide) rfl (fun ls hl => ?_)
                refine lv_iinc (v := (v3_51 + 1)) (lv' := [(3, .int (v3_51 + 1)), (1, .int (v1_51 + (1 : Int32))), (4, .int (b2i t0_51)), (0, .ref m0), (2, .int v2_21)]) hx hb dX7_tooNear_93 hl (k := 4) rfl rfl (by decide) rfl (fun ls hl => ?_)
                refine lv_goto (tgt := 21) hx hb dX7_tooNear_96 (by decide) ?_
                exact ih21 (v1_51 + (1 : Int32)) (v3_51 + 1) _ _ ls hP hD hS (lv_sub hl [3, 1, 4, 0] rfl) hf
          intro v1_21 v3_21 H locs ls hP hD hS hl hf
          rw [fX7_tooNear_21] at hf
          refine lv_iload_n hx hb dX7_tooNear_21 rfl (lv_at hl 3 rfl) ?_
          refine lv_iload_n hx hb dX7_tooNear_22 rfl (lv_at hl 2 rfl) ?_
          refine lv_icmp_ge (tgt := 99) hx hb dX7_tooNear_23 (by decide) (fun c_6 => ?_) (fun c_6 => ?_)
          · have hf := ip c_6 hf
            refine lv_iinc (v := (v2_21 + 1)) (lv' := [(2, .int (v2_21 + 1)), (0, .ref m0), (1, .int v1_21), (3, .int v3_21)]) hx hb dX7_tooNear_99 hl (k := 2) rfl rfl (by decide) rfl (fun ls hl => ?_)
            refine lv_goto (tgt := 9) hx hb dX7_tooNear_102 (by decide) ?_
            exact ih9 v1_21 (v2_21 + 1) _ _ ls hP hD hS (lv_sub hl [1, 2, 0] rfl) hf
          · have hf := iq c_6 hf
            refine lv_aload_n hx hb dX7_tooNear_26 rfl (lv_at hl 0 rfl) ?_
            refine lv_iload_n hx hb dX7_tooNear_27 rfl (lv_at hl 2 rfl) ?_
            refine lv_iconst (v := (3 : Int32)) hx hb dX7_tooNear_28 (by decide) ?_
            obtain ⟨r_7, e_7, hf⟩ := bo hf
            refine pcallV (W0 := (wM g m0 m1 m2 m3 m4 μ_9)) (As := [.int v2_21, .int (3 : Int32)]) (rest := []) [0, 1, 2, 3, 4] 5 0 ⟨hx, hb, hml, hown, hts⟩ hP hE hZ hS (cX7_of_ok l g m0 m1 m2 m3 m4 μ_9 v2_21 (3 : Int32) e_7) (cwV 2 hts gX7_tooNear_X7_of rfl rfl rfl hdX7_of ⟨(Nat.le_of_ble_eq_true rfl), (Nat.le_of_ble_eq_true rfl)⟩) rfl rfl rfl rfl rfl hl.1 rfl (Nat.le_of_ble_eq_true rfl) ⟨(Nat.le_of_ble_eq_true rfl), (Nat.le_of_ble_eq_true rfl)⟩ dX7_tooNear_29 ?_
            refine lv_iconst (v := (-1 : Int32)) hx hb dX7_tooNear_32 (by decide) ?_
            refine lv_icmp_eq (tgt := 50) hx hb dX7_tooNear_33 (by decide) (fun c_8 => ?_) (fun c_8 => ?_)
            · have hf := ip c_8 hf
              refine lv_iconst (v := (0 : Int32)) hx hb dX7_tooNear_50 (by decide) ?_
              exact hB51 v1_21 v3_21 false _ _ ls hP hD hS (lv_sub hl [0, 1, 2, 3] rfl) hf
            · have hf := iq c_8 hf
              refine lv_aload_n hx hb dX7_tooNear_36 rfl (lv_at hl 0 rfl) ?_
              refine lv_iload_n hx hb dX7_tooNear_37 rfl (lv_at hl 3 rfl) ?_
              refine lv_iconst (v := (3 : Int32)) hx hb dX7_tooNear_38 (by decide) ?_
              obtain ⟨r_9, e_9, hf⟩ := bo hf
              refine pcallV (W0 := (wM g m0 m1 m2 m3 m4 μ_9)) (As := [.int v3_21, .int (3 : Int32)]) (rest := []) [0, 1, 2, 3, 4] 5 0 ⟨hx, hb, hml, hown, hts⟩ hP hE hZ hS (cX7_of_ok l g m0 m1 m2 m3 m4 μ_9 v3_21 (3 : Int32) e_9) (cwV 2 hts gX7_tooNear_X7_of rfl rfl rfl hdX7_of ⟨(Nat.le_of_ble_eq_true rfl), (Nat.le_of_ble_eq_true rfl)⟩) rfl rfl rfl rfl rfl hl.1 rfl (Nat.le_of_ble_eq_true rfl) ⟨(Nat.le_of_ble_eq_true rfl), (Nat.le_of_ble_eq_true rfl)⟩ dX7_tooNear_39 ?_
              refine lv_iconst (v := (-1 : Int32)) hx hb dX7_tooNear_42 (by decide) ?_
              refine lv_icmp_eq (tgt := 50) hx hb dX7_tooNear_43 (by decide) (fun c_10 => ?_) (fun c_10 => ?_)
              · have hf := ip c_10 hf
                refine lv_iconst (v := (0 : Int32)) hx hb dX7_tooNear_50 (by decide) ?_
                exact hB51 v1_21 v3_21 false _ _ ls hP hD hS (lv_sub hl [0, 1, 2, 3] rfl) hf
              · have hf := iq c_10 hf
                refine lv_iconst (v := (1 : Int32)) hx hb dX7_tooNear_46 (by decide) ?_
                refine lv_goto (tgt := 51) hx hb dX7_tooNear_47 (by decide) ?_
                exact hB51 v1_21 v3_21 true _ _ ls hP hD hS (lv_sub hl [0, 1, 2, 3] rfl) hf
      intro v1_9 v2_9 H locs ls hP hD hS hl hf
      rw [fX7_tooNear_9] at hf
      refine lv_iload_n hx hb dX7_tooNear_9 rfl (lv_at hl 2 rfl) ?_
      refine lv_aload_n hx hb dX7_tooNear_10 rfl (lv_at hl 0 rfl) ?_
      refine va_get (v := .ref m1) (C := RX7) (T := TX7) (N := 13) hx hb hts fiX7_tooNear_X7 hown hE.1 hP 0 rfl rfl 0 (by decide) (hts _ flX7_tooNear_7) (fun _ h9 => h9) rfl dX7_tooNear_11 ?_
      refine lv_iconst (v := (0 : Int32)) hx hb dX7_tooNear_14 (by decide) ?_
      refine va_iald hx hb hE.1 hP 1 0 rfl rfl (vin (by decide)) dX7_tooNear_15 ?_
      refine lv_icmp_ge (tgt := 105) hx hb dX7_tooNear_16 (by decide) (fun c_11 => ?_) (fun c_11 => ?_)
      · have hf := ip c_11 hf
        refine lv_iload_n hx hb dX7_tooNear_105 rfl (lv_at hl 1 rfl) ?_
        have ho := Option.some.inj hf
        subst ho
        exact m_iret (v := v1_9) hx hb hr hlocks hP hD hS rfl dX7_tooNear_106
      · have hf := iq c_11 hf
        refine lv_iconst (v := (0 : Int32)) hx hb dX7_tooNear_19 (by decide) ?_
        refine lv_istore_n (lv' := [(3, .int (0 : Int32)), (0, .ref m0), (1, .int v1_9), (2, .int v2_9)]) hx hb dX7_tooNear_20 rfl hl (by decide) rfl (fun ls hl => ?_)
        exact hB21 v2_9 FU v1_9 (0 : Int32) _ _ ls hP hD hS (lv_sub hl [1, 2, 3, 0] rfl) hf
  unfold fX7_tooNear at hf
  refine lv_aload_n hx hb dX7_tooNear_0 rfl (lv_at hl 0 rfl) ?_
  refine lv_iconst (v := (0 : Int32)) hx hb dX7_tooNear_1 (by decide) ?_
  refine va_put (v := .int (0 : Int32)) (ty := .int) (C := RX7) (T := TX7) (N := 13) hx hb hts fiX7_tooNear_X7 tyX7 tyX7_ok nmX7 hown hE.1 hP hD hS 0 rfl rfl 7 (by decide) (hts _ flX7_tooNear_22) (fun _ h9 => h9) rfl (by decide +kernel) rfl rfl (Nat.le_of_ble_eq_true rfl) dX7_tooNear_2 (fun H locs hP hD hS => ?_)
  have hP : va_P g.1 vwCl (wM g m0 m1 m2 m3 m4 (M_th' μ (0 : Int32))) H := hP
  have hD : va_D A (wM g m0 m1 m2 m3 m4 (M_th' μ (0 : Int32))) := hD
  refine lv_iconst (v := (0 : Int32)) hx hb dX7_tooNear_5 (by decide) ?_
  refine lv_istore_n (lv' := [(1, .int (0 : Int32)), (0, .ref m0)]) hx hb dX7_tooNear_6 rfl hl (by decide) rfl (fun ls hl => ?_)
  refine lv_iconst (v := (0 : Int32)) hx hb dX7_tooNear_7 (by decide) ?_
  refine lv_istore_n (lv' := [(2, .int (0 : Int32)), (1, .int (0 : Int32)), (0, .ref m0)]) hx hb dX7_tooNear_8 rfl hl (by decide) rfl (fun ls hl => ?_)
  exact hB9 (M_th' μ (0 : Int32)) FU (0 : Int32) (0 : Int32) _ _ ls hP hD hS (lv_sub hl [2, 1, 0] rfl) hf

def fX7_contains_147 (μ : Mo) (p0 p1 : Int32) (k32 : Bool → Int32 → Int32 → Option (Bool)) (v5_147 : Int32) (v6_147 : Int32) (t0_147 : Bool) (t1_147 : Bool) : Option (Bool) := (if (b2i t0_147) = (b2i t1_147) then k32 false v6_147 (v5_147 + 1) else k32 true v6_147 (v5_147 + 1))
def fX7_contains_122 (μ : Mo) (p0 p1 : Int32) (k32 : Bool → Int32 → Int32 → Option (Bool)) (v3_122 : Bool) (v5_122 : Int32) (v6_122 : Int32) (v7_122 : Int32) (t0_122 : Bool) : Option (Bool) := (if t0_122 = true then (if (irm v7_122 (24 : Int32)) ≤ (irm p1 (24 : Int32)) then fX7_contains_147 μ p0 p1 k32 v5_122 v6_122 v3_122 false else fX7_contains_147 μ p0 p1 k32 v5_122 v6_122 v3_122 true) else fX7_contains_147 μ p0 p1 k32 v5_122 v6_122 v3_122 false)
def fX7_contains_90 (μ : Mo) (p0 p1 : Int32) (k32 : Bool → Int32 → Int32 → Option (Bool)) (v3_90 : Bool) (v4_90 : Int32) (v5_90 : Int32) (v6_90 : Int32) (t0_90 : Int32) : Option (Bool) := (if (v4_90 / (24 : Int32)) = (v6_90 / (24 : Int32)) then fX7_contains_122 μ p0 p1 k32 v3_90 v5_90 v6_90 t0_90 false else (if (t0_90 / (24 : Int32)) = (p1 / (24 : Int32)) then fX7_contains_122 μ p0 p1 k32 v3_90 v5_90 v6_90 t0_90 true else fX7_contains_122 μ p0 p1 k32 v3_90 v5_90 v6_90 t0_90 false))
def fX7_contains_32 (μ : Mo) (p0 p1 : Int32) : Nat → Bool → Int32 → Int32 → Option (Bool)
  | 0, _, _, _ => none
  | n + 1, v3_32, v4_32, v5_32 => ((fX7_of μ p0 (2 : Int32)).bind fun r_6 => (if r_6 ≤ v5_32 then (some v3_32) else ((fX7_of μ p0 ((4 : Int32) + v5_32)).bind fun r_8 => ((fX7_down r_8).bind fun r_9 => ((fX7_of μ p0 ((4 : Int32) + v5_32)).bind fun r_10 => ((fX7_across r_10).bind fun r_11 => (if ((v4_32 + ((24 : Int32) * r_9)) + r_11) ≤ v4_32 then fX7_contains_90 μ p0 p1 (fX7_contains_32 μ p0 p1 n) v3_32 v4_32 v5_32 ((v4_32 + ((24 : Int32) * r_9)) + r_11) ((v4_32 + ((24 : Int32) * r_9)) + r_11) else fX7_contains_90 μ p0 p1 (fX7_contains_32 μ p0 p1 n) v3_32 v4_32 v5_32 ((v4_32 + ((24 : Int32) * r_9)) + r_11) v4_32)))))))
def fX7_contains (μ : Mo) (p0 p1 : Int32) : Option (Bool) := ((fX7_closes μ p0).bind fun r_13 => (if r_13 = true then ((fX7_owner μ p1).bind fun r_15 => (if r_15 = p0 then (some false) else ((fX7_of μ p0 (1 : Int32)).bind fun r_17 => fX7_contains_32 μ p0 p1 FU false r_17 (0 : Int32)))) else (some false)))
abbrev rmX7_contains : Room := { frames := 5, cells := 0, slots := 0, locals := 108 }
theorem hdX7_contains : yX7_contains.cls = RX7 ∧ yX7_contains.cls ≠ "java/lang/invoke/MethodHandle" ∧ yX7_contains.cls ≠ "java/lang/invoke/VarHandle" ∧ (parseMethodDescriptor yX7_contains.desc).map (fun d => d.parameters.length) = some 2 := by decide +kernel
set_option maxHeartbeats 4000000 in
set_option maxRecDepth 100000 in
theorem cX7_contains_ok (l : Launch) (g : Gg) (m0 m1 m2 m3 m4 : Nat) (μ : Mo) (p0 p1 : Int32) {r : Bool} (hf : fX7_contains μ p0 p1 = some r) : Met l yX7_contains wsX7_contains rmX7_contains (va_Pc [.ref m0, .int p0, .int p1] (PP g (wM g m0 m1 m2 m3 m4 μ))) (vp_Si (fun r' => r' = b2i r)) 0 0 (fun _ => False) := by
  refine Met.ofW (cc := cX7_contains) (maxL := 9) (ret := (some .boolean)) (by decide) rfl ?_
  intro p e s m args below meth c s₁ B hml hv
  obtain ⟨rfl, hP, hE, hZ⟩ := hv
  have hx := B.exec
  have hb := B.bytes
  have hr := B.returns
  have hts := atoms_spec (ws := wsX7_contains) B.pre
  have hown : s.vm.findClass RX7 = some m.cls := findClass_of_methodNamed B.named
  have hlocks := B.notSynchronized
  have hS : va_S (fun _ => False) s.heap s.heap [] := va_S.rf
  have hl := lv_entry ([.ref m0, .int p0, .int p1]) (n := 9) (Nat.le_of_ble_eq_true rfl)
  rw [lg_entry_eq]
  generalize (lg_sl ([.ref m0, .int p0, .int p1]) ++ List.replicate (9 - (lg_sl ([.ref m0, .int p0, .int p1])).length) Slot.unset).toArray = ls at hl ⊢
  have hl : lv_has ls 9 [(0, .ref m0), (1, .int p0), (2, .int p1)] := hl
  have hB32 : ∀ (n32 : Nat) (v3_32 : Bool) (v4_32 : Int32) (v5_32 : Int32) (ls : Array Slot), lv_has ls 9 [(0, .ref m0), (1, .int p0), (2, .int p1), (3, .int (b2i v3_32)), (4, .int v4_32), (5, .int v5_32)] → fX7_contains_32 μ p0 p1 n32 v3_32 v4_32 v5_32 = some r → W p l e (headSpec wsX7_contains rmX7_contains).room s m ([.ref m0, .int p0, .int p1] : List Value).toArray below meth c s.heap [] 0 0 (MQ below (vp_Si (fun r' => r' = b2i r)) ([.ref m0, .int p0, .int p1] : List Value).toArray s 0 0 (fun _ => False)) (F0 m 32 ls []) := by
    intro  n32
    induction n32 with
    | zero => intro v3_32 v4_32 v5_32 ls hl hf; exact nomatch (show (none : Option (Bool)) = some _ from hf)
    | succ n32 ih32 =>
      have hB147 : ∀ (v5_147 : Int32) (v6_147 : Int32) (t0_147 : Bool) (t1_147 : Bool) (ls : Array Slot), lv_has ls 9 [(0, .ref m0), (1, .int p0), (2, .int p1), (5, .int v5_147), (6, .int v6_147)] → fX7_contains_147 μ p0 p1 (fX7_contains_32 μ p0 p1 n32) v5_147 v6_147 t0_147 t1_147 = some r → W p l e (headSpec wsX7_contains rmX7_contains).room s m ([.ref m0, .int p0, .int p1] : List Value).toArray below meth c s.heap [] 0 0 (MQ below (vp_Si (fun r' => r' = b2i r)) ([.ref m0, .int p0, .int p1] : List Value).toArray s 0 0 (fun _ => False)) (F0 m 147 ls [.int (b2i t1_147), .int (b2i t0_147)]) := by
        intro  v5_147 v6_147 t0_147 t1_147 ls hl hf
        unfold fX7_contains_147 at hf
        refine lv_icmp_eq (tgt := 154) hx hb dX7_contains_147 (by decide) (fun c_1 => ?_) (fun c_1 => ?_)
        · have hf := ip c_1 hf
          refine lv_iconst (v := (0 : Int32)) hx hb dX7_contains_154 (by decide) ?_
          refine lv_istore_n (lv' := [(3, .int (0 : Int32)), (0, .ref m0), (1, .int p0), (2, .int p1), (5, .int v5_147), (6, .int v6_147)]) hx hb dX7_contains_155 rfl hl (by decide) rfl (fun ls hl => ?_)
          refine lv_iload hx hb dX7_contains_156 (lv_at hl 5 rfl) ?_
          refine lv_istore (lv' := [(4, .int v6_147), (3, .int (0 : Int32)), (0, .ref m0), (1, .int p0), (2, .int p1), (5, .int v5_147), (6, .int v6_147)]) hx hb dX7_contains_158 hl (by decide) rfl (fun ls hl => ?_)
          refine lv_iinc (v := (v5_147 + 1)) (lv' := [(5, .int (v5_147 + 1)), (4, .int v6_147), (3, .int (0 : Int32)), (0, .ref m0), (1, .int p0), (2, .int p1), (6, .int v6_147)]) hx hb dX7_contains_160 hl (k := 5) rfl rfl (by decide) rfl (fun ls hl => ?_)
          refine lv_goto (tgt := 32) hx hb dX7_contains_163 (by decide) ?_
          exact ih32 false v6_147 (v5_147 + 1) ls (lv_sub hl [3, 4, 5, 2, 1, 0] rfl) hf
        · have hf := iq c_1 hf
          refine lv_iconst (v := (1 : Int32)) hx hb dX7_contains_150 (by decide) ?_
          refine lv_goto (tgt := 155) hx hb dX7_contains_151 (by decide) ?_
          refine lv_istore_n (lv' := [(3, .int (1 : Int32)), (0, .ref m0), (1, .int p0), (2, .int p1), (5, .int v5_147), (6, .int v6_147)]) hx hb dX7_contains_155 rfl hl (by decide) rfl (fun ls hl => ?_)
          refine lv_iload hx hb dX7_contains_156 (lv_at hl 5 rfl) ?_
          refine lv_istore (lv' := [(4, .int v6_147), (3, .int (1 : Int32)), (0, .ref m0), (1, .int p0), (2, .int p1), (5, .int v5_147), (6, .int v6_147)]) hx hb dX7_contains_158 hl (by decide) rfl (fun ls hl => ?_)
          refine lv_iinc (v := (v5_147 + 1)) (lv' := [(5, .int (v5_147 + 1)), (4, .int v6_147), (3, .int (1 : Int32)), (0, .ref m0), (1, .int p0), (2, .int p1), (6, .int v6_147)]) hx hb dX7_contains_160 hl (k := 5) rfl rfl (by decide) rfl (fun ls hl => ?_)
          refine lv_goto (tgt := 32) hx hb dX7_contains_163 (by decide) ?_
          exact ih32 true v6_147 (v5_147 + 1) ls (lv_sub hl [3, 4, 5, 2, 1, 0] rfl) hf
      have hB122 : ∀ (v3_122 : Bool) (v5_122 : Int32) (v6_122 : Int32) (v7_122 : Int32) (t0_122 : Bool) (ls : Array Slot), lv_has ls 9 [(0, .ref m0), (1, .int p0), (2, .int p1), (3, .int (b2i v3_122)), (5, .int v5_122), (6, .int v6_122), (7, .int v7_122)] → fX7_contains_122 μ p0 p1 (fX7_contains_32 μ p0 p1 n32) v3_122 v5_122 v6_122 v7_122 t0_122 = some r → W p l e (headSpec wsX7_contains rmX7_contains).room s m ([.ref m0, .int p0, .int p1] : List Value).toArray below meth c s.heap [] 0 0 (MQ below (vp_Si (fun r' => r' = b2i r)) ([.ref m0, .int p0, .int p1] : List Value).toArray s 0 0 (fun _ => False)) (F0 m 122 ls [.int (b2i t0_122)]) := by
        intro  v3_122 v5_122 v6_122 v7_122 t0_122 ls hl hf
        unfold fX7_contains_122 at hf
        refine lv_istore (lv' := [(8, .int (b2i t0_122)), (0, .ref m0), (1, .int p0), (2, .int p1), (3, .int (b2i v3_122)), (5, .int v5_122), (6, .int v6_122), (7, .int v7_122)]) hx hb dX7_contains_122 hl (by decide) rfl (fun ls hl => ?_)
        refine lv_iload_n hx hb dX7_contains_124 rfl (lv_at hl 4 rfl) ?_
        refine lv_iload hx hb dX7_contains_125 (lv_at hl 0 rfl) ?_
        refine lv_beq (tgt := 146) hx hb dX7_contains_127 (by decide) (fun c_2 => ?_) (fun c_2 => ?_)
        · have hf := iq c_2 hf
          refine lv_iconst (v := (0 : Int32)) hx hb dX7_contains_146 (by decide) ?_
          exact hB147 v5_122 v6_122 v3_122 false ls (lv_sub hl [1, 2, 3, 5, 6] rfl) hf
        · have hf := ip c_2 hf
          refine lv_iload hx hb dX7_contains_130 (lv_at hl 7 rfl) ?_
          refine lv_bipush (v := (24 : Int32)) hx hb dX7_contains_132 (by decide) ?_
          refine lv_irm hx hb dX7_contains_134 (by decide) ?_
          refine lv_iload_n hx hb dX7_contains_135 rfl (lv_at hl 3 rfl) ?_
          refine lv_bipush (v := (24 : Int32)) hx hb dX7_contains_136 (by decide) ?_
          refine lv_irm hx hb dX7_contains_138 (by decide) ?_
          refine lv_icmp_le (tgt := 146) hx hb dX7_contains_139 (by decide) (fun c_3 => ?_) (fun c_3 => ?_)
          · have hf := ip c_3 hf
            refine lv_iconst (v := (0 : Int32)) hx hb dX7_contains_146 (by decide) ?_
            exact hB147 v5_122 v6_122 v3_122 false ls (lv_sub hl [1, 2, 3, 5, 6] rfl) hf
          · have hf := iq c_3 hf
            refine lv_iconst (v := (1 : Int32)) hx hb dX7_contains_142 (by decide) ?_
            refine lv_goto (tgt := 147) hx hb dX7_contains_143 (by decide) ?_
            exact hB147 v5_122 v6_122 v3_122 true ls (lv_sub hl [1, 2, 3, 5, 6] rfl) hf
      have hB90 : ∀ (v3_90 : Bool) (v4_90 : Int32) (v5_90 : Int32) (v6_90 : Int32) (t0_90 : Int32) (ls : Array Slot), lv_has ls 9 [(0, .ref m0), (1, .int p0), (2, .int p1), (3, .int (b2i v3_90)), (4, .int v4_90), (5, .int v5_90), (6, .int v6_90)] → fX7_contains_90 μ p0 p1 (fX7_contains_32 μ p0 p1 n32) v3_90 v4_90 v5_90 v6_90 t0_90 = some r → W p l e (headSpec wsX7_contains rmX7_contains).room s m ([.ref m0, .int p0, .int p1] : List Value).toArray below meth c s.heap [] 0 0 (MQ below (vp_Si (fun r' => r' = b2i r)) ([.ref m0, .int p0, .int p1] : List Value).toArray s 0 0 (fun _ => False)) (F0 m 90 ls [.int t0_90]) := by
        intro  v3_90 v4_90 v5_90 v6_90 t0_90 ls hl hf
        unfold fX7_contains_90 at hf
        refine lv_istore (lv' := [(7, .int t0_90), (0, .ref m0), (1, .int p0), (2, .int p1), (3, .int (b2i v3_90)), (4, .int v4_90), (5, .int v5_90), (6, .int v6_90)]) hx hb dX7_contains_90 hl (by decide) rfl (fun ls hl => ?_)
        refine lv_iload hx hb dX7_contains_92 (lv_at hl 5 rfl) ?_
        refine lv_bipush (v := (24 : Int32)) hx hb dX7_contains_94 (by decide) ?_
        refine lv_idiv hx hb dX7_contains_96 (by decide) ?_
        refine lv_iload hx hb dX7_contains_97 (lv_at hl 7 rfl) ?_
        refine lv_bipush (v := (24 : Int32)) hx hb dX7_contains_99 (by decide) ?_
        refine lv_idiv hx hb dX7_contains_101 (by decide) ?_
        refine lv_icmp_eq (tgt := 121) hx hb dX7_contains_102 (by decide) (fun c_4 => ?_) (fun c_4 => ?_)
        · have hf := ip c_4 hf
          refine lv_iconst (v := (0 : Int32)) hx hb dX7_contains_121 (by decide) ?_
          exact hB122 v3_90 v5_90 v6_90 t0_90 false ls (lv_sub hl [1, 2, 3, 4, 6, 7, 0] rfl) hf
        · have hf := iq c_4 hf
          refine lv_iload hx hb dX7_contains_105 (lv_at hl 0 rfl) ?_
          refine lv_bipush (v := (24 : Int32)) hx hb dX7_contains_107 (by decide) ?_
          refine lv_idiv hx hb dX7_contains_109 (by decide) ?_
          refine lv_iload_n hx hb dX7_contains_110 rfl (lv_at hl 3 rfl) ?_
          refine lv_bipush (v := (24 : Int32)) hx hb dX7_contains_111 (by decide) ?_
          refine lv_idiv hx hb dX7_contains_113 (by decide) ?_
          refine lv_icmp_ne (tgt := 121) hx hb dX7_contains_114 (by decide) (fun c_5 => ?_) (fun c_5 => ?_)
          · have hf := iq c_5 hf
            refine lv_iconst (v := (0 : Int32)) hx hb dX7_contains_121 (by decide) ?_
            exact hB122 v3_90 v5_90 v6_90 t0_90 false ls (lv_sub hl [1, 2, 3, 4, 6, 7, 0] rfl) hf
          · have hf := ip c_5 hf
            refine lv_iconst (v := (1 : Int32)) hx hb dX7_contains_117 (by decide) ?_
            refine lv_goto (tgt := 122) hx hb dX7_contains_118 (by decide) ?_
            exact hB122 v3_90 v5_90 v6_90 t0_90 true ls (lv_sub hl [1, 2, 3, 4, 6, 7, 0] rfl) hf
      intro v3_32 v4_32 v5_32 ls hl hf
      rw [fX7_contains_32] at hf
      refine lv_iload hx hb dX7_contains_32 (lv_at hl 5 rfl) ?_
      refine lv_aload_n hx hb dX7_contains_34 rfl (lv_at hl 0 rfl) ?_
      refine lv_iload_n hx hb dX7_contains_35 rfl (lv_at hl 1 rfl) ?_
      refine lv_iconst (v := (2 : Int32)) hx hb dX7_contains_36 (by decide) ?_
      obtain ⟨r_6, e_6, hf⟩ := bo hf
      refine pcallV (W0 := (wM g m0 m1 m2 m3 m4 μ)) (As := [.int p0, .int (2 : Int32)]) (rest := [.int v5_32]) [0, 1, 2, 3, 4] 5 0 ⟨hx, hb, hml, hown, hts⟩ hP hE hZ hS (cX7_of_ok l g m0 m1 m2 m3 m4 μ p0 (2 : Int32) e_6) (cwV 2 hts gX7_contains_X7_of rfl rfl rfl hdX7_of ⟨(Nat.le_of_ble_eq_true rfl), (Nat.le_of_ble_eq_true rfl)⟩) rfl rfl rfl rfl rfl hl.1 rfl (Nat.le_of_ble_eq_true rfl) ⟨(Nat.le_of_ble_eq_true rfl), (Nat.le_of_ble_eq_true rfl)⟩ dX7_contains_37 ?_
      refine lv_icmp_ge (tgt := 166) hx hb dX7_contains_40 (by decide) (fun c_7 => ?_) (fun c_7 => ?_)
      · have hf := ip c_7 hf
        refine lv_iload_n hx hb dX7_contains_166 rfl (lv_at hl 3 rfl) ?_
        exact p_zret (v := v3_32) hx hb hr hlocks (Option.some.inj hf) dX7_contains_167
      · have hf := iq c_7 hf
        refine lv_iload hx hb dX7_contains_43 (lv_at hl 4 rfl) ?_
        refine lv_bipush (v := (24 : Int32)) hx hb dX7_contains_45 (by decide) ?_
        refine lv_aload_n hx hb dX7_contains_47 rfl (lv_at hl 0 rfl) ?_
        refine lv_iload_n hx hb dX7_contains_48 rfl (lv_at hl 1 rfl) ?_
        refine lv_iconst (v := (4 : Int32)) hx hb dX7_contains_49 (by decide) ?_
        refine lv_iload hx hb dX7_contains_50 (lv_at hl 5 rfl) ?_
        refine lv_iadd hx hb dX7_contains_52 ?_
        obtain ⟨r_8, e_8, hf⟩ := bo hf
        refine pcallV (W0 := (wM g m0 m1 m2 m3 m4 μ)) (As := [.int p0, .int ((4 : Int32) + v5_32)]) (rest := [.int (24 : Int32), .int v4_32]) [0, 1, 2, 3, 4] 5 0 ⟨hx, hb, hml, hown, hts⟩ hP hE hZ hS (cX7_of_ok l g m0 m1 m2 m3 m4 μ p0 ((4 : Int32) + v5_32) e_8) (cwV 2 hts gX7_contains_X7_of rfl rfl rfl hdX7_of ⟨(Nat.le_of_ble_eq_true rfl), (Nat.le_of_ble_eq_true rfl)⟩) rfl rfl rfl rfl rfl hl.1 rfl (Nat.le_of_ble_eq_true rfl) ⟨(Nat.le_of_ble_eq_true rfl), (Nat.le_of_ble_eq_true rfl)⟩ dX7_contains_53 ?_
        obtain ⟨r_9, e_9, hf⟩ := bo hf
        refine pcallS (W0 := (wM g m0 m1 m2 m3 m4 μ)) (As := [.int r_8]) (rest := [.int (24 : Int32), .int v4_32]) [] ⟨hx, hb, hml, hown, hts⟩ hP hE hZ hS (cX7_down_ok l g  r_8 e_9) (va_cwS 1 hts gX7_contains_X7_down rfl rfl rfl hdX7_down.2 ⟨(Nat.le_of_ble_eq_true rfl), (Nat.le_of_ble_eq_true rfl)⟩) rfl rfl hl.1 rfl (Nat.le_of_ble_eq_true rfl) ⟨(Nat.le_of_ble_eq_true rfl), (Nat.le_of_ble_eq_true rfl)⟩ dX7_contains_56 ?_
        refine lv_imul hx hb dX7_contains_59 ?_
        refine lv_iadd hx hb dX7_contains_60 ?_
        refine lv_aload_n hx hb dX7_contains_61 rfl (lv_at hl 0 rfl) ?_
        refine lv_iload_n hx hb dX7_contains_62 rfl (lv_at hl 1 rfl) ?_
        refine lv_iconst (v := (4 : Int32)) hx hb dX7_contains_63 (by decide) ?_
        refine lv_iload hx hb dX7_contains_64 (lv_at hl 5 rfl) ?_
        refine lv_iadd hx hb dX7_contains_66 ?_
        obtain ⟨r_10, e_10, hf⟩ := bo hf
        refine pcallV (W0 := (wM g m0 m1 m2 m3 m4 μ)) (As := [.int p0, .int ((4 : Int32) + v5_32)]) (rest := [.int (v4_32 + ((24 : Int32) * r_9))]) [0, 1, 2, 3, 4] 5 0 ⟨hx, hb, hml, hown, hts⟩ hP hE hZ hS (cX7_of_ok l g m0 m1 m2 m3 m4 μ p0 ((4 : Int32) + v5_32) e_10) (cwV 2 hts gX7_contains_X7_of rfl rfl rfl hdX7_of ⟨(Nat.le_of_ble_eq_true rfl), (Nat.le_of_ble_eq_true rfl)⟩) rfl rfl rfl rfl rfl hl.1 rfl (Nat.le_of_ble_eq_true rfl) ⟨(Nat.le_of_ble_eq_true rfl), (Nat.le_of_ble_eq_true rfl)⟩ dX7_contains_67 ?_
        obtain ⟨r_11, e_11, hf⟩ := bo hf
        refine pcallS (W0 := (wM g m0 m1 m2 m3 m4 μ)) (As := [.int r_10]) (rest := [.int (v4_32 + ((24 : Int32) * r_9))]) [] ⟨hx, hb, hml, hown, hts⟩ hP hE hZ hS (cX7_across_ok l g  r_10 e_11) (va_cwS 1 hts gX7_contains_X7_across rfl rfl rfl hdX7_across.2 ⟨(Nat.le_of_ble_eq_true rfl), (Nat.le_of_ble_eq_true rfl)⟩) rfl rfl hl.1 rfl (Nat.le_of_ble_eq_true rfl) ⟨(Nat.le_of_ble_eq_true rfl), (Nat.le_of_ble_eq_true rfl)⟩ dX7_contains_70 ?_
        refine lv_iadd hx hb dX7_contains_73 ?_
        refine lv_istore (lv' := [(6, .int ((v4_32 + ((24 : Int32) * r_9)) + r_11)), (0, .ref m0), (1, .int p0), (2, .int p1), (3, .int (b2i v3_32)), (4, .int v4_32), (5, .int v5_32)]) hx hb dX7_contains_74 hl (by decide) rfl (fun ls hl => ?_)
        refine lv_iload hx hb dX7_contains_76 (lv_at hl 5 rfl) ?_
        refine lv_iload hx hb dX7_contains_78 (lv_at hl 0 rfl) ?_
        refine lv_icmp_ge (tgt := 88) hx hb dX7_contains_80 (by decide) (fun c_12 => ?_) (fun c_12 => ?_)
        · have hf := ip c_12 hf
          refine lv_iload hx hb dX7_contains_88 (lv_at hl 0 rfl) ?_
          exact hB90 v3_32 v4_32 v5_32 ((v4_32 + ((24 : Int32) * r_9)) + r_11) ((v4_32 + ((24 : Int32) * r_9)) + r_11) ls (lv_sub hl [1, 2, 3, 4, 5, 6, 0] rfl) hf
        · have hf := iq c_12 hf
          refine lv_iload hx hb dX7_contains_83 (lv_at hl 5 rfl) ?_
          refine lv_goto (tgt := 90) hx hb dX7_contains_85 (by decide) ?_
          exact hB90 v3_32 v4_32 v5_32 ((v4_32 + ((24 : Int32) * r_9)) + r_11) v4_32 ls (lv_sub hl [1, 2, 3, 4, 5, 6, 0] rfl) hf
  unfold fX7_contains at hf
  refine lv_aload_n hx hb dX7_contains_0 rfl (lv_at hl 0 rfl) ?_
  refine lv_iload_n hx hb dX7_contains_1 rfl (lv_at hl 1 rfl) ?_
  obtain ⟨r_13, e_13, hf⟩ := bo hf
  refine pcallV (W0 := (wM g m0 m1 m2 m3 m4 μ)) (As := [.int p0]) (rest := []) [0, 1, 2, 3, 4] 5 0 ⟨hx, hb, hml, hown, hts⟩ hP hE hZ hS (cX7_closes_ok l g m0 m1 m2 m3 m4 μ p0 e_13) (cwV 1 hts gX7_contains_X7_closes rfl rfl rfl hdX7_closes ⟨(Nat.le_of_ble_eq_true rfl), (Nat.le_of_ble_eq_true rfl)⟩) rfl rfl rfl rfl rfl hl.1 rfl (Nat.le_of_ble_eq_true rfl) ⟨(Nat.le_of_ble_eq_true rfl), (Nat.le_of_ble_eq_true rfl)⟩ dX7_contains_2 ?_
  refine lv_beq (tgt := 17) hx hb dX7_contains_5 (by decide) (fun c_14 => ?_) (fun c_14 => ?_)
  · have hf := iq c_14 hf
    refine lv_iconst (v := (0 : Int32)) hx hb dX7_contains_17 (by decide) ?_
    exact p_zret (v := false) hx hb hr hlocks (Option.some.inj hf) dX7_contains_18
  · have hf := ip c_14 hf
    refine lv_aload_n hx hb dX7_contains_8 rfl (lv_at hl 0 rfl) ?_
    refine lv_iload_n hx hb dX7_contains_9 rfl (lv_at hl 2 rfl) ?_
    obtain ⟨r_15, e_15, hf⟩ := bo hf
    refine pcallV (W0 := (wM g m0 m1 m2 m3 m4 μ)) (As := [.int p1]) (rest := []) [0, 1, 2, 3, 4] 5 0 ⟨hx, hb, hml, hown, hts⟩ hP hE hZ hS (cX7_owner_ok l g m0 m1 m2 m3 m4 μ p1 e_15) (cwV 1 hts gX7_contains_X7_owner rfl rfl rfl hdX7_owner ⟨(Nat.le_of_ble_eq_true rfl), (Nat.le_of_ble_eq_true rfl)⟩) rfl rfl rfl rfl rfl hl.1 rfl (Nat.le_of_ble_eq_true rfl) ⟨(Nat.le_of_ble_eq_true rfl), (Nat.le_of_ble_eq_true rfl)⟩ dX7_contains_10 ?_
    refine lv_iload_n hx hb dX7_contains_13 rfl (lv_at hl 1 rfl) ?_
    refine lv_icmp_ne (tgt := 19) hx hb dX7_contains_14 (by decide) (fun c_16 => ?_) (fun c_16 => ?_)
    · have hf := iq c_16 hf
      refine lv_iconst (v := (0 : Int32)) hx hb dX7_contains_19 (by decide) ?_
      refine lv_istore_n (lv' := [(3, .int (0 : Int32)), (0, .ref m0), (1, .int p0), (2, .int p1)]) hx hb dX7_contains_20 rfl hl (by decide) rfl (fun ls hl => ?_)
      refine lv_aload_n hx hb dX7_contains_21 rfl (lv_at hl 1 rfl) ?_
      refine lv_iload_n hx hb dX7_contains_22 rfl (lv_at hl 2 rfl) ?_
      refine lv_iconst (v := (1 : Int32)) hx hb dX7_contains_23 (by decide) ?_
      obtain ⟨r_17, e_17, hf⟩ := bo hf
      refine pcallV (W0 := (wM g m0 m1 m2 m3 m4 μ)) (As := [.int p0, .int (1 : Int32)]) (rest := []) [0, 1, 2, 3, 4] 5 0 ⟨hx, hb, hml, hown, hts⟩ hP hE hZ hS (cX7_of_ok l g m0 m1 m2 m3 m4 μ p0 (1 : Int32) e_17) (cwV 2 hts gX7_contains_X7_of rfl rfl rfl hdX7_of ⟨(Nat.le_of_ble_eq_true rfl), (Nat.le_of_ble_eq_true rfl)⟩) rfl rfl rfl rfl rfl hl.1 rfl (Nat.le_of_ble_eq_true rfl) ⟨(Nat.le_of_ble_eq_true rfl), (Nat.le_of_ble_eq_true rfl)⟩ dX7_contains_24 ?_
      refine lv_istore (lv' := [(4, .int r_17), (3, .int (0 : Int32)), (0, .ref m0), (1, .int p0), (2, .int p1)]) hx hb dX7_contains_27 hl (by decide) rfl (fun ls hl => ?_)
      refine lv_iconst (v := (0 : Int32)) hx hb dX7_contains_29 (by decide) ?_
      refine lv_istore (lv' := [(5, .int (0 : Int32)), (4, .int r_17), (3, .int (0 : Int32)), (0, .ref m0), (1, .int p0), (2, .int p1)]) hx hb dX7_contains_30 hl (by decide) rfl (fun ls hl => ?_)
      exact hB32 FU false r_17 (0 : Int32) ls (lv_sub hl [3, 4, 5, 2, 1, 0] rfl) hf
    · have hf := ip c_16 hf
      refine lv_iconst (v := (0 : Int32)) hx hb dX7_contains_17 (by decide) ?_
      exact p_zret (v := false) hx hb hr hlocks (Option.some.inj hf) dX7_contains_18

def fX7_isWithinByRays_21 (p0 p1 : Int32) (t1_21 : Bool) (μ_21 : Mo) : Option (Bool × Mo) := (if (b2i t1_21) = 0 then ((fX7_contains (M_th' μ_21 (b2i t1_21)) p0 p1).bind fun r_2 => (if r_2 = true then (some (true, (M_th' μ_21 (b2i t1_21)))) else (some (false, (M_th' μ_21 (b2i t1_21)))))) else (some (false, (M_th' μ_21 (b2i t1_21)))))
def fX7_isWithinByRays (μ : Mo) (p0 p1 : Int32) : Option (Bool × Mo) := ((fX7_isLine μ p0).bind fun r_4 => (if r_4 = true then ((fX7_isPoint p1).bind fun r_6 => (if r_6 = true then fX7_isWithinByRays_21 p0 p1 false μ else fX7_isWithinByRays_21 p0 p1 true μ)) else fX7_isWithinByRays_21 p0 p1 true μ))
abbrev rmX7_isWithinByRays : Room := { frames := 6, cells := 0, slots := 0, locals := 136 }
theorem hdX7_isWithinByRays : yX7_isWithinByRays.cls = RX7 ∧ yX7_isWithinByRays.cls ≠ "java/lang/invoke/MethodHandle" ∧ yX7_isWithinByRays.cls ≠ "java/lang/invoke/VarHandle" ∧ (parseMethodDescriptor yX7_isWithinByRays.desc).map (fun d => d.parameters.length) = some 2 := by decide +kernel
theorem fiX7_isWithinByRays_X7 : ∀ w ∈ wsX70, w ∈ wsX7_isWithinByRays := by decide +kernel
theorem flX7_isWithinByRays_22 : (.fieldLink RX7 22 "ContourLabelsModel" "thrown" "I" : Cond) ∈ wsX7_isWithinByRays := by decide +kernel
set_option maxHeartbeats 4000000 in
set_option maxRecDepth 100000 in
theorem cX7_isWithinByRays_ok (l : Launch) (g : Gg) (m0 m1 m2 m3 m4 : Nat) (μ : Mo) (p0 p1 : Int32) (sz : Nat) {o : Bool × Mo} (hf : fX7_isWithinByRays μ p0 p1 = some o) : Met l yX7_isWithinByRays wsX7_isWithinByRays rmX7_isWithinByRays (va_Pc [.ref m0, .int p0, .int p1] (PM g (wM g m0 m1 m2 m3 m4 μ) sz)) (va_Qi (fun r' (_ : Unit) => r' = b2i o.1) (fun _ t => PQ g (wM g m0 m1 m2 m3 m4 o.2) (va_A (wM g m0 m1 m2 m3 m4 μ) sz) t) (va_A (wM g m0 m1 m2 m3 m4 μ) sz)) 0 0 (va_A (wM g m0 m1 m2 m3 m4 μ) sz) := by
  refine Met.ofW (cc := cX7_isWithinByRays) (maxL := 3) (ret := (some .boolean)) (by decide) rfl ?_
  intro p e s m args below meth c s₁ B hml hv
  obtain ⟨rfl, rfl, hP, hD0, hE, hZ⟩ := hv
  have hx := B.exec
  have hb := B.bytes
  have hr := B.returns
  have hts := atoms_spec (ws := wsX7_isWithinByRays) B.pre
  have hown : s.vm.findClass RX7 = some m.cls := findClass_of_methodNamed B.named
  have hlocks := B.notSynchronized
  have hD := hD0.self (sz := s.heap.size)
  generalize hAe : (va_A (wM g m0 m1 m2 m3 m4 μ) s.heap.size) = A at hD hZ ⊢
  have hA : ∀ q : Nat, s.heap.size ≤ q → A q := fun q h => by rw [← hAe]; exact Or.inr h
  have hS : va_S A s.heap s.heap [] := va_S.rf
  have hP : va_P g.1 vwCl (wM g m0 m1 m2 m3 m4 μ) s.heap := hP
  have hl := lv_entry ([.ref m0, .int p0, .int p1]) (n := 3) (Nat.le_of_ble_eq_true rfl)
  rw [lg_entry_eq]
  generalize (lg_sl ([.ref m0, .int p0, .int p1]) ++ List.replicate (3 - (lg_sl ([.ref m0, .int p0, .int p1])).length) Slot.unset).toArray = ls at hl ⊢
  have hl : lv_has ls 3 [(0, .ref m0), (1, .int p0), (2, .int p1)] := hl
  have hB21 : ∀ (t1_21 : Bool) (μ_21 : Mo) (H : Heap) (locs : List Loc) (ls : Array Slot), va_P g.1 vwCl (wM g m0 m1 m2 m3 m4 μ_21) H → va_D A (wM g m0 m1 m2 m3 m4 μ_21) → va_S A s.heap H locs → lv_has ls 3 [(0, .ref m0), (1, .int p0), (2, .int p1)] → fX7_isWithinByRays_21 p0 p1 t1_21 μ_21 = some o → W p l e (headSpec wsX7_isWithinByRays rmX7_isWithinByRays).room s m ([.ref m0, .int p0, .int p1] : List Value).toArray below meth c H locs 0 0 (MQ below (va_Qi (fun r' (_ : Unit) => r' = b2i o.1) (fun _ t => PQ g (wM g m0 m1 m2 m3 m4 o.2) A t) A) ([.ref m0, .int p0, .int p1] : List Value).toArray s 0 0 A) (F0 m 21 ls [.int (b2i t1_21), .ref m0]) := by
    intro  t1_21 μ_21 H locs ls hP hD hS hl hf
    unfold fX7_isWithinByRays_21 at hf
    refine va_put (v := .int (b2i t1_21)) (ty := .int) (C := RX7) (T := TX7) (N := 13) hx hb hts fiX7_isWithinByRays_X7 tyX7 tyX7_ok nmX7 hown hE.1 hP hD hS 0 rfl rfl 7 (by decide) (hts _ flX7_isWithinByRays_22) (fun _ h9 => h9) rfl (by decide +kernel) rfl rfl (Nat.le_of_ble_eq_true rfl) dX7_isWithinByRays_21 (fun H locs hP hD hS => ?_)
    have hP : va_P g.1 vwCl (wM g m0 m1 m2 m3 m4 (M_th' μ_21 (b2i t1_21))) H := hP
    have hD : va_D A (wM g m0 m1 m2 m3 m4 (M_th' μ_21 (b2i t1_21))) := hD
    refine lv_aload_n hx hb dX7_isWithinByRays_24 rfl (lv_at hl 0 rfl) ?_
    refine va_get (v := .int (b2i t1_21)) (C := RX7) (T := TX7) (N := 13) hx hb hts fiX7_isWithinByRays_X7 hown hE.1 hP 0 rfl rfl 7 (by decide) (hts _ flX7_isWithinByRays_22) (fun _ h9 => h9) rfl dX7_isWithinByRays_25 ?_
    refine lv_if_ne (tgt := 44) hx hb dX7_isWithinByRays_28 (by decide) (fun c_1 => ?_) (fun c_1 => ?_)
    · have hf := iq c_1 hf
      refine lv_iconst (v := (0 : Int32)) hx hb dX7_isWithinByRays_44 (by decide) ?_
      have ho := Option.some.inj hf
      subst ho
      exact m_zret (v := false) hx hb hr hlocks hP hD hS rfl dX7_isWithinByRays_45
    · have hf := ip c_1 hf
      refine lv_aload_n hx hb dX7_isWithinByRays_31 rfl (lv_at hl 0 rfl) ?_
      refine lv_iload_n hx hb dX7_isWithinByRays_32 rfl (lv_at hl 1 rfl) ?_
      refine lv_iload_n hx hb dX7_isWithinByRays_33 rfl (lv_at hl 2 rfl) ?_
      obtain ⟨r_2, e_2, hf⟩ := bo hf
      refine pcallV (W0 := (wM g m0 m1 m2 m3 m4 (M_th' μ_21 (b2i t1_21)))) (As := [.int p0, .int p1]) (rest := []) [0, 1, 2, 3, 4] 5 0 ⟨hx, hb, hml, hown, hts⟩ hP hE hZ hS (cX7_contains_ok l g m0 m1 m2 m3 m4 (M_th' μ_21 (b2i t1_21)) p0 p1 e_2) (cwV 2 hts gX7_isWithinByRays_X7_contains rfl rfl rfl hdX7_contains ⟨(Nat.le_of_ble_eq_true rfl), (Nat.le_of_ble_eq_true rfl)⟩) rfl rfl rfl rfl rfl hl.1 rfl (Nat.le_of_ble_eq_true rfl) ⟨(Nat.le_of_ble_eq_true rfl), (Nat.le_of_ble_eq_true rfl)⟩ dX7_isWithinByRays_34 ?_
      refine lv_beq (tgt := 44) hx hb dX7_isWithinByRays_37 (by decide) (fun c_3 => ?_) (fun c_3 => ?_)
      · have hf := iq c_3 hf
        refine lv_iconst (v := (0 : Int32)) hx hb dX7_isWithinByRays_44 (by decide) ?_
        have ho := Option.some.inj hf
        subst ho
        exact m_zret (v := false) hx hb hr hlocks hP hD hS rfl dX7_isWithinByRays_45
      · have hf := ip c_3 hf
        refine lv_iconst (v := (1 : Int32)) hx hb dX7_isWithinByRays_40 (by decide) ?_
        refine lv_goto (tgt := 45) hx hb dX7_isWithinByRays_41 (by decide) ?_
        have ho := Option.some.inj hf
        subst ho
        exact m_zret (v := true) hx hb hr hlocks hP hD hS rfl dX7_isWithinByRays_45
  unfold fX7_isWithinByRays at hf
  refine lv_aload_n hx hb dX7_isWithinByRays_0 rfl (lv_at hl 0 rfl) ?_
  refine lv_aload_n hx hb dX7_isWithinByRays_1 rfl (lv_at hl 0 rfl) ?_
  refine lv_iload_n hx hb dX7_isWithinByRays_2 rfl (lv_at hl 1 rfl) ?_
  obtain ⟨r_4, e_4, hf⟩ := bo hf
  refine pcallV (W0 := (wM g m0 m1 m2 m3 m4 μ)) (As := [.int p0]) (rest := [.ref m0]) [0, 1, 2, 3, 4] 5 0 ⟨hx, hb, hml, hown, hts⟩ hP hE hZ hS (cX7_isLine_ok l g m0 m1 m2 m3 m4 μ p0 e_4) (cwV 1 hts gX7_isWithinByRays_X7_isLine rfl rfl rfl hdX7_isLine ⟨(Nat.le_of_ble_eq_true rfl), (Nat.le_of_ble_eq_true rfl)⟩) rfl rfl rfl rfl rfl hl.1 rfl (Nat.le_of_ble_eq_true rfl) ⟨(Nat.le_of_ble_eq_true rfl), (Nat.le_of_ble_eq_true rfl)⟩ dX7_isWithinByRays_3 ?_
  refine lv_beq (tgt := 20) hx hb dX7_isWithinByRays_6 (by decide) (fun c_5 => ?_) (fun c_5 => ?_)
  · have hf := iq c_5 hf
    refine lv_iconst (v := (1 : Int32)) hx hb dX7_isWithinByRays_20 (by decide) ?_
    exact hB21 true μ _ _ ls hP hD hS (lv_sub hl [0, 1, 2] rfl) hf
  · have hf := ip c_5 hf
    refine lv_iload_n hx hb dX7_isWithinByRays_9 rfl (lv_at hl 2 rfl) ?_
    obtain ⟨r_6, e_6, hf⟩ := bo hf
    refine pcallS (W0 := (wM g m0 m1 m2 m3 m4 μ)) (As := [.int p1]) (rest := [.ref m0]) [] ⟨hx, hb, hml, hown, hts⟩ hP hE hZ hS (cX7_isPoint_ok l g  p1 e_6) (va_cwS 1 hts gX7_isWithinByRays_X7_isPoint rfl rfl rfl hdX7_isPoint.2 ⟨(Nat.le_of_ble_eq_true rfl), (Nat.le_of_ble_eq_true rfl)⟩) rfl rfl hl.1 rfl (Nat.le_of_ble_eq_true rfl) ⟨(Nat.le_of_ble_eq_true rfl), (Nat.le_of_ble_eq_true rfl)⟩ dX7_isWithinByRays_10 ?_
    refine lv_beq (tgt := 20) hx hb dX7_isWithinByRays_13 (by decide) (fun c_7 => ?_) (fun c_7 => ?_)
    · have hf := iq c_7 hf
      refine lv_iconst (v := (1 : Int32)) hx hb dX7_isWithinByRays_20 (by decide) ?_
      exact hB21 true μ _ _ ls hP hD hS (lv_sub hl [0, 1, 2] rfl) hf
    · have hf := ip c_7 hf
      refine lv_iconst (v := (0 : Int32)) hx hb dX7_isWithinByRays_16 (by decide) ?_
      refine lv_goto (tgt := 21) hx hb dX7_isWithinByRays_17 (by decide) ?_
      exact hB21 false μ _ _ ls hP hD hS (lv_sub hl [0, 1, 2] rfl) hf

def fX7_isWithinBySpreading (μ : Mo) (p0 p1 : Int32) : Option (Bool × Mo) := ((fX7_isWithinByRays μ p0 p1).bind fun r_1 => (some (r_1.1, r_1.2)))
abbrev rmX7_isWithinBySpreading : Room := { frames := 7, cells := 0, slots := 0, locals := 158 }
theorem hdX7_isWithinBySpreading : yX7_isWithinBySpreading.cls = RX7 ∧ yX7_isWithinBySpreading.cls ≠ "java/lang/invoke/MethodHandle" ∧ yX7_isWithinBySpreading.cls ≠ "java/lang/invoke/VarHandle" ∧ (parseMethodDescriptor yX7_isWithinBySpreading.desc).map (fun d => d.parameters.length) = some 2 := by decide +kernel
set_option maxHeartbeats 4000000 in
set_option maxRecDepth 100000 in
theorem cX7_isWithinBySpreading_ok (l : Launch) (g : Gg) (m0 m1 m2 m3 m4 : Nat) (μ : Mo) (p0 p1 : Int32) (sz : Nat) {o : Bool × Mo} (hf : fX7_isWithinBySpreading μ p0 p1 = some o) : Met l yX7_isWithinBySpreading wsX7_isWithinBySpreading rmX7_isWithinBySpreading (va_Pc [.ref m0, .int p0, .int p1] (PM g (wM g m0 m1 m2 m3 m4 μ) sz)) (va_Qi (fun r' (_ : Unit) => r' = b2i o.1) (fun _ t => PQ g (wM g m0 m1 m2 m3 m4 o.2) (va_A (wM g m0 m1 m2 m3 m4 μ) sz) t) (va_A (wM g m0 m1 m2 m3 m4 μ) sz)) 0 0 (va_A (wM g m0 m1 m2 m3 m4 μ) sz) := by
  refine Met.ofW (cc := cX7_isWithinBySpreading) (maxL := 3) (ret := (some .boolean)) (by decide) rfl ?_
  intro p e s m args below meth c s₁ B hml hv
  obtain ⟨rfl, rfl, hP, hD0, hE, hZ⟩ := hv
  have hx := B.exec
  have hb := B.bytes
  have hr := B.returns
  have hts := atoms_spec (ws := wsX7_isWithinBySpreading) B.pre
  have hown : s.vm.findClass RX7 = some m.cls := findClass_of_methodNamed B.named
  have hlocks := B.notSynchronized
  have hD := hD0.self (sz := s.heap.size)
  generalize hAe : (va_A (wM g m0 m1 m2 m3 m4 μ) s.heap.size) = A at hD hZ ⊢
  have hA : ∀ q : Nat, s.heap.size ≤ q → A q := fun q h => by rw [← hAe]; exact Or.inr h
  have hS : va_S A s.heap s.heap [] := va_S.rf
  have hP : va_P g.1 vwCl (wM g m0 m1 m2 m3 m4 μ) s.heap := hP
  have hl := lv_entry ([.ref m0, .int p0, .int p1]) (n := 3) (Nat.le_of_ble_eq_true rfl)
  rw [lg_entry_eq]
  generalize (lg_sl ([.ref m0, .int p0, .int p1]) ++ List.replicate (3 - (lg_sl ([.ref m0, .int p0, .int p1])).length) Slot.unset).toArray = ls at hl ⊢
  have hl : lv_has ls 3 [(0, .ref m0), (1, .int p0), (2, .int p1)] := hl
  unfold fX7_isWithinBySpreading at hf
  refine lv_aload_n hx hb dX7_isWithinBySpreading_0 rfl (lv_at hl 0 rfl) ?_
  refine lv_iload_n hx hb dX7_isWithinBySpreading_1 rfl (lv_at hl 1 rfl) ?_
  refine lv_iload_n hx hb dX7_isWithinBySpreading_2 rfl (lv_at hl 2 rfl) ?_
  obtain ⟨r_1, e_1, hf⟩ := bo hf
  refine mcallVi (W0 := (wM g m0 m1 m2 m3 m4 μ)) (Wc := (wM g m0 m1 m2 m3 m4 μ)) (Wr := ([] : va_W)) (W1 := (wM g m0 m1 m2 m3 m4 r_1.2)) (W2 := (wM g m0 m1 m2 m3 m4 r_1.2)) (As := [.int p0, .int p1]) (rest := []) [0, 1, 2, 3, 4] [] [0, 1, 2, 3, 4] 5 0 ⟨hx, hb, hml, hown, hts⟩ hP hD hE hZ hS hA (cX7_isWithinByRays_ok l g m0 m1 m2 m3 m4 μ p0 p1 _ e_1) (cwV 2 hts gX7_isWithinBySpreading_X7_isWithinByRays rfl rfl rfl hdX7_isWithinByRays ⟨(Nat.le_of_ble_eq_true rfl), (Nat.le_of_ble_eq_true rfl)⟩) rfl rfl rfl (by decide) (by decide) (by decide) (by decide) rfl rfl rfl rfl hl.1 rfl (Nat.le_of_ble_eq_true rfl) ⟨(Nat.le_of_ble_eq_true rfl), (Nat.le_of_ble_eq_true rfl)⟩ dX7_isWithinBySpreading_3 (fun H locs hP hD hS => ?_)
  have ho := Option.some.inj hf
  subst ho
  exact m_zret (v := r_1.1) hx hb hr hlocks hP hD hS rfl dX7_isWithinBySpreading_6

def fX7_pointsWithin_11 (p0 : Int32) (v3_11 : Bool) (μ_11 : Mo) : Nat → Int32 → Int32 → Option (Int32 × Mo)
  | 0, _, _ => none
  | n + 1, v2_11, v4_11 => (if (384 : Int32) ≤ v4_11 then (some (v2_11, μ_11)) else (if v3_11 = true then ((fX7_contains μ_11 p0 v4_11).bind fun r_3 => (if r_3 = true then fX7_pointsWithin_11 p0 v3_11 μ_11 n (v2_11 + (1 : Int32)) (v4_11 + 1) else fX7_pointsWithin_11 p0 v3_11 μ_11 n (v2_11 + (0 : Int32)) (v4_11 + 1))) else (some (v2_11, μ_11))))
def fX7_pointsWithin (μ : Mo) (p0 : Int32) : Option (Int32 × Mo) := ((fX7_knows μ p0).bind fun r_5 => fX7_pointsWithin_11 p0 r_5.1 r_5.2 FU (0 : Int32) (0 : Int32))
abbrev rmX7_pointsWithin : Room := { frames := 6, cells := 0, slots := 0, locals := 136 }
theorem hdX7_pointsWithin : yX7_pointsWithin.cls = RX7 ∧ yX7_pointsWithin.cls ≠ "java/lang/invoke/MethodHandle" ∧ yX7_pointsWithin.cls ≠ "java/lang/invoke/VarHandle" ∧ (parseMethodDescriptor yX7_pointsWithin.desc).map (fun d => d.parameters.length) = some 1 := by decide +kernel
set_option maxHeartbeats 4000000 in
set_option maxRecDepth 100000 in
theorem cX7_pointsWithin_ok (l : Launch) (g : Gg) (m0 m1 m2 m3 m4 : Nat) (μ : Mo) (p0 : Int32) (sz : Nat) {o : Int32 × Mo} (hf : fX7_pointsWithin μ p0 = some o) : Met l yX7_pointsWithin wsX7_pointsWithin rmX7_pointsWithin (va_Pc [.ref m0, .int p0] (PM g (wM g m0 m1 m2 m3 m4 μ) sz)) (va_Qi (fun r' (_ : Unit) => r' = o.1) (fun _ t => PQ g (wM g m0 m1 m2 m3 m4 o.2) (va_A (wM g m0 m1 m2 m3 m4 μ) sz) t) (va_A (wM g m0 m1 m2 m3 m4 μ) sz)) 0 0 (va_A (wM g m0 m1 m2 m3 m4 μ) sz) := by
  refine Met.ofW (cc := cX7_pointsWithin) (maxL := 5) (ret := (some .int)) (by decide) rfl ?_
  intro p e s m args below meth c s₁ B hml hv
  obtain ⟨rfl, rfl, hP, hD0, hE, hZ⟩ := hv
  have hx := B.exec
  have hb := B.bytes
  have hr := B.returns
  have hts := atoms_spec (ws := wsX7_pointsWithin) B.pre
  have hown : s.vm.findClass RX7 = some m.cls := findClass_of_methodNamed B.named
  have hlocks := B.notSynchronized
  have hD := hD0.self (sz := s.heap.size)
  generalize hAe : (va_A (wM g m0 m1 m2 m3 m4 μ) s.heap.size) = A at hD hZ ⊢
  have hA : ∀ q : Nat, s.heap.size ≤ q → A q := fun q h => by rw [← hAe]; exact Or.inr h
  have hS : va_S A s.heap s.heap [] := va_S.rf
  have hP : va_P g.1 vwCl (wM g m0 m1 m2 m3 m4 μ) s.heap := hP
  have hl := lv_entry ([.ref m0, .int p0]) (n := 5) (Nat.le_of_ble_eq_true rfl)
  rw [lg_entry_eq]
  generalize (lg_sl ([.ref m0, .int p0]) ++ List.replicate (5 - (lg_sl ([.ref m0, .int p0])).length) Slot.unset).toArray = ls at hl ⊢
  have hl : lv_has ls 5 [(0, .ref m0), (1, .int p0)] := hl
  have hB11 : ∀ (v3_11 : Bool) (μ_11 : Mo) (n11 : Nat) (v2_11 : Int32) (v4_11 : Int32) (H : Heap) (locs : List Loc) (ls : Array Slot), va_P g.1 vwCl (wM g m0 m1 m2 m3 m4 μ_11) H → va_D A (wM g m0 m1 m2 m3 m4 μ_11) → va_S A s.heap H locs → lv_has ls 5 [(0, .ref m0), (1, .int p0), (2, .int v2_11), (3, .int (b2i v3_11)), (4, .int v4_11)] → fX7_pointsWithin_11 p0 v3_11 μ_11 n11 v2_11 v4_11 = some o → W p l e (headSpec wsX7_pointsWithin rmX7_pointsWithin).room s m ([.ref m0, .int p0] : List Value).toArray below meth c H locs 0 0 (MQ below (va_Qi (fun r' (_ : Unit) => r' = o.1) (fun _ t => PQ g (wM g m0 m1 m2 m3 m4 o.2) A t) A) ([.ref m0, .int p0] : List Value).toArray s 0 0 A) (F0 m 11 ls []) := by
    intro v3_11 μ_11 n11
    induction n11 with
    | zero => intro v2_11 v4_11 H locs ls hP hD hS hl hf; exact nomatch (show (none : Option (Int32 × Mo)) = some _ from hf)
    | succ n11 ih11 =>
      intro v2_11 v4_11 H locs ls hP hD hS hl hf
      rw [fX7_pointsWithin_11] at hf
      refine lv_iload hx hb dX7_pointsWithin_11 (lv_at hl 4 rfl) ?_
      refine lv_sipush (v := (384 : Int32)) hx hb dX7_pointsWithin_13 (by decide) ?_
      refine lv_icmp_ge (tgt := 47) hx hb dX7_pointsWithin_16 (by decide) (fun c_1 => ?_) (fun c_1 => ?_)
      · have hf := ip c_1 hf
        refine lv_iload_n hx hb dX7_pointsWithin_47 rfl (lv_at hl 2 rfl) ?_
        have ho := Option.some.inj hf
        subst ho
        exact m_iret (v := v2_11) hx hb hr hlocks hP hD hS rfl dX7_pointsWithin_48
      · have hf := iq c_1 hf
        refine lv_iload_n hx hb dX7_pointsWithin_19 rfl (lv_at hl 3 rfl) ?_
        refine lv_beq (tgt := 47) hx hb dX7_pointsWithin_20 (by decide) (fun c_2 => ?_) (fun c_2 => ?_)
        · have hf := iq c_2 hf
          refine lv_iload_n hx hb dX7_pointsWithin_47 rfl (lv_at hl 2 rfl) ?_
          have ho := Option.some.inj hf
          subst ho
          exact m_iret (v := v2_11) hx hb hr hlocks hP hD hS rfl dX7_pointsWithin_48
        · have hf := ip c_2 hf
          refine lv_iload_n hx hb dX7_pointsWithin_23 rfl (lv_at hl 2 rfl) ?_
          refine lv_aload_n hx hb dX7_pointsWithin_24 rfl (lv_at hl 0 rfl) ?_
          refine lv_iload_n hx hb dX7_pointsWithin_25 rfl (lv_at hl 1 rfl) ?_
          refine lv_iload hx hb dX7_pointsWithin_26 (lv_at hl 4 rfl) ?_
          obtain ⟨r_3, e_3, hf⟩ := bo hf
          refine pcallV (W0 := (wM g m0 m1 m2 m3 m4 μ_11)) (As := [.int p0, .int v4_11]) (rest := [.int v2_11]) [0, 1, 2, 3, 4] 5 0 ⟨hx, hb, hml, hown, hts⟩ hP hE hZ hS (cX7_contains_ok l g m0 m1 m2 m3 m4 μ_11 p0 v4_11 e_3) (cwV 2 hts gX7_pointsWithin_X7_contains rfl rfl rfl hdX7_contains ⟨(Nat.le_of_ble_eq_true rfl), (Nat.le_of_ble_eq_true rfl)⟩) rfl rfl rfl rfl rfl hl.1 rfl (Nat.le_of_ble_eq_true rfl) ⟨(Nat.le_of_ble_eq_true rfl), (Nat.le_of_ble_eq_true rfl)⟩ dX7_pointsWithin_28 ?_
          refine lv_beq (tgt := 38) hx hb dX7_pointsWithin_31 (by decide) (fun c_4 => ?_) (fun c_4 => ?_)
          · have hf := iq c_4 hf
            refine lv_iconst (v := (0 : Int32)) hx hb dX7_pointsWithin_38 (by decide) ?_
            refine lv_iadd hx hb dX7_pointsWithin_39 ?_
            refine lv_istore_n (lv' := [(2, .int (v2_11 + (0 : Int32))), (0, .ref m0), (1, .int p0), (3, .int (b2i v3_11)), (4, .int v4_11)]) hx hb dX7_pointsWithin_40 rfl hl (by decide) rfl (fun ls hl => ?_)
            refine lv_iinc (v := (v4_11 + 1)) (lv' := [(4, .int (v4_11 + 1)), (2, .int (v2_11 + (0 : Int32))), (0, .ref m0), (1, .int p0), (3, .int (b2i v3_11))]) hx hb dX7_pointsWithin_41 hl (k := 4) rfl rfl (by decide) rfl (fun ls hl => ?_)
            refine lv_goto (tgt := 11) hx hb dX7_pointsWithin_44 (by decide) ?_
            exact ih11 (v2_11 + (0 : Int32)) (v4_11 + 1) _ _ ls hP hD hS (lv_sub hl [2, 3, 1, 4, 0] rfl) hf
          · have hf := ip c_4 hf
            refine lv_iconst (v := (1 : Int32)) hx hb dX7_pointsWithin_34 (by decide) ?_
            refine lv_goto (tgt := 39) hx hb dX7_pointsWithin_35 (by decide) ?_
            refine lv_iadd hx hb dX7_pointsWithin_39 ?_
            refine lv_istore_n (lv' := [(2, .int (v2_11 + (1 : Int32))), (0, .ref m0), (1, .int p0), (3, .int (b2i v3_11)), (4, .int v4_11)]) hx hb dX7_pointsWithin_40 rfl hl (by decide) rfl (fun ls hl => ?_)
            refine lv_iinc (v := (v4_11 + 1)) (lv' := [(4, .int (v4_11 + 1)), (2, .int (v2_11 + (1 : Int32))), (0, .ref m0), (1, .int p0), (3, .int (b2i v3_11))]) hx hb dX7_pointsWithin_41 hl (k := 4) rfl rfl (by decide) rfl (fun ls hl => ?_)
            refine lv_goto (tgt := 11) hx hb dX7_pointsWithin_44 (by decide) ?_
            exact ih11 (v2_11 + (1 : Int32)) (v4_11 + 1) _ _ ls hP hD hS (lv_sub hl [2, 3, 1, 4, 0] rfl) hf
  unfold fX7_pointsWithin at hf
  refine lv_iconst (v := (0 : Int32)) hx hb dX7_pointsWithin_0 (by decide) ?_
  refine lv_istore_n (lv' := [(2, .int (0 : Int32)), (0, .ref m0), (1, .int p0)]) hx hb dX7_pointsWithin_1 rfl hl (by decide) rfl (fun ls hl => ?_)
  refine lv_aload_n hx hb dX7_pointsWithin_2 rfl (lv_at hl 1 rfl) ?_
  refine lv_iload_n hx hb dX7_pointsWithin_3 rfl (lv_at hl 2 rfl) ?_
  obtain ⟨r_5, e_5, hf⟩ := bo hf
  refine mcallVi (W0 := (wM g m0 m1 m2 m3 m4 μ)) (Wc := (wM g m0 m1 m2 m3 m4 μ)) (Wr := ([] : va_W)) (W1 := (wM g m0 m1 m2 m3 m4 r_5.2)) (W2 := (wM g m0 m1 m2 m3 m4 r_5.2)) (As := [.int p0]) (rest := []) [0, 1, 2, 3, 4] [] [0, 1, 2, 3, 4] 5 0 ⟨hx, hb, hml, hown, hts⟩ hP hD hE hZ hS hA (cX7_knows_ok l g m0 m1 m2 m3 m4 μ p0 _ e_5) (cwV 1 hts gX7_pointsWithin_X7_knows rfl rfl rfl hdX7_knows ⟨(Nat.le_of_ble_eq_true rfl), (Nat.le_of_ble_eq_true rfl)⟩) rfl rfl rfl (by decide) (by decide) (by decide) (by decide) rfl rfl rfl rfl hl.1 rfl (Nat.le_of_ble_eq_true rfl) ⟨(Nat.le_of_ble_eq_true rfl), (Nat.le_of_ble_eq_true rfl)⟩ dX7_pointsWithin_4 (fun H locs hP hD hS => ?_)
  refine lv_istore_n (lv' := [(3, .int (b2i r_5.1)), (2, .int (0 : Int32)), (0, .ref m0), (1, .int p0)]) hx hb dX7_pointsWithin_7 rfl hl (by decide) rfl (fun ls hl => ?_)
  refine lv_iconst (v := (0 : Int32)) hx hb dX7_pointsWithin_8 (by decide) ?_
  refine lv_istore (lv' := [(4, .int (0 : Int32)), (3, .int (b2i r_5.1)), (2, .int (0 : Int32)), (0, .ref m0), (1, .int p0)]) hx hb dX7_pointsWithin_9 hl (by decide) rfl (fun ls hl => ?_)
  exact hB11 r_5.1 r_5.2 FU (0 : Int32) (0 : Int32) _ _ ls hP hD hS (lv_sub hl [3, 4, 2, 1, 0] rfl) hf

def fX7_round_4 (μ : Mo) (p0 : Int32) : Nat → Int32 → Int32 → Option (Int32)
  | 0, _, _ => none
  | n + 1, v2_4, v3_4 => (if (M_row μ (Int32.toNatClampNeg (0 : Int32))) ≤ v3_4 then (some v2_4) else ((fX7_of μ p0 (1 : Int32)).bind fun r_2 => ((fX7_contains μ v3_4 r_2).bind fun r_3 => (if r_3 = true then (if v2_4 = (-1 : Int32) then fX7_round_4 μ p0 n v3_4 (v3_4 + 1) else ((fX7_of μ v3_4 (1 : Int32)).bind fun r_6 => ((fX7_contains μ v2_4 r_6).bind fun r_7 => (if r_7 = true then fX7_round_4 μ p0 n v3_4 (v3_4 + 1) else fX7_round_4 μ p0 n v2_4 (v3_4 + 1))))) else fX7_round_4 μ p0 n v2_4 (v3_4 + 1)))))
def fX7_round (μ : Mo) (p0 : Int32) : Option (Int32) := fX7_round_4 μ p0 FU (-1 : Int32) (0 : Int32)
abbrev rmX7_round : Room := { frames := 6, cells := 0, slots := 0, locals := 136 }
theorem hdX7_round : yX7_round.cls = RX7 ∧ yX7_round.cls ≠ "java/lang/invoke/MethodHandle" ∧ yX7_round.cls ≠ "java/lang/invoke/VarHandle" ∧ (parseMethodDescriptor yX7_round.desc).map (fun d => d.parameters.length) = some 1 := by decide +kernel
theorem fiX7_round_X7 : ∀ w ∈ wsX70, w ∈ wsX7_round := by decide +kernel
theorem flX7_round_7 : (.fieldLink RX7 7 "ContourLabelsModel" "row" "[I" : Cond) ∈ wsX7_round := by decide +kernel
set_option maxHeartbeats 4000000 in
set_option maxRecDepth 100000 in
theorem cX7_round_ok (l : Launch) (g : Gg) (m0 m1 m2 m3 m4 : Nat) (μ : Mo) (p0 : Int32) {r : Int32} (hf : fX7_round μ p0 = some r) : Met l yX7_round wsX7_round rmX7_round (va_Pc [.ref m0, .int p0] (PP g (wM g m0 m1 m2 m3 m4 μ))) (vp_Si (fun r' => r' = r)) 0 0 (fun _ => False) := by
  refine Met.ofW (cc := cX7_round) (maxL := 5) (ret := (some .int)) (by decide) rfl ?_
  intro p e s m args below meth c s₁ B hml hv
  obtain ⟨rfl, hP, hE, hZ⟩ := hv
  have hx := B.exec
  have hb := B.bytes
  have hr := B.returns
  have hts := atoms_spec (ws := wsX7_round) B.pre
  have hown : s.vm.findClass RX7 = some m.cls := findClass_of_methodNamed B.named
  have hlocks := B.notSynchronized
  have hS : va_S (fun _ => False) s.heap s.heap [] := va_S.rf
  have hl := lv_entry ([.ref m0, .int p0]) (n := 5) (Nat.le_of_ble_eq_true rfl)
  rw [lg_entry_eq]
  generalize (lg_sl ([.ref m0, .int p0]) ++ List.replicate (5 - (lg_sl ([.ref m0, .int p0])).length) Slot.unset).toArray = ls at hl ⊢
  have hl : lv_has ls 5 [(0, .ref m0), (1, .int p0)] := hl
  have hB4 : ∀ (n4 : Nat) (v2_4 : Int32) (v3_4 : Int32) (ls : Array Slot), lv_has ls 5 [(0, .ref m0), (1, .int p0), (2, .int v2_4), (3, .int v3_4)] → fX7_round_4 μ p0 n4 v2_4 v3_4 = some r → W p l e (headSpec wsX7_round rmX7_round).room s m ([.ref m0, .int p0] : List Value).toArray below meth c s.heap [] 0 0 (MQ below (vp_Si (fun r' => r' = r)) ([.ref m0, .int p0] : List Value).toArray s 0 0 (fun _ => False)) (F0 m 4 ls []) := by
    intro  n4
    induction n4 with
    | zero => intro v2_4 v3_4 ls hl hf; exact nomatch (show (none : Option (Int32)) = some _ from hf)
    | succ n4 ih4 =>
      intro v2_4 v3_4 ls hl hf
      rw [fX7_round_4] at hf
      refine lv_iload_n hx hb dX7_round_4 rfl (lv_at hl 3 rfl) ?_
      refine lv_aload_n hx hb dX7_round_5 rfl (lv_at hl 0 rfl) ?_
      refine va_get (v := .ref m1) (C := RX7) (T := TX7) (N := 13) hx hb hts fiX7_round_X7 hown hE.1 hP 0 rfl rfl 0 (by decide) (hts _ flX7_round_7) (fun _ h9 => h9) rfl dX7_round_6 ?_
      refine lv_iconst (v := (0 : Int32)) hx hb dX7_round_9 (by decide) ?_
      refine va_iald hx hb hE.1 hP 1 0 rfl rfl (vin (by decide)) dX7_round_10 ?_
      refine lv_icmp_ge (tgt := 63) hx hb dX7_round_11 (by decide) (fun c_1 => ?_) (fun c_1 => ?_)
      · have hf := ip c_1 hf
        refine lv_iload_n hx hb dX7_round_63 rfl (lv_at hl 2 rfl) ?_
        exact p_iret (v := v2_4) hx hb hr hlocks (Option.some.inj hf) dX7_round_64
      · have hf := iq c_1 hf
        refine lv_aload_n hx hb dX7_round_14 rfl (lv_at hl 0 rfl) ?_
        refine lv_iload_n hx hb dX7_round_15 rfl (lv_at hl 3 rfl) ?_
        refine lv_aload_n hx hb dX7_round_16 rfl (lv_at hl 0 rfl) ?_
        refine lv_iload_n hx hb dX7_round_17 rfl (lv_at hl 1 rfl) ?_
        refine lv_iconst (v := (1 : Int32)) hx hb dX7_round_18 (by decide) ?_
        obtain ⟨r_2, e_2, hf⟩ := bo hf
        refine pcallV (W0 := (wM g m0 m1 m2 m3 m4 μ)) (As := [.int p0, .int (1 : Int32)]) (rest := [.int v3_4, .ref m0]) [0, 1, 2, 3, 4] 5 0 ⟨hx, hb, hml, hown, hts⟩ hP hE hZ hS (cX7_of_ok l g m0 m1 m2 m3 m4 μ p0 (1 : Int32) e_2) (cwV 2 hts gX7_round_X7_of rfl rfl rfl hdX7_of ⟨(Nat.le_of_ble_eq_true rfl), (Nat.le_of_ble_eq_true rfl)⟩) rfl rfl rfl rfl rfl hl.1 rfl (Nat.le_of_ble_eq_true rfl) ⟨(Nat.le_of_ble_eq_true rfl), (Nat.le_of_ble_eq_true rfl)⟩ dX7_round_19 ?_
        obtain ⟨r_3, e_3, hf⟩ := bo hf
        refine pcallV (W0 := (wM g m0 m1 m2 m3 m4 μ)) (As := [.int v3_4, .int r_2]) (rest := []) [0, 1, 2, 3, 4] 5 0 ⟨hx, hb, hml, hown, hts⟩ hP hE hZ hS (cX7_contains_ok l g m0 m1 m2 m3 m4 μ v3_4 r_2 e_3) (cwV 2 hts gX7_round_X7_contains rfl rfl rfl hdX7_contains ⟨(Nat.le_of_ble_eq_true rfl), (Nat.le_of_ble_eq_true rfl)⟩) rfl rfl rfl rfl rfl hl.1 rfl (Nat.le_of_ble_eq_true rfl) ⟨(Nat.le_of_ble_eq_true rfl), (Nat.le_of_ble_eq_true rfl)⟩ dX7_round_22 ?_
        refine lv_istore (lv' := [(4, .int (b2i r_3)), (0, .ref m0), (1, .int p0), (2, .int v2_4), (3, .int v3_4)]) hx hb dX7_round_25 hl (by decide) rfl (fun ls hl => ?_)
        refine lv_iload hx hb dX7_round_27 (lv_at hl 0 rfl) ?_
        refine lv_beq (tgt := 55) hx hb dX7_round_29 (by decide) (fun c_4 => ?_) (fun c_4 => ?_)
        · have hf := iq c_4 hf
          refine lv_iload_n hx hb dX7_round_55 rfl (lv_at hl 3 rfl) ?_
          refine lv_istore_n (lv' := [(2, .int v2_4), (4, .int (b2i r_3)), (0, .ref m0), (1, .int p0), (3, .int v3_4)]) hx hb dX7_round_56 rfl hl (by decide) rfl (fun ls hl => ?_)
          refine lv_iinc (v := (v3_4 + 1)) (lv' := [(3, .int (v3_4 + 1)), (2, .int v2_4), (4, .int (b2i r_3)), (0, .ref m0), (1, .int p0)]) hx hb dX7_round_57 hl (k := 4) rfl rfl (by decide) rfl (fun ls hl => ?_)
          refine lv_goto (tgt := 4) hx hb dX7_round_60 (by decide) ?_
          exact ih4 v2_4 (v3_4 + 1) ls (lv_sub hl [3, 4, 1, 0] rfl) hf
        · have hf := ip c_4 hf
          refine lv_iload_n hx hb dX7_round_32 rfl (lv_at hl 3 rfl) ?_
          refine lv_iconst (v := (-1 : Int32)) hx hb dX7_round_33 (by decide) ?_
          refine lv_icmp_eq (tgt := 51) hx hb dX7_round_34 (by decide) (fun c_5 => ?_) (fun c_5 => ?_)
          · have hf := ip c_5 hf
            refine lv_iload_n hx hb dX7_round_51 rfl (lv_at hl 4 rfl) ?_
            refine lv_goto (tgt := 56) hx hb dX7_round_52 (by decide) ?_
            refine lv_istore_n (lv' := [(2, .int v3_4), (4, .int (b2i r_3)), (0, .ref m0), (1, .int p0), (3, .int v3_4)]) hx hb dX7_round_56 rfl hl (by decide) rfl (fun ls hl => ?_)
            refine lv_iinc (v := (v3_4 + 1)) (lv' := [(3, .int (v3_4 + 1)), (2, .int v3_4), (4, .int (b2i r_3)), (0, .ref m0), (1, .int p0)]) hx hb dX7_round_57 hl (k := 4) rfl rfl (by decide) rfl (fun ls hl => ?_)
            refine lv_goto (tgt := 4) hx hb dX7_round_60 (by decide) ?_
            exact ih4 v3_4 (v3_4 + 1) ls (lv_sub hl [3, 4, 1, 0] rfl) hf
          · have hf := iq c_5 hf
            refine lv_aload_n hx hb dX7_round_37 rfl (lv_at hl 1 rfl) ?_
            refine lv_iload_n hx hb dX7_round_38 rfl (lv_at hl 3 rfl) ?_
            refine lv_aload_n hx hb dX7_round_39 rfl (lv_at hl 1 rfl) ?_
            refine lv_iload_n hx hb dX7_round_40 rfl (lv_at hl 4 rfl) ?_
            refine lv_iconst (v := (1 : Int32)) hx hb dX7_round_41 (by decide) ?_
            obtain ⟨r_6, e_6, hf⟩ := bo hf
            refine pcallV (W0 := (wM g m0 m1 m2 m3 m4 μ)) (As := [.int v3_4, .int (1 : Int32)]) (rest := [.int v2_4, .ref m0]) [0, 1, 2, 3, 4] 5 0 ⟨hx, hb, hml, hown, hts⟩ hP hE hZ hS (cX7_of_ok l g m0 m1 m2 m3 m4 μ v3_4 (1 : Int32) e_6) (cwV 2 hts gX7_round_X7_of rfl rfl rfl hdX7_of ⟨(Nat.le_of_ble_eq_true rfl), (Nat.le_of_ble_eq_true rfl)⟩) rfl rfl rfl rfl rfl hl.1 rfl (Nat.le_of_ble_eq_true rfl) ⟨(Nat.le_of_ble_eq_true rfl), (Nat.le_of_ble_eq_true rfl)⟩ dX7_round_42 ?_
            obtain ⟨r_7, e_7, hf⟩ := bo hf
            refine pcallV (W0 := (wM g m0 m1 m2 m3 m4 μ)) (As := [.int v2_4, .int r_6]) (rest := []) [0, 1, 2, 3, 4] 5 0 ⟨hx, hb, hml, hown, hts⟩ hP hE hZ hS (cX7_contains_ok l g m0 m1 m2 m3 m4 μ v2_4 r_6 e_7) (cwV 2 hts gX7_round_X7_contains rfl rfl rfl hdX7_contains ⟨(Nat.le_of_ble_eq_true rfl), (Nat.le_of_ble_eq_true rfl)⟩) rfl rfl rfl rfl rfl hl.1 rfl (Nat.le_of_ble_eq_true rfl) ⟨(Nat.le_of_ble_eq_true rfl), (Nat.le_of_ble_eq_true rfl)⟩ dX7_round_45 ?_
            refine lv_beq (tgt := 55) hx hb dX7_round_48 (by decide) (fun c_8 => ?_) (fun c_8 => ?_)
            · have hf := iq c_8 hf
              refine lv_iload_n hx hb dX7_round_55 rfl (lv_at hl 3 rfl) ?_
              refine lv_istore_n (lv' := [(2, .int v2_4), (4, .int (b2i r_3)), (0, .ref m0), (1, .int p0), (3, .int v3_4)]) hx hb dX7_round_56 rfl hl (by decide) rfl (fun ls hl => ?_)
              refine lv_iinc (v := (v3_4 + 1)) (lv' := [(3, .int (v3_4 + 1)), (2, .int v2_4), (4, .int (b2i r_3)), (0, .ref m0), (1, .int p0)]) hx hb dX7_round_57 hl (k := 4) rfl rfl (by decide) rfl (fun ls hl => ?_)
              refine lv_goto (tgt := 4) hx hb dX7_round_60 (by decide) ?_
              exact ih4 v2_4 (v3_4 + 1) ls (lv_sub hl [3, 4, 1, 0] rfl) hf
            · have hf := ip c_8 hf
              refine lv_iload_n hx hb dX7_round_51 rfl (lv_at hl 4 rfl) ?_
              refine lv_goto (tgt := 56) hx hb dX7_round_52 (by decide) ?_
              refine lv_istore_n (lv' := [(2, .int v3_4), (4, .int (b2i r_3)), (0, .ref m0), (1, .int p0), (3, .int v3_4)]) hx hb dX7_round_56 rfl hl (by decide) rfl (fun ls hl => ?_)
              refine lv_iinc (v := (v3_4 + 1)) (lv' := [(3, .int (v3_4 + 1)), (2, .int v3_4), (4, .int (b2i r_3)), (0, .ref m0), (1, .int p0)]) hx hb dX7_round_57 hl (k := 4) rfl rfl (by decide) rfl (fun ls hl => ?_)
              refine lv_goto (tgt := 4) hx hb dX7_round_60 (by decide) ?_
              exact ih4 v3_4 (v3_4 + 1) ls (lv_sub hl [3, 4, 1, 0] rfl) hf
  unfold fX7_round at hf
  refine lv_iconst (v := (-1 : Int32)) hx hb dX7_round_0 (by decide) ?_
  refine lv_istore_n (lv' := [(2, .int (-1 : Int32)), (0, .ref m0), (1, .int p0)]) hx hb dX7_round_1 rfl hl (by decide) rfl (fun ls hl => ?_)
  refine lv_iconst (v := (0 : Int32)) hx hb dX7_round_2 (by decide) ?_
  refine lv_istore_n (lv' := [(3, .int (0 : Int32)), (2, .int (-1 : Int32)), (0, .ref m0), (1, .int p0)]) hx hb dX7_round_3 rfl hl (by decide) rfl (fun ls hl => ?_)
  exact hB4 FU (-1 : Int32) (0 : Int32) ls (lv_sub hl [2, 3, 1, 0] rfl) hf

def fX7_lineRound (μ : Mo) (p0 : Int32) : Option (Int32 × Mo) := ((fX7_knows μ p0).bind fun r_1 => (if r_1.1 = true then ((fX7_round r_1.2 p0).bind fun r_3 => (some (r_3, r_1.2))) else (some ((0 : Int32), r_1.2))))
abbrev rmX7_lineRound : Room := { frames := 7, cells := 0, slots := 0, locals := 160 }
theorem hdX7_lineRound : yX7_lineRound.cls = RX7 ∧ yX7_lineRound.cls ≠ "java/lang/invoke/MethodHandle" ∧ yX7_lineRound.cls ≠ "java/lang/invoke/VarHandle" ∧ (parseMethodDescriptor yX7_lineRound.desc).map (fun d => d.parameters.length) = some 1 := by decide +kernel
set_option maxHeartbeats 4000000 in
set_option maxRecDepth 100000 in
theorem cX7_lineRound_ok (l : Launch) (g : Gg) (m0 m1 m2 m3 m4 : Nat) (μ : Mo) (p0 : Int32) (sz : Nat) {o : Int32 × Mo} (hf : fX7_lineRound μ p0 = some o) : Met l yX7_lineRound wsX7_lineRound rmX7_lineRound (va_Pc [.ref m0, .int p0] (PM g (wM g m0 m1 m2 m3 m4 μ) sz)) (va_Qi (fun r' (_ : Unit) => r' = o.1) (fun _ t => PQ g (wM g m0 m1 m2 m3 m4 o.2) (va_A (wM g m0 m1 m2 m3 m4 μ) sz) t) (va_A (wM g m0 m1 m2 m3 m4 μ) sz)) 0 0 (va_A (wM g m0 m1 m2 m3 m4 μ) sz) := by
  refine Met.ofW (cc := cX7_lineRound) (maxL := 2) (ret := (some .int)) (by decide) rfl ?_
  intro p e s m args below meth c s₁ B hml hv
  obtain ⟨rfl, rfl, hP, hD0, hE, hZ⟩ := hv
  have hx := B.exec
  have hb := B.bytes
  have hr := B.returns
  have hts := atoms_spec (ws := wsX7_lineRound) B.pre
  have hown : s.vm.findClass RX7 = some m.cls := findClass_of_methodNamed B.named
  have hlocks := B.notSynchronized
  have hD := hD0.self (sz := s.heap.size)
  generalize hAe : (va_A (wM g m0 m1 m2 m3 m4 μ) s.heap.size) = A at hD hZ ⊢
  have hA : ∀ q : Nat, s.heap.size ≤ q → A q := fun q h => by rw [← hAe]; exact Or.inr h
  have hS : va_S A s.heap s.heap [] := va_S.rf
  have hP : va_P g.1 vwCl (wM g m0 m1 m2 m3 m4 μ) s.heap := hP
  have hl := lv_entry ([.ref m0, .int p0]) (n := 2) (Nat.le_of_ble_eq_true rfl)
  rw [lg_entry_eq]
  generalize (lg_sl ([.ref m0, .int p0]) ++ List.replicate (2 - (lg_sl ([.ref m0, .int p0])).length) Slot.unset).toArray = ls at hl ⊢
  have hl : lv_has ls 2 [(0, .ref m0), (1, .int p0)] := hl
  unfold fX7_lineRound at hf
  refine lv_aload_n hx hb dX7_lineRound_0 rfl (lv_at hl 0 rfl) ?_
  refine lv_iload_n hx hb dX7_lineRound_1 rfl (lv_at hl 1 rfl) ?_
  obtain ⟨r_1, e_1, hf⟩ := bo hf
  refine mcallVi (W0 := (wM g m0 m1 m2 m3 m4 μ)) (Wc := (wM g m0 m1 m2 m3 m4 μ)) (Wr := ([] : va_W)) (W1 := (wM g m0 m1 m2 m3 m4 r_1.2)) (W2 := (wM g m0 m1 m2 m3 m4 r_1.2)) (As := [.int p0]) (rest := []) [0, 1, 2, 3, 4] [] [0, 1, 2, 3, 4] 5 0 ⟨hx, hb, hml, hown, hts⟩ hP hD hE hZ hS hA (cX7_knows_ok l g m0 m1 m2 m3 m4 μ p0 _ e_1) (cwV 1 hts gX7_lineRound_X7_knows rfl rfl rfl hdX7_knows ⟨(Nat.le_of_ble_eq_true rfl), (Nat.le_of_ble_eq_true rfl)⟩) rfl rfl rfl (by decide) (by decide) (by decide) (by decide) rfl rfl rfl rfl hl.1 rfl (Nat.le_of_ble_eq_true rfl) ⟨(Nat.le_of_ble_eq_true rfl), (Nat.le_of_ble_eq_true rfl)⟩ dX7_lineRound_2 (fun H locs hP hD hS => ?_)
  refine lv_beq (tgt := 16) hx hb dX7_lineRound_5 (by decide) (fun c_2 => ?_) (fun c_2 => ?_)
  · have hf := iq c_2 hf
    refine lv_iconst (v := (0 : Int32)) hx hb dX7_lineRound_16 (by decide) ?_
    have ho := Option.some.inj hf
    subst ho
    exact m_iret (v := (0 : Int32)) hx hb hr hlocks hP hD hS rfl dX7_lineRound_17
  · have hf := ip c_2 hf
    refine lv_aload_n hx hb dX7_lineRound_8 rfl (lv_at hl 0 rfl) ?_
    refine lv_iload_n hx hb dX7_lineRound_9 rfl (lv_at hl 1 rfl) ?_
    obtain ⟨r_3, e_3, hf⟩ := bo hf
    refine pcallV (W0 := (wM g m0 m1 m2 m3 m4 r_1.2)) (As := [.int p0]) (rest := []) [0, 1, 2, 3, 4] 5 0 ⟨hx, hb, hml, hown, hts⟩ hP hE hZ hS (cX7_round_ok l g m0 m1 m2 m3 m4 r_1.2 p0 e_3) (cwV 1 hts gX7_lineRound_X7_round rfl rfl rfl hdX7_round ⟨(Nat.le_of_ble_eq_true rfl), (Nat.le_of_ble_eq_true rfl)⟩) rfl rfl rfl rfl rfl hl.1 rfl (Nat.le_of_ble_eq_true rfl) ⟨(Nat.le_of_ble_eq_true rfl), (Nat.le_of_ble_eq_true rfl)⟩ dX7_lineRound_10 ?_
    refine lv_goto (tgt := 17) hx hb dX7_lineRound_13 (by decide) ?_
    have ho := Option.some.inj hf
    subst ho
    exact m_iret (v := r_3) hx hb hr hlocks hP hD hS rfl dX7_lineRound_17

def fX7_isSteady (μ : Mo) (p0 : Int32) : Option (Bool × Mo) := ((fX7_knows μ p0).bind fun r_1 => (if r_1.1 = true then ((fX7_round r_1.2 p0).bind fun r_3 => (if r_3 = (-1 : Int32) then (some (true, r_1.2)) else ((fX7_of r_1.2 p0 (0 : Int32)).bind fun r_5 => ((fX7_of r_1.2 r_3 (0 : Int32)).bind fun r_6 => ((fX7_apart r_5 r_6).bind fun r_7 => (if r_7 = (5 : Int32) then (some (true, r_1.2)) else (some (false, r_1.2)))))))) else (some (false, r_1.2))))
abbrev rmX7_isSteady : Room := { frames := 7, cells := 0, slots := 0, locals := 160 }
theorem hdX7_isSteady : yX7_isSteady.cls = RX7 ∧ yX7_isSteady.cls ≠ "java/lang/invoke/MethodHandle" ∧ yX7_isSteady.cls ≠ "java/lang/invoke/VarHandle" ∧ (parseMethodDescriptor yX7_isSteady.desc).map (fun d => d.parameters.length) = some 1 := by decide +kernel
set_option maxHeartbeats 4000000 in
set_option maxRecDepth 100000 in
theorem cX7_isSteady_ok (l : Launch) (g : Gg) (m0 m1 m2 m3 m4 : Nat) (μ : Mo) (p0 : Int32) (sz : Nat) {o : Bool × Mo} (hf : fX7_isSteady μ p0 = some o) : Met l yX7_isSteady wsX7_isSteady rmX7_isSteady (va_Pc [.ref m0, .int p0] (PM g (wM g m0 m1 m2 m3 m4 μ) sz)) (va_Qi (fun r' (_ : Unit) => r' = b2i o.1) (fun _ t => PQ g (wM g m0 m1 m2 m3 m4 o.2) (va_A (wM g m0 m1 m2 m3 m4 μ) sz) t) (va_A (wM g m0 m1 m2 m3 m4 μ) sz)) 0 0 (va_A (wM g m0 m1 m2 m3 m4 μ) sz) := by
  refine Met.ofW (cc := cX7_isSteady) (maxL := 3) (ret := (some .boolean)) (by decide) rfl ?_
  intro p e s m args below meth c s₁ B hml hv
  obtain ⟨rfl, rfl, hP, hD0, hE, hZ⟩ := hv
  have hx := B.exec
  have hb := B.bytes
  have hr := B.returns
  have hts := atoms_spec (ws := wsX7_isSteady) B.pre
  have hown : s.vm.findClass RX7 = some m.cls := findClass_of_methodNamed B.named
  have hlocks := B.notSynchronized
  have hD := hD0.self (sz := s.heap.size)
  generalize hAe : (va_A (wM g m0 m1 m2 m3 m4 μ) s.heap.size) = A at hD hZ ⊢
  have hA : ∀ q : Nat, s.heap.size ≤ q → A q := fun q h => by rw [← hAe]; exact Or.inr h
  have hS : va_S A s.heap s.heap [] := va_S.rf
  have hP : va_P g.1 vwCl (wM g m0 m1 m2 m3 m4 μ) s.heap := hP
  have hl := lv_entry ([.ref m0, .int p0]) (n := 3) (Nat.le_of_ble_eq_true rfl)
  rw [lg_entry_eq]
  generalize (lg_sl ([.ref m0, .int p0]) ++ List.replicate (3 - (lg_sl ([.ref m0, .int p0])).length) Slot.unset).toArray = ls at hl ⊢
  have hl : lv_has ls 3 [(0, .ref m0), (1, .int p0)] := hl
  unfold fX7_isSteady at hf
  refine lv_aload_n hx hb dX7_isSteady_0 rfl (lv_at hl 0 rfl) ?_
  refine lv_iload_n hx hb dX7_isSteady_1 rfl (lv_at hl 1 rfl) ?_
  obtain ⟨r_1, e_1, hf⟩ := bo hf
  refine mcallVi (W0 := (wM g m0 m1 m2 m3 m4 μ)) (Wc := (wM g m0 m1 m2 m3 m4 μ)) (Wr := ([] : va_W)) (W1 := (wM g m0 m1 m2 m3 m4 r_1.2)) (W2 := (wM g m0 m1 m2 m3 m4 r_1.2)) (As := [.int p0]) (rest := []) [0, 1, 2, 3, 4] [] [0, 1, 2, 3, 4] 5 0 ⟨hx, hb, hml, hown, hts⟩ hP hD hE hZ hS hA (cX7_knows_ok l g m0 m1 m2 m3 m4 μ p0 _ e_1) (cwV 1 hts gX7_isSteady_X7_knows rfl rfl rfl hdX7_knows ⟨(Nat.le_of_ble_eq_true rfl), (Nat.le_of_ble_eq_true rfl)⟩) rfl rfl rfl (by decide) (by decide) (by decide) (by decide) rfl rfl rfl rfl hl.1 rfl (Nat.le_of_ble_eq_true rfl) ⟨(Nat.le_of_ble_eq_true rfl), (Nat.le_of_ble_eq_true rfl)⟩ dX7_isSteady_2 (fun H locs hP hD hS => ?_)
  refine lv_bne (tgt := 10) hx hb dX7_isSteady_5 (by decide) (fun c_2 => ?_) (fun c_2 => ?_)
  · have hf := ip c_2 hf
    refine lv_aload_n hx hb dX7_isSteady_10 rfl (lv_at hl 0 rfl) ?_
    refine lv_iload_n hx hb dX7_isSteady_11 rfl (lv_at hl 1 rfl) ?_
    obtain ⟨r_3, e_3, hf⟩ := bo hf
    refine pcallV (W0 := (wM g m0 m1 m2 m3 m4 r_1.2)) (As := [.int p0]) (rest := []) [0, 1, 2, 3, 4] 5 0 ⟨hx, hb, hml, hown, hts⟩ hP hE hZ hS (cX7_round_ok l g m0 m1 m2 m3 m4 r_1.2 p0 e_3) (cwV 1 hts gX7_isSteady_X7_round rfl rfl rfl hdX7_round ⟨(Nat.le_of_ble_eq_true rfl), (Nat.le_of_ble_eq_true rfl)⟩) rfl rfl rfl rfl rfl hl.1 rfl (Nat.le_of_ble_eq_true rfl) ⟨(Nat.le_of_ble_eq_true rfl), (Nat.le_of_ble_eq_true rfl)⟩ dX7_isSteady_12 ?_
    refine lv_istore_n (lv' := [(2, .int r_3), (0, .ref m0), (1, .int p0)]) hx hb dX7_isSteady_15 rfl hl (by decide) rfl (fun ls hl => ?_)
    refine lv_iload_n hx hb dX7_isSteady_16 rfl (lv_at hl 0 rfl) ?_
    refine lv_iconst (v := (-1 : Int32)) hx hb dX7_isSteady_17 (by decide) ?_
    refine lv_icmp_eq (tgt := 40) hx hb dX7_isSteady_18 (by decide) (fun c_4 => ?_) (fun c_4 => ?_)
    · have hf := ip c_4 hf
      refine lv_iconst (v := (1 : Int32)) hx hb dX7_isSteady_40 (by decide) ?_
      refine lv_goto (tgt := 45) hx hb dX7_isSteady_41 (by decide) ?_
      have ho := Option.some.inj hf
      subst ho
      exact m_zret (v := true) hx hb hr hlocks hP hD hS rfl dX7_isSteady_45
    · have hf := iq c_4 hf
      refine lv_aload_n hx hb dX7_isSteady_21 rfl (lv_at hl 1 rfl) ?_
      refine lv_iload_n hx hb dX7_isSteady_22 rfl (lv_at hl 2 rfl) ?_
      refine lv_iconst (v := (0 : Int32)) hx hb dX7_isSteady_23 (by decide) ?_
      obtain ⟨r_5, e_5, hf⟩ := bo hf
      refine pcallV (W0 := (wM g m0 m1 m2 m3 m4 r_1.2)) (As := [.int p0, .int (0 : Int32)]) (rest := []) [0, 1, 2, 3, 4] 5 0 ⟨hx, hb, hml, hown, hts⟩ hP hE hZ hS (cX7_of_ok l g m0 m1 m2 m3 m4 r_1.2 p0 (0 : Int32) e_5) (cwV 2 hts gX7_isSteady_X7_of rfl rfl rfl hdX7_of ⟨(Nat.le_of_ble_eq_true rfl), (Nat.le_of_ble_eq_true rfl)⟩) rfl rfl rfl rfl rfl hl.1 rfl (Nat.le_of_ble_eq_true rfl) ⟨(Nat.le_of_ble_eq_true rfl), (Nat.le_of_ble_eq_true rfl)⟩ dX7_isSteady_24 ?_
      refine lv_aload_n hx hb dX7_isSteady_27 rfl (lv_at hl 1 rfl) ?_
      refine lv_iload_n hx hb dX7_isSteady_28 rfl (lv_at hl 0 rfl) ?_
      refine lv_iconst (v := (0 : Int32)) hx hb dX7_isSteady_29 (by decide) ?_
      obtain ⟨r_6, e_6, hf⟩ := bo hf
      refine pcallV (W0 := (wM g m0 m1 m2 m3 m4 r_1.2)) (As := [.int r_3, .int (0 : Int32)]) (rest := [.int r_5]) [0, 1, 2, 3, 4] 5 0 ⟨hx, hb, hml, hown, hts⟩ hP hE hZ hS (cX7_of_ok l g m0 m1 m2 m3 m4 r_1.2 r_3 (0 : Int32) e_6) (cwV 2 hts gX7_isSteady_X7_of rfl rfl rfl hdX7_of ⟨(Nat.le_of_ble_eq_true rfl), (Nat.le_of_ble_eq_true rfl)⟩) rfl rfl rfl rfl rfl hl.1 rfl (Nat.le_of_ble_eq_true rfl) ⟨(Nat.le_of_ble_eq_true rfl), (Nat.le_of_ble_eq_true rfl)⟩ dX7_isSteady_30 ?_
      obtain ⟨r_7, e_7, hf⟩ := bo hf
      refine pcallS (W0 := (wM g m0 m1 m2 m3 m4 r_1.2)) (As := [.int r_5, .int r_6]) (rest := []) [] ⟨hx, hb, hml, hown, hts⟩ hP hE hZ hS (cX7_apart_ok l g  r_5 r_6 e_7) (va_cwS 2 hts gX7_isSteady_X7_apart rfl rfl rfl hdX7_apart.2 ⟨(Nat.le_of_ble_eq_true rfl), (Nat.le_of_ble_eq_true rfl)⟩) rfl rfl hl.1 rfl (Nat.le_of_ble_eq_true rfl) ⟨(Nat.le_of_ble_eq_true rfl), (Nat.le_of_ble_eq_true rfl)⟩ dX7_isSteady_33 ?_
      refine lv_iconst (v := (5 : Int32)) hx hb dX7_isSteady_36 (by decide) ?_
      refine lv_icmp_ne (tgt := 44) hx hb dX7_isSteady_37 (by decide) (fun c_8 => ?_) (fun c_8 => ?_)
      · have hf := iq c_8 hf
        refine lv_iconst (v := (0 : Int32)) hx hb dX7_isSteady_44 (by decide) ?_
        have ho := Option.some.inj hf
        subst ho
        exact m_zret (v := false) hx hb hr hlocks hP hD hS rfl dX7_isSteady_45
      · have hf := ip c_8 hf
        refine lv_iconst (v := (1 : Int32)) hx hb dX7_isSteady_40 (by decide) ?_
        refine lv_goto (tgt := 45) hx hb dX7_isSteady_41 (by decide) ?_
        have ho := Option.some.inj hf
        subst ho
        exact m_zret (v := true) hx hb hr hlocks hP hD hS rfl dX7_isSteady_45
  · have hf := iq c_2 hf
    refine lv_iconst (v := (0 : Int32)) hx hb dX7_isSteady_8 (by decide) ?_
    have ho := Option.some.inj hf
    subst ho
    exact m_zret (v := false) hx hb hr hlocks hP hD hS rfl dX7_isSteady_9

def fX7_lineByLevel (μ : Mo) (p0 : Int32) : Option (Int32 × Mo) := ((fX7_in p0 (0 : Int32) ((M_row μ (Int32.toNatClampNeg (0 : Int32))) - (1 : Int32))).bind fun r_1 => (if r_1 = true then ((fX7_byLevel (M_th' μ (0 : Int32)) p0).bind fun r_4 => (some (r_4, (M_th' μ (0 : Int32))))) else ((fX7_fails (M_th' μ (0 : Int32)) (1 : Int32)).bind fun r_3 => (some (r_3.1, r_3.2)))))
abbrev rmX7_lineByLevel : Room := { frames := 2, cells := 0, slots := 0, locals := 48 }
theorem hdX7_lineByLevel : yX7_lineByLevel.cls = RX7 ∧ yX7_lineByLevel.cls ≠ "java/lang/invoke/MethodHandle" ∧ yX7_lineByLevel.cls ≠ "java/lang/invoke/VarHandle" ∧ (parseMethodDescriptor yX7_lineByLevel.desc).map (fun d => d.parameters.length) = some 1 := by decide +kernel
theorem fiX7_lineByLevel_X7 : ∀ w ∈ wsX70, w ∈ wsX7_lineByLevel := by decide +kernel
theorem flX7_lineByLevel_22 : (.fieldLink RX7 22 "ContourLabelsModel" "thrown" "I" : Cond) ∈ wsX7_lineByLevel := by decide +kernel
theorem flX7_lineByLevel_7 : (.fieldLink RX7 7 "ContourLabelsModel" "row" "[I" : Cond) ∈ wsX7_lineByLevel := by decide +kernel
set_option maxHeartbeats 4000000 in
set_option maxRecDepth 100000 in
theorem cX7_lineByLevel_ok (l : Launch) (g : Gg) (m0 m1 m2 m3 m4 : Nat) (μ : Mo) (p0 : Int32) (sz : Nat) {o : Int32 × Mo} (hf : fX7_lineByLevel μ p0 = some o) : Met l yX7_lineByLevel wsX7_lineByLevel rmX7_lineByLevel (va_Pc [.ref m0, .int p0] (PM g (wM g m0 m1 m2 m3 m4 μ) sz)) (va_Qi (fun r' (_ : Unit) => r' = o.1) (fun _ t => PQ g (wM g m0 m1 m2 m3 m4 o.2) (va_A (wM g m0 m1 m2 m3 m4 μ) sz) t) (va_A (wM g m0 m1 m2 m3 m4 μ) sz)) 0 0 (va_A (wM g m0 m1 m2 m3 m4 μ) sz) := by
  refine Met.ofW (cc := cX7_lineByLevel) (maxL := 2) (ret := (some .int)) (by decide) rfl ?_
  intro p e s m args below meth c s₁ B hml hv
  obtain ⟨rfl, rfl, hP, hD0, hE, hZ⟩ := hv
  have hx := B.exec
  have hb := B.bytes
  have hr := B.returns
  have hts := atoms_spec (ws := wsX7_lineByLevel) B.pre
  have hown : s.vm.findClass RX7 = some m.cls := findClass_of_methodNamed B.named
  have hlocks := B.notSynchronized
  have hD := hD0.self (sz := s.heap.size)
  generalize hAe : (va_A (wM g m0 m1 m2 m3 m4 μ) s.heap.size) = A at hD hZ ⊢
  have hA : ∀ q : Nat, s.heap.size ≤ q → A q := fun q h => by rw [← hAe]; exact Or.inr h
  have hS : va_S A s.heap s.heap [] := va_S.rf
  have hP : va_P g.1 vwCl (wM g m0 m1 m2 m3 m4 μ) s.heap := hP
  have hl := lv_entry ([.ref m0, .int p0]) (n := 2) (Nat.le_of_ble_eq_true rfl)
  rw [lg_entry_eq]
  generalize (lg_sl ([.ref m0, .int p0]) ++ List.replicate (2 - (lg_sl ([.ref m0, .int p0])).length) Slot.unset).toArray = ls at hl ⊢
  have hl : lv_has ls 2 [(0, .ref m0), (1, .int p0)] := hl
  unfold fX7_lineByLevel at hf
  refine lv_aload_n hx hb dX7_lineByLevel_0 rfl (lv_at hl 0 rfl) ?_
  refine lv_iconst (v := (0 : Int32)) hx hb dX7_lineByLevel_1 (by decide) ?_
  refine va_put (v := .int (0 : Int32)) (ty := .int) (C := RX7) (T := TX7) (N := 13) hx hb hts fiX7_lineByLevel_X7 tyX7 tyX7_ok nmX7 hown hE.1 hP hD hS 0 rfl rfl 7 (by decide) (hts _ flX7_lineByLevel_22) (fun _ h9 => h9) rfl (by decide +kernel) rfl rfl (Nat.le_of_ble_eq_true rfl) dX7_lineByLevel_2 (fun H locs hP hD hS => ?_)
  have hP : va_P g.1 vwCl (wM g m0 m1 m2 m3 m4 (M_th' μ (0 : Int32))) H := hP
  have hD : va_D A (wM g m0 m1 m2 m3 m4 (M_th' μ (0 : Int32))) := hD
  refine lv_iload_n hx hb dX7_lineByLevel_5 rfl (lv_at hl 1 rfl) ?_
  refine lv_iconst (v := (0 : Int32)) hx hb dX7_lineByLevel_6 (by decide) ?_
  refine lv_aload_n hx hb dX7_lineByLevel_7 rfl (lv_at hl 0 rfl) ?_
  refine va_get (v := .ref m1) (C := RX7) (T := TX7) (N := 13) hx hb hts fiX7_lineByLevel_X7 hown hE.1 hP 0 rfl rfl 0 (by decide) (hts _ flX7_lineByLevel_7) (fun _ h9 => h9) rfl dX7_lineByLevel_8 ?_
  refine lv_iconst (v := (0 : Int32)) hx hb dX7_lineByLevel_11 (by decide) ?_
  refine va_iald hx hb hE.1 hP 1 0 rfl rfl (vin (by decide)) dX7_lineByLevel_12 ?_
  refine lv_iconst (v := (1 : Int32)) hx hb dX7_lineByLevel_13 (by decide) ?_
  refine lv_isub hx hb dX7_lineByLevel_14 ?_
  obtain ⟨r_1, e_1, hf⟩ := bo hf
  refine pcallS (W0 := (wM g m0 m1 m2 m3 m4 (M_th' μ (0 : Int32)))) (As := [.int p0, .int (0 : Int32), .int ((M_row μ (Int32.toNatClampNeg (0 : Int32))) - (1 : Int32))]) (rest := []) [] ⟨hx, hb, hml, hown, hts⟩ hP hE hZ hS (cX7_in_ok l g  p0 (0 : Int32) ((M_row μ (Int32.toNatClampNeg (0 : Int32))) - (1 : Int32)) e_1) (va_cwS 3 hts gX7_lineByLevel_X7_in rfl rfl rfl hdX7_in.2 ⟨(Nat.le_of_ble_eq_true rfl), (Nat.le_of_ble_eq_true rfl)⟩) rfl rfl hl.1 rfl (Nat.le_of_ble_eq_true rfl) ⟨(Nat.le_of_ble_eq_true rfl), (Nat.le_of_ble_eq_true rfl)⟩ dX7_lineByLevel_15 ?_
  refine lv_beq (tgt := 29) hx hb dX7_lineByLevel_18 (by decide) (fun c_2 => ?_) (fun c_2 => ?_)
  · have hf := iq c_2 hf
    refine lv_aload_n hx hb dX7_lineByLevel_29 rfl (lv_at hl 0 rfl) ?_
    refine lv_iconst (v := (1 : Int32)) hx hb dX7_lineByLevel_30 (by decide) ?_
    obtain ⟨r_3, e_3, hf⟩ := bo hf
    refine mcallVi (W0 := (wM g m0 m1 m2 m3 m4 (M_th' μ (0 : Int32)))) (Wc := (wM g m0 m1 m2 m3 m4 (M_th' μ (0 : Int32)))) (Wr := ([] : va_W)) (W1 := (wM g m0 m1 m2 m3 m4 r_3.2)) (W2 := (wM g m0 m1 m2 m3 m4 r_3.2)) (As := [.int (1 : Int32)]) (rest := []) [0, 1, 2, 3, 4] [] [0, 1, 2, 3, 4] 5 0 ⟨hx, hb, hml, hown, hts⟩ hP hD hE hZ hS hA (cX7_fails_ok l g m0 m1 m2 m3 m4 (M_th' μ (0 : Int32)) (1 : Int32) _ e_3) (cwV 1 hts gX7_lineByLevel_X7_fails rfl rfl rfl hdX7_fails ⟨(Nat.le_of_ble_eq_true rfl), (Nat.le_of_ble_eq_true rfl)⟩) rfl rfl rfl (by decide) (by decide) (by decide) (by decide) rfl rfl rfl rfl hl.1 rfl (Nat.le_of_ble_eq_true rfl) ⟨(Nat.le_of_ble_eq_true rfl), (Nat.le_of_ble_eq_true rfl)⟩ dX7_lineByLevel_31 (fun H locs hP hD hS => ?_)
    have ho := Option.some.inj hf
    subst ho
    exact m_iret (v := r_3.1) hx hb hr hlocks hP hD hS rfl dX7_lineByLevel_34
  · have hf := ip c_2 hf
    refine lv_aload_n hx hb dX7_lineByLevel_21 rfl (lv_at hl 0 rfl) ?_
    refine lv_iload_n hx hb dX7_lineByLevel_22 rfl (lv_at hl 1 rfl) ?_
    obtain ⟨r_4, e_4, hf⟩ := bo hf
    refine pcallV (W0 := (wM g m0 m1 m2 m3 m4 (M_th' μ (0 : Int32)))) (As := [.int p0]) (rest := []) [0, 1, 2, 3, 4] 5 0 ⟨hx, hb, hml, hown, hts⟩ hP hE hZ hS (cX7_byLevel_ok l g m0 m1 m2 m3 m4 (M_th' μ (0 : Int32)) p0 e_4) (cwV 1 hts gX7_lineByLevel_X7_byLevel rfl rfl rfl hdX7_byLevel ⟨(Nat.le_of_ble_eq_true rfl), (Nat.le_of_ble_eq_true rfl)⟩) rfl rfl rfl rfl rfl hl.1 rfl (Nat.le_of_ble_eq_true rfl) ⟨(Nat.le_of_ble_eq_true rfl), (Nat.le_of_ble_eq_true rfl)⟩ dX7_lineByLevel_23 ?_
    refine lv_goto (tgt := 34) hx hb dX7_lineByLevel_26 (by decide) ?_
    have ho := Option.some.inj hf
    subst ho
    exact m_iret (v := r_4) hx hb hr hlocks hP hD hS rfl dX7_lineByLevel_34

def fX7_append (μ : Mo) (p0 : Int32) : Option (Int32 × Mo) := ((fX7_in p0 (32 : Int32) (126 : Int32)).bind fun r_1 => (if r_1 = true then (if (M_len μ) = (60 : Int32) then ((fX7_fails (M_th' μ (0 : Int32)) (2 : Int32)).bind fun r_5 => (some (r_5.1, r_5.2))) else (if inR (M_len μ) 60 then (some (((M_len μ) + (1 : Int32)), (M_len' (M_tx' (M_th' μ (0 : Int32)) (upd (M_tx μ) (Int32.toNatClampNeg (M_len μ)) p0)) ((M_len μ) + (1 : Int32))))) else none)) else ((fX7_fails (M_th' μ (0 : Int32)) (1 : Int32)).bind fun r_6 => (some (r_6.1, r_6.2)))))
abbrev rmX7_append : Room := { frames := 1, cells := 0, slots := 0, locals := 22 }
theorem hdX7_append : yX7_append.cls = RX7 ∧ yX7_append.cls ≠ "java/lang/invoke/MethodHandle" ∧ yX7_append.cls ≠ "java/lang/invoke/VarHandle" ∧ (parseMethodDescriptor yX7_append.desc).map (fun d => d.parameters.length) = some 1 := by decide +kernel
theorem fiX7_append_X7 : ∀ w ∈ wsX70, w ∈ wsX7_append := by decide +kernel
theorem flX7_append_22 : (.fieldLink RX7 22 "ContourLabelsModel" "thrown" "I" : Cond) ∈ wsX7_append := by decide +kernel
theorem flX7_append_169 : (.fieldLink RX7 169 "ContourLabelsModel" "length" "I" : Cond) ∈ wsX7_append := by decide +kernel
theorem flX7_append_19 : (.fieldLink RX7 19 "ContourLabelsModel" "text" "[I" : Cond) ∈ wsX7_append := by decide +kernel
set_option maxHeartbeats 4000000 in
set_option maxRecDepth 100000 in
theorem cX7_append_ok (l : Launch) (g : Gg) (m0 m1 m2 m3 m4 : Nat) (μ : Mo) (p0 : Int32) (sz : Nat) {o : Int32 × Mo} (hf : fX7_append μ p0 = some o) : Met l yX7_append wsX7_append rmX7_append (va_Pc [.ref m0, .int p0] (PM g (wM g m0 m1 m2 m3 m4 μ) sz)) (va_Qi (fun r' (_ : Unit) => r' = o.1) (fun _ t => PQ g (wM g m0 m1 m2 m3 m4 o.2) (va_A (wM g m0 m1 m2 m3 m4 μ) sz) t) (va_A (wM g m0 m1 m2 m3 m4 μ) sz)) 0 0 (va_A (wM g m0 m1 m2 m3 m4 μ) sz) := by
  refine Met.ofW (cc := cX7_append) (maxL := 2) (ret := (some .int)) (by decide) rfl ?_
  intro p e s m args below meth c s₁ B hml hv
  obtain ⟨rfl, rfl, hP, hD0, hE, hZ⟩ := hv
  have hx := B.exec
  have hb := B.bytes
  have hr := B.returns
  have hts := atoms_spec (ws := wsX7_append) B.pre
  have hown : s.vm.findClass RX7 = some m.cls := findClass_of_methodNamed B.named
  have hlocks := B.notSynchronized
  have hD := hD0.self (sz := s.heap.size)
  generalize hAe : (va_A (wM g m0 m1 m2 m3 m4 μ) s.heap.size) = A at hD hZ ⊢
  have hA : ∀ q : Nat, s.heap.size ≤ q → A q := fun q h => by rw [← hAe]; exact Or.inr h
  have hS : va_S A s.heap s.heap [] := va_S.rf
  have hP : va_P g.1 vwCl (wM g m0 m1 m2 m3 m4 μ) s.heap := hP
  have hl := lv_entry ([.ref m0, .int p0]) (n := 2) (Nat.le_of_ble_eq_true rfl)
  rw [lg_entry_eq]
  generalize (lg_sl ([.ref m0, .int p0]) ++ List.replicate (2 - (lg_sl ([.ref m0, .int p0])).length) Slot.unset).toArray = ls at hl ⊢
  have hl : lv_has ls 2 [(0, .ref m0), (1, .int p0)] := hl
  unfold fX7_append at hf
  refine lv_aload_n hx hb dX7_append_0 rfl (lv_at hl 0 rfl) ?_
  refine lv_iconst (v := (0 : Int32)) hx hb dX7_append_1 (by decide) ?_
  refine va_put (v := .int (0 : Int32)) (ty := .int) (C := RX7) (T := TX7) (N := 13) hx hb hts fiX7_append_X7 tyX7 tyX7_ok nmX7 hown hE.1 hP hD hS 0 rfl rfl 7 (by decide) (hts _ flX7_append_22) (fun _ h9 => h9) rfl (by decide +kernel) rfl rfl (Nat.le_of_ble_eq_true rfl) dX7_append_2 (fun H locs hP hD hS => ?_)
  have hP : va_P g.1 vwCl (wM g m0 m1 m2 m3 m4 (M_th' μ (0 : Int32))) H := hP
  have hD : va_D A (wM g m0 m1 m2 m3 m4 (M_th' μ (0 : Int32))) := hD
  refine lv_iload_n hx hb dX7_append_5 rfl (lv_at hl 1 rfl) ?_
  refine lv_bipush (v := (32 : Int32)) hx hb dX7_append_6 (by decide) ?_
  refine lv_bipush (v := (126 : Int32)) hx hb dX7_append_8 (by decide) ?_
  obtain ⟨r_1, e_1, hf⟩ := bo hf
  refine pcallS (W0 := (wM g m0 m1 m2 m3 m4 (M_th' μ (0 : Int32)))) (As := [.int p0, .int (32 : Int32), .int (126 : Int32)]) (rest := []) [] ⟨hx, hb, hml, hown, hts⟩ hP hE hZ hS (cX7_in_ok l g  p0 (32 : Int32) (126 : Int32) e_1) (va_cwS 3 hts gX7_append_X7_in rfl rfl rfl hdX7_in.2 ⟨(Nat.le_of_ble_eq_true rfl), (Nat.le_of_ble_eq_true rfl)⟩) rfl rfl hl.1 rfl (Nat.le_of_ble_eq_true rfl) ⟨(Nat.le_of_ble_eq_true rfl), (Nat.le_of_ble_eq_true rfl)⟩ dX7_append_10 ?_
  refine lv_bne (tgt := 22) hx hb dX7_append_13 (by decide) (fun c_2 => ?_) (fun c_2 => ?_)
  · have hf := ip c_2 hf
    refine lv_aload_n hx hb dX7_append_22 rfl (lv_at hl 0 rfl) ?_
    refine va_get (v := .int (M_len μ)) (C := RX7) (T := TX7) (N := 13) hx hb hts fiX7_append_X7 hown hE.1 hP 0 rfl rfl 6 (by decide) (hts _ flX7_append_169) (fun _ h9 => h9) rfl dX7_append_23 ?_
    refine lv_bipush (v := (60 : Int32)) hx hb dX7_append_26 (by decide) ?_
    refine lv_icmp_ne (tgt := 37) hx hb dX7_append_28 (by decide) (fun c_3 => ?_) (fun c_3 => ?_)
    · have hf := iq c_3 hf
      refine lv_aload_n hx hb dX7_append_37 rfl (lv_at hl 0 rfl) ?_
      refine va_get (v := .ref m4) (C := RX7) (T := TX7) (N := 13) hx hb hts fiX7_append_X7 hown hE.1 hP 0 rfl rfl 5 (by decide) (hts _ flX7_append_19) (fun _ h9 => h9) rfl dX7_append_38 ?_
      refine lv_aload_n hx hb dX7_append_41 rfl (lv_at hl 0 rfl) ?_
      refine va_get (v := .int (M_len μ)) (C := RX7) (T := TX7) (N := 13) hx hb hts fiX7_append_X7 hown hE.1 hP 0 rfl rfl 6 (by decide) (hts _ flX7_append_169) (fun _ h9 => h9) rfl dX7_append_42 ?_
      refine lv_iload_n hx hb dX7_append_45 rfl (lv_at hl 1 rfl) ?_
      obtain ⟨h_4, hf⟩ := ck hf
      refine va_iast hx hb hE.1 hP hD hS 4 0 rfl rfl (vin h_4) dX7_append_46 (fun H locs hP hD hS => ?_)
      have hP : va_P g.1 vwCl (wM g m0 m1 m2 m3 m4 (M_tx' (M_th' μ (0 : Int32)) (upd (M_tx μ) (Int32.toNatClampNeg (M_len μ)) p0))) H := hP
      have hD : va_D A (wM g m0 m1 m2 m3 m4 (M_tx' (M_th' μ (0 : Int32)) (upd (M_tx μ) (Int32.toNatClampNeg (M_len μ)) p0))) := hD
      refine lv_aload_n hx hb dX7_append_47 rfl (lv_at hl 0 rfl) ?_
      refine lv_dup hx hb dX7_append_48 rfl ?_
      refine va_get (v := .int (M_len μ)) (C := RX7) (T := TX7) (N := 13) hx hb hts fiX7_append_X7 hown hE.1 hP 0 rfl rfl 6 (by decide) (hts _ flX7_append_169) (fun _ h9 => h9) rfl dX7_append_49 ?_
      refine lv_iconst (v := (1 : Int32)) hx hb dX7_append_52 (by decide) ?_
      refine lv_iadd hx hb dX7_append_53 ?_
      refine va_put (v := .int ((M_len μ) + (1 : Int32))) (ty := .int) (C := RX7) (T := TX7) (N := 13) hx hb hts fiX7_append_X7 tyX7 tyX7_ok nmX7 hown hE.1 hP hD hS 0 rfl rfl 6 (by decide) (hts _ flX7_append_169) (fun _ h9 => h9) rfl (by decide +kernel) rfl rfl (Nat.le_of_ble_eq_true rfl) dX7_append_54 (fun H locs hP hD hS => ?_)
      have hP : va_P g.1 vwCl (wM g m0 m1 m2 m3 m4 (M_len' (M_tx' (M_th' μ (0 : Int32)) (upd (M_tx μ) (Int32.toNatClampNeg (M_len μ)) p0)) ((M_len μ) + (1 : Int32)))) H := hP
      have hD : va_D A (wM g m0 m1 m2 m3 m4 (M_len' (M_tx' (M_th' μ (0 : Int32)) (upd (M_tx μ) (Int32.toNatClampNeg (M_len μ)) p0)) ((M_len μ) + (1 : Int32)))) := hD
      refine lv_aload_n hx hb dX7_append_57 rfl (lv_at hl 0 rfl) ?_
      refine va_get (v := .int ((M_len μ) + (1 : Int32))) (C := RX7) (T := TX7) (N := 13) hx hb hts fiX7_append_X7 hown hE.1 hP 0 rfl rfl 6 (by decide) (hts _ flX7_append_169) (fun _ h9 => h9) rfl dX7_append_58 ?_
      have ho := Option.some.inj hf
      subst ho
      exact m_iret (v := ((M_len μ) + (1 : Int32))) hx hb hr hlocks hP hD hS rfl dX7_append_61
    · have hf := ip c_3 hf
      refine lv_aload_n hx hb dX7_append_31 rfl (lv_at hl 0 rfl) ?_
      refine lv_iconst (v := (2 : Int32)) hx hb dX7_append_32 (by decide) ?_
      obtain ⟨r_5, e_5, hf⟩ := bo hf
      refine mcallVi (W0 := (wM g m0 m1 m2 m3 m4 (M_th' μ (0 : Int32)))) (Wc := (wM g m0 m1 m2 m3 m4 (M_th' μ (0 : Int32)))) (Wr := ([] : va_W)) (W1 := (wM g m0 m1 m2 m3 m4 r_5.2)) (W2 := (wM g m0 m1 m2 m3 m4 r_5.2)) (As := [.int (2 : Int32)]) (rest := []) [0, 1, 2, 3, 4] [] [0, 1, 2, 3, 4] 5 0 ⟨hx, hb, hml, hown, hts⟩ hP hD hE hZ hS hA (cX7_fails_ok l g m0 m1 m2 m3 m4 (M_th' μ (0 : Int32)) (2 : Int32) _ e_5) (cwV 1 hts gX7_append_X7_fails rfl rfl rfl hdX7_fails ⟨(Nat.le_of_ble_eq_true rfl), (Nat.le_of_ble_eq_true rfl)⟩) rfl rfl rfl (by decide) (by decide) (by decide) (by decide) rfl rfl rfl rfl hl.1 rfl (Nat.le_of_ble_eq_true rfl) ⟨(Nat.le_of_ble_eq_true rfl), (Nat.le_of_ble_eq_true rfl)⟩ dX7_append_33 (fun H locs hP hD hS => ?_)
      have ho := Option.some.inj hf
      subst ho
      exact m_iret (v := r_5.1) hx hb hr hlocks hP hD hS rfl dX7_append_36
  · have hf := iq c_2 hf
    refine lv_aload_n hx hb dX7_append_16 rfl (lv_at hl 0 rfl) ?_
    refine lv_iconst (v := (1 : Int32)) hx hb dX7_append_17 (by decide) ?_
    obtain ⟨r_6, e_6, hf⟩ := bo hf
    refine mcallVi (W0 := (wM g m0 m1 m2 m3 m4 (M_th' μ (0 : Int32)))) (Wc := (wM g m0 m1 m2 m3 m4 (M_th' μ (0 : Int32)))) (Wr := ([] : va_W)) (W1 := (wM g m0 m1 m2 m3 m4 r_6.2)) (W2 := (wM g m0 m1 m2 m3 m4 r_6.2)) (As := [.int (1 : Int32)]) (rest := []) [0, 1, 2, 3, 4] [] [0, 1, 2, 3, 4] 5 0 ⟨hx, hb, hml, hown, hts⟩ hP hD hE hZ hS hA (cX7_fails_ok l g m0 m1 m2 m3 m4 (M_th' μ (0 : Int32)) (1 : Int32) _ e_6) (cwV 1 hts gX7_append_X7_fails rfl rfl rfl hdX7_fails ⟨(Nat.le_of_ble_eq_true rfl), (Nat.le_of_ble_eq_true rfl)⟩) rfl rfl rfl (by decide) (by decide) (by decide) (by decide) rfl rfl rfl rfl hl.1 rfl (Nat.le_of_ble_eq_true rfl) ⟨(Nat.le_of_ble_eq_true rfl), (Nat.le_of_ble_eq_true rfl)⟩ dX7_append_18 (fun H locs hP hD hS => ?_)
    have ho := Option.some.inj hf
    subst ho
    exact m_iret (v := r_6.1) hx hb hr hlocks hP hD hS rfl dX7_append_21

def fX7_clearText (μ : Mo) : Option (Int32 × Mo) := (some ((M_len μ), (M_len' (M_th' μ (0 : Int32)) (0 : Int32))))
abbrev rmX7_clearText : Room := { frames := 0, cells := 0, slots := 0, locals := 0 }
theorem hdX7_clearText : yX7_clearText.cls = RX7 ∧ yX7_clearText.cls ≠ "java/lang/invoke/MethodHandle" ∧ yX7_clearText.cls ≠ "java/lang/invoke/VarHandle" ∧ (parseMethodDescriptor yX7_clearText.desc).map (fun d => d.parameters.length) = some 0 := by decide +kernel
theorem fiX7_clearText_X7 : ∀ w ∈ wsX70, w ∈ wsX7_clearText := by decide +kernel
theorem flX7_clearText_22 : (.fieldLink RX7 22 "ContourLabelsModel" "thrown" "I" : Cond) ∈ wsX7_clearText := by decide +kernel
theorem flX7_clearText_169 : (.fieldLink RX7 169 "ContourLabelsModel" "length" "I" : Cond) ∈ wsX7_clearText := by decide +kernel
set_option maxHeartbeats 4000000 in
set_option maxRecDepth 100000 in
theorem cX7_clearText_ok (l : Launch) (g : Gg) (m0 m1 m2 m3 m4 : Nat) (μ : Mo) (sz : Nat) {o : Int32 × Mo} (hf : fX7_clearText μ = some o) : Met l yX7_clearText wsX7_clearText rmX7_clearText (va_Pc [.ref m0] (PM g (wM g m0 m1 m2 m3 m4 μ) sz)) (va_Qi (fun r' (_ : Unit) => r' = o.1) (fun _ t => PQ g (wM g m0 m1 m2 m3 m4 o.2) (va_A (wM g m0 m1 m2 m3 m4 μ) sz) t) (va_A (wM g m0 m1 m2 m3 m4 μ) sz)) 0 0 (va_A (wM g m0 m1 m2 m3 m4 μ) sz) := by
  refine Met.ofW (cc := cX7_clearText) (maxL := 2) (ret := (some .int)) (by decide) rfl ?_
  intro p e s m args below meth c s₁ B hml hv
  obtain ⟨rfl, rfl, hP, hD0, hE, hZ⟩ := hv
  have hx := B.exec
  have hb := B.bytes
  have hr := B.returns
  have hts := atoms_spec (ws := wsX7_clearText) B.pre
  have hown : s.vm.findClass RX7 = some m.cls := findClass_of_methodNamed B.named
  have hlocks := B.notSynchronized
  have hD := hD0.self (sz := s.heap.size)
  generalize hAe : (va_A (wM g m0 m1 m2 m3 m4 μ) s.heap.size) = A at hD hZ ⊢
  have hA : ∀ q : Nat, s.heap.size ≤ q → A q := fun q h => by rw [← hAe]; exact Or.inr h
  have hS : va_S A s.heap s.heap [] := va_S.rf
  have hP : va_P g.1 vwCl (wM g m0 m1 m2 m3 m4 μ) s.heap := hP
  have hl := lv_entry ([.ref m0]) (n := 2) (Nat.le_of_ble_eq_true rfl)
  rw [lg_entry_eq]
  generalize (lg_sl ([.ref m0]) ++ List.replicate (2 - (lg_sl ([.ref m0])).length) Slot.unset).toArray = ls at hl ⊢
  have hl : lv_has ls 2 [(0, .ref m0)] := hl
  unfold fX7_clearText at hf
  refine lv_aload_n hx hb dX7_clearText_0 rfl (lv_at hl 0 rfl) ?_
  refine lv_iconst (v := (0 : Int32)) hx hb dX7_clearText_1 (by decide) ?_
  refine va_put (v := .int (0 : Int32)) (ty := .int) (C := RX7) (T := TX7) (N := 13) hx hb hts fiX7_clearText_X7 tyX7 tyX7_ok nmX7 hown hE.1 hP hD hS 0 rfl rfl 7 (by decide) (hts _ flX7_clearText_22) (fun _ h9 => h9) rfl (by decide +kernel) rfl rfl (Nat.le_of_ble_eq_true rfl) dX7_clearText_2 (fun H locs hP hD hS => ?_)
  have hP : va_P g.1 vwCl (wM g m0 m1 m2 m3 m4 (M_th' μ (0 : Int32))) H := hP
  have hD : va_D A (wM g m0 m1 m2 m3 m4 (M_th' μ (0 : Int32))) := hD
  refine lv_aload_n hx hb dX7_clearText_5 rfl (lv_at hl 0 rfl) ?_
  refine va_get (v := .int (M_len μ)) (C := RX7) (T := TX7) (N := 13) hx hb hts fiX7_clearText_X7 hown hE.1 hP 0 rfl rfl 6 (by decide) (hts _ flX7_clearText_169) (fun _ h9 => h9) rfl dX7_clearText_6 ?_
  refine lv_istore_n (lv' := [(1, .int (M_len μ)), (0, .ref m0)]) hx hb dX7_clearText_9 rfl hl (by decide) rfl (fun ls hl => ?_)
  refine lv_aload_n hx hb dX7_clearText_10 rfl (lv_at hl 1 rfl) ?_
  refine lv_iconst (v := (0 : Int32)) hx hb dX7_clearText_11 (by decide) ?_
  refine va_put (v := .int (0 : Int32)) (ty := .int) (C := RX7) (T := TX7) (N := 13) hx hb hts fiX7_clearText_X7 tyX7 tyX7_ok nmX7 hown hE.1 hP hD hS 0 rfl rfl 6 (by decide) (hts _ flX7_clearText_169) (fun _ h9 => h9) rfl (by decide +kernel) rfl rfl (Nat.le_of_ble_eq_true rfl) dX7_clearText_12 (fun H locs hP hD hS => ?_)
  have hP : va_P g.1 vwCl (wM g m0 m1 m2 m3 m4 (M_len' (M_th' μ (0 : Int32)) (0 : Int32))) H := hP
  have hD : va_D A (wM g m0 m1 m2 m3 m4 (M_len' (M_th' μ (0 : Int32)) (0 : Int32))) := hD
  refine lv_iload_n hx hb dX7_clearText_15 rfl (lv_at hl 0 rfl) ?_
  have ho := Option.some.inj hf
  subst ho
  exact m_iret (v := (M_len μ)) hx hb hr hlocks hP hD hS rfl dX7_clearText_16

def fX7_sign (μ : Mo) : Option (Int32) := (if (M_len μ) ≤ (M_sp μ) then (some (0 : Int32)) else (if inR (M_sp μ) 60 then (some (M_tx μ (Int32.toNatClampNeg (M_sp μ)))) else none))
abbrev rmX7_sign : Room := { frames := 0, cells := 0, slots := 0, locals := 0 }
theorem hdX7_sign : yX7_sign.cls = RX7 ∧ yX7_sign.cls ≠ "java/lang/invoke/MethodHandle" ∧ yX7_sign.cls ≠ "java/lang/invoke/VarHandle" ∧ (parseMethodDescriptor yX7_sign.desc).map (fun d => d.parameters.length) = some 0 := by decide +kernel
theorem fiX7_sign_X7 : ∀ w ∈ wsX70, w ∈ wsX7_sign := by decide +kernel
theorem flX7_sign_172 : (.fieldLink RX7 172 "ContourLabelsModel" "spot" "I" : Cond) ∈ wsX7_sign := by decide +kernel
theorem flX7_sign_169 : (.fieldLink RX7 169 "ContourLabelsModel" "length" "I" : Cond) ∈ wsX7_sign := by decide +kernel
theorem flX7_sign_19 : (.fieldLink RX7 19 "ContourLabelsModel" "text" "[I" : Cond) ∈ wsX7_sign := by decide +kernel
set_option maxHeartbeats 4000000 in
set_option maxRecDepth 100000 in
theorem cX7_sign_ok (l : Launch) (g : Gg) (m0 m1 m2 m3 m4 : Nat) (μ : Mo) {r : Int32} (hf : fX7_sign μ = some r) : Met l yX7_sign wsX7_sign rmX7_sign (va_Pc [.ref m0] (PP g (wM g m0 m1 m2 m3 m4 μ))) (vp_Si (fun r' => r' = r)) 0 0 (fun _ => False) := by
  refine Met.ofW (cc := cX7_sign) (maxL := 1) (ret := (some .int)) (by decide) rfl ?_
  intro p e s m args below meth c s₁ B hml hv
  obtain ⟨rfl, hP, hE, hZ⟩ := hv
  have hx := B.exec
  have hb := B.bytes
  have hr := B.returns
  have hts := atoms_spec (ws := wsX7_sign) B.pre
  have hown : s.vm.findClass RX7 = some m.cls := findClass_of_methodNamed B.named
  have hlocks := B.notSynchronized
  have hS : va_S (fun _ => False) s.heap s.heap [] := va_S.rf
  have hl := lv_entry ([.ref m0]) (n := 1) (Nat.le_of_ble_eq_true rfl)
  rw [lg_entry_eq]
  generalize (lg_sl ([.ref m0]) ++ List.replicate (1 - (lg_sl ([.ref m0])).length) Slot.unset).toArray = ls at hl ⊢
  have hl : lv_has ls 1 [(0, .ref m0)] := hl
  unfold fX7_sign at hf
  refine lv_aload_n hx hb dX7_sign_0 rfl (lv_at hl 0 rfl) ?_
  refine va_get (v := .int (M_sp μ)) (C := RX7) (T := TX7) (N := 13) hx hb hts fiX7_sign_X7 hown hE.1 hP 0 rfl rfl 8 (by decide) (hts _ flX7_sign_172) (fun _ h9 => h9) rfl dX7_sign_1 ?_
  refine lv_aload_n hx hb dX7_sign_4 rfl (lv_at hl 0 rfl) ?_
  refine va_get (v := .int (M_len μ)) (C := RX7) (T := TX7) (N := 13) hx hb hts fiX7_sign_X7 hown hE.1 hP 0 rfl rfl 6 (by decide) (hts _ flX7_sign_169) (fun _ h9 => h9) rfl dX7_sign_5 ?_
  refine lv_icmp_ge (tgt := 23) hx hb dX7_sign_8 (by decide) (fun c_1 => ?_) (fun c_1 => ?_)
  · have hf := ip c_1 hf
    refine lv_iconst (v := (0 : Int32)) hx hb dX7_sign_23 (by decide) ?_
    exact p_iret (v := (0 : Int32)) hx hb hr hlocks (Option.some.inj hf) dX7_sign_24
  · have hf := iq c_1 hf
    refine lv_aload_n hx hb dX7_sign_11 rfl (lv_at hl 0 rfl) ?_
    refine va_get (v := .ref m4) (C := RX7) (T := TX7) (N := 13) hx hb hts fiX7_sign_X7 hown hE.1 hP 0 rfl rfl 5 (by decide) (hts _ flX7_sign_19) (fun _ h9 => h9) rfl dX7_sign_12 ?_
    refine lv_aload_n hx hb dX7_sign_15 rfl (lv_at hl 0 rfl) ?_
    refine va_get (v := .int (M_sp μ)) (C := RX7) (T := TX7) (N := 13) hx hb hts fiX7_sign_X7 hown hE.1 hP 0 rfl rfl 8 (by decide) (hts _ flX7_sign_172) (fun _ h9 => h9) rfl dX7_sign_16 ?_
    obtain ⟨h_2, hf⟩ := ck hf
    refine va_iald hx hb hE.1 hP 4 0 rfl rfl (vin h_2) dX7_sign_19 ?_
    refine lv_goto (tgt := 24) hx hb dX7_sign_20 (by decide) ?_
    exact p_iret (v := (M_tx μ (Int32.toNatClampNeg (M_sp μ)))) hx hb hr hlocks (Option.some.inj hf) dX7_sign_24

def fX7_needs_21 (p0 : Int32) (t1_21 : Bool) (μ_21 : Mo) : Option (Mo) := (if t1_21 = true then (some (M_sp' (M_iw' μ_21 t1_21) ((M_sp μ_21) + (1 : Int32)))) else (some (M_sp' (M_iw' μ_21 t1_21) ((M_sp μ_21) + (0 : Int32)))))
def fX7_needs (μ : Mo) (p0 : Int32) : Option (Mo) := (if (M_iw μ) = true then ((fX7_sign μ).bind fun r_3 => (if r_3 = p0 then fX7_needs_21 p0 true μ else fX7_needs_21 p0 false μ)) else fX7_needs_21 p0 false μ)
abbrev rmX7_needs : Room := { frames := 1, cells := 0, slots := 0, locals := 20 }
theorem hdX7_needs : yX7_needs.cls = RX7 ∧ yX7_needs.cls ≠ "java/lang/invoke/MethodHandle" ∧ yX7_needs.cls ≠ "java/lang/invoke/VarHandle" ∧ (parseMethodDescriptor yX7_needs.desc).map (fun d => d.parameters.length) = some 1 := by decide +kernel
theorem fiX7_needs_X7 : ∀ w ∈ wsX70, w ∈ wsX7_needs := by decide +kernel
theorem flX7_needs_175 : (.fieldLink RX7 175 "ContourLabelsModel" "isWell" "Z" : Cond) ∈ wsX7_needs := by decide +kernel
theorem flX7_needs_172 : (.fieldLink RX7 172 "ContourLabelsModel" "spot" "I" : Cond) ∈ wsX7_needs := by decide +kernel
set_option maxHeartbeats 4000000 in
set_option maxRecDepth 100000 in
theorem cX7_needs_ok (l : Launch) (g : Gg) (m0 m1 m2 m3 m4 : Nat) (μ : Mo) (p0 : Int32) (sz : Nat) {o : Mo} (hf : fX7_needs μ p0 = some o) : Met l yX7_needs wsX7_needs rmX7_needs (va_Pc [.ref m0, .int p0] (PM g (wM g m0 m1 m2 m3 m4 μ) sz)) (va_Qv (fun _ : Unit => True) (fun _ t => PQ g (wM g m0 m1 m2 m3 m4 o) (va_A (wM g m0 m1 m2 m3 m4 μ) sz) t) (va_A (wM g m0 m1 m2 m3 m4 μ) sz)) 0 0 (va_A (wM g m0 m1 m2 m3 m4 μ) sz) := by
  refine Met.ofW (cc := cX7_needs) (maxL := 2) (ret := none) (by decide) rfl ?_
  intro p e s m args below meth c s₁ B hml hv
  obtain ⟨rfl, rfl, hP, hD0, hE, hZ⟩ := hv
  have hx := B.exec
  have hb := B.bytes
  have hr := B.returns
  have hts := atoms_spec (ws := wsX7_needs) B.pre
  have hown : s.vm.findClass RX7 = some m.cls := findClass_of_methodNamed B.named
  have hlocks := B.notSynchronized
  have hD := hD0.self (sz := s.heap.size)
  generalize hAe : (va_A (wM g m0 m1 m2 m3 m4 μ) s.heap.size) = A at hD hZ ⊢
  have hA : ∀ q : Nat, s.heap.size ≤ q → A q := fun q h => by rw [← hAe]; exact Or.inr h
  have hS : va_S A s.heap s.heap [] := va_S.rf
  have hP : va_P g.1 vwCl (wM g m0 m1 m2 m3 m4 μ) s.heap := hP
  have hl := lv_entry ([.ref m0, .int p0]) (n := 2) (Nat.le_of_ble_eq_true rfl)
  rw [lg_entry_eq]
  generalize (lg_sl ([.ref m0, .int p0]) ++ List.replicate (2 - (lg_sl ([.ref m0, .int p0])).length) Slot.unset).toArray = ls at hl ⊢
  have hl : lv_has ls 2 [(0, .ref m0), (1, .int p0)] := hl
  have hB21 : ∀ (t1_21 : Bool) (μ_21 : Mo) (H : Heap) (locs : List Loc) (ls : Array Slot), va_P g.1 vwCl (wM g m0 m1 m2 m3 m4 μ_21) H → va_D A (wM g m0 m1 m2 m3 m4 μ_21) → va_S A s.heap H locs → lv_has ls 2 [(0, .ref m0)] → fX7_needs_21 p0 t1_21 μ_21 = some o → W p l e (headSpec wsX7_needs rmX7_needs).room s m ([.ref m0, .int p0] : List Value).toArray below meth c H locs 0 0 (MQ below (va_Qv (fun _ : Unit => True) (fun _ t => PQ g (wM g m0 m1 m2 m3 m4 o) A t) A) ([.ref m0, .int p0] : List Value).toArray s 0 0 A) (F0 m 21 ls [.int (b2i t1_21), .ref m0]) := by
    intro  t1_21 μ_21 H locs ls hP hD hS hl hf
    unfold fX7_needs_21 at hf
    refine va_put (v := .int (b2i t1_21)) (ty := .boolean) (C := RX7) (T := TX7) (N := 13) hx hb hts fiX7_needs_X7 tyX7 tyX7_ok nmX7 hown hE.1 hP hD hS 0 rfl rfl 9 (by decide) (hts _ flX7_needs_175) (fun _ h9 => h9) rfl (by decide +kernel) (nb2i _) (fb2i _) (Nat.le_of_ble_eq_true rfl) dX7_needs_21 (fun H locs hP hD hS => ?_)
    have hP : va_P g.1 vwCl (wM g m0 m1 m2 m3 m4 (M_iw' μ_21 t1_21)) H := hP
    have hD : va_D A (wM g m0 m1 m2 m3 m4 (M_iw' μ_21 t1_21)) := hD
    refine lv_aload_n hx hb dX7_needs_24 rfl (lv_at hl 0 rfl) ?_
    refine lv_dup hx hb dX7_needs_25 rfl ?_
    refine va_get (v := .int (M_sp μ_21)) (C := RX7) (T := TX7) (N := 13) hx hb hts fiX7_needs_X7 hown hE.1 hP 0 rfl rfl 8 (by decide) (hts _ flX7_needs_172) (fun _ h9 => h9) rfl dX7_needs_26 ?_
    refine lv_aload_n hx hb dX7_needs_29 rfl (lv_at hl 0 rfl) ?_
    refine va_get (v := .int (b2i t1_21)) (C := RX7) (T := TX7) (N := 13) hx hb hts fiX7_needs_X7 hown hE.1 hP 0 rfl rfl 9 (by decide) (hts _ flX7_needs_175) (fun _ h9 => h9) rfl dX7_needs_30 ?_
    refine lv_beq (tgt := 40) hx hb dX7_needs_33 (by decide) (fun c_1 => ?_) (fun c_1 => ?_)
    · have hf := iq c_1 hf
      refine lv_iconst (v := (0 : Int32)) hx hb dX7_needs_40 (by decide) ?_
      refine lv_iadd hx hb dX7_needs_41 ?_
      refine va_put (v := .int ((M_sp μ_21) + (0 : Int32))) (ty := .int) (C := RX7) (T := TX7) (N := 13) hx hb hts fiX7_needs_X7 tyX7 tyX7_ok nmX7 hown hE.1 hP hD hS 0 rfl rfl 8 (by decide) (hts _ flX7_needs_172) (fun _ h9 => h9) rfl (by decide +kernel) rfl rfl (Nat.le_of_ble_eq_true rfl) dX7_needs_42 (fun H locs hP hD hS => ?_)
      have hP : va_P g.1 vwCl (wM g m0 m1 m2 m3 m4 (M_sp' (M_iw' μ_21 t1_21) ((M_sp μ_21) + (0 : Int32)))) H := hP
      have hD : va_D A (wM g m0 m1 m2 m3 m4 (M_sp' (M_iw' μ_21 t1_21) ((M_sp μ_21) + (0 : Int32)))) := hD
      have ho := Option.some.inj hf
      subst ho
      exact m_vret hx hb hr hlocks hP hD hS dX7_needs_45
    · have hf := ip c_1 hf
      refine lv_iconst (v := (1 : Int32)) hx hb dX7_needs_36 (by decide) ?_
      refine lv_goto (tgt := 41) hx hb dX7_needs_37 (by decide) ?_
      refine lv_iadd hx hb dX7_needs_41 ?_
      refine va_put (v := .int ((M_sp μ_21) + (1 : Int32))) (ty := .int) (C := RX7) (T := TX7) (N := 13) hx hb hts fiX7_needs_X7 tyX7 tyX7_ok nmX7 hown hE.1 hP hD hS 0 rfl rfl 8 (by decide) (hts _ flX7_needs_172) (fun _ h9 => h9) rfl (by decide +kernel) rfl rfl (Nat.le_of_ble_eq_true rfl) dX7_needs_42 (fun H locs hP hD hS => ?_)
      have hP : va_P g.1 vwCl (wM g m0 m1 m2 m3 m4 (M_sp' (M_iw' μ_21 t1_21) ((M_sp μ_21) + (1 : Int32)))) H := hP
      have hD : va_D A (wM g m0 m1 m2 m3 m4 (M_sp' (M_iw' μ_21 t1_21) ((M_sp μ_21) + (1 : Int32)))) := hD
      have ho := Option.some.inj hf
      subst ho
      exact m_vret hx hb hr hlocks hP hD hS dX7_needs_45
  unfold fX7_needs at hf
  refine lv_aload_n hx hb dX7_needs_0 rfl (lv_at hl 0 rfl) ?_
  refine lv_aload_n hx hb dX7_needs_1 rfl (lv_at hl 0 rfl) ?_
  refine va_get (v := .int (b2i (M_iw μ))) (C := RX7) (T := TX7) (N := 13) hx hb hts fiX7_needs_X7 hown hE.1 hP 0 rfl rfl 9 (by decide) (hts _ flX7_needs_175) (fun _ h9 => h9) rfl dX7_needs_2 ?_
  refine lv_beq (tgt := 20) hx hb dX7_needs_5 (by decide) (fun c_2 => ?_) (fun c_2 => ?_)
  · have hf := iq c_2 hf
    refine lv_iconst (v := (0 : Int32)) hx hb dX7_needs_20 (by decide) ?_
    exact hB21 false μ _ _ ls hP hD hS (lv_sub hl [0] rfl) hf
  · have hf := ip c_2 hf
    refine lv_aload_n hx hb dX7_needs_8 rfl (lv_at hl 0 rfl) ?_
    obtain ⟨r_3, e_3, hf⟩ := bo hf
    refine pcallV (W0 := (wM g m0 m1 m2 m3 m4 μ)) (As := []) (rest := [.ref m0]) [0, 1, 2, 3, 4] 5 0 ⟨hx, hb, hml, hown, hts⟩ hP hE hZ hS (cX7_sign_ok l g m0 m1 m2 m3 m4 μ e_3) (cwV 0 hts gX7_needs_X7_sign rfl rfl rfl hdX7_sign ⟨(Nat.le_of_ble_eq_true rfl), (Nat.le_of_ble_eq_true rfl)⟩) rfl rfl rfl rfl rfl hl.1 rfl (Nat.le_of_ble_eq_true rfl) ⟨(Nat.le_of_ble_eq_true rfl), (Nat.le_of_ble_eq_true rfl)⟩ dX7_needs_9 ?_
    refine lv_iload_n hx hb dX7_needs_12 rfl (lv_at hl 1 rfl) ?_
    refine lv_icmp_ne (tgt := 20) hx hb dX7_needs_13 (by decide) (fun c_4 => ?_) (fun c_4 => ?_)
    · have hf := iq c_4 hf
      refine lv_iconst (v := (0 : Int32)) hx hb dX7_needs_20 (by decide) ?_
      exact hB21 false μ _ _ ls hP hD hS (lv_sub hl [0] rfl) hf
    · have hf := ip c_4 hf
      refine lv_iconst (v := (1 : Int32)) hx hb dX7_needs_16 (by decide) ?_
      refine lv_goto (tgt := 21) hx hb dX7_needs_17 (by decide) ?_
      exact hB21 true μ _ _ ls hP hD hS (lv_sub hl [0] rfl) hf

def fX7_number_64 (p0 p1 : Int32) : Nat → Int32 → Mo → Option (Int32 × Mo)
  | 0, _, _ => none
  | n + 1, v3_64, μ_64 => (if (M_iw μ_64) = true then (if v3_64 ≤ 0 then (some (v3_64, μ_64)) else ((fX7_sign μ_64).bind fun r_3 => ((fX7_in r_3 (48 : Int32) (57 : Int32)).bind fun r_4 => (if r_4 = true then ((fX7_sign μ_64).bind fun r_6 => (if p1 < ((((10 : Int32) * v3_64) + r_6) - (48 : Int32)) then (some (v3_64, μ_64)) else ((fX7_sign μ_64).bind fun r_8 => fX7_number_64 p0 p1 n ((((10 : Int32) * v3_64) + r_8) - (48 : Int32)) (M_sp' μ_64 ((M_sp μ_64) + (1 : Int32)))))) else (some (v3_64, μ_64)))))) else (some (v3_64, μ_64)))
def fX7_number_40 (p0 p1 : Int32) (v3_40 : Int32) (t1_40 : Bool) (μ_40 : Mo) : Option (Int32 × Mo) := (if t1_40 = true then fX7_number_64 p0 p1 FU v3_40 (M_sp' (M_iw' μ_40 t1_40) ((M_sp μ_40) + (1 : Int32))) else fX7_number_64 p0 p1 FU v3_40 (M_sp' (M_iw' μ_40 t1_40) ((M_sp μ_40) + (0 : Int32))))
def fX7_number (μ : Mo) (p0 p1 : Int32) : Option (Int32 × Mo) := ((fX7_sign μ).bind fun r_10 => (if (M_iw μ) = true then ((fX7_in (r_10 - (48 : Int32)) (0 : Int32) (9 : Int32)).bind fun r_12 => (if r_12 = true then ((fX7_in (r_10 - (48 : Int32)) p0 p1).bind fun r_14 => (if r_14 = true then fX7_number_40 p0 p1 (r_10 - (48 : Int32)) true μ else fX7_number_40 p0 p1 (r_10 - (48 : Int32)) false μ)) else fX7_number_40 p0 p1 (r_10 - (48 : Int32)) false μ)) else fX7_number_40 p0 p1 (r_10 - (48 : Int32)) false μ))
abbrev rmX7_number : Room := { frames := 1, cells := 0, slots := 0, locals := 22 }
theorem hdX7_number : yX7_number.cls = RX7 ∧ yX7_number.cls ≠ "java/lang/invoke/MethodHandle" ∧ yX7_number.cls ≠ "java/lang/invoke/VarHandle" ∧ (parseMethodDescriptor yX7_number.desc).map (fun d => d.parameters.length) = some 2 := by decide +kernel
theorem fiX7_number_X7 : ∀ w ∈ wsX70, w ∈ wsX7_number := by decide +kernel
theorem flX7_number_175 : (.fieldLink RX7 175 "ContourLabelsModel" "isWell" "Z" : Cond) ∈ wsX7_number := by decide +kernel
theorem flX7_number_172 : (.fieldLink RX7 172 "ContourLabelsModel" "spot" "I" : Cond) ∈ wsX7_number := by decide +kernel
set_option maxHeartbeats 4000000 in
set_option maxRecDepth 100000 in
theorem cX7_number_ok (l : Launch) (g : Gg) (m0 m1 m2 m3 m4 : Nat) (μ : Mo) (p0 p1 : Int32) (sz : Nat) {o : Int32 × Mo} (hf : fX7_number μ p0 p1 = some o) : Met l yX7_number wsX7_number rmX7_number (va_Pc [.ref m0, .int p0, .int p1] (PM g (wM g m0 m1 m2 m3 m4 μ) sz)) (va_Qi (fun r' (_ : Unit) => r' = o.1) (fun _ t => PQ g (wM g m0 m1 m2 m3 m4 o.2) (va_A (wM g m0 m1 m2 m3 m4 μ) sz) t) (va_A (wM g m0 m1 m2 m3 m4 μ) sz)) 0 0 (va_A (wM g m0 m1 m2 m3 m4 μ) sz) := by
  refine Met.ofW (cc := cX7_number) (maxL := 4) (ret := (some .int)) (by decide) rfl ?_
  intro p e s m args below meth c s₁ B hml hv
  obtain ⟨rfl, rfl, hP, hD0, hE, hZ⟩ := hv
  have hx := B.exec
  have hb := B.bytes
  have hr := B.returns
  have hts := atoms_spec (ws := wsX7_number) B.pre
  have hown : s.vm.findClass RX7 = some m.cls := findClass_of_methodNamed B.named
  have hlocks := B.notSynchronized
  have hD := hD0.self (sz := s.heap.size)
  generalize hAe : (va_A (wM g m0 m1 m2 m3 m4 μ) s.heap.size) = A at hD hZ ⊢
  have hA : ∀ q : Nat, s.heap.size ≤ q → A q := fun q h => by rw [← hAe]; exact Or.inr h
  have hS : va_S A s.heap s.heap [] := va_S.rf
  have hP : va_P g.1 vwCl (wM g m0 m1 m2 m3 m4 μ) s.heap := hP
  have hl := lv_entry ([.ref m0, .int p0, .int p1]) (n := 4) (Nat.le_of_ble_eq_true rfl)
  rw [lg_entry_eq]
  generalize (lg_sl ([.ref m0, .int p0, .int p1]) ++ List.replicate (4 - (lg_sl ([.ref m0, .int p0, .int p1])).length) Slot.unset).toArray = ls at hl ⊢
  have hl : lv_has ls 4 [(0, .ref m0), (1, .int p0), (2, .int p1)] := hl
  have hB64 : ∀ (n64 : Nat) (v3_64 : Int32) (μ_64 : Mo) (H : Heap) (locs : List Loc) (ls : Array Slot), va_P g.1 vwCl (wM g m0 m1 m2 m3 m4 μ_64) H → va_D A (wM g m0 m1 m2 m3 m4 μ_64) → va_S A s.heap H locs → lv_has ls 4 [(0, .ref m0), (2, .int p1), (3, .int v3_64)] → fX7_number_64 p0 p1 n64 v3_64 μ_64 = some o → W p l e (headSpec wsX7_number rmX7_number).room s m ([.ref m0, .int p0, .int p1] : List Value).toArray below meth c H locs 0 0 (MQ below (va_Qi (fun r' (_ : Unit) => r' = o.1) (fun _ t => PQ g (wM g m0 m1 m2 m3 m4 o.2) A t) A) ([.ref m0, .int p0, .int p1] : List Value).toArray s 0 0 A) (F0 m 64 ls []) := by
    intro  n64
    induction n64 with
    | zero => intro v3_64 μ_64 H locs ls hP hD hS hl hf; exact nomatch (show (none : Option (Int32 × Mo)) = some _ from hf)
    | succ n64 ih64 =>
      intro v3_64 μ_64 H locs ls hP hD hS hl hf
      rw [fX7_number_64] at hf
      refine lv_aload_n hx hb dX7_number_64 rfl (lv_at hl 0 rfl) ?_
      refine va_get (v := .int (b2i (M_iw μ_64))) (C := RX7) (T := TX7) (N := 13) hx hb hts fiX7_number_X7 hown hE.1 hP 0 rfl rfl 9 (by decide) (hts _ flX7_number_175) (fun _ h9 => h9) rfl dX7_number_65 ?_
      refine lv_beq (tgt := 131) hx hb dX7_number_68 (by decide) (fun c_1 => ?_) (fun c_1 => ?_)
      · have hf := iq c_1 hf
        refine lv_iload_n hx hb dX7_number_131 rfl (lv_at hl 2 rfl) ?_
        have ho := Option.some.inj hf
        subst ho
        exact m_iret (v := v3_64) hx hb hr hlocks hP hD hS rfl dX7_number_132
      · have hf := ip c_1 hf
        refine lv_iload_n hx hb dX7_number_71 rfl (lv_at hl 2 rfl) ?_
        refine lv_if_le (tgt := 131) hx hb dX7_number_72 (by decide) (fun c_2 => ?_) (fun c_2 => ?_)
        · have hf := ip c_2 hf
          refine lv_iload_n hx hb dX7_number_131 rfl (lv_at hl 2 rfl) ?_
          have ho := Option.some.inj hf
          subst ho
          exact m_iret (v := v3_64) hx hb hr hlocks hP hD hS rfl dX7_number_132
        · have hf := iq c_2 hf
          refine lv_aload_n hx hb dX7_number_75 rfl (lv_at hl 0 rfl) ?_
          obtain ⟨r_3, e_3, hf⟩ := bo hf
          refine pcallV (W0 := (wM g m0 m1 m2 m3 m4 μ_64)) (As := []) (rest := []) [0, 1, 2, 3, 4] 5 0 ⟨hx, hb, hml, hown, hts⟩ hP hE hZ hS (cX7_sign_ok l g m0 m1 m2 m3 m4 μ_64 e_3) (cwV 0 hts gX7_number_X7_sign rfl rfl rfl hdX7_sign ⟨(Nat.le_of_ble_eq_true rfl), (Nat.le_of_ble_eq_true rfl)⟩) rfl rfl rfl rfl rfl hl.1 rfl (Nat.le_of_ble_eq_true rfl) ⟨(Nat.le_of_ble_eq_true rfl), (Nat.le_of_ble_eq_true rfl)⟩ dX7_number_76 ?_
          refine lv_bipush (v := (48 : Int32)) hx hb dX7_number_79 (by decide) ?_
          refine lv_bipush (v := (57 : Int32)) hx hb dX7_number_81 (by decide) ?_
          obtain ⟨r_4, e_4, hf⟩ := bo hf
          refine pcallS (W0 := (wM g m0 m1 m2 m3 m4 μ_64)) (As := [.int r_3, .int (48 : Int32), .int (57 : Int32)]) (rest := []) [] ⟨hx, hb, hml, hown, hts⟩ hP hE hZ hS (cX7_in_ok l g  r_3 (48 : Int32) (57 : Int32) e_4) (va_cwS 3 hts gX7_number_X7_in rfl rfl rfl hdX7_in.2 ⟨(Nat.le_of_ble_eq_true rfl), (Nat.le_of_ble_eq_true rfl)⟩) rfl rfl hl.1 rfl (Nat.le_of_ble_eq_true rfl) ⟨(Nat.le_of_ble_eq_true rfl), (Nat.le_of_ble_eq_true rfl)⟩ dX7_number_83 ?_
          refine lv_beq (tgt := 131) hx hb dX7_number_86 (by decide) (fun c_5 => ?_) (fun c_5 => ?_)
          · have hf := iq c_5 hf
            refine lv_iload_n hx hb dX7_number_131 rfl (lv_at hl 2 rfl) ?_
            have ho := Option.some.inj hf
            subst ho
            exact m_iret (v := v3_64) hx hb hr hlocks hP hD hS rfl dX7_number_132
          · have hf := ip c_5 hf
            refine lv_bipush (v := (10 : Int32)) hx hb dX7_number_89 (by decide) ?_
            refine lv_iload_n hx hb dX7_number_91 rfl (lv_at hl 2 rfl) ?_
            refine lv_imul hx hb dX7_number_92 ?_
            refine lv_aload_n hx hb dX7_number_93 rfl (lv_at hl 0 rfl) ?_
            obtain ⟨r_6, e_6, hf⟩ := bo hf
            refine pcallV (W0 := (wM g m0 m1 m2 m3 m4 μ_64)) (As := []) (rest := [.int ((10 : Int32) * v3_64)]) [0, 1, 2, 3, 4] 5 0 ⟨hx, hb, hml, hown, hts⟩ hP hE hZ hS (cX7_sign_ok l g m0 m1 m2 m3 m4 μ_64 e_6) (cwV 0 hts gX7_number_X7_sign rfl rfl rfl hdX7_sign ⟨(Nat.le_of_ble_eq_true rfl), (Nat.le_of_ble_eq_true rfl)⟩) rfl rfl rfl rfl rfl hl.1 rfl (Nat.le_of_ble_eq_true rfl) ⟨(Nat.le_of_ble_eq_true rfl), (Nat.le_of_ble_eq_true rfl)⟩ dX7_number_94 ?_
            refine lv_iadd hx hb dX7_number_97 ?_
            refine lv_bipush (v := (48 : Int32)) hx hb dX7_number_98 (by decide) ?_
            refine lv_isub hx hb dX7_number_100 ?_
            refine lv_iload_n hx hb dX7_number_101 rfl (lv_at hl 1 rfl) ?_
            refine lv_icmp_gt (tgt := 131) hx hb dX7_number_102 (by decide) (fun c_7 => ?_) (fun c_7 => ?_)
            · have hf := ip c_7 hf
              refine lv_iload_n hx hb dX7_number_131 rfl (lv_at hl 2 rfl) ?_
              have ho := Option.some.inj hf
              subst ho
              exact m_iret (v := v3_64) hx hb hr hlocks hP hD hS rfl dX7_number_132
            · have hf := iq c_7 hf
              refine lv_bipush (v := (10 : Int32)) hx hb dX7_number_105 (by decide) ?_
              refine lv_iload_n hx hb dX7_number_107 rfl (lv_at hl 2 rfl) ?_
              refine lv_imul hx hb dX7_number_108 ?_
              refine lv_aload_n hx hb dX7_number_109 rfl (lv_at hl 0 rfl) ?_
              obtain ⟨r_8, e_8, hf⟩ := bo hf
              refine pcallV (W0 := (wM g m0 m1 m2 m3 m4 μ_64)) (As := []) (rest := [.int ((10 : Int32) * v3_64)]) [0, 1, 2, 3, 4] 5 0 ⟨hx, hb, hml, hown, hts⟩ hP hE hZ hS (cX7_sign_ok l g m0 m1 m2 m3 m4 μ_64 e_8) (cwV 0 hts gX7_number_X7_sign rfl rfl rfl hdX7_sign ⟨(Nat.le_of_ble_eq_true rfl), (Nat.le_of_ble_eq_true rfl)⟩) rfl rfl rfl rfl rfl hl.1 rfl (Nat.le_of_ble_eq_true rfl) ⟨(Nat.le_of_ble_eq_true rfl), (Nat.le_of_ble_eq_true rfl)⟩ dX7_number_110 ?_
              refine lv_iadd hx hb dX7_number_113 ?_
              refine lv_bipush (v := (48 : Int32)) hx hb dX7_number_114 (by decide) ?_
              refine lv_isub hx hb dX7_number_116 ?_
              refine lv_istore_n (lv' := [(3, .int ((((10 : Int32) * v3_64) + r_8) - (48 : Int32))), (0, .ref m0), (2, .int p1)]) hx hb dX7_number_117 rfl hl (by decide) rfl (fun ls hl => ?_)
              refine lv_aload_n hx hb dX7_number_118 rfl (lv_at hl 1 rfl) ?_
              refine lv_dup hx hb dX7_number_119 rfl ?_
              refine va_get (v := .int (M_sp μ_64)) (C := RX7) (T := TX7) (N := 13) hx hb hts fiX7_number_X7 hown hE.1 hP 0 rfl rfl 8 (by decide) (hts _ flX7_number_172) (fun _ h9 => h9) rfl dX7_number_120 ?_
              refine lv_iconst (v := (1 : Int32)) hx hb dX7_number_123 (by decide) ?_
              refine lv_iadd hx hb dX7_number_124 ?_
              refine va_put (v := .int ((M_sp μ_64) + (1 : Int32))) (ty := .int) (C := RX7) (T := TX7) (N := 13) hx hb hts fiX7_number_X7 tyX7 tyX7_ok nmX7 hown hE.1 hP hD hS 0 rfl rfl 8 (by decide) (hts _ flX7_number_172) (fun _ h9 => h9) rfl (by decide +kernel) rfl rfl (Nat.le_of_ble_eq_true rfl) dX7_number_125 (fun H locs hP hD hS => ?_)
              have hP : va_P g.1 vwCl (wM g m0 m1 m2 m3 m4 (M_sp' μ_64 ((M_sp μ_64) + (1 : Int32)))) H := hP
              have hD : va_D A (wM g m0 m1 m2 m3 m4 (M_sp' μ_64 ((M_sp μ_64) + (1 : Int32)))) := hD
              refine lv_goto (tgt := 64) hx hb dX7_number_128 (by decide) ?_
              exact ih64 ((((10 : Int32) * v3_64) + r_8) - (48 : Int32)) (M_sp' μ_64 ((M_sp μ_64) + (1 : Int32))) _ _ ls hP hD hS (lv_sub hl [1, 2, 0] rfl) hf
  have hB40 : ∀ (v3_40 : Int32) (t1_40 : Bool) (μ_40 : Mo) (H : Heap) (locs : List Loc) (ls : Array Slot), va_P g.1 vwCl (wM g m0 m1 m2 m3 m4 μ_40) H → va_D A (wM g m0 m1 m2 m3 m4 μ_40) → va_S A s.heap H locs → lv_has ls 4 [(0, .ref m0), (2, .int p1), (3, .int v3_40)] → fX7_number_40 p0 p1 v3_40 t1_40 μ_40 = some o → W p l e (headSpec wsX7_number rmX7_number).room s m ([.ref m0, .int p0, .int p1] : List Value).toArray below meth c H locs 0 0 (MQ below (va_Qi (fun r' (_ : Unit) => r' = o.1) (fun _ t => PQ g (wM g m0 m1 m2 m3 m4 o.2) A t) A) ([.ref m0, .int p0, .int p1] : List Value).toArray s 0 0 A) (F0 m 40 ls [.int (b2i t1_40), .ref m0]) := by
    intro  v3_40 t1_40 μ_40 H locs ls hP hD hS hl hf
    unfold fX7_number_40 at hf
    refine va_put (v := .int (b2i t1_40)) (ty := .boolean) (C := RX7) (T := TX7) (N := 13) hx hb hts fiX7_number_X7 tyX7 tyX7_ok nmX7 hown hE.1 hP hD hS 0 rfl rfl 9 (by decide) (hts _ flX7_number_175) (fun _ h9 => h9) rfl (by decide +kernel) (nb2i _) (fb2i _) (Nat.le_of_ble_eq_true rfl) dX7_number_40 (fun H locs hP hD hS => ?_)
    have hP : va_P g.1 vwCl (wM g m0 m1 m2 m3 m4 (M_iw' μ_40 t1_40)) H := hP
    have hD : va_D A (wM g m0 m1 m2 m3 m4 (M_iw' μ_40 t1_40)) := hD
    refine lv_aload_n hx hb dX7_number_43 rfl (lv_at hl 0 rfl) ?_
    refine lv_dup hx hb dX7_number_44 rfl ?_
    refine va_get (v := .int (M_sp μ_40)) (C := RX7) (T := TX7) (N := 13) hx hb hts fiX7_number_X7 hown hE.1 hP 0 rfl rfl 8 (by decide) (hts _ flX7_number_172) (fun _ h9 => h9) rfl dX7_number_45 ?_
    refine lv_aload_n hx hb dX7_number_48 rfl (lv_at hl 0 rfl) ?_
    refine va_get (v := .int (b2i t1_40)) (C := RX7) (T := TX7) (N := 13) hx hb hts fiX7_number_X7 hown hE.1 hP 0 rfl rfl 9 (by decide) (hts _ flX7_number_175) (fun _ h9 => h9) rfl dX7_number_49 ?_
    refine lv_beq (tgt := 59) hx hb dX7_number_52 (by decide) (fun c_9 => ?_) (fun c_9 => ?_)
    · have hf := iq c_9 hf
      refine lv_iconst (v := (0 : Int32)) hx hb dX7_number_59 (by decide) ?_
      refine lv_iadd hx hb dX7_number_60 ?_
      refine va_put (v := .int ((M_sp μ_40) + (0 : Int32))) (ty := .int) (C := RX7) (T := TX7) (N := 13) hx hb hts fiX7_number_X7 tyX7 tyX7_ok nmX7 hown hE.1 hP hD hS 0 rfl rfl 8 (by decide) (hts _ flX7_number_172) (fun _ h9 => h9) rfl (by decide +kernel) rfl rfl (Nat.le_of_ble_eq_true rfl) dX7_number_61 (fun H locs hP hD hS => ?_)
      have hP : va_P g.1 vwCl (wM g m0 m1 m2 m3 m4 (M_sp' (M_iw' μ_40 t1_40) ((M_sp μ_40) + (0 : Int32)))) H := hP
      have hD : va_D A (wM g m0 m1 m2 m3 m4 (M_sp' (M_iw' μ_40 t1_40) ((M_sp μ_40) + (0 : Int32)))) := hD
      exact hB64 FU v3_40 (M_sp' (M_iw' μ_40 t1_40) ((M_sp μ_40) + (0 : Int32))) _ _ ls hP hD hS (lv_sub hl [0, 1, 2] rfl) hf
    · have hf := ip c_9 hf
      refine lv_iconst (v := (1 : Int32)) hx hb dX7_number_55 (by decide) ?_
      refine lv_goto (tgt := 60) hx hb dX7_number_56 (by decide) ?_
      refine lv_iadd hx hb dX7_number_60 ?_
      refine va_put (v := .int ((M_sp μ_40) + (1 : Int32))) (ty := .int) (C := RX7) (T := TX7) (N := 13) hx hb hts fiX7_number_X7 tyX7 tyX7_ok nmX7 hown hE.1 hP hD hS 0 rfl rfl 8 (by decide) (hts _ flX7_number_172) (fun _ h9 => h9) rfl (by decide +kernel) rfl rfl (Nat.le_of_ble_eq_true rfl) dX7_number_61 (fun H locs hP hD hS => ?_)
      have hP : va_P g.1 vwCl (wM g m0 m1 m2 m3 m4 (M_sp' (M_iw' μ_40 t1_40) ((M_sp μ_40) + (1 : Int32)))) H := hP
      have hD : va_D A (wM g m0 m1 m2 m3 m4 (M_sp' (M_iw' μ_40 t1_40) ((M_sp μ_40) + (1 : Int32)))) := hD
      exact hB64 FU v3_40 (M_sp' (M_iw' μ_40 t1_40) ((M_sp μ_40) + (1 : Int32))) _ _ ls hP hD hS (lv_sub hl [0, 1, 2] rfl) hf
  unfold fX7_number at hf
  refine lv_aload_n hx hb dX7_number_0 rfl (lv_at hl 0 rfl) ?_
  obtain ⟨r_10, e_10, hf⟩ := bo hf
  refine pcallV (W0 := (wM g m0 m1 m2 m3 m4 μ)) (As := []) (rest := []) [0, 1, 2, 3, 4] 5 0 ⟨hx, hb, hml, hown, hts⟩ hP hE hZ hS (cX7_sign_ok l g m0 m1 m2 m3 m4 μ e_10) (cwV 0 hts gX7_number_X7_sign rfl rfl rfl hdX7_sign ⟨(Nat.le_of_ble_eq_true rfl), (Nat.le_of_ble_eq_true rfl)⟩) rfl rfl rfl rfl rfl hl.1 rfl (Nat.le_of_ble_eq_true rfl) ⟨(Nat.le_of_ble_eq_true rfl), (Nat.le_of_ble_eq_true rfl)⟩ dX7_number_1 ?_
  refine lv_bipush (v := (48 : Int32)) hx hb dX7_number_4 (by decide) ?_
  refine lv_isub hx hb dX7_number_6 ?_
  refine lv_istore_n (lv' := [(3, .int (r_10 - (48 : Int32))), (0, .ref m0), (1, .int p0), (2, .int p1)]) hx hb dX7_number_7 rfl hl (by decide) rfl (fun ls hl => ?_)
  refine lv_aload_n hx hb dX7_number_8 rfl (lv_at hl 1 rfl) ?_
  refine lv_aload_n hx hb dX7_number_9 rfl (lv_at hl 1 rfl) ?_
  refine va_get (v := .int (b2i (M_iw μ))) (C := RX7) (T := TX7) (N := 13) hx hb hts fiX7_number_X7 hown hE.1 hP 0 rfl rfl 9 (by decide) (hts _ flX7_number_175) (fun _ h9 => h9) rfl dX7_number_10 ?_
  refine lv_beq (tgt := 39) hx hb dX7_number_13 (by decide) (fun c_11 => ?_) (fun c_11 => ?_)
  · have hf := iq c_11 hf
    refine lv_iconst (v := (0 : Int32)) hx hb dX7_number_39 (by decide) ?_
    exact hB40 (r_10 - (48 : Int32)) false μ _ _ ls hP hD hS (lv_sub hl [1, 3, 0] rfl) hf
  · have hf := ip c_11 hf
    refine lv_iload_n hx hb dX7_number_16 rfl (lv_at hl 0 rfl) ?_
    refine lv_iconst (v := (0 : Int32)) hx hb dX7_number_17 (by decide) ?_
    refine lv_bipush (v := (9 : Int32)) hx hb dX7_number_18 (by decide) ?_
    obtain ⟨r_12, e_12, hf⟩ := bo hf
    refine pcallS (W0 := (wM g m0 m1 m2 m3 m4 μ)) (As := [.int (r_10 - (48 : Int32)), .int (0 : Int32), .int (9 : Int32)]) (rest := [.ref m0]) [] ⟨hx, hb, hml, hown, hts⟩ hP hE hZ hS (cX7_in_ok l g  (r_10 - (48 : Int32)) (0 : Int32) (9 : Int32) e_12) (va_cwS 3 hts gX7_number_X7_in rfl rfl rfl hdX7_in.2 ⟨(Nat.le_of_ble_eq_true rfl), (Nat.le_of_ble_eq_true rfl)⟩) rfl rfl hl.1 rfl (Nat.le_of_ble_eq_true rfl) ⟨(Nat.le_of_ble_eq_true rfl), (Nat.le_of_ble_eq_true rfl)⟩ dX7_number_20 ?_
    refine lv_beq (tgt := 39) hx hb dX7_number_23 (by decide) (fun c_13 => ?_) (fun c_13 => ?_)
    · have hf := iq c_13 hf
      refine lv_iconst (v := (0 : Int32)) hx hb dX7_number_39 (by decide) ?_
      exact hB40 (r_10 - (48 : Int32)) false μ _ _ ls hP hD hS (lv_sub hl [1, 3, 0] rfl) hf
    · have hf := ip c_13 hf
      refine lv_iload_n hx hb dX7_number_26 rfl (lv_at hl 0 rfl) ?_
      refine lv_iload_n hx hb dX7_number_27 rfl (lv_at hl 2 rfl) ?_
      refine lv_iload_n hx hb dX7_number_28 rfl (lv_at hl 3 rfl) ?_
      obtain ⟨r_14, e_14, hf⟩ := bo hf
      refine pcallS (W0 := (wM g m0 m1 m2 m3 m4 μ)) (As := [.int (r_10 - (48 : Int32)), .int p0, .int p1]) (rest := [.ref m0]) [] ⟨hx, hb, hml, hown, hts⟩ hP hE hZ hS (cX7_in_ok l g  (r_10 - (48 : Int32)) p0 p1 e_14) (va_cwS 3 hts gX7_number_X7_in rfl rfl rfl hdX7_in.2 ⟨(Nat.le_of_ble_eq_true rfl), (Nat.le_of_ble_eq_true rfl)⟩) rfl rfl hl.1 rfl (Nat.le_of_ble_eq_true rfl) ⟨(Nat.le_of_ble_eq_true rfl), (Nat.le_of_ble_eq_true rfl)⟩ dX7_number_29 ?_
      refine lv_beq (tgt := 39) hx hb dX7_number_32 (by decide) (fun c_15 => ?_) (fun c_15 => ?_)
      · have hf := iq c_15 hf
        refine lv_iconst (v := (0 : Int32)) hx hb dX7_number_39 (by decide) ?_
        exact hB40 (r_10 - (48 : Int32)) false μ _ _ ls hP hD hS (lv_sub hl [1, 3, 0] rfl) hf
      · have hf := ip c_15 hf
        refine lv_iconst (v := (1 : Int32)) hx hb dX7_number_35 (by decide) ?_
        refine lv_goto (tgt := 40) hx hb dX7_number_36 (by decide) ?_
        exact hB40 (r_10 - (48 : Int32)) true μ _ _ ls hP hD hS (lv_sub hl [1, 3, 0] rfl) hf

def fX7_reads_296  (t1_296 : Int32) (μ_296 : Mo) : Option (Mo) := ((fX7_needs μ_296 t1_296).bind fun r_1 => (if (M_iw r_1) = true then (if (M_le r_1) = (110 : Int32) then ((fX7_number r_1 (0 : Int32) (383 : Int32)).bind fun r_5 => (some (M_f2' r_5.2 r_5.1))) else ((fX7_number r_1 (0 : Int32) (59 : Int32)).bind fun r_4 => (some (M_f2' r_4.2 r_4.1)))) else (some (M_f2' r_1 (0 : Int32)))))
def fX7_reads_255  (t2_255 : Bool) (t3_255 : Int32) (μ_255 : Mo) : Option (Mo) := ((fX7_number μ_255 (b2i t2_255) t3_255).bind fun r_6 => (if (M_le r_6.2) = (110 : Int32) then fX7_reads_296 (64 : Int32) (M_f1' r_6.2 r_6.1) else (if (M_le r_6.2) = (108 : Int32) then fX7_reads_296 (46 : Int32) (M_f1' r_6.2 r_6.1) else (some (M_f1' r_6.2 r_6.1)))))
def fX7_reads_225  (t2_225 : Bool) (μ_225 : Mo) : Option (Mo) := (if (M_le μ_225) = (110 : Int32) then fX7_reads_255 t2_225 (99 : Int32) μ_225 else (if (M_le μ_225) = (103 : Int32) then fX7_reads_255 t2_225 (6 : Int32) μ_225 else fX7_reads_255 t2_225 (7 : Int32) μ_225))
def fX7_reads_147  : Nat → Mo → Option (Mo)
  | 0, _ => none
  | n + 1, μ_147 => (if (20 : Int32) ≤ (M_f2 μ_147) then (some μ_147) else ((fX7_sign μ_147).bind fun r_14 => ((fX7_in r_14 (48 : Int32) (55 : Int32)).bind fun r_15 => (if r_15 = true then fX7_reads_147 n (M_sp' (M_f2' μ_147 ((M_f2 μ_147) + (1 : Int32))) ((M_sp μ_147) + (1 : Int32))) else (some μ_147)))))
def fX7_reads_106  (t1_106 : Int32) (t2_106 : Bool) (μ_106 : Mo) : Option (Mo) := (if (M_le μ_106) = (115 : Int32) then ((fX7_sign (M_f2' (M_f1' (M_sp' μ_106 (t1_106 + (b2i t2_106))) (t1_106 + (b2i t2_106))) (0 : Int32))).bind fun r_21 => ((fX7_in r_21 (48 : Int32) (55 : Int32)).bind fun r_22 => fX7_reads_147 FU (M_iw' (M_f2' (M_f1' (M_sp' μ_106 (t1_106 + (b2i t2_106))) (t1_106 + (b2i t2_106))) (0 : Int32)) r_22))) else (if (M_le μ_106) = (97 : Int32) then (some (M_f2' (M_f1' (M_sp' μ_106 (t1_106 + (b2i t2_106))) (t1_106 + (b2i t2_106))) (0 : Int32))) else (if (M_iw μ_106) = true then (if (M_le μ_106) = (103 : Int32) then fX7_reads_225 true (M_f2' (M_f1' (M_sp' μ_106 (t1_106 + (b2i t2_106))) (t1_106 + (b2i t2_106))) (0 : Int32)) else fX7_reads_225 false (M_f2' (M_f1' (M_sp' μ_106 (t1_106 + (b2i t2_106))) (t1_106 + (b2i t2_106))) (0 : Int32))) else (some (M_f2' (M_f1' (M_sp' μ_106 (t1_106 + (b2i t2_106))) (t1_106 + (b2i t2_106))) (0 : Int32))))))
def fX7_reads (μ : Mo) : Option (Mo) := ((fX7_sign μ).bind fun r_23 => (if r_23 = (110 : Int32) then (if true = true then fX7_reads_106 (M_sp μ) true (M_iw' (M_le' μ r_23) true) else fX7_reads_106 (M_sp μ) false (M_iw' (M_le' μ r_23) true)) else (if r_23 = (115 : Int32) then (if true = true then fX7_reads_106 (M_sp μ) true (M_iw' (M_le' μ r_23) true) else fX7_reads_106 (M_sp μ) false (M_iw' (M_le' μ r_23) true)) else (if r_23 = (119 : Int32) then (if true = true then fX7_reads_106 (M_sp μ) true (M_iw' (M_le' μ r_23) true) else fX7_reads_106 (M_sp μ) false (M_iw' (M_le' μ r_23) true)) else (if r_23 = (108 : Int32) then (if true = true then fX7_reads_106 (M_sp μ) true (M_iw' (M_le' μ r_23) true) else fX7_reads_106 (M_sp μ) false (M_iw' (M_le' μ r_23) true)) else (if r_23 = (117 : Int32) then (if true = true then fX7_reads_106 (M_sp μ) true (M_iw' (M_le' μ r_23) true) else fX7_reads_106 (M_sp μ) false (M_iw' (M_le' μ r_23) true)) else (if r_23 = (98 : Int32) then (if true = true then fX7_reads_106 (M_sp μ) true (M_iw' (M_le' μ r_23) true) else fX7_reads_106 (M_sp μ) false (M_iw' (M_le' μ r_23) true)) else (if r_23 = (97 : Int32) then (if true = true then fX7_reads_106 (M_sp μ) true (M_iw' (M_le' μ r_23) true) else fX7_reads_106 (M_sp μ) false (M_iw' (M_le' μ r_23) true)) else (if r_23 = (103 : Int32) then (if true = true then fX7_reads_106 (M_sp μ) true (M_iw' (M_le' μ r_23) true) else fX7_reads_106 (M_sp μ) false (M_iw' (M_le' μ r_23) true)) else (if false = true then fX7_reads_106 (M_sp μ) true (M_iw' (M_le' μ r_23) false) else fX7_reads_106 (M_sp μ) false (M_iw' (M_le' μ r_23) false)))))))))))
abbrev rmX7_reads : Room := { frames := 2, cells := 0, slots := 0, locals := 45 }
theorem hdX7_reads : yX7_reads.cls = RX7 ∧ yX7_reads.cls ≠ "java/lang/invoke/MethodHandle" ∧ yX7_reads.cls ≠ "java/lang/invoke/VarHandle" ∧ (parseMethodDescriptor yX7_reads.desc).map (fun d => d.parameters.length) = some 0 := by decide +kernel
theorem fiX7_reads_X7 : ∀ w ∈ wsX70, w ∈ wsX7_reads := by decide +kernel
theorem flX7_reads_175 : (.fieldLink RX7 175 "ContourLabelsModel" "isWell" "Z" : Cond) ∈ wsX7_reads := by decide +kernel
theorem flX7_reads_188 : (.fieldLink RX7 188 "ContourLabelsModel" "second" "I" : Cond) ∈ wsX7_reads := by decide +kernel
theorem flX7_reads_182 : (.fieldLink RX7 182 "ContourLabelsModel" "letter" "I" : Cond) ∈ wsX7_reads := by decide +kernel
theorem flX7_reads_185 : (.fieldLink RX7 185 "ContourLabelsModel" "first" "I" : Cond) ∈ wsX7_reads := by decide +kernel
theorem flX7_reads_172 : (.fieldLink RX7 172 "ContourLabelsModel" "spot" "I" : Cond) ∈ wsX7_reads := by decide +kernel
set_option maxHeartbeats 4000000 in
set_option maxRecDepth 100000 in
theorem cX7_reads_ok (l : Launch) (g : Gg) (m0 m1 m2 m3 m4 : Nat) (μ : Mo) (sz : Nat) {o : Mo} (hf : fX7_reads μ = some o) : Met l yX7_reads wsX7_reads rmX7_reads (va_Pc [.ref m0] (PM g (wM g m0 m1 m2 m3 m4 μ) sz)) (va_Qv (fun _ : Unit => True) (fun _ t => PQ g (wM g m0 m1 m2 m3 m4 o) (va_A (wM g m0 m1 m2 m3 m4 μ) sz) t) (va_A (wM g m0 m1 m2 m3 m4 μ) sz)) 0 0 (va_A (wM g m0 m1 m2 m3 m4 μ) sz) := by
  refine Met.ofW (cc := cX7_reads) (maxL := 1) (ret := none) (by decide) rfl ?_
  intro p e s m args below meth c s₁ B hml hv
  obtain ⟨rfl, rfl, hP, hD0, hE, hZ⟩ := hv
  have hx := B.exec
  have hb := B.bytes
  have hr := B.returns
  have hts := atoms_spec (ws := wsX7_reads) B.pre
  have hown : s.vm.findClass RX7 = some m.cls := findClass_of_methodNamed B.named
  have hlocks := B.notSynchronized
  have hD := hD0.self (sz := s.heap.size)
  generalize hAe : (va_A (wM g m0 m1 m2 m3 m4 μ) s.heap.size) = A at hD hZ ⊢
  have hA : ∀ q : Nat, s.heap.size ≤ q → A q := fun q h => by rw [← hAe]; exact Or.inr h
  have hS : va_S A s.heap s.heap [] := va_S.rf
  have hP : va_P g.1 vwCl (wM g m0 m1 m2 m3 m4 μ) s.heap := hP
  have hl := lv_entry ([.ref m0]) (n := 1) (Nat.le_of_ble_eq_true rfl)
  rw [lg_entry_eq]
  generalize (lg_sl ([.ref m0]) ++ List.replicate (1 - (lg_sl ([.ref m0])).length) Slot.unset).toArray = ls at hl ⊢
  have hl : lv_has ls 1 [(0, .ref m0)] := hl
  have hB296 : ∀ (t1_296 : Int32) (μ_296 : Mo) (H : Heap) (locs : List Loc) (ls : Array Slot), va_P g.1 vwCl (wM g m0 m1 m2 m3 m4 μ_296) H → va_D A (wM g m0 m1 m2 m3 m4 μ_296) → va_S A s.heap H locs → lv_has ls 1 [(0, .ref m0)] → fX7_reads_296 t1_296 μ_296 = some o → W p l e (headSpec wsX7_reads rmX7_reads).room s m ([.ref m0] : List Value).toArray below meth c H locs 0 0 (MQ below (va_Qv (fun _ : Unit => True) (fun _ t => PQ g (wM g m0 m1 m2 m3 m4 o) A t) A) ([.ref m0] : List Value).toArray s 0 0 A) (F0 m 296 ls [.int t1_296, .ref m0]) := by
    intro  t1_296 μ_296 H locs ls hP hD hS hl hf
    unfold fX7_reads_296 at hf
    obtain ⟨r_1, e_1, hf⟩ := bo hf
    refine mcallVv (W0 := (wM g m0 m1 m2 m3 m4 μ_296)) (Wc := (wM g m0 m1 m2 m3 m4 μ_296)) (Wr := ([] : va_W)) (W1 := (wM g m0 m1 m2 m3 m4 r_1)) (W2 := (wM g m0 m1 m2 m3 m4 r_1)) (As := [.int t1_296]) (rest := []) [0, 1, 2, 3, 4] [] [0, 1, 2, 3, 4] 5 0 ⟨hx, hb, hml, hown, hts⟩ hP hD hE hZ hS hA (cX7_needs_ok l g m0 m1 m2 m3 m4 μ_296 t1_296 _ e_1) (cwV 1 hts gX7_reads_X7_needs rfl rfl rfl hdX7_needs ⟨(Nat.le_of_ble_eq_true rfl), (Nat.le_of_ble_eq_true rfl)⟩) rfl rfl rfl (by decide) (by decide) (by decide) (by decide) rfl rfl rfl rfl hl.1 rfl (Nat.le_of_ble_eq_true rfl) ⟨(Nat.le_of_ble_eq_true rfl), (Nat.le_of_ble_eq_true rfl)⟩ dX7_reads_296 (fun H locs hP hD hS => ?_)
    refine lv_aload_n hx hb dX7_reads_299 rfl (lv_at hl 0 rfl) ?_
    refine lv_aload_n hx hb dX7_reads_300 rfl (lv_at hl 0 rfl) ?_
    refine va_get (v := .int (b2i (M_iw r_1))) (C := RX7) (T := TX7) (N := 13) hx hb hts fiX7_reads_X7 hown hE.1 hP 0 rfl rfl 9 (by decide) (hts _ flX7_reads_175) (fun _ h9 => h9) rfl dX7_reads_301 ?_
    refine lv_beq (tgt := 332) hx hb dX7_reads_304 (by decide) (fun c_2 => ?_) (fun c_2 => ?_)
    · have hf := iq c_2 hf
      refine lv_iconst (v := (0 : Int32)) hx hb dX7_reads_332 (by decide) ?_
      refine va_put (v := .int (0 : Int32)) (ty := .int) (C := RX7) (T := TX7) (N := 13) hx hb hts fiX7_reads_X7 tyX7 tyX7_ok nmX7 hown hE.1 hP hD hS 0 rfl rfl 12 (by decide) (hts _ flX7_reads_188) (fun _ h9 => h9) rfl (by decide +kernel) rfl rfl (Nat.le_of_ble_eq_true rfl) dX7_reads_333 (fun H locs hP hD hS => ?_)
      have hP : va_P g.1 vwCl (wM g m0 m1 m2 m3 m4 (M_f2' r_1 (0 : Int32))) H := hP
      have hD : va_D A (wM g m0 m1 m2 m3 m4 (M_f2' r_1 (0 : Int32))) := hD
      have ho := Option.some.inj hf
      subst ho
      exact m_vret hx hb hr hlocks hP hD hS dX7_reads_336
    · have hf := ip c_2 hf
      refine lv_aload_n hx hb dX7_reads_307 rfl (lv_at hl 0 rfl) ?_
      refine lv_iconst (v := (0 : Int32)) hx hb dX7_reads_308 (by decide) ?_
      refine lv_aload_n hx hb dX7_reads_309 rfl (lv_at hl 0 rfl) ?_
      refine va_get (v := .int (M_le r_1)) (C := RX7) (T := TX7) (N := 13) hx hb hts fiX7_reads_X7 hown hE.1 hP 0 rfl rfl 10 (by decide) (hts _ flX7_reads_182) (fun _ h9 => h9) rfl dX7_reads_310 ?_
      refine lv_bipush (v := (110 : Int32)) hx hb dX7_reads_313 (by decide) ?_
      refine lv_icmp_ne (tgt := 324) hx hb dX7_reads_315 (by decide) (fun c_3 => ?_) (fun c_3 => ?_)
      · have hf := iq c_3 hf
        refine lv_bipush (v := (59 : Int32)) hx hb dX7_reads_324 (by decide) ?_
        obtain ⟨r_4, e_4, hf⟩ := bo hf
        refine mcallVi (W0 := (wM g m0 m1 m2 m3 m4 r_1)) (Wc := (wM g m0 m1 m2 m3 m4 r_1)) (Wr := ([] : va_W)) (W1 := (wM g m0 m1 m2 m3 m4 r_4.2)) (W2 := (wM g m0 m1 m2 m3 m4 r_4.2)) (As := [.int (0 : Int32), .int (59 : Int32)]) (rest := [.ref m0]) [0, 1, 2, 3, 4] [] [0, 1, 2, 3, 4] 5 0 ⟨hx, hb, hml, hown, hts⟩ hP hD hE hZ hS hA (cX7_number_ok l g m0 m1 m2 m3 m4 r_1 (0 : Int32) (59 : Int32) _ e_4) (cwV 2 hts gX7_reads_X7_number rfl rfl rfl hdX7_number ⟨(Nat.le_of_ble_eq_true rfl), (Nat.le_of_ble_eq_true rfl)⟩) rfl rfl rfl (by decide) (by decide) (by decide) (by decide) rfl rfl rfl rfl hl.1 rfl (Nat.le_of_ble_eq_true rfl) ⟨(Nat.le_of_ble_eq_true rfl), (Nat.le_of_ble_eq_true rfl)⟩ dX7_reads_326 (fun H locs hP hD hS => ?_)
        refine lv_goto (tgt := 333) hx hb dX7_reads_329 (by decide) ?_
        refine va_put (v := .int r_4.1) (ty := .int) (C := RX7) (T := TX7) (N := 13) hx hb hts fiX7_reads_X7 tyX7 tyX7_ok nmX7 hown hE.1 hP hD hS 0 rfl rfl 12 (by decide) (hts _ flX7_reads_188) (fun _ h9 => h9) rfl (by decide +kernel) rfl rfl (Nat.le_of_ble_eq_true rfl) dX7_reads_333 (fun H locs hP hD hS => ?_)
        have hP : va_P g.1 vwCl (wM g m0 m1 m2 m3 m4 (M_f2' r_4.2 r_4.1)) H := hP
        have hD : va_D A (wM g m0 m1 m2 m3 m4 (M_f2' r_4.2 r_4.1)) := hD
        have ho := Option.some.inj hf
        subst ho
        exact m_vret hx hb hr hlocks hP hD hS dX7_reads_336
      · have hf := ip c_3 hf
        refine lv_sipush (v := (383 : Int32)) hx hb dX7_reads_318 (by decide) ?_
        refine lv_goto (tgt := 326) hx hb dX7_reads_321 (by decide) ?_
        obtain ⟨r_5, e_5, hf⟩ := bo hf
        refine mcallVi (W0 := (wM g m0 m1 m2 m3 m4 r_1)) (Wc := (wM g m0 m1 m2 m3 m4 r_1)) (Wr := ([] : va_W)) (W1 := (wM g m0 m1 m2 m3 m4 r_5.2)) (W2 := (wM g m0 m1 m2 m3 m4 r_5.2)) (As := [.int (0 : Int32), .int (383 : Int32)]) (rest := [.ref m0]) [0, 1, 2, 3, 4] [] [0, 1, 2, 3, 4] 5 0 ⟨hx, hb, hml, hown, hts⟩ hP hD hE hZ hS hA (cX7_number_ok l g m0 m1 m2 m3 m4 r_1 (0 : Int32) (383 : Int32) _ e_5) (cwV 2 hts gX7_reads_X7_number rfl rfl rfl hdX7_number ⟨(Nat.le_of_ble_eq_true rfl), (Nat.le_of_ble_eq_true rfl)⟩) rfl rfl rfl (by decide) (by decide) (by decide) (by decide) rfl rfl rfl rfl hl.1 rfl (Nat.le_of_ble_eq_true rfl) ⟨(Nat.le_of_ble_eq_true rfl), (Nat.le_of_ble_eq_true rfl)⟩ dX7_reads_326 (fun H locs hP hD hS => ?_)
        refine lv_goto (tgt := 333) hx hb dX7_reads_329 (by decide) ?_
        refine va_put (v := .int r_5.1) (ty := .int) (C := RX7) (T := TX7) (N := 13) hx hb hts fiX7_reads_X7 tyX7 tyX7_ok nmX7 hown hE.1 hP hD hS 0 rfl rfl 12 (by decide) (hts _ flX7_reads_188) (fun _ h9 => h9) rfl (by decide +kernel) rfl rfl (Nat.le_of_ble_eq_true rfl) dX7_reads_333 (fun H locs hP hD hS => ?_)
        have hP : va_P g.1 vwCl (wM g m0 m1 m2 m3 m4 (M_f2' r_5.2 r_5.1)) H := hP
        have hD : va_D A (wM g m0 m1 m2 m3 m4 (M_f2' r_5.2 r_5.1)) := hD
        have ho := Option.some.inj hf
        subst ho
        exact m_vret hx hb hr hlocks hP hD hS dX7_reads_336
  have hB255 : ∀ (t2_255 : Bool) (t3_255 : Int32) (μ_255 : Mo) (H : Heap) (locs : List Loc) (ls : Array Slot), va_P g.1 vwCl (wM g m0 m1 m2 m3 m4 μ_255) H → va_D A (wM g m0 m1 m2 m3 m4 μ_255) → va_S A s.heap H locs → lv_has ls 1 [(0, .ref m0)] → fX7_reads_255 t2_255 t3_255 μ_255 = some o → W p l e (headSpec wsX7_reads rmX7_reads).room s m ([.ref m0] : List Value).toArray below meth c H locs 0 0 (MQ below (va_Qv (fun _ : Unit => True) (fun _ t => PQ g (wM g m0 m1 m2 m3 m4 o) A t) A) ([.ref m0] : List Value).toArray s 0 0 A) (F0 m 255 ls [.int t3_255, .int (b2i t2_255), .ref m0, .ref m0]) := by
    intro  t2_255 t3_255 μ_255 H locs ls hP hD hS hl hf
    unfold fX7_reads_255 at hf
    obtain ⟨r_6, e_6, hf⟩ := bo hf
    refine mcallVi (W0 := (wM g m0 m1 m2 m3 m4 μ_255)) (Wc := (wM g m0 m1 m2 m3 m4 μ_255)) (Wr := ([] : va_W)) (W1 := (wM g m0 m1 m2 m3 m4 r_6.2)) (W2 := (wM g m0 m1 m2 m3 m4 r_6.2)) (As := [.int (b2i t2_255), .int t3_255]) (rest := [.ref m0]) [0, 1, 2, 3, 4] [] [0, 1, 2, 3, 4] 5 0 ⟨hx, hb, hml, hown, hts⟩ hP hD hE hZ hS hA (cX7_number_ok l g m0 m1 m2 m3 m4 μ_255 (b2i t2_255) t3_255 _ e_6) (cwV 2 hts gX7_reads_X7_number rfl rfl rfl hdX7_number ⟨(Nat.le_of_ble_eq_true rfl), (Nat.le_of_ble_eq_true rfl)⟩) rfl rfl rfl (by decide) (by decide) (by decide) (by decide) rfl rfl rfl rfl hl.1 rfl (Nat.le_of_ble_eq_true rfl) ⟨(Nat.le_of_ble_eq_true rfl), (Nat.le_of_ble_eq_true rfl)⟩ dX7_reads_255 (fun H locs hP hD hS => ?_)
    refine va_put (v := .int r_6.1) (ty := .int) (C := RX7) (T := TX7) (N := 13) hx hb hts fiX7_reads_X7 tyX7 tyX7_ok nmX7 hown hE.1 hP hD hS 0 rfl rfl 11 (by decide) (hts _ flX7_reads_185) (fun _ h9 => h9) rfl (by decide +kernel) rfl rfl (Nat.le_of_ble_eq_true rfl) dX7_reads_258 (fun H locs hP hD hS => ?_)
    have hP : va_P g.1 vwCl (wM g m0 m1 m2 m3 m4 (M_f1' r_6.2 r_6.1)) H := hP
    have hD : va_D A (wM g m0 m1 m2 m3 m4 (M_f1' r_6.2 r_6.1)) := hD
    refine lv_aload_n hx hb dX7_reads_261 rfl (lv_at hl 0 rfl) ?_
    refine va_get (v := .int (M_le r_6.2)) (C := RX7) (T := TX7) (N := 13) hx hb hts fiX7_reads_X7 hown hE.1 hP 0 rfl rfl 10 (by decide) (hts _ flX7_reads_182) (fun _ h9 => h9) rfl dX7_reads_262 ?_
    refine lv_bipush (v := (110 : Int32)) hx hb dX7_reads_265 (by decide) ?_
    refine lv_icmp_eq (tgt := 279) hx hb dX7_reads_267 (by decide) (fun c_7 => ?_) (fun c_7 => ?_)
    · have hf := ip c_7 hf
      refine lv_aload_n hx hb dX7_reads_279 rfl (lv_at hl 0 rfl) ?_
      refine lv_aload_n hx hb dX7_reads_280 rfl (lv_at hl 0 rfl) ?_
      refine va_get (v := .int (M_le r_6.2)) (C := RX7) (T := TX7) (N := 13) hx hb hts fiX7_reads_X7 hown hE.1 hP 0 rfl rfl 10 (by decide) (hts _ flX7_reads_182) (fun _ h9 => h9) rfl dX7_reads_281 ?_
      refine lv_bipush (v := (110 : Int32)) hx hb dX7_reads_284 (by decide) ?_
      refine lv_icmp_ne (tgt := 294) hx hb dX7_reads_286 (by decide) (fun c_8 => absurd c_7 c_8) (fun c_8 => ?_)
      refine lv_bipush (v := (64 : Int32)) hx hb dX7_reads_289 (by decide) ?_
      refine lv_goto (tgt := 296) hx hb dX7_reads_291 (by decide) ?_
      exact hB296 (64 : Int32) (M_f1' r_6.2 r_6.1) _ _ ls hP hD hS (lv_sub hl [0] rfl) hf
    · have hf := iq c_7 hf
      refine lv_aload_n hx hb dX7_reads_270 rfl (lv_at hl 0 rfl) ?_
      refine va_get (v := .int (M_le r_6.2)) (C := RX7) (T := TX7) (N := 13) hx hb hts fiX7_reads_X7 hown hE.1 hP 0 rfl rfl 10 (by decide) (hts _ flX7_reads_182) (fun _ h9 => h9) rfl dX7_reads_271 ?_
      refine lv_bipush (v := (108 : Int32)) hx hb dX7_reads_274 (by decide) ?_
      refine lv_icmp_ne (tgt := 336) hx hb dX7_reads_276 (by decide) (fun c_9 => ?_) (fun c_9 => ?_)
      · have hf := iq c_9 hf
        have ho := Option.some.inj hf
        subst ho
        exact m_vret hx hb hr hlocks hP hD hS dX7_reads_336
      · have hf := ip c_9 hf
        refine lv_aload_n hx hb dX7_reads_279 rfl (lv_at hl 0 rfl) ?_
        refine lv_aload_n hx hb dX7_reads_280 rfl (lv_at hl 0 rfl) ?_
        refine va_get (v := .int (M_le r_6.2)) (C := RX7) (T := TX7) (N := 13) hx hb hts fiX7_reads_X7 hown hE.1 hP 0 rfl rfl 10 (by decide) (hts _ flX7_reads_182) (fun _ h9 => h9) rfl dX7_reads_281 ?_
        refine lv_bipush (v := (110 : Int32)) hx hb dX7_reads_284 (by decide) ?_
        refine lv_icmp_ne (tgt := 294) hx hb dX7_reads_286 (by decide) (fun c_10 => ?_) (fun c_10 => absurd c_10 c_7)
        refine lv_bipush (v := (46 : Int32)) hx hb dX7_reads_294 (by decide) ?_
        exact hB296 (46 : Int32) (M_f1' r_6.2 r_6.1) _ _ ls hP hD hS (lv_sub hl [0] rfl) hf
  have hB225 : ∀ (t2_225 : Bool) (μ_225 : Mo) (H : Heap) (locs : List Loc) (ls : Array Slot), va_P g.1 vwCl (wM g m0 m1 m2 m3 m4 μ_225) H → va_D A (wM g m0 m1 m2 m3 m4 μ_225) → va_S A s.heap H locs → lv_has ls 1 [(0, .ref m0)] → fX7_reads_225 t2_225 μ_225 = some o → W p l e (headSpec wsX7_reads rmX7_reads).room s m ([.ref m0] : List Value).toArray below meth c H locs 0 0 (MQ below (va_Qv (fun _ : Unit => True) (fun _ t => PQ g (wM g m0 m1 m2 m3 m4 o) A t) A) ([.ref m0] : List Value).toArray s 0 0 A) (F0 m 225 ls [.int (b2i t2_225), .ref m0, .ref m0]) := by
    intro  t2_225 μ_225 H locs ls hP hD hS hl hf
    unfold fX7_reads_225 at hf
    refine lv_aload_n hx hb dX7_reads_225 rfl (lv_at hl 0 rfl) ?_
    refine va_get (v := .int (M_le μ_225)) (C := RX7) (T := TX7) (N := 13) hx hb hts fiX7_reads_X7 hown hE.1 hP 0 rfl rfl 10 (by decide) (hts _ flX7_reads_182) (fun _ h9 => h9) rfl dX7_reads_226 ?_
    refine lv_bipush (v := (110 : Int32)) hx hb dX7_reads_229 (by decide) ?_
    refine lv_icmp_ne (tgt := 239) hx hb dX7_reads_231 (by decide) (fun c_11 => ?_) (fun c_11 => ?_)
    · have hf := iq c_11 hf
      refine lv_aload_n hx hb dX7_reads_239 rfl (lv_at hl 0 rfl) ?_
      refine va_get (v := .int (M_le μ_225)) (C := RX7) (T := TX7) (N := 13) hx hb hts fiX7_reads_X7 hown hE.1 hP 0 rfl rfl 10 (by decide) (hts _ flX7_reads_182) (fun _ h9 => h9) rfl dX7_reads_240 ?_
      refine lv_bipush (v := (103 : Int32)) hx hb dX7_reads_243 (by decide) ?_
      refine lv_icmp_ne (tgt := 253) hx hb dX7_reads_245 (by decide) (fun c_12 => ?_) (fun c_12 => ?_)
      · have hf := iq c_12 hf
        refine lv_bipush (v := (7 : Int32)) hx hb dX7_reads_253 (by decide) ?_
        exact hB255 t2_225 (7 : Int32) μ_225 _ _ ls hP hD hS (lv_sub hl [0] rfl) hf
      · have hf := ip c_12 hf
        refine lv_bipush (v := (6 : Int32)) hx hb dX7_reads_248 (by decide) ?_
        refine lv_goto (tgt := 255) hx hb dX7_reads_250 (by decide) ?_
        exact hB255 t2_225 (6 : Int32) μ_225 _ _ ls hP hD hS (lv_sub hl [0] rfl) hf
    · have hf := ip c_11 hf
      refine lv_bipush (v := (99 : Int32)) hx hb dX7_reads_234 (by decide) ?_
      refine lv_goto (tgt := 255) hx hb dX7_reads_236 (by decide) ?_
      exact hB255 t2_225 (99 : Int32) μ_225 _ _ ls hP hD hS (lv_sub hl [0] rfl) hf
  have hB147 : ∀ (n147 : Nat) (μ_147 : Mo) (H : Heap) (locs : List Loc) (ls : Array Slot), va_P g.1 vwCl (wM g m0 m1 m2 m3 m4 μ_147) H → va_D A (wM g m0 m1 m2 m3 m4 μ_147) → va_S A s.heap H locs → lv_has ls 1 [(0, .ref m0)] → fX7_reads_147 n147 μ_147 = some o → W p l e (headSpec wsX7_reads rmX7_reads).room s m ([.ref m0] : List Value).toArray below meth c H locs 0 0 (MQ below (va_Qv (fun _ : Unit => True) (fun _ t => PQ g (wM g m0 m1 m2 m3 m4 o) A t) A) ([.ref m0] : List Value).toArray s 0 0 A) (F0 m 147 ls []) := by
    intro  n147
    induction n147 with
    | zero => intro μ_147 H locs ls hP hD hS hl hf; exact nomatch (show (none : Option (Mo)) = some _ from hf)
    | succ n147 ih147 =>
      intro μ_147 H locs ls hP hD hS hl hf
      rw [fX7_reads_147] at hf
      refine lv_aload_n hx hb dX7_reads_147 rfl (lv_at hl 0 rfl) ?_
      refine va_get (v := .int (M_f2 μ_147)) (C := RX7) (T := TX7) (N := 13) hx hb hts fiX7_reads_X7 hown hE.1 hP 0 rfl rfl 12 (by decide) (hts _ flX7_reads_188) (fun _ h9 => h9) rfl dX7_reads_148 ?_
      refine lv_bipush (v := (20 : Int32)) hx hb dX7_reads_151 (by decide) ?_
      refine lv_icmp_ge (tgt := 336) hx hb dX7_reads_153 (by decide) (fun c_13 => ?_) (fun c_13 => ?_)
      · have hf := ip c_13 hf
        have ho := Option.some.inj hf
        subst ho
        exact m_vret hx hb hr hlocks hP hD hS dX7_reads_336
      · have hf := iq c_13 hf
        refine lv_aload_n hx hb dX7_reads_156 rfl (lv_at hl 0 rfl) ?_
        obtain ⟨r_14, e_14, hf⟩ := bo hf
        refine pcallV (W0 := (wM g m0 m1 m2 m3 m4 μ_147)) (As := []) (rest := []) [0, 1, 2, 3, 4] 5 0 ⟨hx, hb, hml, hown, hts⟩ hP hE hZ hS (cX7_sign_ok l g m0 m1 m2 m3 m4 μ_147 e_14) (cwV 0 hts gX7_reads_X7_sign rfl rfl rfl hdX7_sign ⟨(Nat.le_of_ble_eq_true rfl), (Nat.le_of_ble_eq_true rfl)⟩) rfl rfl rfl rfl rfl hl.1 rfl (Nat.le_of_ble_eq_true rfl) ⟨(Nat.le_of_ble_eq_true rfl), (Nat.le_of_ble_eq_true rfl)⟩ dX7_reads_157 ?_
        refine lv_bipush (v := (48 : Int32)) hx hb dX7_reads_160 (by decide) ?_
        refine lv_bipush (v := (55 : Int32)) hx hb dX7_reads_162 (by decide) ?_
        obtain ⟨r_15, e_15, hf⟩ := bo hf
        refine pcallS (W0 := (wM g m0 m1 m2 m3 m4 μ_147)) (As := [.int r_14, .int (48 : Int32), .int (55 : Int32)]) (rest := []) [] ⟨hx, hb, hml, hown, hts⟩ hP hE hZ hS (cX7_in_ok l g  r_14 (48 : Int32) (55 : Int32) e_15) (va_cwS 3 hts gX7_reads_X7_in rfl rfl rfl hdX7_in.2 ⟨(Nat.le_of_ble_eq_true rfl), (Nat.le_of_ble_eq_true rfl)⟩) rfl rfl hl.1 rfl (Nat.le_of_ble_eq_true rfl) ⟨(Nat.le_of_ble_eq_true rfl), (Nat.le_of_ble_eq_true rfl)⟩ dX7_reads_164 ?_
        refine lv_beq (tgt := 336) hx hb dX7_reads_167 (by decide) (fun c_16 => ?_) (fun c_16 => ?_)
        · have hf := iq c_16 hf
          have ho := Option.some.inj hf
          subst ho
          exact m_vret hx hb hr hlocks hP hD hS dX7_reads_336
        · have hf := ip c_16 hf
          refine lv_aload_n hx hb dX7_reads_170 rfl (lv_at hl 0 rfl) ?_
          refine lv_dup hx hb dX7_reads_171 rfl ?_
          refine va_get (v := .int (M_f2 μ_147)) (C := RX7) (T := TX7) (N := 13) hx hb hts fiX7_reads_X7 hown hE.1 hP 0 rfl rfl 12 (by decide) (hts _ flX7_reads_188) (fun _ h9 => h9) rfl dX7_reads_172 ?_
          refine lv_iconst (v := (1 : Int32)) hx hb dX7_reads_175 (by decide) ?_
          refine lv_iadd hx hb dX7_reads_176 ?_
          refine va_put (v := .int ((M_f2 μ_147) + (1 : Int32))) (ty := .int) (C := RX7) (T := TX7) (N := 13) hx hb hts fiX7_reads_X7 tyX7 tyX7_ok nmX7 hown hE.1 hP hD hS 0 rfl rfl 12 (by decide) (hts _ flX7_reads_188) (fun _ h9 => h9) rfl (by decide +kernel) rfl rfl (Nat.le_of_ble_eq_true rfl) dX7_reads_177 (fun H locs hP hD hS => ?_)
          have hP : va_P g.1 vwCl (wM g m0 m1 m2 m3 m4 (M_f2' μ_147 ((M_f2 μ_147) + (1 : Int32)))) H := hP
          have hD : va_D A (wM g m0 m1 m2 m3 m4 (M_f2' μ_147 ((M_f2 μ_147) + (1 : Int32)))) := hD
          refine lv_aload_n hx hb dX7_reads_180 rfl (lv_at hl 0 rfl) ?_
          refine lv_dup hx hb dX7_reads_181 rfl ?_
          refine va_get (v := .int (M_sp μ_147)) (C := RX7) (T := TX7) (N := 13) hx hb hts fiX7_reads_X7 hown hE.1 hP 0 rfl rfl 8 (by decide) (hts _ flX7_reads_172) (fun _ h9 => h9) rfl dX7_reads_182 ?_
          refine lv_iconst (v := (1 : Int32)) hx hb dX7_reads_185 (by decide) ?_
          refine lv_iadd hx hb dX7_reads_186 ?_
          refine va_put (v := .int ((M_sp μ_147) + (1 : Int32))) (ty := .int) (C := RX7) (T := TX7) (N := 13) hx hb hts fiX7_reads_X7 tyX7 tyX7_ok nmX7 hown hE.1 hP hD hS 0 rfl rfl 8 (by decide) (hts _ flX7_reads_172) (fun _ h9 => h9) rfl (by decide +kernel) rfl rfl (Nat.le_of_ble_eq_true rfl) dX7_reads_187 (fun H locs hP hD hS => ?_)
          have hP : va_P g.1 vwCl (wM g m0 m1 m2 m3 m4 (M_sp' (M_f2' μ_147 ((M_f2 μ_147) + (1 : Int32))) ((M_sp μ_147) + (1 : Int32)))) H := hP
          have hD : va_D A (wM g m0 m1 m2 m3 m4 (M_sp' (M_f2' μ_147 ((M_f2 μ_147) + (1 : Int32))) ((M_sp μ_147) + (1 : Int32)))) := hD
          refine lv_goto (tgt := 147) hx hb dX7_reads_190 (by decide) ?_
          exact ih147 (M_sp' (M_f2' μ_147 ((M_f2 μ_147) + (1 : Int32))) ((M_sp μ_147) + (1 : Int32))) _ _ ls hP hD hS (lv_sub hl [0] rfl) hf
  have hB106 : ∀ (t1_106 : Int32) (t2_106 : Bool) (μ_106 : Mo) (H : Heap) (locs : List Loc) (ls : Array Slot), va_P g.1 vwCl (wM g m0 m1 m2 m3 m4 μ_106) H → va_D A (wM g m0 m1 m2 m3 m4 μ_106) → va_S A s.heap H locs → lv_has ls 1 [(0, .ref m0)] → fX7_reads_106 t1_106 t2_106 μ_106 = some o → W p l e (headSpec wsX7_reads rmX7_reads).room s m ([.ref m0] : List Value).toArray below meth c H locs 0 0 (MQ below (va_Qv (fun _ : Unit => True) (fun _ t => PQ g (wM g m0 m1 m2 m3 m4 o) A t) A) ([.ref m0] : List Value).toArray s 0 0 A) (F0 m 106 ls [.int (b2i t2_106), .int t1_106, .ref m0]) := by
    intro  t1_106 t2_106 μ_106 H locs ls hP hD hS hl hf
    unfold fX7_reads_106 at hf
    refine lv_iadd hx hb dX7_reads_106 ?_
    refine va_put (v := .int (t1_106 + (b2i t2_106))) (ty := .int) (C := RX7) (T := TX7) (N := 13) hx hb hts fiX7_reads_X7 tyX7 tyX7_ok nmX7 hown hE.1 hP hD hS 0 rfl rfl 8 (by decide) (hts _ flX7_reads_172) (fun _ h9 => h9) rfl (by decide +kernel) rfl rfl (Nat.le_of_ble_eq_true rfl) dX7_reads_107 (fun H locs hP hD hS => ?_)
    have hP : va_P g.1 vwCl (wM g m0 m1 m2 m3 m4 (M_sp' μ_106 (t1_106 + (b2i t2_106)))) H := hP
    have hD : va_D A (wM g m0 m1 m2 m3 m4 (M_sp' μ_106 (t1_106 + (b2i t2_106)))) := hD
    refine lv_aload_n hx hb dX7_reads_110 rfl (lv_at hl 0 rfl) ?_
    refine lv_aload_n hx hb dX7_reads_111 rfl (lv_at hl 0 rfl) ?_
    refine va_get (v := .int (t1_106 + (b2i t2_106))) (C := RX7) (T := TX7) (N := 13) hx hb hts fiX7_reads_X7 hown hE.1 hP 0 rfl rfl 8 (by decide) (hts _ flX7_reads_172) (fun _ h9 => h9) rfl dX7_reads_112 ?_
    refine va_put (v := .int (t1_106 + (b2i t2_106))) (ty := .int) (C := RX7) (T := TX7) (N := 13) hx hb hts fiX7_reads_X7 tyX7 tyX7_ok nmX7 hown hE.1 hP hD hS 0 rfl rfl 11 (by decide) (hts _ flX7_reads_185) (fun _ h9 => h9) rfl (by decide +kernel) rfl rfl (Nat.le_of_ble_eq_true rfl) dX7_reads_115 (fun H locs hP hD hS => ?_)
    have hP : va_P g.1 vwCl (wM g m0 m1 m2 m3 m4 (M_f1' (M_sp' μ_106 (t1_106 + (b2i t2_106))) (t1_106 + (b2i t2_106)))) H := hP
    have hD : va_D A (wM g m0 m1 m2 m3 m4 (M_f1' (M_sp' μ_106 (t1_106 + (b2i t2_106))) (t1_106 + (b2i t2_106)))) := hD
    refine lv_aload_n hx hb dX7_reads_118 rfl (lv_at hl 0 rfl) ?_
    refine lv_iconst (v := (0 : Int32)) hx hb dX7_reads_119 (by decide) ?_
    refine va_put (v := .int (0 : Int32)) (ty := .int) (C := RX7) (T := TX7) (N := 13) hx hb hts fiX7_reads_X7 tyX7 tyX7_ok nmX7 hown hE.1 hP hD hS 0 rfl rfl 12 (by decide) (hts _ flX7_reads_188) (fun _ h9 => h9) rfl (by decide +kernel) rfl rfl (Nat.le_of_ble_eq_true rfl) dX7_reads_120 (fun H locs hP hD hS => ?_)
    have hP : va_P g.1 vwCl (wM g m0 m1 m2 m3 m4 (M_f2' (M_f1' (M_sp' μ_106 (t1_106 + (b2i t2_106))) (t1_106 + (b2i t2_106))) (0 : Int32))) H := hP
    have hD : va_D A (wM g m0 m1 m2 m3 m4 (M_f2' (M_f1' (M_sp' μ_106 (t1_106 + (b2i t2_106))) (t1_106 + (b2i t2_106))) (0 : Int32))) := hD
    refine lv_aload_n hx hb dX7_reads_123 rfl (lv_at hl 0 rfl) ?_
    refine va_get (v := .int (M_le μ_106)) (C := RX7) (T := TX7) (N := 13) hx hb hts fiX7_reads_X7 hown hE.1 hP 0 rfl rfl 10 (by decide) (hts _ flX7_reads_182) (fun _ h9 => h9) rfl dX7_reads_124 ?_
    refine lv_bipush (v := (115 : Int32)) hx hb dX7_reads_127 (by decide) ?_
    refine lv_icmp_ne (tgt := 193) hx hb dX7_reads_129 (by decide) (fun c_17 => ?_) (fun c_17 => ?_)
    · have hf := iq c_17 hf
      refine lv_aload_n hx hb dX7_reads_193 rfl (lv_at hl 0 rfl) ?_
      refine va_get (v := .int (M_le μ_106)) (C := RX7) (T := TX7) (N := 13) hx hb hts fiX7_reads_X7 hown hE.1 hP 0 rfl rfl 10 (by decide) (hts _ flX7_reads_182) (fun _ h9 => h9) rfl dX7_reads_194 ?_
      refine lv_bipush (v := (97 : Int32)) hx hb dX7_reads_197 (by decide) ?_
      refine lv_icmp_eq (tgt := 336) hx hb dX7_reads_199 (by decide) (fun c_18 => ?_) (fun c_18 => ?_)
      · have hf := ip c_18 hf
        have ho := Option.some.inj hf
        subst ho
        exact m_vret hx hb hr hlocks hP hD hS dX7_reads_336
      · have hf := iq c_18 hf
        refine lv_aload_n hx hb dX7_reads_202 rfl (lv_at hl 0 rfl) ?_
        refine va_get (v := .int (b2i (M_iw μ_106))) (C := RX7) (T := TX7) (N := 13) hx hb hts fiX7_reads_X7 hown hE.1 hP 0 rfl rfl 9 (by decide) (hts _ flX7_reads_175) (fun _ h9 => h9) rfl dX7_reads_203 ?_
        refine lv_beq (tgt := 336) hx hb dX7_reads_206 (by decide) (fun c_19 => ?_) (fun c_19 => ?_)
        · have hf := iq c_19 hf
          have ho := Option.some.inj hf
          subst ho
          exact m_vret hx hb hr hlocks hP hD hS dX7_reads_336
        · have hf := ip c_19 hf
          refine lv_aload_n hx hb dX7_reads_209 rfl (lv_at hl 0 rfl) ?_
          refine lv_aload_n hx hb dX7_reads_210 rfl (lv_at hl 0 rfl) ?_
          refine lv_aload_n hx hb dX7_reads_211 rfl (lv_at hl 0 rfl) ?_
          refine va_get (v := .int (M_le μ_106)) (C := RX7) (T := TX7) (N := 13) hx hb hts fiX7_reads_X7 hown hE.1 hP 0 rfl rfl 10 (by decide) (hts _ flX7_reads_182) (fun _ h9 => h9) rfl dX7_reads_212 ?_
          refine lv_bipush (v := (103 : Int32)) hx hb dX7_reads_215 (by decide) ?_
          refine lv_icmp_ne (tgt := 224) hx hb dX7_reads_217 (by decide) (fun c_20 => ?_) (fun c_20 => ?_)
          · have hf := iq c_20 hf
            refine lv_iconst (v := (0 : Int32)) hx hb dX7_reads_224 (by decide) ?_
            exact hB225 false (M_f2' (M_f1' (M_sp' μ_106 (t1_106 + (b2i t2_106))) (t1_106 + (b2i t2_106))) (0 : Int32)) _ _ ls hP hD hS (lv_sub hl [0] rfl) hf
          · have hf := ip c_20 hf
            refine lv_iconst (v := (1 : Int32)) hx hb dX7_reads_220 (by decide) ?_
            refine lv_goto (tgt := 225) hx hb dX7_reads_221 (by decide) ?_
            exact hB225 true (M_f2' (M_f1' (M_sp' μ_106 (t1_106 + (b2i t2_106))) (t1_106 + (b2i t2_106))) (0 : Int32)) _ _ ls hP hD hS (lv_sub hl [0] rfl) hf
    · have hf := ip c_17 hf
      refine lv_aload_n hx hb dX7_reads_132 rfl (lv_at hl 0 rfl) ?_
      refine lv_aload_n hx hb dX7_reads_133 rfl (lv_at hl 0 rfl) ?_
      obtain ⟨r_21, e_21, hf⟩ := bo hf
      refine pcallV (W0 := (wM g m0 m1 m2 m3 m4 (M_f2' (M_f1' (M_sp' μ_106 (t1_106 + (b2i t2_106))) (t1_106 + (b2i t2_106))) (0 : Int32)))) (As := []) (rest := [.ref m0]) [0, 1, 2, 3, 4] 5 0 ⟨hx, hb, hml, hown, hts⟩ hP hE hZ hS (cX7_sign_ok l g m0 m1 m2 m3 m4 (M_f2' (M_f1' (M_sp' μ_106 (t1_106 + (b2i t2_106))) (t1_106 + (b2i t2_106))) (0 : Int32)) e_21) (cwV 0 hts gX7_reads_X7_sign rfl rfl rfl hdX7_sign ⟨(Nat.le_of_ble_eq_true rfl), (Nat.le_of_ble_eq_true rfl)⟩) rfl rfl rfl rfl rfl hl.1 rfl (Nat.le_of_ble_eq_true rfl) ⟨(Nat.le_of_ble_eq_true rfl), (Nat.le_of_ble_eq_true rfl)⟩ dX7_reads_134 ?_
      refine lv_bipush (v := (48 : Int32)) hx hb dX7_reads_137 (by decide) ?_
      refine lv_bipush (v := (55 : Int32)) hx hb dX7_reads_139 (by decide) ?_
      obtain ⟨r_22, e_22, hf⟩ := bo hf
      refine pcallS (W0 := (wM g m0 m1 m2 m3 m4 (M_f2' (M_f1' (M_sp' μ_106 (t1_106 + (b2i t2_106))) (t1_106 + (b2i t2_106))) (0 : Int32)))) (As := [.int r_21, .int (48 : Int32), .int (55 : Int32)]) (rest := [.ref m0]) [] ⟨hx, hb, hml, hown, hts⟩ hP hE hZ hS (cX7_in_ok l g  r_21 (48 : Int32) (55 : Int32) e_22) (va_cwS 3 hts gX7_reads_X7_in rfl rfl rfl hdX7_in.2 ⟨(Nat.le_of_ble_eq_true rfl), (Nat.le_of_ble_eq_true rfl)⟩) rfl rfl hl.1 rfl (Nat.le_of_ble_eq_true rfl) ⟨(Nat.le_of_ble_eq_true rfl), (Nat.le_of_ble_eq_true rfl)⟩ dX7_reads_141 ?_
      refine va_put (v := .int (b2i r_22)) (ty := .boolean) (C := RX7) (T := TX7) (N := 13) hx hb hts fiX7_reads_X7 tyX7 tyX7_ok nmX7 hown hE.1 hP hD hS 0 rfl rfl 9 (by decide) (hts _ flX7_reads_175) (fun _ h9 => h9) rfl (by decide +kernel) (nb2i _) (fb2i _) (Nat.le_of_ble_eq_true rfl) dX7_reads_144 (fun H locs hP hD hS => ?_)
      have hP : va_P g.1 vwCl (wM g m0 m1 m2 m3 m4 (M_iw' (M_f2' (M_f1' (M_sp' μ_106 (t1_106 + (b2i t2_106))) (t1_106 + (b2i t2_106))) (0 : Int32)) r_22)) H := hP
      have hD : va_D A (wM g m0 m1 m2 m3 m4 (M_iw' (M_f2' (M_f1' (M_sp' μ_106 (t1_106 + (b2i t2_106))) (t1_106 + (b2i t2_106))) (0 : Int32)) r_22)) := hD
      exact hB147 FU (M_iw' (M_f2' (M_f1' (M_sp' μ_106 (t1_106 + (b2i t2_106))) (t1_106 + (b2i t2_106))) (0 : Int32)) r_22) _ _ ls hP hD hS (lv_sub hl [0] rfl) hf
  unfold fX7_reads at hf
  refine lv_aload_n hx hb dX7_reads_0 rfl (lv_at hl 0 rfl) ?_
  refine lv_aload_n hx hb dX7_reads_1 rfl (lv_at hl 0 rfl) ?_
  obtain ⟨r_23, e_23, hf⟩ := bo hf
  refine pcallV (W0 := (wM g m0 m1 m2 m3 m4 μ)) (As := []) (rest := [.ref m0]) [0, 1, 2, 3, 4] 5 0 ⟨hx, hb, hml, hown, hts⟩ hP hE hZ hS (cX7_sign_ok l g m0 m1 m2 m3 m4 μ e_23) (cwV 0 hts gX7_reads_X7_sign rfl rfl rfl hdX7_sign ⟨(Nat.le_of_ble_eq_true rfl), (Nat.le_of_ble_eq_true rfl)⟩) rfl rfl rfl rfl rfl hl.1 rfl (Nat.le_of_ble_eq_true rfl) ⟨(Nat.le_of_ble_eq_true rfl), (Nat.le_of_ble_eq_true rfl)⟩ dX7_reads_2 ?_
  refine va_put (v := .int r_23) (ty := .int) (C := RX7) (T := TX7) (N := 13) hx hb hts fiX7_reads_X7 tyX7 tyX7_ok nmX7 hown hE.1 hP hD hS 0 rfl rfl 10 (by decide) (hts _ flX7_reads_182) (fun _ h9 => h9) rfl (by decide +kernel) rfl rfl (Nat.le_of_ble_eq_true rfl) dX7_reads_5 (fun H locs hP hD hS => ?_)
  have hP : va_P g.1 vwCl (wM g m0 m1 m2 m3 m4 (M_le' μ r_23)) H := hP
  have hD : va_D A (wM g m0 m1 m2 m3 m4 (M_le' μ r_23)) := hD
  refine lv_aload_n hx hb dX7_reads_8 rfl (lv_at hl 0 rfl) ?_
  refine lv_aload_n hx hb dX7_reads_9 rfl (lv_at hl 0 rfl) ?_
  refine va_get (v := .int r_23) (C := RX7) (T := TX7) (N := 13) hx hb hts fiX7_reads_X7 hown hE.1 hP 0 rfl rfl 10 (by decide) (hts _ flX7_reads_182) (fun _ h9 => h9) rfl dX7_reads_10 ?_
  refine lv_bipush (v := (110 : Int32)) hx hb dX7_reads_13 (by decide) ?_
  refine lv_icmp_eq (tgt := 81) hx hb dX7_reads_15 (by decide) (fun c_24 => ?_) (fun c_24 => ?_)
  · have hf := ip c_24 hf
    refine lv_iconst (v := (1 : Int32)) hx hb dX7_reads_81 (by decide) ?_
    refine lv_goto (tgt := 86) hx hb dX7_reads_82 (by decide) ?_
    refine va_put (v := .int (b2i true)) (ty := .boolean) (C := RX7) (T := TX7) (N := 13) hx hb hts fiX7_reads_X7 tyX7 tyX7_ok nmX7 hown hE.1 hP hD hS 0 rfl rfl 9 (by decide) (hts _ flX7_reads_175) (fun _ h9 => h9) rfl (by decide +kernel) (nb2i _) (fb2i _) (Nat.le_of_ble_eq_true rfl) dX7_reads_86 (fun H locs hP hD hS => ?_)
    have hP : va_P g.1 vwCl (wM g m0 m1 m2 m3 m4 (M_iw' (M_le' μ r_23) true)) H := hP
    have hD : va_D A (wM g m0 m1 m2 m3 m4 (M_iw' (M_le' μ r_23) true)) := hD
    refine lv_aload_n hx hb dX7_reads_89 rfl (lv_at hl 0 rfl) ?_
    refine lv_dup hx hb dX7_reads_90 rfl ?_
    refine va_get (v := .int (M_sp μ)) (C := RX7) (T := TX7) (N := 13) hx hb hts fiX7_reads_X7 hown hE.1 hP 0 rfl rfl 8 (by decide) (hts _ flX7_reads_172) (fun _ h9 => h9) rfl dX7_reads_91 ?_
    refine lv_aload_n hx hb dX7_reads_94 rfl (lv_at hl 0 rfl) ?_
    refine va_get (v := .int (b2i true)) (C := RX7) (T := TX7) (N := 13) hx hb hts fiX7_reads_X7 hown hE.1 hP 0 rfl rfl 9 (by decide) (hts _ flX7_reads_175) (fun _ h9 => h9) rfl dX7_reads_95 ?_
    refine lv_beq (tgt := 105) hx hb dX7_reads_98 (by decide) (fun c_25 => ?_) (fun c_25 => ?_)
    · have hf := iq c_25 hf
      refine lv_iconst (v := (0 : Int32)) hx hb dX7_reads_105 (by decide) ?_
      exact hB106 (M_sp μ) false (M_iw' (M_le' μ r_23) true) _ _ ls hP hD hS (lv_sub hl [0] rfl) hf
    · have hf := ip c_25 hf
      refine lv_iconst (v := (1 : Int32)) hx hb dX7_reads_101 (by decide) ?_
      refine lv_goto (tgt := 106) hx hb dX7_reads_102 (by decide) ?_
      exact hB106 (M_sp μ) true (M_iw' (M_le' μ r_23) true) _ _ ls hP hD hS (lv_sub hl [0] rfl) hf
  · have hf := iq c_24 hf
    refine lv_aload_n hx hb dX7_reads_18 rfl (lv_at hl 0 rfl) ?_
    refine va_get (v := .int r_23) (C := RX7) (T := TX7) (N := 13) hx hb hts fiX7_reads_X7 hown hE.1 hP 0 rfl rfl 10 (by decide) (hts _ flX7_reads_182) (fun _ h9 => h9) rfl dX7_reads_19 ?_
    refine lv_bipush (v := (115 : Int32)) hx hb dX7_reads_22 (by decide) ?_
    refine lv_icmp_eq (tgt := 81) hx hb dX7_reads_24 (by decide) (fun c_26 => ?_) (fun c_26 => ?_)
    · have hf := ip c_26 hf
      refine lv_iconst (v := (1 : Int32)) hx hb dX7_reads_81 (by decide) ?_
      refine lv_goto (tgt := 86) hx hb dX7_reads_82 (by decide) ?_
      refine va_put (v := .int (b2i true)) (ty := .boolean) (C := RX7) (T := TX7) (N := 13) hx hb hts fiX7_reads_X7 tyX7 tyX7_ok nmX7 hown hE.1 hP hD hS 0 rfl rfl 9 (by decide) (hts _ flX7_reads_175) (fun _ h9 => h9) rfl (by decide +kernel) (nb2i _) (fb2i _) (Nat.le_of_ble_eq_true rfl) dX7_reads_86 (fun H locs hP hD hS => ?_)
      have hP : va_P g.1 vwCl (wM g m0 m1 m2 m3 m4 (M_iw' (M_le' μ r_23) true)) H := hP
      have hD : va_D A (wM g m0 m1 m2 m3 m4 (M_iw' (M_le' μ r_23) true)) := hD
      refine lv_aload_n hx hb dX7_reads_89 rfl (lv_at hl 0 rfl) ?_
      refine lv_dup hx hb dX7_reads_90 rfl ?_
      refine va_get (v := .int (M_sp μ)) (C := RX7) (T := TX7) (N := 13) hx hb hts fiX7_reads_X7 hown hE.1 hP 0 rfl rfl 8 (by decide) (hts _ flX7_reads_172) (fun _ h9 => h9) rfl dX7_reads_91 ?_
      refine lv_aload_n hx hb dX7_reads_94 rfl (lv_at hl 0 rfl) ?_
      refine va_get (v := .int (b2i true)) (C := RX7) (T := TX7) (N := 13) hx hb hts fiX7_reads_X7 hown hE.1 hP 0 rfl rfl 9 (by decide) (hts _ flX7_reads_175) (fun _ h9 => h9) rfl dX7_reads_95 ?_
      refine lv_beq (tgt := 105) hx hb dX7_reads_98 (by decide) (fun c_27 => ?_) (fun c_27 => ?_)
      · have hf := iq c_27 hf
        refine lv_iconst (v := (0 : Int32)) hx hb dX7_reads_105 (by decide) ?_
        exact hB106 (M_sp μ) false (M_iw' (M_le' μ r_23) true) _ _ ls hP hD hS (lv_sub hl [0] rfl) hf
      · have hf := ip c_27 hf
        refine lv_iconst (v := (1 : Int32)) hx hb dX7_reads_101 (by decide) ?_
        refine lv_goto (tgt := 106) hx hb dX7_reads_102 (by decide) ?_
        exact hB106 (M_sp μ) true (M_iw' (M_le' μ r_23) true) _ _ ls hP hD hS (lv_sub hl [0] rfl) hf
    · have hf := iq c_26 hf
      refine lv_aload_n hx hb dX7_reads_27 rfl (lv_at hl 0 rfl) ?_
      refine va_get (v := .int r_23) (C := RX7) (T := TX7) (N := 13) hx hb hts fiX7_reads_X7 hown hE.1 hP 0 rfl rfl 10 (by decide) (hts _ flX7_reads_182) (fun _ h9 => h9) rfl dX7_reads_28 ?_
      refine lv_bipush (v := (119 : Int32)) hx hb dX7_reads_31 (by decide) ?_
      refine lv_icmp_eq (tgt := 81) hx hb dX7_reads_33 (by decide) (fun c_28 => ?_) (fun c_28 => ?_)
      · have hf := ip c_28 hf
        refine lv_iconst (v := (1 : Int32)) hx hb dX7_reads_81 (by decide) ?_
        refine lv_goto (tgt := 86) hx hb dX7_reads_82 (by decide) ?_
        refine va_put (v := .int (b2i true)) (ty := .boolean) (C := RX7) (T := TX7) (N := 13) hx hb hts fiX7_reads_X7 tyX7 tyX7_ok nmX7 hown hE.1 hP hD hS 0 rfl rfl 9 (by decide) (hts _ flX7_reads_175) (fun _ h9 => h9) rfl (by decide +kernel) (nb2i _) (fb2i _) (Nat.le_of_ble_eq_true rfl) dX7_reads_86 (fun H locs hP hD hS => ?_)
        have hP : va_P g.1 vwCl (wM g m0 m1 m2 m3 m4 (M_iw' (M_le' μ r_23) true)) H := hP
        have hD : va_D A (wM g m0 m1 m2 m3 m4 (M_iw' (M_le' μ r_23) true)) := hD
        refine lv_aload_n hx hb dX7_reads_89 rfl (lv_at hl 0 rfl) ?_
        refine lv_dup hx hb dX7_reads_90 rfl ?_
        refine va_get (v := .int (M_sp μ)) (C := RX7) (T := TX7) (N := 13) hx hb hts fiX7_reads_X7 hown hE.1 hP 0 rfl rfl 8 (by decide) (hts _ flX7_reads_172) (fun _ h9 => h9) rfl dX7_reads_91 ?_
        refine lv_aload_n hx hb dX7_reads_94 rfl (lv_at hl 0 rfl) ?_
        refine va_get (v := .int (b2i true)) (C := RX7) (T := TX7) (N := 13) hx hb hts fiX7_reads_X7 hown hE.1 hP 0 rfl rfl 9 (by decide) (hts _ flX7_reads_175) (fun _ h9 => h9) rfl dX7_reads_95 ?_
        refine lv_beq (tgt := 105) hx hb dX7_reads_98 (by decide) (fun c_29 => ?_) (fun c_29 => ?_)
        · have hf := iq c_29 hf
          refine lv_iconst (v := (0 : Int32)) hx hb dX7_reads_105 (by decide) ?_
          exact hB106 (M_sp μ) false (M_iw' (M_le' μ r_23) true) _ _ ls hP hD hS (lv_sub hl [0] rfl) hf
        · have hf := ip c_29 hf
          refine lv_iconst (v := (1 : Int32)) hx hb dX7_reads_101 (by decide) ?_
          refine lv_goto (tgt := 106) hx hb dX7_reads_102 (by decide) ?_
          exact hB106 (M_sp μ) true (M_iw' (M_le' μ r_23) true) _ _ ls hP hD hS (lv_sub hl [0] rfl) hf
      · have hf := iq c_28 hf
        refine lv_aload_n hx hb dX7_reads_36 rfl (lv_at hl 0 rfl) ?_
        refine va_get (v := .int r_23) (C := RX7) (T := TX7) (N := 13) hx hb hts fiX7_reads_X7 hown hE.1 hP 0 rfl rfl 10 (by decide) (hts _ flX7_reads_182) (fun _ h9 => h9) rfl dX7_reads_37 ?_
        refine lv_bipush (v := (108 : Int32)) hx hb dX7_reads_40 (by decide) ?_
        refine lv_icmp_eq (tgt := 81) hx hb dX7_reads_42 (by decide) (fun c_30 => ?_) (fun c_30 => ?_)
        · have hf := ip c_30 hf
          refine lv_iconst (v := (1 : Int32)) hx hb dX7_reads_81 (by decide) ?_
          refine lv_goto (tgt := 86) hx hb dX7_reads_82 (by decide) ?_
          refine va_put (v := .int (b2i true)) (ty := .boolean) (C := RX7) (T := TX7) (N := 13) hx hb hts fiX7_reads_X7 tyX7 tyX7_ok nmX7 hown hE.1 hP hD hS 0 rfl rfl 9 (by decide) (hts _ flX7_reads_175) (fun _ h9 => h9) rfl (by decide +kernel) (nb2i _) (fb2i _) (Nat.le_of_ble_eq_true rfl) dX7_reads_86 (fun H locs hP hD hS => ?_)
          have hP : va_P g.1 vwCl (wM g m0 m1 m2 m3 m4 (M_iw' (M_le' μ r_23) true)) H := hP
          have hD : va_D A (wM g m0 m1 m2 m3 m4 (M_iw' (M_le' μ r_23) true)) := hD
          refine lv_aload_n hx hb dX7_reads_89 rfl (lv_at hl 0 rfl) ?_
          refine lv_dup hx hb dX7_reads_90 rfl ?_
          refine va_get (v := .int (M_sp μ)) (C := RX7) (T := TX7) (N := 13) hx hb hts fiX7_reads_X7 hown hE.1 hP 0 rfl rfl 8 (by decide) (hts _ flX7_reads_172) (fun _ h9 => h9) rfl dX7_reads_91 ?_
          refine lv_aload_n hx hb dX7_reads_94 rfl (lv_at hl 0 rfl) ?_
          refine va_get (v := .int (b2i true)) (C := RX7) (T := TX7) (N := 13) hx hb hts fiX7_reads_X7 hown hE.1 hP 0 rfl rfl 9 (by decide) (hts _ flX7_reads_175) (fun _ h9 => h9) rfl dX7_reads_95 ?_
          refine lv_beq (tgt := 105) hx hb dX7_reads_98 (by decide) (fun c_31 => ?_) (fun c_31 => ?_)
          · have hf := iq c_31 hf
            refine lv_iconst (v := (0 : Int32)) hx hb dX7_reads_105 (by decide) ?_
            exact hB106 (M_sp μ) false (M_iw' (M_le' μ r_23) true) _ _ ls hP hD hS (lv_sub hl [0] rfl) hf
          · have hf := ip c_31 hf
            refine lv_iconst (v := (1 : Int32)) hx hb dX7_reads_101 (by decide) ?_
            refine lv_goto (tgt := 106) hx hb dX7_reads_102 (by decide) ?_
            exact hB106 (M_sp μ) true (M_iw' (M_le' μ r_23) true) _ _ ls hP hD hS (lv_sub hl [0] rfl) hf
        · have hf := iq c_30 hf
          refine lv_aload_n hx hb dX7_reads_45 rfl (lv_at hl 0 rfl) ?_
          refine va_get (v := .int r_23) (C := RX7) (T := TX7) (N := 13) hx hb hts fiX7_reads_X7 hown hE.1 hP 0 rfl rfl 10 (by decide) (hts _ flX7_reads_182) (fun _ h9 => h9) rfl dX7_reads_46 ?_
          refine lv_bipush (v := (117 : Int32)) hx hb dX7_reads_49 (by decide) ?_
          refine lv_icmp_eq (tgt := 81) hx hb dX7_reads_51 (by decide) (fun c_32 => ?_) (fun c_32 => ?_)
          · have hf := ip c_32 hf
            refine lv_iconst (v := (1 : Int32)) hx hb dX7_reads_81 (by decide) ?_
            refine lv_goto (tgt := 86) hx hb dX7_reads_82 (by decide) ?_
            refine va_put (v := .int (b2i true)) (ty := .boolean) (C := RX7) (T := TX7) (N := 13) hx hb hts fiX7_reads_X7 tyX7 tyX7_ok nmX7 hown hE.1 hP hD hS 0 rfl rfl 9 (by decide) (hts _ flX7_reads_175) (fun _ h9 => h9) rfl (by decide +kernel) (nb2i _) (fb2i _) (Nat.le_of_ble_eq_true rfl) dX7_reads_86 (fun H locs hP hD hS => ?_)
            have hP : va_P g.1 vwCl (wM g m0 m1 m2 m3 m4 (M_iw' (M_le' μ r_23) true)) H := hP
            have hD : va_D A (wM g m0 m1 m2 m3 m4 (M_iw' (M_le' μ r_23) true)) := hD
            refine lv_aload_n hx hb dX7_reads_89 rfl (lv_at hl 0 rfl) ?_
            refine lv_dup hx hb dX7_reads_90 rfl ?_
            refine va_get (v := .int (M_sp μ)) (C := RX7) (T := TX7) (N := 13) hx hb hts fiX7_reads_X7 hown hE.1 hP 0 rfl rfl 8 (by decide) (hts _ flX7_reads_172) (fun _ h9 => h9) rfl dX7_reads_91 ?_
            refine lv_aload_n hx hb dX7_reads_94 rfl (lv_at hl 0 rfl) ?_
            refine va_get (v := .int (b2i true)) (C := RX7) (T := TX7) (N := 13) hx hb hts fiX7_reads_X7 hown hE.1 hP 0 rfl rfl 9 (by decide) (hts _ flX7_reads_175) (fun _ h9 => h9) rfl dX7_reads_95 ?_
            refine lv_beq (tgt := 105) hx hb dX7_reads_98 (by decide) (fun c_33 => ?_) (fun c_33 => ?_)
            · have hf := iq c_33 hf
              refine lv_iconst (v := (0 : Int32)) hx hb dX7_reads_105 (by decide) ?_
              exact hB106 (M_sp μ) false (M_iw' (M_le' μ r_23) true) _ _ ls hP hD hS (lv_sub hl [0] rfl) hf
            · have hf := ip c_33 hf
              refine lv_iconst (v := (1 : Int32)) hx hb dX7_reads_101 (by decide) ?_
              refine lv_goto (tgt := 106) hx hb dX7_reads_102 (by decide) ?_
              exact hB106 (M_sp μ) true (M_iw' (M_le' μ r_23) true) _ _ ls hP hD hS (lv_sub hl [0] rfl) hf
          · have hf := iq c_32 hf
            refine lv_aload_n hx hb dX7_reads_54 rfl (lv_at hl 0 rfl) ?_
            refine va_get (v := .int r_23) (C := RX7) (T := TX7) (N := 13) hx hb hts fiX7_reads_X7 hown hE.1 hP 0 rfl rfl 10 (by decide) (hts _ flX7_reads_182) (fun _ h9 => h9) rfl dX7_reads_55 ?_
            refine lv_bipush (v := (98 : Int32)) hx hb dX7_reads_58 (by decide) ?_
            refine lv_icmp_eq (tgt := 81) hx hb dX7_reads_60 (by decide) (fun c_34 => ?_) (fun c_34 => ?_)
            · have hf := ip c_34 hf
              refine lv_iconst (v := (1 : Int32)) hx hb dX7_reads_81 (by decide) ?_
              refine lv_goto (tgt := 86) hx hb dX7_reads_82 (by decide) ?_
              refine va_put (v := .int (b2i true)) (ty := .boolean) (C := RX7) (T := TX7) (N := 13) hx hb hts fiX7_reads_X7 tyX7 tyX7_ok nmX7 hown hE.1 hP hD hS 0 rfl rfl 9 (by decide) (hts _ flX7_reads_175) (fun _ h9 => h9) rfl (by decide +kernel) (nb2i _) (fb2i _) (Nat.le_of_ble_eq_true rfl) dX7_reads_86 (fun H locs hP hD hS => ?_)
              have hP : va_P g.1 vwCl (wM g m0 m1 m2 m3 m4 (M_iw' (M_le' μ r_23) true)) H := hP
              have hD : va_D A (wM g m0 m1 m2 m3 m4 (M_iw' (M_le' μ r_23) true)) := hD
              refine lv_aload_n hx hb dX7_reads_89 rfl (lv_at hl 0 rfl) ?_
              refine lv_dup hx hb dX7_reads_90 rfl ?_
              refine va_get (v := .int (M_sp μ)) (C := RX7) (T := TX7) (N := 13) hx hb hts fiX7_reads_X7 hown hE.1 hP 0 rfl rfl 8 (by decide) (hts _ flX7_reads_172) (fun _ h9 => h9) rfl dX7_reads_91 ?_
              refine lv_aload_n hx hb dX7_reads_94 rfl (lv_at hl 0 rfl) ?_
              refine va_get (v := .int (b2i true)) (C := RX7) (T := TX7) (N := 13) hx hb hts fiX7_reads_X7 hown hE.1 hP 0 rfl rfl 9 (by decide) (hts _ flX7_reads_175) (fun _ h9 => h9) rfl dX7_reads_95 ?_
              refine lv_beq (tgt := 105) hx hb dX7_reads_98 (by decide) (fun c_35 => ?_) (fun c_35 => ?_)
              · have hf := iq c_35 hf
                refine lv_iconst (v := (0 : Int32)) hx hb dX7_reads_105 (by decide) ?_
                exact hB106 (M_sp μ) false (M_iw' (M_le' μ r_23) true) _ _ ls hP hD hS (lv_sub hl [0] rfl) hf
              · have hf := ip c_35 hf
                refine lv_iconst (v := (1 : Int32)) hx hb dX7_reads_101 (by decide) ?_
                refine lv_goto (tgt := 106) hx hb dX7_reads_102 (by decide) ?_
                exact hB106 (M_sp μ) true (M_iw' (M_le' μ r_23) true) _ _ ls hP hD hS (lv_sub hl [0] rfl) hf
            · have hf := iq c_34 hf
              refine lv_aload_n hx hb dX7_reads_63 rfl (lv_at hl 0 rfl) ?_
              refine va_get (v := .int r_23) (C := RX7) (T := TX7) (N := 13) hx hb hts fiX7_reads_X7 hown hE.1 hP 0 rfl rfl 10 (by decide) (hts _ flX7_reads_182) (fun _ h9 => h9) rfl dX7_reads_64 ?_
              refine lv_bipush (v := (97 : Int32)) hx hb dX7_reads_67 (by decide) ?_
              refine lv_icmp_eq (tgt := 81) hx hb dX7_reads_69 (by decide) (fun c_36 => ?_) (fun c_36 => ?_)
              · have hf := ip c_36 hf
                refine lv_iconst (v := (1 : Int32)) hx hb dX7_reads_81 (by decide) ?_
                refine lv_goto (tgt := 86) hx hb dX7_reads_82 (by decide) ?_
                refine va_put (v := .int (b2i true)) (ty := .boolean) (C := RX7) (T := TX7) (N := 13) hx hb hts fiX7_reads_X7 tyX7 tyX7_ok nmX7 hown hE.1 hP hD hS 0 rfl rfl 9 (by decide) (hts _ flX7_reads_175) (fun _ h9 => h9) rfl (by decide +kernel) (nb2i _) (fb2i _) (Nat.le_of_ble_eq_true rfl) dX7_reads_86 (fun H locs hP hD hS => ?_)
                have hP : va_P g.1 vwCl (wM g m0 m1 m2 m3 m4 (M_iw' (M_le' μ r_23) true)) H := hP
                have hD : va_D A (wM g m0 m1 m2 m3 m4 (M_iw' (M_le' μ r_23) true)) := hD
                refine lv_aload_n hx hb dX7_reads_89 rfl (lv_at hl 0 rfl) ?_
                refine lv_dup hx hb dX7_reads_90 rfl ?_
                refine va_get (v := .int (M_sp μ)) (C := RX7) (T := TX7) (N := 13) hx hb hts fiX7_reads_X7 hown hE.1 hP 0 rfl rfl 8 (by decide) (hts _ flX7_reads_172) (fun _ h9 => h9) rfl dX7_reads_91 ?_
                refine lv_aload_n hx hb dX7_reads_94 rfl (lv_at hl 0 rfl) ?_
                refine va_get (v := .int (b2i true)) (C := RX7) (T := TX7) (N := 13) hx hb hts fiX7_reads_X7 hown hE.1 hP 0 rfl rfl 9 (by decide) (hts _ flX7_reads_175) (fun _ h9 => h9) rfl dX7_reads_95 ?_
                refine lv_beq (tgt := 105) hx hb dX7_reads_98 (by decide) (fun c_37 => ?_) (fun c_37 => ?_)
                · have hf := iq c_37 hf
                  refine lv_iconst (v := (0 : Int32)) hx hb dX7_reads_105 (by decide) ?_
                  exact hB106 (M_sp μ) false (M_iw' (M_le' μ r_23) true) _ _ ls hP hD hS (lv_sub hl [0] rfl) hf
                · have hf := ip c_37 hf
                  refine lv_iconst (v := (1 : Int32)) hx hb dX7_reads_101 (by decide) ?_
                  refine lv_goto (tgt := 106) hx hb dX7_reads_102 (by decide) ?_
                  exact hB106 (M_sp μ) true (M_iw' (M_le' μ r_23) true) _ _ ls hP hD hS (lv_sub hl [0] rfl) hf
              · have hf := iq c_36 hf
                refine lv_aload_n hx hb dX7_reads_72 rfl (lv_at hl 0 rfl) ?_
                refine va_get (v := .int r_23) (C := RX7) (T := TX7) (N := 13) hx hb hts fiX7_reads_X7 hown hE.1 hP 0 rfl rfl 10 (by decide) (hts _ flX7_reads_182) (fun _ h9 => h9) rfl dX7_reads_73 ?_
                refine lv_bipush (v := (103 : Int32)) hx hb dX7_reads_76 (by decide) ?_
                refine lv_icmp_ne (tgt := 85) hx hb dX7_reads_78 (by decide) (fun c_38 => ?_) (fun c_38 => ?_)
                · have hf := iq c_38 hf
                  refine lv_iconst (v := (0 : Int32)) hx hb dX7_reads_85 (by decide) ?_
                  refine va_put (v := .int (b2i false)) (ty := .boolean) (C := RX7) (T := TX7) (N := 13) hx hb hts fiX7_reads_X7 tyX7 tyX7_ok nmX7 hown hE.1 hP hD hS 0 rfl rfl 9 (by decide) (hts _ flX7_reads_175) (fun _ h9 => h9) rfl (by decide +kernel) (nb2i _) (fb2i _) (Nat.le_of_ble_eq_true rfl) dX7_reads_86 (fun H locs hP hD hS => ?_)
                  have hP : va_P g.1 vwCl (wM g m0 m1 m2 m3 m4 (M_iw' (M_le' μ r_23) false)) H := hP
                  have hD : va_D A (wM g m0 m1 m2 m3 m4 (M_iw' (M_le' μ r_23) false)) := hD
                  refine lv_aload_n hx hb dX7_reads_89 rfl (lv_at hl 0 rfl) ?_
                  refine lv_dup hx hb dX7_reads_90 rfl ?_
                  refine va_get (v := .int (M_sp μ)) (C := RX7) (T := TX7) (N := 13) hx hb hts fiX7_reads_X7 hown hE.1 hP 0 rfl rfl 8 (by decide) (hts _ flX7_reads_172) (fun _ h9 => h9) rfl dX7_reads_91 ?_
                  refine lv_aload_n hx hb dX7_reads_94 rfl (lv_at hl 0 rfl) ?_
                  refine va_get (v := .int (b2i false)) (C := RX7) (T := TX7) (N := 13) hx hb hts fiX7_reads_X7 hown hE.1 hP 0 rfl rfl 9 (by decide) (hts _ flX7_reads_175) (fun _ h9 => h9) rfl dX7_reads_95 ?_
                  refine lv_beq (tgt := 105) hx hb dX7_reads_98 (by decide) (fun c_39 => ?_) (fun c_39 => ?_)
                  · have hf := iq c_39 hf
                    refine lv_iconst (v := (0 : Int32)) hx hb dX7_reads_105 (by decide) ?_
                    exact hB106 (M_sp μ) false (M_iw' (M_le' μ r_23) false) _ _ ls hP hD hS (lv_sub hl [0] rfl) hf
                  · have hf := ip c_39 hf
                    refine lv_iconst (v := (1 : Int32)) hx hb dX7_reads_101 (by decide) ?_
                    refine lv_goto (tgt := 106) hx hb dX7_reads_102 (by decide) ?_
                    exact hB106 (M_sp μ) true (M_iw' (M_le' μ r_23) false) _ _ ls hP hD hS (lv_sub hl [0] rfl) hf
                · have hf := ip c_38 hf
                  refine lv_iconst (v := (1 : Int32)) hx hb dX7_reads_81 (by decide) ?_
                  refine lv_goto (tgt := 86) hx hb dX7_reads_82 (by decide) ?_
                  refine va_put (v := .int (b2i true)) (ty := .boolean) (C := RX7) (T := TX7) (N := 13) hx hb hts fiX7_reads_X7 tyX7 tyX7_ok nmX7 hown hE.1 hP hD hS 0 rfl rfl 9 (by decide) (hts _ flX7_reads_175) (fun _ h9 => h9) rfl (by decide +kernel) (nb2i _) (fb2i _) (Nat.le_of_ble_eq_true rfl) dX7_reads_86 (fun H locs hP hD hS => ?_)
                  have hP : va_P g.1 vwCl (wM g m0 m1 m2 m3 m4 (M_iw' (M_le' μ r_23) true)) H := hP
                  have hD : va_D A (wM g m0 m1 m2 m3 m4 (M_iw' (M_le' μ r_23) true)) := hD
                  refine lv_aload_n hx hb dX7_reads_89 rfl (lv_at hl 0 rfl) ?_
                  refine lv_dup hx hb dX7_reads_90 rfl ?_
                  refine va_get (v := .int (M_sp μ)) (C := RX7) (T := TX7) (N := 13) hx hb hts fiX7_reads_X7 hown hE.1 hP 0 rfl rfl 8 (by decide) (hts _ flX7_reads_172) (fun _ h9 => h9) rfl dX7_reads_91 ?_
                  refine lv_aload_n hx hb dX7_reads_94 rfl (lv_at hl 0 rfl) ?_
                  refine va_get (v := .int (b2i true)) (C := RX7) (T := TX7) (N := 13) hx hb hts fiX7_reads_X7 hown hE.1 hP 0 rfl rfl 9 (by decide) (hts _ flX7_reads_175) (fun _ h9 => h9) rfl dX7_reads_95 ?_
                  refine lv_beq (tgt := 105) hx hb dX7_reads_98 (by decide) (fun c_40 => ?_) (fun c_40 => ?_)
                  · have hf := iq c_40 hf
                    refine lv_iconst (v := (0 : Int32)) hx hb dX7_reads_105 (by decide) ?_
                    exact hB106 (M_sp μ) false (M_iw' (M_le' μ r_23) true) _ _ ls hP hD hS (lv_sub hl [0] rfl) hf
                  · have hf := ip c_40 hf
                    refine lv_iconst (v := (1 : Int32)) hx hb dX7_reads_101 (by decide) ?_
                    refine lv_goto (tgt := 106) hx hb dX7_reads_102 (by decide) ?_
                    exact hB106 (M_sp μ) true (M_iw' (M_le' μ r_23) true) _ _ ls hP hD hS (lv_sub hl [0] rfl) hf

def fX7_isText_9  : Nat → Mo → Option (Bool × Mo)
  | 0, _ => none
  | n + 1, μ_9 => (if (M_iw μ_9) = true then (if (M_len μ_9) ≤ (M_sp μ_9) then (some ((M_iw μ_9), μ_9)) else ((fX7_needs μ_9 (59 : Int32)).bind fun r_3 => (if (M_iw r_3) = true then ((fX7_reads r_3).bind fun r_5 => fX7_isText_9 n r_5) else fX7_isText_9 n r_3))) else (some ((M_iw μ_9), μ_9)))
def fX7_isText (μ : Mo) : Option (Bool × Mo) := ((fX7_reads (M_sp' μ (0 : Int32))).bind fun r_6 => fX7_isText_9 FU r_6)
abbrev rmX7_isText : Room := { frames := 3, cells := 0, slots := 0, locals := 65 }
theorem hdX7_isText : yX7_isText.cls = RX7 ∧ yX7_isText.cls ≠ "java/lang/invoke/MethodHandle" ∧ yX7_isText.cls ≠ "java/lang/invoke/VarHandle" ∧ (parseMethodDescriptor yX7_isText.desc).map (fun d => d.parameters.length) = some 0 := by decide +kernel
theorem fiX7_isText_X7 : ∀ w ∈ wsX70, w ∈ wsX7_isText := by decide +kernel
theorem flX7_isText_175 : (.fieldLink RX7 175 "ContourLabelsModel" "isWell" "Z" : Cond) ∈ wsX7_isText := by decide +kernel
theorem flX7_isText_172 : (.fieldLink RX7 172 "ContourLabelsModel" "spot" "I" : Cond) ∈ wsX7_isText := by decide +kernel
theorem flX7_isText_169 : (.fieldLink RX7 169 "ContourLabelsModel" "length" "I" : Cond) ∈ wsX7_isText := by decide +kernel
set_option maxHeartbeats 4000000 in
set_option maxRecDepth 100000 in
theorem cX7_isText_ok (l : Launch) (g : Gg) (m0 m1 m2 m3 m4 : Nat) (μ : Mo) (sz : Nat) {o : Bool × Mo} (hf : fX7_isText μ = some o) : Met l yX7_isText wsX7_isText rmX7_isText (va_Pc [.ref m0] (PM g (wM g m0 m1 m2 m3 m4 μ) sz)) (va_Qi (fun r' (_ : Unit) => r' = b2i o.1) (fun _ t => PQ g (wM g m0 m1 m2 m3 m4 o.2) (va_A (wM g m0 m1 m2 m3 m4 μ) sz) t) (va_A (wM g m0 m1 m2 m3 m4 μ) sz)) 0 0 (va_A (wM g m0 m1 m2 m3 m4 μ) sz) := by
  refine Met.ofW (cc := cX7_isText) (maxL := 1) (ret := (some .boolean)) (by decide) rfl ?_
  intro p e s m args below meth c s₁ B hml hv
  obtain ⟨rfl, rfl, hP, hD0, hE, hZ⟩ := hv
  have hx := B.exec
  have hb := B.bytes
  have hr := B.returns
  have hts := atoms_spec (ws := wsX7_isText) B.pre
  have hown : s.vm.findClass RX7 = some m.cls := findClass_of_methodNamed B.named
  have hlocks := B.notSynchronized
  have hD := hD0.self (sz := s.heap.size)
  generalize hAe : (va_A (wM g m0 m1 m2 m3 m4 μ) s.heap.size) = A at hD hZ ⊢
  have hA : ∀ q : Nat, s.heap.size ≤ q → A q := fun q h => by rw [← hAe]; exact Or.inr h
  have hS : va_S A s.heap s.heap [] := va_S.rf
  have hP : va_P g.1 vwCl (wM g m0 m1 m2 m3 m4 μ) s.heap := hP
  have hl := lv_entry ([.ref m0]) (n := 1) (Nat.le_of_ble_eq_true rfl)
  rw [lg_entry_eq]
  generalize (lg_sl ([.ref m0]) ++ List.replicate (1 - (lg_sl ([.ref m0])).length) Slot.unset).toArray = ls at hl ⊢
  have hl : lv_has ls 1 [(0, .ref m0)] := hl
  have hB9 : ∀ (n9 : Nat) (μ_9 : Mo) (H : Heap) (locs : List Loc) (ls : Array Slot), va_P g.1 vwCl (wM g m0 m1 m2 m3 m4 μ_9) H → va_D A (wM g m0 m1 m2 m3 m4 μ_9) → va_S A s.heap H locs → lv_has ls 1 [(0, .ref m0)] → fX7_isText_9 n9 μ_9 = some o → W p l e (headSpec wsX7_isText rmX7_isText).room s m ([.ref m0] : List Value).toArray below meth c H locs 0 0 (MQ below (va_Qi (fun r' (_ : Unit) => r' = b2i o.1) (fun _ t => PQ g (wM g m0 m1 m2 m3 m4 o.2) A t) A) ([.ref m0] : List Value).toArray s 0 0 A) (F0 m 9 ls []) := by
    intro  n9
    induction n9 with
    | zero => intro μ_9 H locs ls hP hD hS hl hf; exact nomatch (show (none : Option (Bool × Mo)) = some _ from hf)
    | succ n9 ih9 =>
      intro μ_9 H locs ls hP hD hS hl hf
      rw [fX7_isText_9] at hf
      refine lv_aload_n hx hb dX7_isText_9 rfl (lv_at hl 0 rfl) ?_
      refine va_get (v := .int (b2i (M_iw μ_9))) (C := RX7) (T := TX7) (N := 13) hx hb hts fiX7_isText_X7 hown hE.1 hP 0 rfl rfl 9 (by decide) (hts _ flX7_isText_175) (fun _ h9 => h9) rfl dX7_isText_10 ?_
      refine lv_beq (tgt := 47) hx hb dX7_isText_13 (by decide) (fun c_1 => ?_) (fun c_1 => ?_)
      · have hf := iq c_1 hf
        refine lv_aload_n hx hb dX7_isText_47 rfl (lv_at hl 0 rfl) ?_
        refine va_get (v := .int (b2i (M_iw μ_9))) (C := RX7) (T := TX7) (N := 13) hx hb hts fiX7_isText_X7 hown hE.1 hP 0 rfl rfl 9 (by decide) (hts _ flX7_isText_175) (fun _ h9 => h9) rfl dX7_isText_48 ?_
        have ho := Option.some.inj hf
        subst ho
        exact m_zret (v := (M_iw μ_9)) hx hb hr hlocks hP hD hS rfl dX7_isText_51
      · have hf := ip c_1 hf
        refine lv_aload_n hx hb dX7_isText_16 rfl (lv_at hl 0 rfl) ?_
        refine va_get (v := .int (M_sp μ_9)) (C := RX7) (T := TX7) (N := 13) hx hb hts fiX7_isText_X7 hown hE.1 hP 0 rfl rfl 8 (by decide) (hts _ flX7_isText_172) (fun _ h9 => h9) rfl dX7_isText_17 ?_
        refine lv_aload_n hx hb dX7_isText_20 rfl (lv_at hl 0 rfl) ?_
        refine va_get (v := .int (M_len μ_9)) (C := RX7) (T := TX7) (N := 13) hx hb hts fiX7_isText_X7 hown hE.1 hP 0 rfl rfl 6 (by decide) (hts _ flX7_isText_169) (fun _ h9 => h9) rfl dX7_isText_21 ?_
        refine lv_icmp_ge (tgt := 47) hx hb dX7_isText_24 (by decide) (fun c_2 => ?_) (fun c_2 => ?_)
        · have hf := ip c_2 hf
          refine lv_aload_n hx hb dX7_isText_47 rfl (lv_at hl 0 rfl) ?_
          refine va_get (v := .int (b2i (M_iw μ_9))) (C := RX7) (T := TX7) (N := 13) hx hb hts fiX7_isText_X7 hown hE.1 hP 0 rfl rfl 9 (by decide) (hts _ flX7_isText_175) (fun _ h9 => h9) rfl dX7_isText_48 ?_
          have ho := Option.some.inj hf
          subst ho
          exact m_zret (v := (M_iw μ_9)) hx hb hr hlocks hP hD hS rfl dX7_isText_51
        · have hf := iq c_2 hf
          refine lv_aload_n hx hb dX7_isText_27 rfl (lv_at hl 0 rfl) ?_
          refine lv_bipush (v := (59 : Int32)) hx hb dX7_isText_28 (by decide) ?_
          obtain ⟨r_3, e_3, hf⟩ := bo hf
          refine mcallVv (W0 := (wM g m0 m1 m2 m3 m4 μ_9)) (Wc := (wM g m0 m1 m2 m3 m4 μ_9)) (Wr := ([] : va_W)) (W1 := (wM g m0 m1 m2 m3 m4 r_3)) (W2 := (wM g m0 m1 m2 m3 m4 r_3)) (As := [.int (59 : Int32)]) (rest := []) [0, 1, 2, 3, 4] [] [0, 1, 2, 3, 4] 5 0 ⟨hx, hb, hml, hown, hts⟩ hP hD hE hZ hS hA (cX7_needs_ok l g m0 m1 m2 m3 m4 μ_9 (59 : Int32) _ e_3) (cwV 1 hts gX7_isText_X7_needs rfl rfl rfl hdX7_needs ⟨(Nat.le_of_ble_eq_true rfl), (Nat.le_of_ble_eq_true rfl)⟩) rfl rfl rfl (by decide) (by decide) (by decide) (by decide) rfl rfl rfl rfl hl.1 rfl (Nat.le_of_ble_eq_true rfl) ⟨(Nat.le_of_ble_eq_true rfl), (Nat.le_of_ble_eq_true rfl)⟩ dX7_isText_30 (fun H locs hP hD hS => ?_)
          refine lv_aload_n hx hb dX7_isText_33 rfl (lv_at hl 0 rfl) ?_
          refine va_get (v := .int (b2i (M_iw r_3))) (C := RX7) (T := TX7) (N := 13) hx hb hts fiX7_isText_X7 hown hE.1 hP 0 rfl rfl 9 (by decide) (hts _ flX7_isText_175) (fun _ h9 => h9) rfl dX7_isText_34 ?_
          refine lv_beq (tgt := 9) hx hb dX7_isText_37 (by decide) (fun c_4 => ?_) (fun c_4 => ?_)
          · have hf := iq c_4 hf
            exact ih9 r_3 _ _ ls hP hD hS (lv_sub hl [0] rfl) hf
          · have hf := ip c_4 hf
            refine lv_aload_n hx hb dX7_isText_40 rfl (lv_at hl 0 rfl) ?_
            obtain ⟨r_5, e_5, hf⟩ := bo hf
            refine mcallVv (W0 := (wM g m0 m1 m2 m3 m4 r_3)) (Wc := (wM g m0 m1 m2 m3 m4 r_3)) (Wr := ([] : va_W)) (W1 := (wM g m0 m1 m2 m3 m4 r_5)) (W2 := (wM g m0 m1 m2 m3 m4 r_5)) (As := []) (rest := []) [0, 1, 2, 3, 4] [] [0, 1, 2, 3, 4] 5 0 ⟨hx, hb, hml, hown, hts⟩ hP hD hE hZ hS hA (cX7_reads_ok l g m0 m1 m2 m3 m4 r_3 _ e_5) (cwV 0 hts gX7_isText_X7_reads rfl rfl rfl hdX7_reads ⟨(Nat.le_of_ble_eq_true rfl), (Nat.le_of_ble_eq_true rfl)⟩) rfl rfl rfl (by decide) (by decide) (by decide) (by decide) rfl rfl rfl rfl hl.1 rfl (Nat.le_of_ble_eq_true rfl) ⟨(Nat.le_of_ble_eq_true rfl), (Nat.le_of_ble_eq_true rfl)⟩ dX7_isText_41 (fun H locs hP hD hS => ?_)
            refine lv_goto (tgt := 9) hx hb dX7_isText_44 (by decide) ?_
            exact ih9 r_5 _ _ ls hP hD hS (lv_sub hl [0] rfl) hf
  unfold fX7_isText at hf
  refine lv_aload_n hx hb dX7_isText_0 rfl (lv_at hl 0 rfl) ?_
  refine lv_iconst (v := (0 : Int32)) hx hb dX7_isText_1 (by decide) ?_
  refine va_put (v := .int (0 : Int32)) (ty := .int) (C := RX7) (T := TX7) (N := 13) hx hb hts fiX7_isText_X7 tyX7 tyX7_ok nmX7 hown hE.1 hP hD hS 0 rfl rfl 8 (by decide) (hts _ flX7_isText_172) (fun _ h9 => h9) rfl (by decide +kernel) rfl rfl (Nat.le_of_ble_eq_true rfl) dX7_isText_2 (fun H locs hP hD hS => ?_)
  have hP : va_P g.1 vwCl (wM g m0 m1 m2 m3 m4 (M_sp' μ (0 : Int32))) H := hP
  have hD : va_D A (wM g m0 m1 m2 m3 m4 (M_sp' μ (0 : Int32))) := hD
  refine lv_aload_n hx hb dX7_isText_5 rfl (lv_at hl 0 rfl) ?_
  obtain ⟨r_6, e_6, hf⟩ := bo hf
  refine mcallVv (W0 := (wM g m0 m1 m2 m3 m4 (M_sp' μ (0 : Int32)))) (Wc := (wM g m0 m1 m2 m3 m4 (M_sp' μ (0 : Int32)))) (Wr := ([] : va_W)) (W1 := (wM g m0 m1 m2 m3 m4 r_6)) (W2 := (wM g m0 m1 m2 m3 m4 r_6)) (As := []) (rest := []) [0, 1, 2, 3, 4] [] [0, 1, 2, 3, 4] 5 0 ⟨hx, hb, hml, hown, hts⟩ hP hD hE hZ hS hA (cX7_reads_ok l g m0 m1 m2 m3 m4 (M_sp' μ (0 : Int32)) _ e_6) (cwV 0 hts gX7_isText_X7_reads rfl rfl rfl hdX7_reads ⟨(Nat.le_of_ble_eq_true rfl), (Nat.le_of_ble_eq_true rfl)⟩) rfl rfl rfl (by decide) (by decide) (by decide) (by decide) rfl rfl rfl rfl hl.1 rfl (Nat.le_of_ble_eq_true rfl) ⟨(Nat.le_of_ble_eq_true rfl), (Nat.le_of_ble_eq_true rfl)⟩ dX7_isText_6 (fun H locs hP hD hS => ?_)
  exact hB9 FU r_6 _ _ ls hP hD hS (lv_sub hl [0] rfl) hf

def fX7_errorPosition (μ : Mo) : Option (Int32 × Mo) := ((fX7_isText (M_th' μ (0 : Int32))).bind fun r_1 => (if r_1.1 = true then (some ((M_len r_1.2), r_1.2)) else (some ((M_sp r_1.2), r_1.2))))
abbrev rmX7_errorPosition : Room := { frames := 4, cells := 0, slots := 0, locals := 85 }
theorem hdX7_errorPosition : yX7_errorPosition.cls = RX7 ∧ yX7_errorPosition.cls ≠ "java/lang/invoke/MethodHandle" ∧ yX7_errorPosition.cls ≠ "java/lang/invoke/VarHandle" ∧ (parseMethodDescriptor yX7_errorPosition.desc).map (fun d => d.parameters.length) = some 0 := by decide +kernel
theorem fiX7_errorPosition_X7 : ∀ w ∈ wsX70, w ∈ wsX7_errorPosition := by decide +kernel
theorem flX7_errorPosition_22 : (.fieldLink RX7 22 "ContourLabelsModel" "thrown" "I" : Cond) ∈ wsX7_errorPosition := by decide +kernel
theorem flX7_errorPosition_172 : (.fieldLink RX7 172 "ContourLabelsModel" "spot" "I" : Cond) ∈ wsX7_errorPosition := by decide +kernel
theorem flX7_errorPosition_169 : (.fieldLink RX7 169 "ContourLabelsModel" "length" "I" : Cond) ∈ wsX7_errorPosition := by decide +kernel
set_option maxHeartbeats 4000000 in
set_option maxRecDepth 100000 in
theorem cX7_errorPosition_ok (l : Launch) (g : Gg) (m0 m1 m2 m3 m4 : Nat) (μ : Mo) (sz : Nat) {o : Int32 × Mo} (hf : fX7_errorPosition μ = some o) : Met l yX7_errorPosition wsX7_errorPosition rmX7_errorPosition (va_Pc [.ref m0] (PM g (wM g m0 m1 m2 m3 m4 μ) sz)) (va_Qi (fun r' (_ : Unit) => r' = o.1) (fun _ t => PQ g (wM g m0 m1 m2 m3 m4 o.2) (va_A (wM g m0 m1 m2 m3 m4 μ) sz) t) (va_A (wM g m0 m1 m2 m3 m4 μ) sz)) 0 0 (va_A (wM g m0 m1 m2 m3 m4 μ) sz) := by
  refine Met.ofW (cc := cX7_errorPosition) (maxL := 1) (ret := (some .int)) (by decide) rfl ?_
  intro p e s m args below meth c s₁ B hml hv
  obtain ⟨rfl, rfl, hP, hD0, hE, hZ⟩ := hv
  have hx := B.exec
  have hb := B.bytes
  have hr := B.returns
  have hts := atoms_spec (ws := wsX7_errorPosition) B.pre
  have hown : s.vm.findClass RX7 = some m.cls := findClass_of_methodNamed B.named
  have hlocks := B.notSynchronized
  have hD := hD0.self (sz := s.heap.size)
  generalize hAe : (va_A (wM g m0 m1 m2 m3 m4 μ) s.heap.size) = A at hD hZ ⊢
  have hA : ∀ q : Nat, s.heap.size ≤ q → A q := fun q h => by rw [← hAe]; exact Or.inr h
  have hS : va_S A s.heap s.heap [] := va_S.rf
  have hP : va_P g.1 vwCl (wM g m0 m1 m2 m3 m4 μ) s.heap := hP
  have hl := lv_entry ([.ref m0]) (n := 1) (Nat.le_of_ble_eq_true rfl)
  rw [lg_entry_eq]
  generalize (lg_sl ([.ref m0]) ++ List.replicate (1 - (lg_sl ([.ref m0])).length) Slot.unset).toArray = ls at hl ⊢
  have hl : lv_has ls 1 [(0, .ref m0)] := hl
  unfold fX7_errorPosition at hf
  refine lv_aload_n hx hb dX7_errorPosition_0 rfl (lv_at hl 0 rfl) ?_
  refine lv_iconst (v := (0 : Int32)) hx hb dX7_errorPosition_1 (by decide) ?_
  refine va_put (v := .int (0 : Int32)) (ty := .int) (C := RX7) (T := TX7) (N := 13) hx hb hts fiX7_errorPosition_X7 tyX7 tyX7_ok nmX7 hown hE.1 hP hD hS 0 rfl rfl 7 (by decide) (hts _ flX7_errorPosition_22) (fun _ h9 => h9) rfl (by decide +kernel) rfl rfl (Nat.le_of_ble_eq_true rfl) dX7_errorPosition_2 (fun H locs hP hD hS => ?_)
  have hP : va_P g.1 vwCl (wM g m0 m1 m2 m3 m4 (M_th' μ (0 : Int32))) H := hP
  have hD : va_D A (wM g m0 m1 m2 m3 m4 (M_th' μ (0 : Int32))) := hD
  refine lv_aload_n hx hb dX7_errorPosition_5 rfl (lv_at hl 0 rfl) ?_
  obtain ⟨r_1, e_1, hf⟩ := bo hf
  refine mcallVi (W0 := (wM g m0 m1 m2 m3 m4 (M_th' μ (0 : Int32)))) (Wc := (wM g m0 m1 m2 m3 m4 (M_th' μ (0 : Int32)))) (Wr := ([] : va_W)) (W1 := (wM g m0 m1 m2 m3 m4 r_1.2)) (W2 := (wM g m0 m1 m2 m3 m4 r_1.2)) (As := []) (rest := []) [0, 1, 2, 3, 4] [] [0, 1, 2, 3, 4] 5 0 ⟨hx, hb, hml, hown, hts⟩ hP hD hE hZ hS hA (cX7_isText_ok l g m0 m1 m2 m3 m4 (M_th' μ (0 : Int32)) _ e_1) (cwV 0 hts gX7_errorPosition_X7_isText rfl rfl rfl hdX7_isText ⟨(Nat.le_of_ble_eq_true rfl), (Nat.le_of_ble_eq_true rfl)⟩) rfl rfl rfl (by decide) (by decide) (by decide) (by decide) rfl rfl rfl rfl hl.1 rfl (Nat.le_of_ble_eq_true rfl) ⟨(Nat.le_of_ble_eq_true rfl), (Nat.le_of_ble_eq_true rfl)⟩ dX7_errorPosition_6 (fun H locs hP hD hS => ?_)
  refine lv_beq (tgt := 19) hx hb dX7_errorPosition_9 (by decide) (fun c_2 => ?_) (fun c_2 => ?_)
  · have hf := iq c_2 hf
    refine lv_aload_n hx hb dX7_errorPosition_19 rfl (lv_at hl 0 rfl) ?_
    refine va_get (v := .int (M_sp r_1.2)) (C := RX7) (T := TX7) (N := 13) hx hb hts fiX7_errorPosition_X7 hown hE.1 hP 0 rfl rfl 8 (by decide) (hts _ flX7_errorPosition_172) (fun _ h9 => h9) rfl dX7_errorPosition_20 ?_
    have ho := Option.some.inj hf
    subst ho
    exact m_iret (v := (M_sp r_1.2)) hx hb hr hlocks hP hD hS rfl dX7_errorPosition_23
  · have hf := ip c_2 hf
    refine lv_aload_n hx hb dX7_errorPosition_12 rfl (lv_at hl 0 rfl) ?_
    refine va_get (v := .int (M_len r_1.2)) (C := RX7) (T := TX7) (N := 13) hx hb hts fiX7_errorPosition_X7 hown hE.1 hP 0 rfl rfl 6 (by decide) (hts _ flX7_errorPosition_169) (fun _ h9 => h9) rfl dX7_errorPosition_13 ?_
    refine lv_goto (tgt := 23) hx hb dX7_errorPosition_16 (by decide) ?_
    have ho := Option.some.inj hf
    subst ho
    exact m_iret (v := (M_len r_1.2)) hx hb hr hlocks hP hD hS rfl dX7_errorPosition_23

def fX7_carries_133 (k83 : Bool → Int32 → Mo → Option (Bool × Mo)) (v3_133 : Int32) (t0_133 : Bool) (μ_133 : Mo) : Option (Bool × Mo) := (if t0_133 = true then (if inR v3_133 60 then ((fX7_does μ_133 (M_le μ_133) ((M_row μ_133 (Int32.toNatClampNeg (0 : Int32))) - (1 : Int32)) ((M_tx μ_133 (Int32.toNatClampNeg v3_133)) - (48 : Int32))).bind fun r_3 => k83 t0_133 (v3_133 + 1) r_3.2) else none) else k83 t0_133 (v3_133 + 1) μ_133)
def fX7_carries_83  : Nat → Bool → Int32 → Mo → Option (Bool × Mo)
  | 0, _, _, _ => none
  | n + 1, v2_83, v3_83, μ_83 => (if ((M_f1 μ_83) + (M_f2 μ_83)) ≤ v3_83 then (some (v2_83, μ_83)) else (if v2_83 = true then (if inR v3_83 60 then ((fX7_refusal μ_83 (M_le μ_83) ((M_row μ_83 (Int32.toNatClampNeg (0 : Int32))) - (1 : Int32)) ((M_tx μ_83 (Int32.toNatClampNeg v3_83)) - (48 : Int32))).bind fun r_7 => (if r_7 = 0 then fX7_carries_133 (fX7_carries_83 n) v3_83 true μ_83 else fX7_carries_133 (fX7_carries_83 n) v3_83 false μ_83)) else none) else (some (v2_83, μ_83))))
def fX7_carries_35  (t0_35 : Bool) (μ_35 : Mo) : Option (Bool × Mo) := (if t0_35 = true then ((fX7_does μ_35 (M_le μ_35) (M_f1 μ_35) (M_f2 μ_35)).bind fun r_10 => (some (t0_35, r_10.2))) else (some (t0_35, μ_35)))
def fX7_carries (μ : Mo) : Option (Bool × Mo) := (if (M_le μ) = (115 : Int32) then (if (M_row μ (Int32.toNatClampNeg (0 : Int32))) ≤ 0 then fX7_carries_83 FU false (M_f1 μ) μ else fX7_carries_83 FU true (M_f1 μ) μ) else ((fX7_refusal μ (M_le μ) (M_f1 μ) (M_f2 μ)).bind fun r_13 => (if r_13 = 0 then fX7_carries_35 true μ else fX7_carries_35 false μ)))
abbrev rmX7_carries : Room := { frames := 11, cells := 0, slots := 0, locals := 254 }
theorem hdX7_carries : yX7_carries.cls = RX7 ∧ yX7_carries.cls ≠ "java/lang/invoke/MethodHandle" ∧ yX7_carries.cls ≠ "java/lang/invoke/VarHandle" ∧ (parseMethodDescriptor yX7_carries.desc).map (fun d => d.parameters.length) = some 0 := by decide +kernel
theorem fiX7_carries_X7 : ∀ w ∈ wsX70, w ∈ wsX7_carries := by decide +kernel
theorem flX7_carries_182 : (.fieldLink RX7 182 "ContourLabelsModel" "letter" "I" : Cond) ∈ wsX7_carries := by decide +kernel
theorem flX7_carries_7 : (.fieldLink RX7 7 "ContourLabelsModel" "row" "[I" : Cond) ∈ wsX7_carries := by decide +kernel
theorem flX7_carries_19 : (.fieldLink RX7 19 "ContourLabelsModel" "text" "[I" : Cond) ∈ wsX7_carries := by decide +kernel
theorem flX7_carries_185 : (.fieldLink RX7 185 "ContourLabelsModel" "first" "I" : Cond) ∈ wsX7_carries := by decide +kernel
theorem flX7_carries_188 : (.fieldLink RX7 188 "ContourLabelsModel" "second" "I" : Cond) ∈ wsX7_carries := by decide +kernel
set_option maxHeartbeats 4000000 in
set_option maxRecDepth 100000 in
theorem cX7_carries_ok (l : Launch) (g : Gg) (m0 m1 m2 m3 m4 : Nat) (μ : Mo) (sz : Nat) {o : Bool × Mo} (hf : fX7_carries μ = some o) : Met l yX7_carries wsX7_carries rmX7_carries (va_Pc [.ref m0] (PM g (wM g m0 m1 m2 m3 m4 μ) sz)) (va_Qi (fun r' (_ : Unit) => r' = b2i o.1) (fun _ t => PQ g (wM g m0 m1 m2 m3 m4 o.2) (va_A (wM g m0 m1 m2 m3 m4 μ) sz) t) (va_A (wM g m0 m1 m2 m3 m4 μ) sz)) 0 0 (va_A (wM g m0 m1 m2 m3 m4 μ) sz) := by
  refine Met.ofW (cc := cX7_carries) (maxL := 4) (ret := (some .boolean)) (by decide) rfl ?_
  intro p e s m args below meth c s₁ B hml hv
  obtain ⟨rfl, rfl, hP, hD0, hE, hZ⟩ := hv
  have hx := B.exec
  have hb := B.bytes
  have hr := B.returns
  have hts := atoms_spec (ws := wsX7_carries) B.pre
  have hown : s.vm.findClass RX7 = some m.cls := findClass_of_methodNamed B.named
  have hlocks := B.notSynchronized
  have hD := hD0.self (sz := s.heap.size)
  generalize hAe : (va_A (wM g m0 m1 m2 m3 m4 μ) s.heap.size) = A at hD hZ ⊢
  have hA : ∀ q : Nat, s.heap.size ≤ q → A q := fun q h => by rw [← hAe]; exact Or.inr h
  have hS : va_S A s.heap s.heap [] := va_S.rf
  have hP : va_P g.1 vwCl (wM g m0 m1 m2 m3 m4 μ) s.heap := hP
  have hl := lv_entry ([.ref m0]) (n := 4) (Nat.le_of_ble_eq_true rfl)
  rw [lg_entry_eq]
  generalize (lg_sl ([.ref m0]) ++ List.replicate (4 - (lg_sl ([.ref m0])).length) Slot.unset).toArray = ls at hl ⊢
  have hl : lv_has ls 4 [(0, .ref m0)] := hl
  have hB83 : ∀ (n83 : Nat) (v2_83 : Bool) (v3_83 : Int32) (μ_83 : Mo) (H : Heap) (locs : List Loc) (ls : Array Slot), va_P g.1 vwCl (wM g m0 m1 m2 m3 m4 μ_83) H → va_D A (wM g m0 m1 m2 m3 m4 μ_83) → va_S A s.heap H locs → lv_has ls 4 [(0, .ref m0), (2, .int (b2i v2_83)), (3, .int v3_83)] → fX7_carries_83 n83 v2_83 v3_83 μ_83 = some o → W p l e (headSpec wsX7_carries rmX7_carries).room s m ([.ref m0] : List Value).toArray below meth c H locs 0 0 (MQ below (va_Qi (fun r' (_ : Unit) => r' = b2i o.1) (fun _ t => PQ g (wM g m0 m1 m2 m3 m4 o.2) A t) A) ([.ref m0] : List Value).toArray s 0 0 A) (F0 m 83 ls []) := by
    intro  n83
    induction n83 with
    | zero => intro v2_83 v3_83 μ_83 H locs ls hP hD hS hl hf; exact nomatch (show (none : Option (Bool × Mo)) = some _ from hf)
    | succ n83 ih83 =>
      have hB133 : ∀ (v3_133 : Int32) (t0_133 : Bool) (μ_133 : Mo) (H : Heap) (locs : List Loc) (ls : Array Slot), va_P g.1 vwCl (wM g m0 m1 m2 m3 m4 μ_133) H → va_D A (wM g m0 m1 m2 m3 m4 μ_133) → va_S A s.heap H locs → lv_has ls 4 [(0, .ref m0), (3, .int v3_133)] → fX7_carries_133 (fX7_carries_83 n83) v3_133 t0_133 μ_133 = some o → W p l e (headSpec wsX7_carries rmX7_carries).room s m ([.ref m0] : List Value).toArray below meth c H locs 0 0 (MQ below (va_Qi (fun r' (_ : Unit) => r' = b2i o.1) (fun _ t => PQ g (wM g m0 m1 m2 m3 m4 o.2) A t) A) ([.ref m0] : List Value).toArray s 0 0 A) (F0 m 133 ls [.int (b2i t0_133)]) := by
        intro  v3_133 t0_133 μ_133 H locs ls hP hD hS hl hf
        unfold fX7_carries_133 at hf
        refine lv_istore_n (lv' := [(2, .int (b2i t0_133)), (0, .ref m0), (3, .int v3_133)]) hx hb dX7_carries_133 rfl hl (by decide) rfl (fun ls hl => ?_)
        refine lv_iload_n hx hb dX7_carries_134 rfl (lv_at hl 0 rfl) ?_
        refine lv_beq (tgt := 166) hx hb dX7_carries_135 (by decide) (fun c_1 => ?_) (fun c_1 => ?_)
        · have hf := iq c_1 hf
          refine lv_iconst (v := (0 : Int32)) hx hb dX7_carries_166 (by decide) ?_
          refine lv_istore_n (lv' := [(1, .int (0 : Int32)), (2, .int (b2i t0_133)), (0, .ref m0), (3, .int v3_133)]) hx hb dX7_carries_167 rfl hl (by decide) rfl (fun ls hl => ?_)
          refine lv_iinc (v := (v3_133 + 1)) (lv' := [(3, .int (v3_133 + 1)), (1, .int (0 : Int32)), (2, .int (b2i t0_133)), (0, .ref m0)]) hx hb dX7_carries_168 hl (k := 3) rfl rfl (by decide) rfl (fun ls hl => ?_)
          refine lv_goto (tgt := 83) hx hb dX7_carries_171 (by decide) ?_
          exact ih83 t0_133 (v3_133 + 1) μ_133 _ _ ls hP hD hS (lv_sub hl [3, 2, 0] rfl) hf
        · have hf := ip c_1 hf
          refine lv_aload_n hx hb dX7_carries_138 rfl (lv_at hl 1 rfl) ?_
          refine lv_aload_n hx hb dX7_carries_139 rfl (lv_at hl 1 rfl) ?_
          refine va_get (v := .int (M_le μ_133)) (C := RX7) (T := TX7) (N := 13) hx hb hts fiX7_carries_X7 hown hE.1 hP 0 rfl rfl 10 (by decide) (hts _ flX7_carries_182) (fun _ h9 => h9) rfl dX7_carries_140 ?_
          refine lv_aload_n hx hb dX7_carries_143 rfl (lv_at hl 1 rfl) ?_
          refine va_get (v := .ref m1) (C := RX7) (T := TX7) (N := 13) hx hb hts fiX7_carries_X7 hown hE.1 hP 0 rfl rfl 0 (by decide) (hts _ flX7_carries_7) (fun _ h9 => h9) rfl dX7_carries_144 ?_
          refine lv_iconst (v := (0 : Int32)) hx hb dX7_carries_147 (by decide) ?_
          refine va_iald hx hb hE.1 hP 1 0 rfl rfl (vin (by decide)) dX7_carries_148 ?_
          refine lv_iconst (v := (1 : Int32)) hx hb dX7_carries_149 (by decide) ?_
          refine lv_isub hx hb dX7_carries_150 ?_
          refine lv_aload_n hx hb dX7_carries_151 rfl (lv_at hl 1 rfl) ?_
          refine va_get (v := .ref m4) (C := RX7) (T := TX7) (N := 13) hx hb hts fiX7_carries_X7 hown hE.1 hP 0 rfl rfl 5 (by decide) (hts _ flX7_carries_19) (fun _ h9 => h9) rfl dX7_carries_152 ?_
          refine lv_iload_n hx hb dX7_carries_155 rfl (lv_at hl 2 rfl) ?_
          obtain ⟨h_2, hf⟩ := ck hf
          refine va_iald hx hb hE.1 hP 4 0 rfl rfl (vin h_2) dX7_carries_156 ?_
          refine lv_bipush (v := (48 : Int32)) hx hb dX7_carries_157 (by decide) ?_
          refine lv_isub hx hb dX7_carries_159 ?_
          obtain ⟨r_3, e_3, hf⟩ := bo hf
          refine mcallVi (W0 := (wM g m0 m1 m2 m3 m4 μ_133)) (Wc := (wM g m0 m1 m2 m3 m4 μ_133)) (Wr := ([] : va_W)) (W1 := (wM g m0 m1 m2 m3 m4 r_3.2)) (W2 := (wM g m0 m1 m2 m3 m4 r_3.2)) (As := [.int (M_le μ_133), .int ((M_row μ_133 (Int32.toNatClampNeg (0 : Int32))) - (1 : Int32)), .int ((M_tx μ_133 (Int32.toNatClampNeg v3_133)) - (48 : Int32))]) (rest := []) [0, 1, 2, 3, 4] [] [0, 1, 2, 3, 4] 5 0 ⟨hx, hb, hml, hown, hts⟩ hP hD hE hZ hS hA (cX7_does_ok l g m0 m1 m2 m3 m4 μ_133 (M_le μ_133) ((M_row μ_133 (Int32.toNatClampNeg (0 : Int32))) - (1 : Int32)) ((M_tx μ_133 (Int32.toNatClampNeg v3_133)) - (48 : Int32)) _ e_3) (cwV 3 hts gX7_carries_X7_does rfl rfl rfl hdX7_does ⟨(Nat.le_of_ble_eq_true rfl), (Nat.le_of_ble_eq_true rfl)⟩) rfl rfl rfl (by decide) (by decide) (by decide) (by decide) rfl rfl rfl rfl hl.1 rfl (Nat.le_of_ble_eq_true rfl) ⟨(Nat.le_of_ble_eq_true rfl), (Nat.le_of_ble_eq_true rfl)⟩ dX7_carries_160 (fun H locs hP hD hS => ?_)
          refine lv_goto (tgt := 167) hx hb dX7_carries_163 (by decide) ?_
          refine lv_istore_n (lv' := [(1, .int r_3.1), (2, .int (b2i t0_133)), (0, .ref m0), (3, .int v3_133)]) hx hb dX7_carries_167 rfl hl (by decide) rfl (fun ls hl => ?_)
          refine lv_iinc (v := (v3_133 + 1)) (lv' := [(3, .int (v3_133 + 1)), (1, .int r_3.1), (2, .int (b2i t0_133)), (0, .ref m0)]) hx hb dX7_carries_168 hl (k := 3) rfl rfl (by decide) rfl (fun ls hl => ?_)
          refine lv_goto (tgt := 83) hx hb dX7_carries_171 (by decide) ?_
          exact ih83 t0_133 (v3_133 + 1) r_3.2 _ _ ls hP hD hS (lv_sub hl [3, 2, 0] rfl) hf
      intro v2_83 v3_83 μ_83 H locs ls hP hD hS hl hf
      rw [fX7_carries_83] at hf
      refine lv_iload_n hx hb dX7_carries_83 rfl (lv_at hl 2 rfl) ?_
      refine lv_aload_n hx hb dX7_carries_84 rfl (lv_at hl 0 rfl) ?_
      refine va_get (v := .int (M_f1 μ_83)) (C := RX7) (T := TX7) (N := 13) hx hb hts fiX7_carries_X7 hown hE.1 hP 0 rfl rfl 11 (by decide) (hts _ flX7_carries_185) (fun _ h9 => h9) rfl dX7_carries_85 ?_
      refine lv_aload_n hx hb dX7_carries_88 rfl (lv_at hl 0 rfl) ?_
      refine va_get (v := .int (M_f2 μ_83)) (C := RX7) (T := TX7) (N := 13) hx hb hts fiX7_carries_X7 hown hE.1 hP 0 rfl rfl 12 (by decide) (hts _ flX7_carries_188) (fun _ h9 => h9) rfl dX7_carries_89 ?_
      refine lv_iadd hx hb dX7_carries_92 ?_
      refine lv_icmp_ge (tgt := 174) hx hb dX7_carries_93 (by decide) (fun c_4 => ?_) (fun c_4 => ?_)
      · have hf := ip c_4 hf
        refine lv_iload_n hx hb dX7_carries_174 rfl (lv_at hl 1 rfl) ?_
        have ho := Option.some.inj hf
        subst ho
        exact m_zret (v := v2_83) hx hb hr hlocks hP hD hS rfl dX7_carries_175
      · have hf := iq c_4 hf
        refine lv_iload_n hx hb dX7_carries_96 rfl (lv_at hl 1 rfl) ?_
        refine lv_beq (tgt := 174) hx hb dX7_carries_97 (by decide) (fun c_5 => ?_) (fun c_5 => ?_)
        · have hf := iq c_5 hf
          refine lv_iload_n hx hb dX7_carries_174 rfl (lv_at hl 1 rfl) ?_
          have ho := Option.some.inj hf
          subst ho
          exact m_zret (v := v2_83) hx hb hr hlocks hP hD hS rfl dX7_carries_175
        · have hf := ip c_5 hf
          refine lv_aload_n hx hb dX7_carries_100 rfl (lv_at hl 0 rfl) ?_
          refine lv_aload_n hx hb dX7_carries_101 rfl (lv_at hl 0 rfl) ?_
          refine va_get (v := .int (M_le μ_83)) (C := RX7) (T := TX7) (N := 13) hx hb hts fiX7_carries_X7 hown hE.1 hP 0 rfl rfl 10 (by decide) (hts _ flX7_carries_182) (fun _ h9 => h9) rfl dX7_carries_102 ?_
          refine lv_aload_n hx hb dX7_carries_105 rfl (lv_at hl 0 rfl) ?_
          refine va_get (v := .ref m1) (C := RX7) (T := TX7) (N := 13) hx hb hts fiX7_carries_X7 hown hE.1 hP 0 rfl rfl 0 (by decide) (hts _ flX7_carries_7) (fun _ h9 => h9) rfl dX7_carries_106 ?_
          refine lv_iconst (v := (0 : Int32)) hx hb dX7_carries_109 (by decide) ?_
          refine va_iald hx hb hE.1 hP 1 0 rfl rfl (vin (by decide)) dX7_carries_110 ?_
          refine lv_iconst (v := (1 : Int32)) hx hb dX7_carries_111 (by decide) ?_
          refine lv_isub hx hb dX7_carries_112 ?_
          refine lv_aload_n hx hb dX7_carries_113 rfl (lv_at hl 0 rfl) ?_
          refine va_get (v := .ref m4) (C := RX7) (T := TX7) (N := 13) hx hb hts fiX7_carries_X7 hown hE.1 hP 0 rfl rfl 5 (by decide) (hts _ flX7_carries_19) (fun _ h9 => h9) rfl dX7_carries_114 ?_
          refine lv_iload_n hx hb dX7_carries_117 rfl (lv_at hl 2 rfl) ?_
          obtain ⟨h_6, hf⟩ := ck hf
          refine va_iald hx hb hE.1 hP 4 0 rfl rfl (vin h_6) dX7_carries_118 ?_
          refine lv_bipush (v := (48 : Int32)) hx hb dX7_carries_119 (by decide) ?_
          refine lv_isub hx hb dX7_carries_121 ?_
          obtain ⟨r_7, e_7, hf⟩ := bo hf
          refine pcallV (W0 := (wM g m0 m1 m2 m3 m4 μ_83)) (As := [.int (M_le μ_83), .int ((M_row μ_83 (Int32.toNatClampNeg (0 : Int32))) - (1 : Int32)), .int ((M_tx μ_83 (Int32.toNatClampNeg v3_83)) - (48 : Int32))]) (rest := []) [0, 1, 2, 3, 4] 5 0 ⟨hx, hb, hml, hown, hts⟩ hP hE hZ hS (cX7_refusal_ok l g m0 m1 m2 m3 m4 μ_83 (M_le μ_83) ((M_row μ_83 (Int32.toNatClampNeg (0 : Int32))) - (1 : Int32)) ((M_tx μ_83 (Int32.toNatClampNeg v3_83)) - (48 : Int32)) e_7) (cwV 3 hts gX7_carries_X7_refusal rfl rfl rfl hdX7_refusal ⟨(Nat.le_of_ble_eq_true rfl), (Nat.le_of_ble_eq_true rfl)⟩) rfl rfl rfl rfl rfl hl.1 rfl (Nat.le_of_ble_eq_true rfl) ⟨(Nat.le_of_ble_eq_true rfl), (Nat.le_of_ble_eq_true rfl)⟩ dX7_carries_122 ?_
          refine lv_if_ne (tgt := 132) hx hb dX7_carries_125 (by decide) (fun c_8 => ?_) (fun c_8 => ?_)
          · have hf := iq c_8 hf
            refine lv_iconst (v := (0 : Int32)) hx hb dX7_carries_132 (by decide) ?_
            exact hB133 v3_83 false μ_83 _ _ ls hP hD hS (lv_sub hl [0, 2] rfl) hf
          · have hf := ip c_8 hf
            refine lv_iconst (v := (1 : Int32)) hx hb dX7_carries_128 (by decide) ?_
            refine lv_goto (tgt := 133) hx hb dX7_carries_129 (by decide) ?_
            exact hB133 v3_83 true μ_83 _ _ ls hP hD hS (lv_sub hl [0, 2] rfl) hf
  have hB35 : ∀ (t0_35 : Bool) (μ_35 : Mo) (H : Heap) (locs : List Loc) (ls : Array Slot), va_P g.1 vwCl (wM g m0 m1 m2 m3 m4 μ_35) H → va_D A (wM g m0 m1 m2 m3 m4 μ_35) → va_S A s.heap H locs → lv_has ls 4 [(0, .ref m0)] → fX7_carries_35 t0_35 μ_35 = some o → W p l e (headSpec wsX7_carries rmX7_carries).room s m ([.ref m0] : List Value).toArray below meth c H locs 0 0 (MQ below (va_Qi (fun r' (_ : Unit) => r' = b2i o.1) (fun _ t => PQ g (wM g m0 m1 m2 m3 m4 o.2) A t) A) ([.ref m0] : List Value).toArray s 0 0 A) (F0 m 35 ls [.int (b2i t0_35)]) := by
    intro  t0_35 μ_35 H locs ls hP hD hS hl hf
    unfold fX7_carries_35 at hf
    refine lv_istore_n (lv' := [(2, .int (b2i t0_35)), (0, .ref m0)]) hx hb dX7_carries_35 rfl hl (by decide) rfl (fun ls hl => ?_)
    refine lv_iload_n hx hb dX7_carries_36 rfl (lv_at hl 0 rfl) ?_
    refine lv_beq (tgt := 59) hx hb dX7_carries_37 (by decide) (fun c_9 => ?_) (fun c_9 => ?_)
    · have hf := iq c_9 hf
      refine lv_iconst (v := (0 : Int32)) hx hb dX7_carries_59 (by decide) ?_
      refine lv_istore_n (lv' := [(1, .int (0 : Int32)), (2, .int (b2i t0_35)), (0, .ref m0)]) hx hb dX7_carries_60 rfl hl (by decide) rfl (fun ls hl => ?_)
      refine lv_iload_n hx hb dX7_carries_61 rfl (lv_at hl 1 rfl) ?_
      have ho := Option.some.inj hf
      subst ho
      exact m_zret (v := t0_35) hx hb hr hlocks hP hD hS rfl dX7_carries_62
    · have hf := ip c_9 hf
      refine lv_aload_n hx hb dX7_carries_40 rfl (lv_at hl 1 rfl) ?_
      refine lv_aload_n hx hb dX7_carries_41 rfl (lv_at hl 1 rfl) ?_
      refine va_get (v := .int (M_le μ_35)) (C := RX7) (T := TX7) (N := 13) hx hb hts fiX7_carries_X7 hown hE.1 hP 0 rfl rfl 10 (by decide) (hts _ flX7_carries_182) (fun _ h9 => h9) rfl dX7_carries_42 ?_
      refine lv_aload_n hx hb dX7_carries_45 rfl (lv_at hl 1 rfl) ?_
      refine va_get (v := .int (M_f1 μ_35)) (C := RX7) (T := TX7) (N := 13) hx hb hts fiX7_carries_X7 hown hE.1 hP 0 rfl rfl 11 (by decide) (hts _ flX7_carries_185) (fun _ h9 => h9) rfl dX7_carries_46 ?_
      refine lv_aload_n hx hb dX7_carries_49 rfl (lv_at hl 1 rfl) ?_
      refine va_get (v := .int (M_f2 μ_35)) (C := RX7) (T := TX7) (N := 13) hx hb hts fiX7_carries_X7 hown hE.1 hP 0 rfl rfl 12 (by decide) (hts _ flX7_carries_188) (fun _ h9 => h9) rfl dX7_carries_50 ?_
      obtain ⟨r_10, e_10, hf⟩ := bo hf
      refine mcallVi (W0 := (wM g m0 m1 m2 m3 m4 μ_35)) (Wc := (wM g m0 m1 m2 m3 m4 μ_35)) (Wr := ([] : va_W)) (W1 := (wM g m0 m1 m2 m3 m4 r_10.2)) (W2 := (wM g m0 m1 m2 m3 m4 r_10.2)) (As := [.int (M_le μ_35), .int (M_f1 μ_35), .int (M_f2 μ_35)]) (rest := []) [0, 1, 2, 3, 4] [] [0, 1, 2, 3, 4] 5 0 ⟨hx, hb, hml, hown, hts⟩ hP hD hE hZ hS hA (cX7_does_ok l g m0 m1 m2 m3 m4 μ_35 (M_le μ_35) (M_f1 μ_35) (M_f2 μ_35) _ e_10) (cwV 3 hts gX7_carries_X7_does rfl rfl rfl hdX7_does ⟨(Nat.le_of_ble_eq_true rfl), (Nat.le_of_ble_eq_true rfl)⟩) rfl rfl rfl (by decide) (by decide) (by decide) (by decide) rfl rfl rfl rfl hl.1 rfl (Nat.le_of_ble_eq_true rfl) ⟨(Nat.le_of_ble_eq_true rfl), (Nat.le_of_ble_eq_true rfl)⟩ dX7_carries_53 (fun H locs hP hD hS => ?_)
      refine lv_goto (tgt := 60) hx hb dX7_carries_56 (by decide) ?_
      refine lv_istore_n (lv' := [(1, .int r_10.1), (2, .int (b2i t0_35)), (0, .ref m0)]) hx hb dX7_carries_60 rfl hl (by decide) rfl (fun ls hl => ?_)
      refine lv_iload_n hx hb dX7_carries_61 rfl (lv_at hl 1 rfl) ?_
      have ho := Option.some.inj hf
      subst ho
      exact m_zret (v := t0_35) hx hb hr hlocks hP hD hS rfl dX7_carries_62
  unfold fX7_carries at hf
  refine lv_iconst (v := (0 : Int32)) hx hb dX7_carries_0 (by decide) ?_
  refine lv_istore_n (lv' := [(1, .int (0 : Int32)), (0, .ref m0)]) hx hb dX7_carries_1 rfl hl (by decide) rfl (fun ls hl => ?_)
  refine lv_aload_n hx hb dX7_carries_2 rfl (lv_at hl 1 rfl) ?_
  refine va_get (v := .int (M_le μ)) (C := RX7) (T := TX7) (N := 13) hx hb hts fiX7_carries_X7 hown hE.1 hP 0 rfl rfl 10 (by decide) (hts _ flX7_carries_182) (fun _ h9 => h9) rfl dX7_carries_3 ?_
  refine lv_bipush (v := (115 : Int32)) hx hb dX7_carries_6 (by decide) ?_
  refine lv_icmp_eq (tgt := 63) hx hb dX7_carries_8 (by decide) (fun c_11 => ?_) (fun c_11 => ?_)
  · have hf := ip c_11 hf
    refine lv_aload_n hx hb dX7_carries_63 rfl (lv_at hl 1 rfl) ?_
    refine va_get (v := .ref m1) (C := RX7) (T := TX7) (N := 13) hx hb hts fiX7_carries_X7 hown hE.1 hP 0 rfl rfl 0 (by decide) (hts _ flX7_carries_7) (fun _ h9 => h9) rfl dX7_carries_64 ?_
    refine lv_iconst (v := (0 : Int32)) hx hb dX7_carries_67 (by decide) ?_
    refine va_iald hx hb hE.1 hP 1 0 rfl rfl (vin (by decide)) dX7_carries_68 ?_
    refine lv_if_le (tgt := 76) hx hb dX7_carries_69 (by decide) (fun c_12 => ?_) (fun c_12 => ?_)
    · have hf := ip c_12 hf
      refine lv_iconst (v := (0 : Int32)) hx hb dX7_carries_76 (by decide) ?_
      refine lv_istore_n (lv' := [(2, .int (0 : Int32)), (1, .int (0 : Int32)), (0, .ref m0)]) hx hb dX7_carries_77 rfl hl (by decide) rfl (fun ls hl => ?_)
      refine lv_aload_n hx hb dX7_carries_78 rfl (lv_at hl 2 rfl) ?_
      refine va_get (v := .int (M_f1 μ)) (C := RX7) (T := TX7) (N := 13) hx hb hts fiX7_carries_X7 hown hE.1 hP 0 rfl rfl 11 (by decide) (hts _ flX7_carries_185) (fun _ h9 => h9) rfl dX7_carries_79 ?_
      refine lv_istore_n (lv' := [(3, .int (M_f1 μ)), (2, .int (0 : Int32)), (1, .int (0 : Int32)), (0, .ref m0)]) hx hb dX7_carries_82 rfl hl (by decide) rfl (fun ls hl => ?_)
      exact hB83 FU false (M_f1 μ) μ _ _ ls hP hD hS (lv_sub hl [3, 1, 0] rfl) hf
    · have hf := iq c_12 hf
      refine lv_iconst (v := (1 : Int32)) hx hb dX7_carries_72 (by decide) ?_
      refine lv_goto (tgt := 77) hx hb dX7_carries_73 (by decide) ?_
      refine lv_istore_n (lv' := [(2, .int (1 : Int32)), (1, .int (0 : Int32)), (0, .ref m0)]) hx hb dX7_carries_77 rfl hl (by decide) rfl (fun ls hl => ?_)
      refine lv_aload_n hx hb dX7_carries_78 rfl (lv_at hl 2 rfl) ?_
      refine va_get (v := .int (M_f1 μ)) (C := RX7) (T := TX7) (N := 13) hx hb hts fiX7_carries_X7 hown hE.1 hP 0 rfl rfl 11 (by decide) (hts _ flX7_carries_185) (fun _ h9 => h9) rfl dX7_carries_79 ?_
      refine lv_istore_n (lv' := [(3, .int (M_f1 μ)), (2, .int (1 : Int32)), (1, .int (0 : Int32)), (0, .ref m0)]) hx hb dX7_carries_82 rfl hl (by decide) rfl (fun ls hl => ?_)
      exact hB83 FU true (M_f1 μ) μ _ _ ls hP hD hS (lv_sub hl [3, 1, 0] rfl) hf
  · have hf := iq c_11 hf
    refine lv_aload_n hx hb dX7_carries_11 rfl (lv_at hl 1 rfl) ?_
    refine lv_aload_n hx hb dX7_carries_12 rfl (lv_at hl 1 rfl) ?_
    refine va_get (v := .int (M_le μ)) (C := RX7) (T := TX7) (N := 13) hx hb hts fiX7_carries_X7 hown hE.1 hP 0 rfl rfl 10 (by decide) (hts _ flX7_carries_182) (fun _ h9 => h9) rfl dX7_carries_13 ?_
    refine lv_aload_n hx hb dX7_carries_16 rfl (lv_at hl 1 rfl) ?_
    refine va_get (v := .int (M_f1 μ)) (C := RX7) (T := TX7) (N := 13) hx hb hts fiX7_carries_X7 hown hE.1 hP 0 rfl rfl 11 (by decide) (hts _ flX7_carries_185) (fun _ h9 => h9) rfl dX7_carries_17 ?_
    refine lv_aload_n hx hb dX7_carries_20 rfl (lv_at hl 1 rfl) ?_
    refine va_get (v := .int (M_f2 μ)) (C := RX7) (T := TX7) (N := 13) hx hb hts fiX7_carries_X7 hown hE.1 hP 0 rfl rfl 12 (by decide) (hts _ flX7_carries_188) (fun _ h9 => h9) rfl dX7_carries_21 ?_
    obtain ⟨r_13, e_13, hf⟩ := bo hf
    refine pcallV (W0 := (wM g m0 m1 m2 m3 m4 μ)) (As := [.int (M_le μ), .int (M_f1 μ), .int (M_f2 μ)]) (rest := []) [0, 1, 2, 3, 4] 5 0 ⟨hx, hb, hml, hown, hts⟩ hP hE hZ hS (cX7_refusal_ok l g m0 m1 m2 m3 m4 μ (M_le μ) (M_f1 μ) (M_f2 μ) e_13) (cwV 3 hts gX7_carries_X7_refusal rfl rfl rfl hdX7_refusal ⟨(Nat.le_of_ble_eq_true rfl), (Nat.le_of_ble_eq_true rfl)⟩) rfl rfl rfl rfl rfl hl.1 rfl (Nat.le_of_ble_eq_true rfl) ⟨(Nat.le_of_ble_eq_true rfl), (Nat.le_of_ble_eq_true rfl)⟩ dX7_carries_24 ?_
    refine lv_if_ne (tgt := 34) hx hb dX7_carries_27 (by decide) (fun c_14 => ?_) (fun c_14 => ?_)
    · have hf := iq c_14 hf
      refine lv_iconst (v := (0 : Int32)) hx hb dX7_carries_34 (by decide) ?_
      exact hB35 false μ _ _ ls hP hD hS (lv_sub hl [1] rfl) hf
    · have hf := ip c_14 hf
      refine lv_iconst (v := (1 : Int32)) hx hb dX7_carries_30 (by decide) ?_
      refine lv_goto (tgt := 35) hx hb dX7_carries_31 (by decide) ?_
      exact hB35 true μ _ _ ls hP hD hS (lv_sub hl [1] rfl) hf

def fX7_runText_31  : Nat → Int32 → Bool → Mo → Option (Int32 × Mo)
  | 0, _, _, _ => none
  | n + 1, v1_31, v2_31, μ_31 => (if v2_31 = true then (if (M_len μ_31) ≤ (M_sp μ_31) then (some (v1_31, μ_31)) else ((fX7_reads μ_31).bind fun r_3 => ((fX7_carries (M_sp' r_3 ((M_sp r_3) + (1 : Int32)))).bind fun r_4 => (if r_4.1 = true then fX7_runText_31 n (v1_31 + (1 : Int32)) r_4.1 r_4.2 else fX7_runText_31 n (v1_31 + (0 : Int32)) r_4.1 r_4.2)))) else (some (v1_31, μ_31)))
def fX7_runText (μ : Mo) : Option (Int32 × Mo) := ((fX7_isText (M_th' μ (0 : Int32))).bind fun r_6 => (if r_6.1 = true then ((fX7_records r_6.2).bind fun r_8 => fX7_runText_31 FU (0 : Int32) true (M_sp' r_8 (0 : Int32))) else ((fX7_fails r_6.2 (1 : Int32)).bind fun r_9 => (some (r_9.1, r_9.2)))))
abbrev rmX7_runText : Room := { frames := 12, cells := 0, slots := 0, locals := 277 }
theorem hdX7_runText : yX7_runText.cls = RX7 ∧ yX7_runText.cls ≠ "java/lang/invoke/MethodHandle" ∧ yX7_runText.cls ≠ "java/lang/invoke/VarHandle" ∧ (parseMethodDescriptor yX7_runText.desc).map (fun d => d.parameters.length) = some 0 := by decide +kernel
theorem fiX7_runText_X7 : ∀ w ∈ wsX70, w ∈ wsX7_runText := by decide +kernel
theorem flX7_runText_172 : (.fieldLink RX7 172 "ContourLabelsModel" "spot" "I" : Cond) ∈ wsX7_runText := by decide +kernel
theorem flX7_runText_169 : (.fieldLink RX7 169 "ContourLabelsModel" "length" "I" : Cond) ∈ wsX7_runText := by decide +kernel
theorem flX7_runText_22 : (.fieldLink RX7 22 "ContourLabelsModel" "thrown" "I" : Cond) ∈ wsX7_runText := by decide +kernel
set_option maxHeartbeats 4000000 in
set_option maxRecDepth 100000 in
theorem cX7_runText_ok (l : Launch) (g : Gg) (m0 m1 m2 m3 m4 : Nat) (μ : Mo) (sz : Nat) {o : Int32 × Mo} (hf : fX7_runText μ = some o) : Met l yX7_runText wsX7_runText rmX7_runText (va_Pc [.ref m0] (PM g (wM g m0 m1 m2 m3 m4 μ) sz)) (va_Qi (fun r' (_ : Unit) => r' = o.1) (fun _ t => PQ g (wM g m0 m1 m2 m3 m4 o.2) (va_A (wM g m0 m1 m2 m3 m4 μ) sz) t) (va_A (wM g m0 m1 m2 m3 m4 μ) sz)) 0 0 (va_A (wM g m0 m1 m2 m3 m4 μ) sz) := by
  refine Met.ofW (cc := cX7_runText) (maxL := 3) (ret := (some .int)) (by decide) rfl ?_
  intro p e s m args below meth c s₁ B hml hv
  obtain ⟨rfl, rfl, hP, hD0, hE, hZ⟩ := hv
  have hx := B.exec
  have hb := B.bytes
  have hr := B.returns
  have hts := atoms_spec (ws := wsX7_runText) B.pre
  have hown : s.vm.findClass RX7 = some m.cls := findClass_of_methodNamed B.named
  have hlocks := B.notSynchronized
  have hD := hD0.self (sz := s.heap.size)
  generalize hAe : (va_A (wM g m0 m1 m2 m3 m4 μ) s.heap.size) = A at hD hZ ⊢
  have hA : ∀ q : Nat, s.heap.size ≤ q → A q := fun q h => by rw [← hAe]; exact Or.inr h
  have hS : va_S A s.heap s.heap [] := va_S.rf
  have hP : va_P g.1 vwCl (wM g m0 m1 m2 m3 m4 μ) s.heap := hP
  have hl := lv_entry ([.ref m0]) (n := 3) (Nat.le_of_ble_eq_true rfl)
  rw [lg_entry_eq]
  generalize (lg_sl ([.ref m0]) ++ List.replicate (3 - (lg_sl ([.ref m0])).length) Slot.unset).toArray = ls at hl ⊢
  have hl : lv_has ls 3 [(0, .ref m0)] := hl
  have hB31 : ∀ (n31 : Nat) (v1_31 : Int32) (v2_31 : Bool) (μ_31 : Mo) (H : Heap) (locs : List Loc) (ls : Array Slot), va_P g.1 vwCl (wM g m0 m1 m2 m3 m4 μ_31) H → va_D A (wM g m0 m1 m2 m3 m4 μ_31) → va_S A s.heap H locs → lv_has ls 3 [(0, .ref m0), (1, .int v1_31), (2, .int (b2i v2_31))] → fX7_runText_31 n31 v1_31 v2_31 μ_31 = some o → W p l e (headSpec wsX7_runText rmX7_runText).room s m ([.ref m0] : List Value).toArray below meth c H locs 0 0 (MQ below (va_Qi (fun r' (_ : Unit) => r' = o.1) (fun _ t => PQ g (wM g m0 m1 m2 m3 m4 o.2) A t) A) ([.ref m0] : List Value).toArray s 0 0 A) (F0 m 31 ls []) := by
    intro  n31
    induction n31 with
    | zero => intro v1_31 v2_31 μ_31 H locs ls hP hD hS hl hf; exact nomatch (show (none : Option (Int32 × Mo)) = some _ from hf)
    | succ n31 ih31 =>
      intro v1_31 v2_31 μ_31 H locs ls hP hD hS hl hf
      rw [fX7_runText_31] at hf
      refine lv_iload_n hx hb dX7_runText_31 rfl (lv_at hl 2 rfl) ?_
      refine lv_beq (tgt := 80) hx hb dX7_runText_32 (by decide) (fun c_1 => ?_) (fun c_1 => ?_)
      · have hf := iq c_1 hf
        refine lv_iload_n hx hb dX7_runText_80 rfl (lv_at hl 1 rfl) ?_
        have ho := Option.some.inj hf
        subst ho
        exact m_iret (v := v1_31) hx hb hr hlocks hP hD hS rfl dX7_runText_81
      · have hf := ip c_1 hf
        refine lv_aload_n hx hb dX7_runText_35 rfl (lv_at hl 0 rfl) ?_
        refine va_get (v := .int (M_sp μ_31)) (C := RX7) (T := TX7) (N := 13) hx hb hts fiX7_runText_X7 hown hE.1 hP 0 rfl rfl 8 (by decide) (hts _ flX7_runText_172) (fun _ h9 => h9) rfl dX7_runText_36 ?_
        refine lv_aload_n hx hb dX7_runText_39 rfl (lv_at hl 0 rfl) ?_
        refine va_get (v := .int (M_len μ_31)) (C := RX7) (T := TX7) (N := 13) hx hb hts fiX7_runText_X7 hown hE.1 hP 0 rfl rfl 6 (by decide) (hts _ flX7_runText_169) (fun _ h9 => h9) rfl dX7_runText_40 ?_
        refine lv_icmp_ge (tgt := 80) hx hb dX7_runText_43 (by decide) (fun c_2 => ?_) (fun c_2 => ?_)
        · have hf := ip c_2 hf
          refine lv_iload_n hx hb dX7_runText_80 rfl (lv_at hl 1 rfl) ?_
          have ho := Option.some.inj hf
          subst ho
          exact m_iret (v := v1_31) hx hb hr hlocks hP hD hS rfl dX7_runText_81
        · have hf := iq c_2 hf
          refine lv_aload_n hx hb dX7_runText_46 rfl (lv_at hl 0 rfl) ?_
          obtain ⟨r_3, e_3, hf⟩ := bo hf
          refine mcallVv (W0 := (wM g m0 m1 m2 m3 m4 μ_31)) (Wc := (wM g m0 m1 m2 m3 m4 μ_31)) (Wr := ([] : va_W)) (W1 := (wM g m0 m1 m2 m3 m4 r_3)) (W2 := (wM g m0 m1 m2 m3 m4 r_3)) (As := []) (rest := []) [0, 1, 2, 3, 4] [] [0, 1, 2, 3, 4] 5 0 ⟨hx, hb, hml, hown, hts⟩ hP hD hE hZ hS hA (cX7_reads_ok l g m0 m1 m2 m3 m4 μ_31 _ e_3) (cwV 0 hts gX7_runText_X7_reads rfl rfl rfl hdX7_reads ⟨(Nat.le_of_ble_eq_true rfl), (Nat.le_of_ble_eq_true rfl)⟩) rfl rfl rfl (by decide) (by decide) (by decide) (by decide) rfl rfl rfl rfl hl.1 rfl (Nat.le_of_ble_eq_true rfl) ⟨(Nat.le_of_ble_eq_true rfl), (Nat.le_of_ble_eq_true rfl)⟩ dX7_runText_47 (fun H locs hP hD hS => ?_)
          refine lv_aload_n hx hb dX7_runText_50 rfl (lv_at hl 0 rfl) ?_
          refine lv_dup hx hb dX7_runText_51 rfl ?_
          refine va_get (v := .int (M_sp r_3)) (C := RX7) (T := TX7) (N := 13) hx hb hts fiX7_runText_X7 hown hE.1 hP 0 rfl rfl 8 (by decide) (hts _ flX7_runText_172) (fun _ h9 => h9) rfl dX7_runText_52 ?_
          refine lv_iconst (v := (1 : Int32)) hx hb dX7_runText_55 (by decide) ?_
          refine lv_iadd hx hb dX7_runText_56 ?_
          refine va_put (v := .int ((M_sp r_3) + (1 : Int32))) (ty := .int) (C := RX7) (T := TX7) (N := 13) hx hb hts fiX7_runText_X7 tyX7 tyX7_ok nmX7 hown hE.1 hP hD hS 0 rfl rfl 8 (by decide) (hts _ flX7_runText_172) (fun _ h9 => h9) rfl (by decide +kernel) rfl rfl (Nat.le_of_ble_eq_true rfl) dX7_runText_57 (fun H locs hP hD hS => ?_)
          have hP : va_P g.1 vwCl (wM g m0 m1 m2 m3 m4 (M_sp' r_3 ((M_sp r_3) + (1 : Int32)))) H := hP
          have hD : va_D A (wM g m0 m1 m2 m3 m4 (M_sp' r_3 ((M_sp r_3) + (1 : Int32)))) := hD
          refine lv_aload_n hx hb dX7_runText_60 rfl (lv_at hl 0 rfl) ?_
          obtain ⟨r_4, e_4, hf⟩ := bo hf
          refine mcallVi (W0 := (wM g m0 m1 m2 m3 m4 (M_sp' r_3 ((M_sp r_3) + (1 : Int32))))) (Wc := (wM g m0 m1 m2 m3 m4 (M_sp' r_3 ((M_sp r_3) + (1 : Int32))))) (Wr := ([] : va_W)) (W1 := (wM g m0 m1 m2 m3 m4 r_4.2)) (W2 := (wM g m0 m1 m2 m3 m4 r_4.2)) (As := []) (rest := []) [0, 1, 2, 3, 4] [] [0, 1, 2, 3, 4] 5 0 ⟨hx, hb, hml, hown, hts⟩ hP hD hE hZ hS hA (cX7_carries_ok l g m0 m1 m2 m3 m4 (M_sp' r_3 ((M_sp r_3) + (1 : Int32))) _ e_4) (cwV 0 hts gX7_runText_X7_carries rfl rfl rfl hdX7_carries ⟨(Nat.le_of_ble_eq_true rfl), (Nat.le_of_ble_eq_true rfl)⟩) rfl rfl rfl (by decide) (by decide) (by decide) (by decide) rfl rfl rfl rfl hl.1 rfl (Nat.le_of_ble_eq_true rfl) ⟨(Nat.le_of_ble_eq_true rfl), (Nat.le_of_ble_eq_true rfl)⟩ dX7_runText_61 (fun H locs hP hD hS => ?_)
          refine lv_istore_n (lv' := [(2, .int (b2i r_4.1)), (0, .ref m0), (1, .int v1_31)]) hx hb dX7_runText_64 rfl hl (by decide) rfl (fun ls hl => ?_)
          refine lv_iload_n hx hb dX7_runText_65 rfl (lv_at hl 2 rfl) ?_
          refine lv_iload_n hx hb dX7_runText_66 rfl (lv_at hl 0 rfl) ?_
          refine lv_beq (tgt := 74) hx hb dX7_runText_67 (by decide) (fun c_5 => ?_) (fun c_5 => ?_)
          · have hf := iq c_5 hf
            refine lv_iconst (v := (0 : Int32)) hx hb dX7_runText_74 (by decide) ?_
            refine lv_iadd hx hb dX7_runText_75 ?_
            refine lv_istore_n (lv' := [(1, .int (v1_31 + (0 : Int32))), (2, .int (b2i r_4.1)), (0, .ref m0)]) hx hb dX7_runText_76 rfl hl (by decide) rfl (fun ls hl => ?_)
            refine lv_goto (tgt := 31) hx hb dX7_runText_77 (by decide) ?_
            exact ih31 (v1_31 + (0 : Int32)) r_4.1 r_4.2 _ _ ls hP hD hS (lv_sub hl [2, 0, 1] rfl) hf
          · have hf := ip c_5 hf
            refine lv_iconst (v := (1 : Int32)) hx hb dX7_runText_70 (by decide) ?_
            refine lv_goto (tgt := 75) hx hb dX7_runText_71 (by decide) ?_
            refine lv_iadd hx hb dX7_runText_75 ?_
            refine lv_istore_n (lv' := [(1, .int (v1_31 + (1 : Int32))), (2, .int (b2i r_4.1)), (0, .ref m0)]) hx hb dX7_runText_76 rfl hl (by decide) rfl (fun ls hl => ?_)
            refine lv_goto (tgt := 31) hx hb dX7_runText_77 (by decide) ?_
            exact ih31 (v1_31 + (1 : Int32)) r_4.1 r_4.2 _ _ ls hP hD hS (lv_sub hl [2, 0, 1] rfl) hf
  unfold fX7_runText at hf
  refine lv_aload_n hx hb dX7_runText_0 rfl (lv_at hl 0 rfl) ?_
  refine lv_iconst (v := (0 : Int32)) hx hb dX7_runText_1 (by decide) ?_
  refine va_put (v := .int (0 : Int32)) (ty := .int) (C := RX7) (T := TX7) (N := 13) hx hb hts fiX7_runText_X7 tyX7 tyX7_ok nmX7 hown hE.1 hP hD hS 0 rfl rfl 7 (by decide) (hts _ flX7_runText_22) (fun _ h9 => h9) rfl (by decide +kernel) rfl rfl (Nat.le_of_ble_eq_true rfl) dX7_runText_2 (fun H locs hP hD hS => ?_)
  have hP : va_P g.1 vwCl (wM g m0 m1 m2 m3 m4 (M_th' μ (0 : Int32))) H := hP
  have hD : va_D A (wM g m0 m1 m2 m3 m4 (M_th' μ (0 : Int32))) := hD
  refine lv_aload_n hx hb dX7_runText_5 rfl (lv_at hl 0 rfl) ?_
  obtain ⟨r_6, e_6, hf⟩ := bo hf
  refine mcallVi (W0 := (wM g m0 m1 m2 m3 m4 (M_th' μ (0 : Int32)))) (Wc := (wM g m0 m1 m2 m3 m4 (M_th' μ (0 : Int32)))) (Wr := ([] : va_W)) (W1 := (wM g m0 m1 m2 m3 m4 r_6.2)) (W2 := (wM g m0 m1 m2 m3 m4 r_6.2)) (As := []) (rest := []) [0, 1, 2, 3, 4] [] [0, 1, 2, 3, 4] 5 0 ⟨hx, hb, hml, hown, hts⟩ hP hD hE hZ hS hA (cX7_isText_ok l g m0 m1 m2 m3 m4 (M_th' μ (0 : Int32)) _ e_6) (cwV 0 hts gX7_runText_X7_isText rfl rfl rfl hdX7_isText ⟨(Nat.le_of_ble_eq_true rfl), (Nat.le_of_ble_eq_true rfl)⟩) rfl rfl rfl (by decide) (by decide) (by decide) (by decide) rfl rfl rfl rfl hl.1 rfl (Nat.le_of_ble_eq_true rfl) ⟨(Nat.le_of_ble_eq_true rfl), (Nat.le_of_ble_eq_true rfl)⟩ dX7_runText_6 (fun H locs hP hD hS => ?_)
  refine lv_bne (tgt := 18) hx hb dX7_runText_9 (by decide) (fun c_7 => ?_) (fun c_7 => ?_)
  · have hf := ip c_7 hf
    refine lv_aload_n hx hb dX7_runText_18 rfl (lv_at hl 0 rfl) ?_
    obtain ⟨r_8, e_8, hf⟩ := bo hf
    refine mcallVv (W0 := (wM g m0 m1 m2 m3 m4 r_6.2)) (Wc := (wM g m0 m1 m2 m3 m4 r_6.2)) (Wr := ([] : va_W)) (W1 := (wM g m0 m1 m2 m3 m4 r_8)) (W2 := (wM g m0 m1 m2 m3 m4 r_8)) (As := []) (rest := []) [0, 1, 2, 3, 4] [] [0, 1, 2, 3, 4] 5 0 ⟨hx, hb, hml, hown, hts⟩ hP hD hE hZ hS hA (cX7_records_ok l g m0 m1 m2 m3 m4 r_6.2 _ e_8) (cwV 0 hts gX7_runText_X7_records rfl rfl rfl hdX7_records ⟨(Nat.le_of_ble_eq_true rfl), (Nat.le_of_ble_eq_true rfl)⟩) rfl rfl rfl (by decide) (by decide) (by decide) (by decide) rfl rfl rfl rfl hl.1 rfl (Nat.le_of_ble_eq_true rfl) ⟨(Nat.le_of_ble_eq_true rfl), (Nat.le_of_ble_eq_true rfl)⟩ dX7_runText_19 (fun H locs hP hD hS => ?_)
    refine lv_iconst (v := (0 : Int32)) hx hb dX7_runText_22 (by decide) ?_
    refine lv_istore_n (lv' := [(1, .int (0 : Int32)), (0, .ref m0)]) hx hb dX7_runText_23 rfl hl (by decide) rfl (fun ls hl => ?_)
    refine lv_iconst (v := (1 : Int32)) hx hb dX7_runText_24 (by decide) ?_
    refine lv_istore_n (lv' := [(2, .int (1 : Int32)), (1, .int (0 : Int32)), (0, .ref m0)]) hx hb dX7_runText_25 rfl hl (by decide) rfl (fun ls hl => ?_)
    refine lv_aload_n hx hb dX7_runText_26 rfl (lv_at hl 2 rfl) ?_
    refine lv_iconst (v := (0 : Int32)) hx hb dX7_runText_27 (by decide) ?_
    refine va_put (v := .int (0 : Int32)) (ty := .int) (C := RX7) (T := TX7) (N := 13) hx hb hts fiX7_runText_X7 tyX7 tyX7_ok nmX7 hown hE.1 hP hD hS 0 rfl rfl 8 (by decide) (hts _ flX7_runText_172) (fun _ h9 => h9) rfl (by decide +kernel) rfl rfl (Nat.le_of_ble_eq_true rfl) dX7_runText_28 (fun H locs hP hD hS => ?_)
    have hP : va_P g.1 vwCl (wM g m0 m1 m2 m3 m4 (M_sp' r_8 (0 : Int32))) H := hP
    have hD : va_D A (wM g m0 m1 m2 m3 m4 (M_sp' r_8 (0 : Int32))) := hD
    exact hB31 FU (0 : Int32) true (M_sp' r_8 (0 : Int32)) _ _ ls hP hD hS (lv_sub hl [2, 1, 0] rfl) hf
  · have hf := iq c_7 hf
    refine lv_aload_n hx hb dX7_runText_12 rfl (lv_at hl 0 rfl) ?_
    refine lv_iconst (v := (1 : Int32)) hx hb dX7_runText_13 (by decide) ?_
    obtain ⟨r_9, e_9, hf⟩ := bo hf
    refine mcallVi (W0 := (wM g m0 m1 m2 m3 m4 r_6.2)) (Wc := (wM g m0 m1 m2 m3 m4 r_6.2)) (Wr := ([] : va_W)) (W1 := (wM g m0 m1 m2 m3 m4 r_9.2)) (W2 := (wM g m0 m1 m2 m3 m4 r_9.2)) (As := [.int (1 : Int32)]) (rest := []) [0, 1, 2, 3, 4] [] [0, 1, 2, 3, 4] 5 0 ⟨hx, hb, hml, hown, hts⟩ hP hD hE hZ hS hA (cX7_fails_ok l g m0 m1 m2 m3 m4 r_6.2 (1 : Int32) _ e_9) (cwV 1 hts gX7_runText_X7_fails rfl rfl rfl hdX7_fails ⟨(Nat.le_of_ble_eq_true rfl), (Nat.le_of_ble_eq_true rfl)⟩) rfl rfl rfl (by decide) (by decide) (by decide) (by decide) rfl rfl rfl rfl hl.1 rfl (Nat.le_of_ble_eq_true rfl) ⟨(Nat.le_of_ble_eq_true rfl), (Nat.le_of_ble_eq_true rfl)⟩ dX7_runText_14 (fun H locs hP hD hS => ?_)
    have ho := Option.some.inj hf
    subst ho
    exact m_iret (v := r_9.1) hx hb hr hlocks hP hD hS rfl dX7_runText_17

def fX7_undo_30  : Nat → Int32 → Mo → Option (Int32 × Mo)
  | 0, _, _ => none
  | n + 1, v1_30, μ_30 => (if (514 : Int32) ≤ v1_30 then (some ((M_sm μ_30), μ_30)) else (if inR (((514 : Int32) * (M_sm μ_30)) + v1_30) 2570 then (if inR v1_30 514 then fX7_undo_30 n (v1_30 + 1) (M_row' μ_30 (upd (M_row μ_30) (Int32.toNatClampNeg v1_30) (M_sv μ_30 (Int32.toNatClampNeg (((514 : Int32) * (M_sm μ_30)) + v1_30))))) else none) else none))
def fX7_undo (μ : Mo) : Option (Int32 × Mo) := (if (M_sm μ) = 0 then ((fX7_fails (M_th' μ (0 : Int32)) (1 : Int32)).bind fun r_5 => (some (r_5.1, r_5.2))) else fX7_undo_30 FU (0 : Int32) (M_sm' (M_th' μ (0 : Int32)) ((M_sm μ) - (1 : Int32))))
abbrev rmX7_undo : Room := { frames := 1, cells := 0, slots := 0, locals := 21 }
theorem hdX7_undo : yX7_undo.cls = RX7 ∧ yX7_undo.cls ≠ "java/lang/invoke/MethodHandle" ∧ yX7_undo.cls ≠ "java/lang/invoke/VarHandle" ∧ (parseMethodDescriptor yX7_undo.desc).map (fun d => d.parameters.length) = some 0 := by decide +kernel
theorem fiX7_undo_X7 : ∀ w ∈ wsX70, w ∈ wsX7_undo := by decide +kernel
theorem flX7_undo_92 : (.fieldLink RX7 92 "ContourLabelsModel" "savedMany" "I" : Cond) ∈ wsX7_undo := by decide +kernel
theorem flX7_undo_7 : (.fieldLink RX7 7 "ContourLabelsModel" "row" "[I" : Cond) ∈ wsX7_undo := by decide +kernel
theorem flX7_undo_13 : (.fieldLink RX7 13 "ContourLabelsModel" "saved" "[I" : Cond) ∈ wsX7_undo := by decide +kernel
theorem flX7_undo_22 : (.fieldLink RX7 22 "ContourLabelsModel" "thrown" "I" : Cond) ∈ wsX7_undo := by decide +kernel
set_option maxHeartbeats 4000000 in
set_option maxRecDepth 100000 in
theorem cX7_undo_ok (l : Launch) (g : Gg) (m0 m1 m2 m3 m4 : Nat) (μ : Mo) (sz : Nat) {o : Int32 × Mo} (hf : fX7_undo μ = some o) : Met l yX7_undo wsX7_undo rmX7_undo (va_Pc [.ref m0] (PM g (wM g m0 m1 m2 m3 m4 μ) sz)) (va_Qi (fun r' (_ : Unit) => r' = o.1) (fun _ t => PQ g (wM g m0 m1 m2 m3 m4 o.2) (va_A (wM g m0 m1 m2 m3 m4 μ) sz) t) (va_A (wM g m0 m1 m2 m3 m4 μ) sz)) 0 0 (va_A (wM g m0 m1 m2 m3 m4 μ) sz) := by
  refine Met.ofW (cc := cX7_undo) (maxL := 2) (ret := (some .int)) (by decide) rfl ?_
  intro p e s m args below meth c s₁ B hml hv
  obtain ⟨rfl, rfl, hP, hD0, hE, hZ⟩ := hv
  have hx := B.exec
  have hb := B.bytes
  have hr := B.returns
  have hts := atoms_spec (ws := wsX7_undo) B.pre
  have hown : s.vm.findClass RX7 = some m.cls := findClass_of_methodNamed B.named
  have hlocks := B.notSynchronized
  have hD := hD0.self (sz := s.heap.size)
  generalize hAe : (va_A (wM g m0 m1 m2 m3 m4 μ) s.heap.size) = A at hD hZ ⊢
  have hA : ∀ q : Nat, s.heap.size ≤ q → A q := fun q h => by rw [← hAe]; exact Or.inr h
  have hS : va_S A s.heap s.heap [] := va_S.rf
  have hP : va_P g.1 vwCl (wM g m0 m1 m2 m3 m4 μ) s.heap := hP
  have hl := lv_entry ([.ref m0]) (n := 2) (Nat.le_of_ble_eq_true rfl)
  rw [lg_entry_eq]
  generalize (lg_sl ([.ref m0]) ++ List.replicate (2 - (lg_sl ([.ref m0])).length) Slot.unset).toArray = ls at hl ⊢
  have hl : lv_has ls 2 [(0, .ref m0)] := hl
  have hB30 : ∀ (n30 : Nat) (v1_30 : Int32) (μ_30 : Mo) (H : Heap) (locs : List Loc) (ls : Array Slot), va_P g.1 vwCl (wM g m0 m1 m2 m3 m4 μ_30) H → va_D A (wM g m0 m1 m2 m3 m4 μ_30) → va_S A s.heap H locs → lv_has ls 2 [(0, .ref m0), (1, .int v1_30)] → fX7_undo_30 n30 v1_30 μ_30 = some o → W p l e (headSpec wsX7_undo rmX7_undo).room s m ([.ref m0] : List Value).toArray below meth c H locs 0 0 (MQ below (va_Qi (fun r' (_ : Unit) => r' = o.1) (fun _ t => PQ g (wM g m0 m1 m2 m3 m4 o.2) A t) A) ([.ref m0] : List Value).toArray s 0 0 A) (F0 m 30 ls []) := by
    intro  n30
    induction n30 with
    | zero => intro v1_30 μ_30 H locs ls hP hD hS hl hf; exact nomatch (show (none : Option (Int32 × Mo)) = some _ from hf)
    | succ n30 ih30 =>
      intro v1_30 μ_30 H locs ls hP hD hS hl hf
      rw [fX7_undo_30] at hf
      refine lv_iload_n hx hb dX7_undo_30 rfl (lv_at hl 1 rfl) ?_
      refine lv_sipush (v := (514 : Int32)) hx hb dX7_undo_31 (by decide) ?_
      refine lv_icmp_ge (tgt := 64) hx hb dX7_undo_34 (by decide) (fun c_1 => ?_) (fun c_1 => ?_)
      · have hf := ip c_1 hf
        refine lv_aload_n hx hb dX7_undo_64 rfl (lv_at hl 0 rfl) ?_
        refine va_get (v := .int (M_sm μ_30)) (C := RX7) (T := TX7) (N := 13) hx hb hts fiX7_undo_X7 hown hE.1 hP 0 rfl rfl 2 (by decide) (hts _ flX7_undo_92) (fun _ h9 => h9) rfl dX7_undo_65 ?_
        have ho := Option.some.inj hf
        subst ho
        exact m_iret (v := (M_sm μ_30)) hx hb hr hlocks hP hD hS rfl dX7_undo_68
      · have hf := iq c_1 hf
        refine lv_aload_n hx hb dX7_undo_37 rfl (lv_at hl 0 rfl) ?_
        refine va_get (v := .ref m1) (C := RX7) (T := TX7) (N := 13) hx hb hts fiX7_undo_X7 hown hE.1 hP 0 rfl rfl 0 (by decide) (hts _ flX7_undo_7) (fun _ h9 => h9) rfl dX7_undo_38 ?_
        refine lv_iload_n hx hb dX7_undo_41 rfl (lv_at hl 1 rfl) ?_
        refine lv_aload_n hx hb dX7_undo_42 rfl (lv_at hl 0 rfl) ?_
        refine va_get (v := .ref m2) (C := RX7) (T := TX7) (N := 13) hx hb hts fiX7_undo_X7 hown hE.1 hP 0 rfl rfl 1 (by decide) (hts _ flX7_undo_13) (fun _ h9 => h9) rfl dX7_undo_43 ?_
        refine lv_sipush (v := (514 : Int32)) hx hb dX7_undo_46 (by decide) ?_
        refine lv_aload_n hx hb dX7_undo_49 rfl (lv_at hl 0 rfl) ?_
        refine va_get (v := .int (M_sm μ_30)) (C := RX7) (T := TX7) (N := 13) hx hb hts fiX7_undo_X7 hown hE.1 hP 0 rfl rfl 2 (by decide) (hts _ flX7_undo_92) (fun _ h9 => h9) rfl dX7_undo_50 ?_
        refine lv_imul hx hb dX7_undo_53 ?_
        refine lv_iload_n hx hb dX7_undo_54 rfl (lv_at hl 1 rfl) ?_
        refine lv_iadd hx hb dX7_undo_55 ?_
        obtain ⟨h_2, hf⟩ := ck hf
        refine va_iald hx hb hE.1 hP 2 0 rfl rfl (vin h_2) dX7_undo_56 ?_
        obtain ⟨h_3, hf⟩ := ck hf
        refine va_iast hx hb hE.1 hP hD hS 1 0 rfl rfl (vin h_3) dX7_undo_57 (fun H locs hP hD hS => ?_)
        have hP : va_P g.1 vwCl (wM g m0 m1 m2 m3 m4 (M_row' μ_30 (upd (M_row μ_30) (Int32.toNatClampNeg v1_30) (M_sv μ_30 (Int32.toNatClampNeg (((514 : Int32) * (M_sm μ_30)) + v1_30)))))) H := hP
        have hD : va_D A (wM g m0 m1 m2 m3 m4 (M_row' μ_30 (upd (M_row μ_30) (Int32.toNatClampNeg v1_30) (M_sv μ_30 (Int32.toNatClampNeg (((514 : Int32) * (M_sm μ_30)) + v1_30)))))) := hD
        refine lv_iinc (v := (v1_30 + 1)) (lv' := [(1, .int (v1_30 + 1)), (0, .ref m0)]) hx hb dX7_undo_58 hl (k := 1) rfl rfl (by decide) rfl (fun ls hl => ?_)
        refine lv_goto (tgt := 30) hx hb dX7_undo_61 (by decide) ?_
        exact ih30 (v1_30 + 1) (M_row' μ_30 (upd (M_row μ_30) (Int32.toNatClampNeg v1_30) (M_sv μ_30 (Int32.toNatClampNeg (((514 : Int32) * (M_sm μ_30)) + v1_30))))) _ _ ls hP hD hS (lv_sub hl [1, 0] rfl) hf
  unfold fX7_undo at hf
  refine lv_aload_n hx hb dX7_undo_0 rfl (lv_at hl 0 rfl) ?_
  refine lv_iconst (v := (0 : Int32)) hx hb dX7_undo_1 (by decide) ?_
  refine va_put (v := .int (0 : Int32)) (ty := .int) (C := RX7) (T := TX7) (N := 13) hx hb hts fiX7_undo_X7 tyX7 tyX7_ok nmX7 hown hE.1 hP hD hS 0 rfl rfl 7 (by decide) (hts _ flX7_undo_22) (fun _ h9 => h9) rfl (by decide +kernel) rfl rfl (Nat.le_of_ble_eq_true rfl) dX7_undo_2 (fun H locs hP hD hS => ?_)
  have hP : va_P g.1 vwCl (wM g m0 m1 m2 m3 m4 (M_th' μ (0 : Int32))) H := hP
  have hD : va_D A (wM g m0 m1 m2 m3 m4 (M_th' μ (0 : Int32))) := hD
  refine lv_aload_n hx hb dX7_undo_5 rfl (lv_at hl 0 rfl) ?_
  refine va_get (v := .int (M_sm μ)) (C := RX7) (T := TX7) (N := 13) hx hb hts fiX7_undo_X7 hown hE.1 hP 0 rfl rfl 2 (by decide) (hts _ flX7_undo_92) (fun _ h9 => h9) rfl dX7_undo_6 ?_
  refine lv_if_ne (tgt := 18) hx hb dX7_undo_9 (by decide) (fun c_4 => ?_) (fun c_4 => ?_)
  · have hf := iq c_4 hf
    refine lv_aload_n hx hb dX7_undo_18 rfl (lv_at hl 0 rfl) ?_
    refine lv_dup hx hb dX7_undo_19 rfl ?_
    refine va_get (v := .int (M_sm μ)) (C := RX7) (T := TX7) (N := 13) hx hb hts fiX7_undo_X7 hown hE.1 hP 0 rfl rfl 2 (by decide) (hts _ flX7_undo_92) (fun _ h9 => h9) rfl dX7_undo_20 ?_
    refine lv_iconst (v := (1 : Int32)) hx hb dX7_undo_23 (by decide) ?_
    refine lv_isub hx hb dX7_undo_24 ?_
    refine va_put (v := .int ((M_sm μ) - (1 : Int32))) (ty := .int) (C := RX7) (T := TX7) (N := 13) hx hb hts fiX7_undo_X7 tyX7 tyX7_ok nmX7 hown hE.1 hP hD hS 0 rfl rfl 2 (by decide) (hts _ flX7_undo_92) (fun _ h9 => h9) rfl (by decide +kernel) rfl rfl (Nat.le_of_ble_eq_true rfl) dX7_undo_25 (fun H locs hP hD hS => ?_)
    have hP : va_P g.1 vwCl (wM g m0 m1 m2 m3 m4 (M_sm' (M_th' μ (0 : Int32)) ((M_sm μ) - (1 : Int32)))) H := hP
    have hD : va_D A (wM g m0 m1 m2 m3 m4 (M_sm' (M_th' μ (0 : Int32)) ((M_sm μ) - (1 : Int32)))) := hD
    refine lv_iconst (v := (0 : Int32)) hx hb dX7_undo_28 (by decide) ?_
    refine lv_istore_n (lv' := [(1, .int (0 : Int32)), (0, .ref m0)]) hx hb dX7_undo_29 rfl hl (by decide) rfl (fun ls hl => ?_)
    exact hB30 FU (0 : Int32) (M_sm' (M_th' μ (0 : Int32)) ((M_sm μ) - (1 : Int32))) _ _ ls hP hD hS (lv_sub hl [1, 0] rfl) hf
  · have hf := ip c_4 hf
    refine lv_aload_n hx hb dX7_undo_12 rfl (lv_at hl 0 rfl) ?_
    refine lv_iconst (v := (1 : Int32)) hx hb dX7_undo_13 (by decide) ?_
    obtain ⟨r_5, e_5, hf⟩ := bo hf
    refine mcallVi (W0 := (wM g m0 m1 m2 m3 m4 (M_th' μ (0 : Int32)))) (Wc := (wM g m0 m1 m2 m3 m4 (M_th' μ (0 : Int32)))) (Wr := ([] : va_W)) (W1 := (wM g m0 m1 m2 m3 m4 r_5.2)) (W2 := (wM g m0 m1 m2 m3 m4 r_5.2)) (As := [.int (1 : Int32)]) (rest := []) [0, 1, 2, 3, 4] [] [0, 1, 2, 3, 4] 5 0 ⟨hx, hb, hml, hown, hts⟩ hP hD hE hZ hS hA (cX7_fails_ok l g m0 m1 m2 m3 m4 (M_th' μ (0 : Int32)) (1 : Int32) _ e_5) (cwV 1 hts gX7_undo_X7_fails rfl rfl rfl hdX7_fails ⟨(Nat.le_of_ble_eq_true rfl), (Nat.le_of_ble_eq_true rfl)⟩) rfl rfl rfl (by decide) (by decide) (by decide) (by decide) rfl rfl rfl rfl hl.1 rfl (Nat.le_of_ble_eq_true rfl) ⟨(Nat.le_of_ble_eq_true rfl), (Nat.le_of_ble_eq_true rfl)⟩ dX7_undo_14 (fun H locs hP hD hS => ?_)
    have ho := Option.some.inj hf
    subst ho
    exact m_iret (v := r_5.1) hx hb hr hlocks hP hD hS rfl dX7_undo_17

def fX7_savedStates (μ : Mo) : Option (Int32 × Mo) := (some ((M_sm μ), (M_th' μ (0 : Int32))))
abbrev rmX7_savedStates : Room := { frames := 0, cells := 0, slots := 0, locals := 0 }
theorem hdX7_savedStates : yX7_savedStates.cls = RX7 ∧ yX7_savedStates.cls ≠ "java/lang/invoke/MethodHandle" ∧ yX7_savedStates.cls ≠ "java/lang/invoke/VarHandle" ∧ (parseMethodDescriptor yX7_savedStates.desc).map (fun d => d.parameters.length) = some 0 := by decide +kernel
theorem fiX7_savedStates_X7 : ∀ w ∈ wsX70, w ∈ wsX7_savedStates := by decide +kernel
theorem flX7_savedStates_22 : (.fieldLink RX7 22 "ContourLabelsModel" "thrown" "I" : Cond) ∈ wsX7_savedStates := by decide +kernel
theorem flX7_savedStates_92 : (.fieldLink RX7 92 "ContourLabelsModel" "savedMany" "I" : Cond) ∈ wsX7_savedStates := by decide +kernel
set_option maxHeartbeats 4000000 in
set_option maxRecDepth 100000 in
theorem cX7_savedStates_ok (l : Launch) (g : Gg) (m0 m1 m2 m3 m4 : Nat) (μ : Mo) (sz : Nat) {o : Int32 × Mo} (hf : fX7_savedStates μ = some o) : Met l yX7_savedStates wsX7_savedStates rmX7_savedStates (va_Pc [.ref m0] (PM g (wM g m0 m1 m2 m3 m4 μ) sz)) (va_Qi (fun r' (_ : Unit) => r' = o.1) (fun _ t => PQ g (wM g m0 m1 m2 m3 m4 o.2) (va_A (wM g m0 m1 m2 m3 m4 μ) sz) t) (va_A (wM g m0 m1 m2 m3 m4 μ) sz)) 0 0 (va_A (wM g m0 m1 m2 m3 m4 μ) sz) := by
  refine Met.ofW (cc := cX7_savedStates) (maxL := 1) (ret := (some .int)) (by decide) rfl ?_
  intro p e s m args below meth c s₁ B hml hv
  obtain ⟨rfl, rfl, hP, hD0, hE, hZ⟩ := hv
  have hx := B.exec
  have hb := B.bytes
  have hr := B.returns
  have hts := atoms_spec (ws := wsX7_savedStates) B.pre
  have hown : s.vm.findClass RX7 = some m.cls := findClass_of_methodNamed B.named
  have hlocks := B.notSynchronized
  have hD := hD0.self (sz := s.heap.size)
  generalize hAe : (va_A (wM g m0 m1 m2 m3 m4 μ) s.heap.size) = A at hD hZ ⊢
  have hA : ∀ q : Nat, s.heap.size ≤ q → A q := fun q h => by rw [← hAe]; exact Or.inr h
  have hS : va_S A s.heap s.heap [] := va_S.rf
  have hP : va_P g.1 vwCl (wM g m0 m1 m2 m3 m4 μ) s.heap := hP
  have hl := lv_entry ([.ref m0]) (n := 1) (Nat.le_of_ble_eq_true rfl)
  rw [lg_entry_eq]
  generalize (lg_sl ([.ref m0]) ++ List.replicate (1 - (lg_sl ([.ref m0])).length) Slot.unset).toArray = ls at hl ⊢
  have hl : lv_has ls 1 [(0, .ref m0)] := hl
  unfold fX7_savedStates at hf
  refine lv_aload_n hx hb dX7_savedStates_0 rfl (lv_at hl 0 rfl) ?_
  refine lv_iconst (v := (0 : Int32)) hx hb dX7_savedStates_1 (by decide) ?_
  refine va_put (v := .int (0 : Int32)) (ty := .int) (C := RX7) (T := TX7) (N := 13) hx hb hts fiX7_savedStates_X7 tyX7 tyX7_ok nmX7 hown hE.1 hP hD hS 0 rfl rfl 7 (by decide) (hts _ flX7_savedStates_22) (fun _ h9 => h9) rfl (by decide +kernel) rfl rfl (Nat.le_of_ble_eq_true rfl) dX7_savedStates_2 (fun H locs hP hD hS => ?_)
  have hP : va_P g.1 vwCl (wM g m0 m1 m2 m3 m4 (M_th' μ (0 : Int32))) H := hP
  have hD : va_D A (wM g m0 m1 m2 m3 m4 (M_th' μ (0 : Int32))) := hD
  refine lv_aload_n hx hb dX7_savedStates_5 rfl (lv_at hl 0 rfl) ?_
  refine va_get (v := .int (M_sm μ)) (C := RX7) (T := TX7) (N := 13) hx hb hts fiX7_savedStates_X7 hown hE.1 hP 0 rfl rfl 2 (by decide) (hts _ flX7_savedStates_92) (fun _ h9 => h9) rfl dX7_savedStates_6 ?_
  have ho := Option.some.inj hf
  subst ho
  exact m_iret (v := (M_sm μ)) hx hb hr hlocks hP hD hS rfl dX7_savedStates_9

def fX7_takeSnapshot_12  : Nat → Int32 → Mo → Option (Int32 × Mo)
  | 0, _, _ => none
  | n + 1, v1_12, μ_12 => (if (514 : Int32) ≤ v1_12 then (some ((M_row μ_12 (Int32.toNatClampNeg (0 : Int32))), μ_12)) else (if inR v1_12 514 then fX7_takeSnapshot_12 n (v1_12 + 1) (M_kp' μ_12 (upd (M_kp μ_12) (Int32.toNatClampNeg v1_12) (M_row μ_12 (Int32.toNatClampNeg v1_12)))) else none))
def fX7_takeSnapshot (μ : Mo) : Option (Int32 × Mo) := fX7_takeSnapshot_12 FU (0 : Int32) (M_ik' (M_th' μ (0 : Int32)) true)
abbrev rmX7_takeSnapshot : Room := { frames := 0, cells := 0, slots := 0, locals := 0 }
theorem hdX7_takeSnapshot : yX7_takeSnapshot.cls = RX7 ∧ yX7_takeSnapshot.cls ≠ "java/lang/invoke/MethodHandle" ∧ yX7_takeSnapshot.cls ≠ "java/lang/invoke/VarHandle" ∧ (parseMethodDescriptor yX7_takeSnapshot.desc).map (fun d => d.parameters.length) = some 0 := by decide +kernel
theorem fiX7_takeSnapshot_X7 : ∀ w ∈ wsX70, w ∈ wsX7_takeSnapshot := by decide +kernel
theorem flX7_takeSnapshot_7 : (.fieldLink RX7 7 "ContourLabelsModel" "row" "[I" : Cond) ∈ wsX7_takeSnapshot := by decide +kernel
theorem flX7_takeSnapshot_16 : (.fieldLink RX7 16 "ContourLabelsModel" "kept" "[I" : Cond) ∈ wsX7_takeSnapshot := by decide +kernel
theorem flX7_takeSnapshot_22 : (.fieldLink RX7 22 "ContourLabelsModel" "thrown" "I" : Cond) ∈ wsX7_takeSnapshot := by decide +kernel
theorem flX7_takeSnapshot_208 : (.fieldLink RX7 208 "ContourLabelsModel" "isKept" "Z" : Cond) ∈ wsX7_takeSnapshot := by decide +kernel
set_option maxHeartbeats 4000000 in
set_option maxRecDepth 100000 in
theorem cX7_takeSnapshot_ok (l : Launch) (g : Gg) (m0 m1 m2 m3 m4 : Nat) (μ : Mo) (sz : Nat) {o : Int32 × Mo} (hf : fX7_takeSnapshot μ = some o) : Met l yX7_takeSnapshot wsX7_takeSnapshot rmX7_takeSnapshot (va_Pc [.ref m0] (PM g (wM g m0 m1 m2 m3 m4 μ) sz)) (va_Qi (fun r' (_ : Unit) => r' = o.1) (fun _ t => PQ g (wM g m0 m1 m2 m3 m4 o.2) (va_A (wM g m0 m1 m2 m3 m4 μ) sz) t) (va_A (wM g m0 m1 m2 m3 m4 μ) sz)) 0 0 (va_A (wM g m0 m1 m2 m3 m4 μ) sz) := by
  refine Met.ofW (cc := cX7_takeSnapshot) (maxL := 2) (ret := (some .int)) (by decide) rfl ?_
  intro p e s m args below meth c s₁ B hml hv
  obtain ⟨rfl, rfl, hP, hD0, hE, hZ⟩ := hv
  have hx := B.exec
  have hb := B.bytes
  have hr := B.returns
  have hts := atoms_spec (ws := wsX7_takeSnapshot) B.pre
  have hown : s.vm.findClass RX7 = some m.cls := findClass_of_methodNamed B.named
  have hlocks := B.notSynchronized
  have hD := hD0.self (sz := s.heap.size)
  generalize hAe : (va_A (wM g m0 m1 m2 m3 m4 μ) s.heap.size) = A at hD hZ ⊢
  have hA : ∀ q : Nat, s.heap.size ≤ q → A q := fun q h => by rw [← hAe]; exact Or.inr h
  have hS : va_S A s.heap s.heap [] := va_S.rf
  have hP : va_P g.1 vwCl (wM g m0 m1 m2 m3 m4 μ) s.heap := hP
  have hl := lv_entry ([.ref m0]) (n := 2) (Nat.le_of_ble_eq_true rfl)
  rw [lg_entry_eq]
  generalize (lg_sl ([.ref m0]) ++ List.replicate (2 - (lg_sl ([.ref m0])).length) Slot.unset).toArray = ls at hl ⊢
  have hl : lv_has ls 2 [(0, .ref m0)] := hl
  have hB12 : ∀ (n12 : Nat) (v1_12 : Int32) (μ_12 : Mo) (H : Heap) (locs : List Loc) (ls : Array Slot), va_P g.1 vwCl (wM g m0 m1 m2 m3 m4 μ_12) H → va_D A (wM g m0 m1 m2 m3 m4 μ_12) → va_S A s.heap H locs → lv_has ls 2 [(0, .ref m0), (1, .int v1_12)] → fX7_takeSnapshot_12 n12 v1_12 μ_12 = some o → W p l e (headSpec wsX7_takeSnapshot rmX7_takeSnapshot).room s m ([.ref m0] : List Value).toArray below meth c H locs 0 0 (MQ below (va_Qi (fun r' (_ : Unit) => r' = o.1) (fun _ t => PQ g (wM g m0 m1 m2 m3 m4 o.2) A t) A) ([.ref m0] : List Value).toArray s 0 0 A) (F0 m 12 ls []) := by
    intro  n12
    induction n12 with
    | zero => intro v1_12 μ_12 H locs ls hP hD hS hl hf; exact nomatch (show (none : Option (Int32 × Mo)) = some _ from hf)
    | succ n12 ih12 =>
      intro v1_12 μ_12 H locs ls hP hD hS hl hf
      rw [fX7_takeSnapshot_12] at hf
      refine lv_iload_n hx hb dX7_takeSnapshot_12 rfl (lv_at hl 1 rfl) ?_
      refine lv_sipush (v := (514 : Int32)) hx hb dX7_takeSnapshot_13 (by decide) ?_
      refine lv_icmp_ge (tgt := 37) hx hb dX7_takeSnapshot_16 (by decide) (fun c_1 => ?_) (fun c_1 => ?_)
      · have hf := ip c_1 hf
        refine lv_aload_n hx hb dX7_takeSnapshot_37 rfl (lv_at hl 0 rfl) ?_
        refine va_get (v := .ref m1) (C := RX7) (T := TX7) (N := 13) hx hb hts fiX7_takeSnapshot_X7 hown hE.1 hP 0 rfl rfl 0 (by decide) (hts _ flX7_takeSnapshot_7) (fun _ h9 => h9) rfl dX7_takeSnapshot_38 ?_
        refine lv_iconst (v := (0 : Int32)) hx hb dX7_takeSnapshot_41 (by decide) ?_
        refine va_iald hx hb hE.1 hP 1 0 rfl rfl (vin (by decide)) dX7_takeSnapshot_42 ?_
        have ho := Option.some.inj hf
        subst ho
        exact m_iret (v := (M_row μ_12 (Int32.toNatClampNeg (0 : Int32)))) hx hb hr hlocks hP hD hS rfl dX7_takeSnapshot_43
      · have hf := iq c_1 hf
        refine lv_aload_n hx hb dX7_takeSnapshot_19 rfl (lv_at hl 0 rfl) ?_
        refine va_get (v := .ref m3) (C := RX7) (T := TX7) (N := 13) hx hb hts fiX7_takeSnapshot_X7 hown hE.1 hP 0 rfl rfl 3 (by decide) (hts _ flX7_takeSnapshot_16) (fun _ h9 => h9) rfl dX7_takeSnapshot_20 ?_
        refine lv_iload_n hx hb dX7_takeSnapshot_23 rfl (lv_at hl 1 rfl) ?_
        refine lv_aload_n hx hb dX7_takeSnapshot_24 rfl (lv_at hl 0 rfl) ?_
        refine va_get (v := .ref m1) (C := RX7) (T := TX7) (N := 13) hx hb hts fiX7_takeSnapshot_X7 hown hE.1 hP 0 rfl rfl 0 (by decide) (hts _ flX7_takeSnapshot_7) (fun _ h9 => h9) rfl dX7_takeSnapshot_25 ?_
        refine lv_iload_n hx hb dX7_takeSnapshot_28 rfl (lv_at hl 1 rfl) ?_
        obtain ⟨h_2, hf⟩ := ck hf
        refine va_iald hx hb hE.1 hP 1 0 rfl rfl (vin h_2) dX7_takeSnapshot_29 ?_
        refine va_iast hx hb hE.1 hP hD hS 3 0 rfl rfl (vin h_2) dX7_takeSnapshot_30 (fun H locs hP hD hS => ?_)
        have hP : va_P g.1 vwCl (wM g m0 m1 m2 m3 m4 (M_kp' μ_12 (upd (M_kp μ_12) (Int32.toNatClampNeg v1_12) (M_row μ_12 (Int32.toNatClampNeg v1_12))))) H := hP
        have hD : va_D A (wM g m0 m1 m2 m3 m4 (M_kp' μ_12 (upd (M_kp μ_12) (Int32.toNatClampNeg v1_12) (M_row μ_12 (Int32.toNatClampNeg v1_12))))) := hD
        refine lv_iinc (v := (v1_12 + 1)) (lv' := [(1, .int (v1_12 + 1)), (0, .ref m0)]) hx hb dX7_takeSnapshot_31 hl (k := 1) rfl rfl (by decide) rfl (fun ls hl => ?_)
        refine lv_goto (tgt := 12) hx hb dX7_takeSnapshot_34 (by decide) ?_
        exact ih12 (v1_12 + 1) (M_kp' μ_12 (upd (M_kp μ_12) (Int32.toNatClampNeg v1_12) (M_row μ_12 (Int32.toNatClampNeg v1_12)))) _ _ ls hP hD hS (lv_sub hl [1, 0] rfl) hf
  unfold fX7_takeSnapshot at hf
  refine lv_aload_n hx hb dX7_takeSnapshot_0 rfl (lv_at hl 0 rfl) ?_
  refine lv_iconst (v := (0 : Int32)) hx hb dX7_takeSnapshot_1 (by decide) ?_
  refine va_put (v := .int (0 : Int32)) (ty := .int) (C := RX7) (T := TX7) (N := 13) hx hb hts fiX7_takeSnapshot_X7 tyX7 tyX7_ok nmX7 hown hE.1 hP hD hS 0 rfl rfl 7 (by decide) (hts _ flX7_takeSnapshot_22) (fun _ h9 => h9) rfl (by decide +kernel) rfl rfl (Nat.le_of_ble_eq_true rfl) dX7_takeSnapshot_2 (fun H locs hP hD hS => ?_)
  have hP : va_P g.1 vwCl (wM g m0 m1 m2 m3 m4 (M_th' μ (0 : Int32))) H := hP
  have hD : va_D A (wM g m0 m1 m2 m3 m4 (M_th' μ (0 : Int32))) := hD
  refine lv_aload_n hx hb dX7_takeSnapshot_5 rfl (lv_at hl 0 rfl) ?_
  refine lv_iconst (v := (1 : Int32)) hx hb dX7_takeSnapshot_6 (by decide) ?_
  refine va_put (v := .int (b2i true)) (ty := .boolean) (C := RX7) (T := TX7) (N := 13) hx hb hts fiX7_takeSnapshot_X7 tyX7 tyX7_ok nmX7 hown hE.1 hP hD hS 0 rfl rfl 4 (by decide) (hts _ flX7_takeSnapshot_208) (fun _ h9 => h9) rfl (by decide +kernel) (nb2i _) (fb2i _) (Nat.le_of_ble_eq_true rfl) dX7_takeSnapshot_7 (fun H locs hP hD hS => ?_)
  have hP : va_P g.1 vwCl (wM g m0 m1 m2 m3 m4 (M_ik' (M_th' μ (0 : Int32)) true)) H := hP
  have hD : va_D A (wM g m0 m1 m2 m3 m4 (M_ik' (M_th' μ (0 : Int32)) true)) := hD
  refine lv_iconst (v := (0 : Int32)) hx hb dX7_takeSnapshot_10 (by decide) ?_
  refine lv_istore_n (lv' := [(1, .int (0 : Int32)), (0, .ref m0)]) hx hb dX7_takeSnapshot_11 rfl hl (by decide) rfl (fun ls hl => ?_)
  exact hB12 FU (0 : Int32) (M_ik' (M_th' μ (0 : Int32)) true) _ _ ls hP hD hS (lv_sub hl [1, 0] rfl) hf

def fX7_restoreSnapshot_24  : Nat → Int32 → Mo → Option (Int32 × Mo)
  | 0, _, _ => none
  | n + 1, v1_24, μ_24 => (if (514 : Int32) ≤ v1_24 then (some ((M_row μ_24 (Int32.toNatClampNeg (0 : Int32))), μ_24)) else (if inR v1_24 514 then fX7_restoreSnapshot_24 n (v1_24 + 1) (M_row' μ_24 (upd (M_row μ_24) (Int32.toNatClampNeg v1_24) (M_kp μ_24 (Int32.toNatClampNeg v1_24)))) else none))
def fX7_restoreSnapshot (μ : Mo) : Option (Int32 × Mo) := (if (M_ik μ) = true then ((fX7_records (M_th' μ (0 : Int32))).bind fun r_4 => fX7_restoreSnapshot_24 FU (0 : Int32) r_4) else ((fX7_fails (M_th' μ (0 : Int32)) (1 : Int32)).bind fun r_5 => (some (r_5.1, r_5.2))))
abbrev rmX7_restoreSnapshot : Room := { frames := 1, cells := 0, slots := 0, locals := 21 }
theorem hdX7_restoreSnapshot : yX7_restoreSnapshot.cls = RX7 ∧ yX7_restoreSnapshot.cls ≠ "java/lang/invoke/MethodHandle" ∧ yX7_restoreSnapshot.cls ≠ "java/lang/invoke/VarHandle" ∧ (parseMethodDescriptor yX7_restoreSnapshot.desc).map (fun d => d.parameters.length) = some 0 := by decide +kernel
theorem fiX7_restoreSnapshot_X7 : ∀ w ∈ wsX70, w ∈ wsX7_restoreSnapshot := by decide +kernel
theorem flX7_restoreSnapshot_7 : (.fieldLink RX7 7 "ContourLabelsModel" "row" "[I" : Cond) ∈ wsX7_restoreSnapshot := by decide +kernel
theorem flX7_restoreSnapshot_16 : (.fieldLink RX7 16 "ContourLabelsModel" "kept" "[I" : Cond) ∈ wsX7_restoreSnapshot := by decide +kernel
theorem flX7_restoreSnapshot_22 : (.fieldLink RX7 22 "ContourLabelsModel" "thrown" "I" : Cond) ∈ wsX7_restoreSnapshot := by decide +kernel
theorem flX7_restoreSnapshot_208 : (.fieldLink RX7 208 "ContourLabelsModel" "isKept" "Z" : Cond) ∈ wsX7_restoreSnapshot := by decide +kernel
set_option maxHeartbeats 4000000 in
set_option maxRecDepth 100000 in
theorem cX7_restoreSnapshot_ok (l : Launch) (g : Gg) (m0 m1 m2 m3 m4 : Nat) (μ : Mo) (sz : Nat) {o : Int32 × Mo} (hf : fX7_restoreSnapshot μ = some o) : Met l yX7_restoreSnapshot wsX7_restoreSnapshot rmX7_restoreSnapshot (va_Pc [.ref m0] (PM g (wM g m0 m1 m2 m3 m4 μ) sz)) (va_Qi (fun r' (_ : Unit) => r' = o.1) (fun _ t => PQ g (wM g m0 m1 m2 m3 m4 o.2) (va_A (wM g m0 m1 m2 m3 m4 μ) sz) t) (va_A (wM g m0 m1 m2 m3 m4 μ) sz)) 0 0 (va_A (wM g m0 m1 m2 m3 m4 μ) sz) := by
  refine Met.ofW (cc := cX7_restoreSnapshot) (maxL := 2) (ret := (some .int)) (by decide) rfl ?_
  intro p e s m args below meth c s₁ B hml hv
  obtain ⟨rfl, rfl, hP, hD0, hE, hZ⟩ := hv
  have hx := B.exec
  have hb := B.bytes
  have hr := B.returns
  have hts := atoms_spec (ws := wsX7_restoreSnapshot) B.pre
  have hown : s.vm.findClass RX7 = some m.cls := findClass_of_methodNamed B.named
  have hlocks := B.notSynchronized
  have hD := hD0.self (sz := s.heap.size)
  generalize hAe : (va_A (wM g m0 m1 m2 m3 m4 μ) s.heap.size) = A at hD hZ ⊢
  have hA : ∀ q : Nat, s.heap.size ≤ q → A q := fun q h => by rw [← hAe]; exact Or.inr h
  have hS : va_S A s.heap s.heap [] := va_S.rf
  have hP : va_P g.1 vwCl (wM g m0 m1 m2 m3 m4 μ) s.heap := hP
  have hl := lv_entry ([.ref m0]) (n := 2) (Nat.le_of_ble_eq_true rfl)
  rw [lg_entry_eq]
  generalize (lg_sl ([.ref m0]) ++ List.replicate (2 - (lg_sl ([.ref m0])).length) Slot.unset).toArray = ls at hl ⊢
  have hl : lv_has ls 2 [(0, .ref m0)] := hl
  have hB24 : ∀ (n24 : Nat) (v1_24 : Int32) (μ_24 : Mo) (H : Heap) (locs : List Loc) (ls : Array Slot), va_P g.1 vwCl (wM g m0 m1 m2 m3 m4 μ_24) H → va_D A (wM g m0 m1 m2 m3 m4 μ_24) → va_S A s.heap H locs → lv_has ls 2 [(0, .ref m0), (1, .int v1_24)] → fX7_restoreSnapshot_24 n24 v1_24 μ_24 = some o → W p l e (headSpec wsX7_restoreSnapshot rmX7_restoreSnapshot).room s m ([.ref m0] : List Value).toArray below meth c H locs 0 0 (MQ below (va_Qi (fun r' (_ : Unit) => r' = o.1) (fun _ t => PQ g (wM g m0 m1 m2 m3 m4 o.2) A t) A) ([.ref m0] : List Value).toArray s 0 0 A) (F0 m 24 ls []) := by
    intro  n24
    induction n24 with
    | zero => intro v1_24 μ_24 H locs ls hP hD hS hl hf; exact nomatch (show (none : Option (Int32 × Mo)) = some _ from hf)
    | succ n24 ih24 =>
      intro v1_24 μ_24 H locs ls hP hD hS hl hf
      rw [fX7_restoreSnapshot_24] at hf
      refine lv_iload_n hx hb dX7_restoreSnapshot_24 rfl (lv_at hl 1 rfl) ?_
      refine lv_sipush (v := (514 : Int32)) hx hb dX7_restoreSnapshot_25 (by decide) ?_
      refine lv_icmp_ge (tgt := 49) hx hb dX7_restoreSnapshot_28 (by decide) (fun c_1 => ?_) (fun c_1 => ?_)
      · have hf := ip c_1 hf
        refine lv_aload_n hx hb dX7_restoreSnapshot_49 rfl (lv_at hl 0 rfl) ?_
        refine va_get (v := .ref m1) (C := RX7) (T := TX7) (N := 13) hx hb hts fiX7_restoreSnapshot_X7 hown hE.1 hP 0 rfl rfl 0 (by decide) (hts _ flX7_restoreSnapshot_7) (fun _ h9 => h9) rfl dX7_restoreSnapshot_50 ?_
        refine lv_iconst (v := (0 : Int32)) hx hb dX7_restoreSnapshot_53 (by decide) ?_
        refine va_iald hx hb hE.1 hP 1 0 rfl rfl (vin (by decide)) dX7_restoreSnapshot_54 ?_
        have ho := Option.some.inj hf
        subst ho
        exact m_iret (v := (M_row μ_24 (Int32.toNatClampNeg (0 : Int32)))) hx hb hr hlocks hP hD hS rfl dX7_restoreSnapshot_55
      · have hf := iq c_1 hf
        refine lv_aload_n hx hb dX7_restoreSnapshot_31 rfl (lv_at hl 0 rfl) ?_
        refine va_get (v := .ref m1) (C := RX7) (T := TX7) (N := 13) hx hb hts fiX7_restoreSnapshot_X7 hown hE.1 hP 0 rfl rfl 0 (by decide) (hts _ flX7_restoreSnapshot_7) (fun _ h9 => h9) rfl dX7_restoreSnapshot_32 ?_
        refine lv_iload_n hx hb dX7_restoreSnapshot_35 rfl (lv_at hl 1 rfl) ?_
        refine lv_aload_n hx hb dX7_restoreSnapshot_36 rfl (lv_at hl 0 rfl) ?_
        refine va_get (v := .ref m3) (C := RX7) (T := TX7) (N := 13) hx hb hts fiX7_restoreSnapshot_X7 hown hE.1 hP 0 rfl rfl 3 (by decide) (hts _ flX7_restoreSnapshot_16) (fun _ h9 => h9) rfl dX7_restoreSnapshot_37 ?_
        refine lv_iload_n hx hb dX7_restoreSnapshot_40 rfl (lv_at hl 1 rfl) ?_
        obtain ⟨h_2, hf⟩ := ck hf
        refine va_iald hx hb hE.1 hP 3 0 rfl rfl (vin h_2) dX7_restoreSnapshot_41 ?_
        refine va_iast hx hb hE.1 hP hD hS 1 0 rfl rfl (vin h_2) dX7_restoreSnapshot_42 (fun H locs hP hD hS => ?_)
        have hP : va_P g.1 vwCl (wM g m0 m1 m2 m3 m4 (M_row' μ_24 (upd (M_row μ_24) (Int32.toNatClampNeg v1_24) (M_kp μ_24 (Int32.toNatClampNeg v1_24))))) H := hP
        have hD : va_D A (wM g m0 m1 m2 m3 m4 (M_row' μ_24 (upd (M_row μ_24) (Int32.toNatClampNeg v1_24) (M_kp μ_24 (Int32.toNatClampNeg v1_24))))) := hD
        refine lv_iinc (v := (v1_24 + 1)) (lv' := [(1, .int (v1_24 + 1)), (0, .ref m0)]) hx hb dX7_restoreSnapshot_43 hl (k := 1) rfl rfl (by decide) rfl (fun ls hl => ?_)
        refine lv_goto (tgt := 24) hx hb dX7_restoreSnapshot_46 (by decide) ?_
        exact ih24 (v1_24 + 1) (M_row' μ_24 (upd (M_row μ_24) (Int32.toNatClampNeg v1_24) (M_kp μ_24 (Int32.toNatClampNeg v1_24)))) _ _ ls hP hD hS (lv_sub hl [1, 0] rfl) hf
  unfold fX7_restoreSnapshot at hf
  refine lv_aload_n hx hb dX7_restoreSnapshot_0 rfl (lv_at hl 0 rfl) ?_
  refine lv_iconst (v := (0 : Int32)) hx hb dX7_restoreSnapshot_1 (by decide) ?_
  refine va_put (v := .int (0 : Int32)) (ty := .int) (C := RX7) (T := TX7) (N := 13) hx hb hts fiX7_restoreSnapshot_X7 tyX7 tyX7_ok nmX7 hown hE.1 hP hD hS 0 rfl rfl 7 (by decide) (hts _ flX7_restoreSnapshot_22) (fun _ h9 => h9) rfl (by decide +kernel) rfl rfl (Nat.le_of_ble_eq_true rfl) dX7_restoreSnapshot_2 (fun H locs hP hD hS => ?_)
  have hP : va_P g.1 vwCl (wM g m0 m1 m2 m3 m4 (M_th' μ (0 : Int32))) H := hP
  have hD : va_D A (wM g m0 m1 m2 m3 m4 (M_th' μ (0 : Int32))) := hD
  refine lv_aload_n hx hb dX7_restoreSnapshot_5 rfl (lv_at hl 0 rfl) ?_
  refine va_get (v := .int (b2i (M_ik μ))) (C := RX7) (T := TX7) (N := 13) hx hb hts fiX7_restoreSnapshot_X7 hown hE.1 hP 0 rfl rfl 4 (by decide) (hts _ flX7_restoreSnapshot_208) (fun _ h9 => h9) rfl dX7_restoreSnapshot_6 ?_
  refine lv_bne (tgt := 18) hx hb dX7_restoreSnapshot_9 (by decide) (fun c_3 => ?_) (fun c_3 => ?_)
  · have hf := ip c_3 hf
    refine lv_aload_n hx hb dX7_restoreSnapshot_18 rfl (lv_at hl 0 rfl) ?_
    obtain ⟨r_4, e_4, hf⟩ := bo hf
    refine mcallVv (W0 := (wM g m0 m1 m2 m3 m4 (M_th' μ (0 : Int32)))) (Wc := (wM g m0 m1 m2 m3 m4 (M_th' μ (0 : Int32)))) (Wr := ([] : va_W)) (W1 := (wM g m0 m1 m2 m3 m4 r_4)) (W2 := (wM g m0 m1 m2 m3 m4 r_4)) (As := []) (rest := []) [0, 1, 2, 3, 4] [] [0, 1, 2, 3, 4] 5 0 ⟨hx, hb, hml, hown, hts⟩ hP hD hE hZ hS hA (cX7_records_ok l g m0 m1 m2 m3 m4 (M_th' μ (0 : Int32)) _ e_4) (cwV 0 hts gX7_restoreSnapshot_X7_records rfl rfl rfl hdX7_records ⟨(Nat.le_of_ble_eq_true rfl), (Nat.le_of_ble_eq_true rfl)⟩) rfl rfl rfl (by decide) (by decide) (by decide) (by decide) rfl rfl rfl rfl hl.1 rfl (Nat.le_of_ble_eq_true rfl) ⟨(Nat.le_of_ble_eq_true rfl), (Nat.le_of_ble_eq_true rfl)⟩ dX7_restoreSnapshot_19 (fun H locs hP hD hS => ?_)
    refine lv_iconst (v := (0 : Int32)) hx hb dX7_restoreSnapshot_22 (by decide) ?_
    refine lv_istore_n (lv' := [(1, .int (0 : Int32)), (0, .ref m0)]) hx hb dX7_restoreSnapshot_23 rfl hl (by decide) rfl (fun ls hl => ?_)
    exact hB24 FU (0 : Int32) r_4 _ _ ls hP hD hS (lv_sub hl [1, 0] rfl) hf
  · have hf := iq c_3 hf
    refine lv_aload_n hx hb dX7_restoreSnapshot_12 rfl (lv_at hl 0 rfl) ?_
    refine lv_iconst (v := (1 : Int32)) hx hb dX7_restoreSnapshot_13 (by decide) ?_
    obtain ⟨r_5, e_5, hf⟩ := bo hf
    refine mcallVi (W0 := (wM g m0 m1 m2 m3 m4 (M_th' μ (0 : Int32)))) (Wc := (wM g m0 m1 m2 m3 m4 (M_th' μ (0 : Int32)))) (Wr := ([] : va_W)) (W1 := (wM g m0 m1 m2 m3 m4 r_5.2)) (W2 := (wM g m0 m1 m2 m3 m4 r_5.2)) (As := [.int (1 : Int32)]) (rest := []) [0, 1, 2, 3, 4] [] [0, 1, 2, 3, 4] 5 0 ⟨hx, hb, hml, hown, hts⟩ hP hD hE hZ hS hA (cX7_fails_ok l g m0 m1 m2 m3 m4 (M_th' μ (0 : Int32)) (1 : Int32) _ e_5) (cwV 1 hts gX7_restoreSnapshot_X7_fails rfl rfl rfl hdX7_fails ⟨(Nat.le_of_ble_eq_true rfl), (Nat.le_of_ble_eq_true rfl)⟩) rfl rfl rfl (by decide) (by decide) (by decide) (by decide) rfl rfl rfl rfl hl.1 rfl (Nat.le_of_ble_eq_true rfl) ⟨(Nat.le_of_ble_eq_true rfl), (Nat.le_of_ble_eq_true rfl)⟩ dX7_restoreSnapshot_14 (fun H locs hP hD hS => ?_)
    have ho := Option.some.inj hf
    subst ho
    exact m_iret (v := r_5.1) hx hb hr hlocks hP hD hS rfl dX7_restoreSnapshot_17
