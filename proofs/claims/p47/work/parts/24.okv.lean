/-! calls that return: the same methods, where their function answers .ok -/
theorem okI {ε α : Type} {a b : α} (h : (some (.ok a) : Option (Except ε α)) = some (.ok b)) : a = b := by cases h; rfl
theorem xok {α β : Type} {x : Option (Except String α)} {k : α → Option (Except String β)} {o : β} (hf : xthen x k = some (.ok o)) : ∃ v, x = some (.ok v) ∧ k v = some (.ok o) := by
  match x, hf with
  | some (.ok v), hf => exact ⟨v, rfl, hf⟩
  | some (.error e), hf => exact nomatch (show (some (.error e) : Option (Except String β)) = some (.ok o) from hf)
abbrev rmX6_requireLine_k : Room := { frames := 1, cells := 0, slots := 0, locals := 21 }
theorem fiX6_requireLine_k_X6 : ∀ w ∈ wsX60, w ∈ wsX6_requireLine := by decide +kernel
theorem flX6_requireLine_k_10 : (.fieldLink RX6 10 "ContourLabels" "sheet" "LContourLabels$Sheet;" : Cond) ∈ wsX6_requireLine := by decide +kernel
set_option maxHeartbeats 4000000 in
set_option maxRecDepth 100000 in
theorem cX6_requireLine_k_ok (l : Launch) (g : Gg) (c0 h k0 x0 d0 a1 a2 a3 a4 : Nat) (σ : Sh) (p0 : Int32) (sz : Nat) {o : Unit} (hf : fX6_requireLine σ p0 = some (.ok o)) : Met l yX6_requireLine wsX6_requireLine rmX6_requireLine_k (va_Pc [.ref c0, .int p0] (PM g (wC c0 h k0 x0 d0 ++ (wS g h a1 a2 a3 a4 σ)) sz)) (va_Qv (fun _ : Unit => True) (fun _ t => PQ g (wC c0 h k0 x0 d0 ++ (wS g h a1 a2 a3 a4 σ)) (va_A (wC c0 h k0 x0 d0 ++ (wS g h a1 a2 a3 a4 σ)) sz) t) (va_A (wC c0 h k0 x0 d0 ++ (wS g h a1 a2 a3 a4 σ)) sz)) 0 0 (va_A (wC c0 h k0 x0 d0 ++ (wS g h a1 a2 a3 a4 σ)) sz) := by
  refine Met.ofW (cc := cX6_requireLine) (maxL := 2) (ret := none) (by decide) rfl ?_
  intro p e s m args below meth c s₁ B hml hv
  obtain ⟨rfl, rfl, hP, hD0, hE, hZ⟩ := hv
  have hx := B.exec
  have hb := B.bytes
  have hr := B.returns
  have hts := atoms_spec (ws := wsX6_requireLine) B.pre
  have hown : s.vm.findClass RX6 = some m.cls := findClass_of_methodNamed B.named
  have hlocks := B.notSynchronized
  have hD := hD0.self (sz := s.heap.size)
  generalize hAe : (va_A (wC c0 h k0 x0 d0 ++ (wS g h a1 a2 a3 a4 σ)) s.heap.size) = A at hD hZ ⊢
  have hA : ∀ q : Nat, s.heap.size ≤ q → A q := fun q h => by rw [← hAe]; exact Or.inr h
  have hS : va_S A s.heap s.heap [] := va_S.rf
  have hP : va_P g.1 vwCl (wC c0 h k0 x0 d0 ++ (wS g h a1 a2 a3 a4 σ)) s.heap := hP
  have hl := lv_entry ([.ref c0, .int p0]) (n := 2) (Nat.le_of_ble_eq_true rfl)
  rw [lg_entry_eq]
  generalize (lg_sl ([.ref c0, .int p0]) ++ List.replicate (2 - (lg_sl ([.ref c0, .int p0])).length) Slot.unset).toArray = ls at hl ⊢
  have hl : lv_has ls 2 [(0, .ref c0), (1, .int p0)] := hl
  unfold fX6_requireLine at hf
  refine lv_aload_n hx hb dX6_requireLine_0 rfl (lv_at hl 0 rfl) ?_
  refine va_get (v := .ref h) (C := RX6) (T := TX6) (N := 4) hx hb hts fiX6_requireLine_k_X6 hown hE.1 hP 0 rfl rfl 0 (by decide) (hts _ flX6_requireLine_k_10) (fun _ h9 => h9) rfl dX6_requireLine_1 ?_
  refine lv_iload_n hx hb dX6_requireLine_4 rfl (lv_at hl 1 rfl) ?_
  obtain ⟨r_1, e_1, hf⟩ := bo hf
  refine pcallV (W0 := (wC c0 h k0 x0 d0 ++ (wS g h a1 a2 a3 a4 σ))) (As := [.int p0]) (rest := []) [1, 2, 3, 4, 5] 3 0 ⟨hx, hb, hml, hown, hts⟩ hP hE hZ hS (cX4_hasLine_ok l g h a1 a2 a3 a4 σ p0 e_1) (cwV 1 hts gX6_requireLine_X4_hasLine rfl rfl rfl hdX4_hasLine ⟨(Nat.le_of_ble_eq_true rfl), (Nat.le_of_ble_eq_true rfl)⟩) rfl rfl rfl rfl rfl hl.1 rfl (Nat.le_of_ble_eq_true rfl) ⟨(Nat.le_of_ble_eq_true rfl), (Nat.le_of_ble_eq_true rfl)⟩ dX6_requireLine_5 ?_
  refine lv_bne (tgt := 22) hx hb dX6_requireLine_8 (by decide) (fun c_2 => ?_) (fun c_2 => ?_)
  · have hf := ip c_2 hf
    have ho := okI hf
    subst ho
    exact m_vret hx hb hr hlocks hP hD hS dX6_requireLine_22
  · have hf := iq c_2 hf
    exact nomatch (show (some (.error "java/lang/IndexOutOfBoundsException") : Option (Except String (Unit))) = some (.ok _) from hf)

abbrev rmX6_requireNumber_k : Room := { frames := 1, cells := 0, slots := 0, locals := 22 }
theorem fiX6_requireNumber_k_X6 : ∀ w ∈ wsX60, w ∈ wsX6_requireNumber := by decide +kernel
theorem flX6_requireNumber_k_10 : (.fieldLink RX6 10 "ContourLabels" "sheet" "LContourLabels$Sheet;" : Cond) ∈ wsX6_requireNumber := by decide +kernel
set_option maxHeartbeats 4000000 in
set_option maxRecDepth 100000 in
theorem cX6_requireNumber_k_ok (l : Launch) (g : Gg) (c0 h k0 x0 d0 a1 a2 a3 a4 : Nat) (σ : Sh) (p0 p1 : Int32) (sz : Nat) {o : Unit} (hf : fX6_requireNumber σ p0 p1 = some (.ok o)) : Met l yX6_requireNumber wsX6_requireNumber rmX6_requireNumber_k (va_Pc [.ref c0, .int p0, .int p1] (PM g (wC c0 h k0 x0 d0 ++ (wS g h a1 a2 a3 a4 σ)) sz)) (va_Qv (fun _ : Unit => True) (fun _ t => PQ g (wC c0 h k0 x0 d0 ++ (wS g h a1 a2 a3 a4 σ)) (va_A (wC c0 h k0 x0 d0 ++ (wS g h a1 a2 a3 a4 σ)) sz) t) (va_A (wC c0 h k0 x0 d0 ++ (wS g h a1 a2 a3 a4 σ)) sz)) 0 0 (va_A (wC c0 h k0 x0 d0 ++ (wS g h a1 a2 a3 a4 σ)) sz) := by
  refine Met.ofW (cc := cX6_requireNumber) (maxL := 3) (ret := none) (by decide) rfl ?_
  intro p e s m args below meth c s₁ B hml hv
  obtain ⟨rfl, rfl, hP, hD0, hE, hZ⟩ := hv
  have hx := B.exec
  have hb := B.bytes
  have hr := B.returns
  have hts := atoms_spec (ws := wsX6_requireNumber) B.pre
  have hown : s.vm.findClass RX6 = some m.cls := findClass_of_methodNamed B.named
  have hlocks := B.notSynchronized
  have hD := hD0.self (sz := s.heap.size)
  generalize hAe : (va_A (wC c0 h k0 x0 d0 ++ (wS g h a1 a2 a3 a4 σ)) s.heap.size) = A at hD hZ ⊢
  have hA : ∀ q : Nat, s.heap.size ≤ q → A q := fun q h => by rw [← hAe]; exact Or.inr h
  have hS : va_S A s.heap s.heap [] := va_S.rf
  have hP : va_P g.1 vwCl (wC c0 h k0 x0 d0 ++ (wS g h a1 a2 a3 a4 σ)) s.heap := hP
  have hl := lv_entry ([.ref c0, .int p0, .int p1]) (n := 3) (Nat.le_of_ble_eq_true rfl)
  rw [lg_entry_eq]
  generalize (lg_sl ([.ref c0, .int p0, .int p1]) ++ List.replicate (3 - (lg_sl ([.ref c0, .int p0, .int p1])).length) Slot.unset).toArray = ls at hl ⊢
  have hl : lv_has ls 3 [(0, .ref c0), (1, .int p0), (2, .int p1)] := hl
  unfold fX6_requireNumber at hf
  refine lv_aload_n hx hb dX6_requireNumber_0 rfl (lv_at hl 0 rfl) ?_
  refine va_get (v := .ref h) (C := RX6) (T := TX6) (N := 4) hx hb hts fiX6_requireNumber_k_X6 hown hE.1 hP 0 rfl rfl 0 (by decide) (hts _ flX6_requireNumber_k_10) (fun _ h9 => h9) rfl dX6_requireNumber_1 ?_
  refine lv_iload_n hx hb dX6_requireNumber_4 rfl (lv_at hl 1 rfl) ?_
  refine lv_iload_n hx hb dX6_requireNumber_5 rfl (lv_at hl 2 rfl) ?_
  obtain ⟨r_1, e_1, hf⟩ := bo hf
  refine pcallV (W0 := (wC c0 h k0 x0 d0 ++ (wS g h a1 a2 a3 a4 σ))) (As := [.int p0, .int p1]) (rest := []) [1, 2, 3, 4, 5] 3 0 ⟨hx, hb, hml, hown, hts⟩ hP hE hZ hS (cX4_hasNumber_ok l g h a1 a2 a3 a4 σ p0 p1 e_1) (cwV 2 hts gX6_requireNumber_X4_hasNumber rfl rfl rfl hdX4_hasNumber ⟨(Nat.le_of_ble_eq_true rfl), (Nat.le_of_ble_eq_true rfl)⟩) rfl rfl rfl rfl rfl hl.1 rfl (Nat.le_of_ble_eq_true rfl) ⟨(Nat.le_of_ble_eq_true rfl), (Nat.le_of_ble_eq_true rfl)⟩ dX6_requireNumber_6 ?_
  refine lv_bne (tgt := 23) hx hb dX6_requireNumber_9 (by decide) (fun c_2 => ?_) (fun c_2 => ?_)
  · have hf := ip c_2 hf
    have ho := okI hf
    subst ho
    exact m_vret hx hb hr hlocks hP hD hS dX6_requireNumber_23
  · have hf := iq c_2 hf
    exact nomatch (show (some (.error "java/lang/IndexOutOfBoundsException") : Option (Except String (Unit))) = some (.ok _) from hf)

abbrev rmX6_requirePoint_k : Room := { frames := 1, cells := 0, slots := 0, locals := 20 }
set_option maxHeartbeats 4000000 in
set_option maxRecDepth 100000 in
theorem cX6_requirePoint_k_ok (l : Launch) (g : Gg) (p0 : Int32) (sz : Nat) {o : Unit} (hf : fX6_requirePoint p0 = some (.ok o)) : Met l yX6_requirePoint wsX6_requirePoint rmX6_requirePoint_k (va_Pc [.int p0] (PM g ([] : va_W) sz)) (va_Qv (fun _ : Unit => True) (fun _ t => PQ g ([] : va_W) (va_A ([] : va_W) sz) t) (va_A ([] : va_W) sz)) 0 0 (va_A ([] : va_W) sz) := by
  refine Met.ofW (cc := cX6_requirePoint) (maxL := 1) (ret := none) (by decide) rfl ?_
  intro p e s m args below meth c s₁ B hml hv
  obtain ⟨rfl, rfl, hP, hD0, hE, hZ⟩ := hv
  have hx := B.exec
  have hb := B.bytes
  have hr := B.returns
  have hts := atoms_spec (ws := wsX6_requirePoint) B.pre
  have hown : s.vm.findClass RX6 = some m.cls := findClass_of_methodNamed B.named
  have hlocks := B.notSynchronized
  have hD := hD0.self (sz := s.heap.size)
  generalize hAe : (va_A ([] : va_W) s.heap.size) = A at hD hZ ⊢
  have hA : ∀ q : Nat, s.heap.size ≤ q → A q := fun q h => by rw [← hAe]; exact Or.inr h
  have hS : va_S A s.heap s.heap [] := va_S.rf
  have hP : va_P g.1 vwCl ([] : va_W) s.heap := hP
  have hl := lv_entry ([.int p0]) (n := 1) (Nat.le_of_ble_eq_true rfl)
  rw [lg_entry_eq]
  generalize (lg_sl ([.int p0]) ++ List.replicate (1 - (lg_sl ([.int p0])).length) Slot.unset).toArray = ls at hl ⊢
  have hl : lv_has ls 1 [(0, .int p0)] := hl
  unfold fX6_requirePoint at hf
  refine lv_iload_n hx hb dX6_requirePoint_0 rfl (lv_at hl 0 rfl) ?_
  obtain ⟨r_1, e_1, hf⟩ := bo hf
  refine pcallS (W0 := ([] : va_W)) (As := [.int p0]) (rest := []) [] ⟨hx, hb, hml, hown, hts⟩ hP hE hZ hS (cX6_isOnMap_ok l g  p0 e_1) (va_cwS 1 hts gX6_requirePoint_X6_isOnMap rfl rfl rfl hdX6_isOnMap.2 ⟨(Nat.le_of_ble_eq_true rfl), (Nat.le_of_ble_eq_true rfl)⟩) rfl rfl hl.1 rfl (Nat.le_of_ble_eq_true rfl) ⟨(Nat.le_of_ble_eq_true rfl), (Nat.le_of_ble_eq_true rfl)⟩ dX6_requirePoint_1 ?_
  refine lv_bne (tgt := 18) hx hb dX6_requirePoint_4 (by decide) (fun c_2 => ?_) (fun c_2 => ?_)
  · have hf := ip c_2 hf
    have ho := okI hf
    subst ho
    exact m_vret hx hb hr hlocks hP hD hS dX6_requirePoint_18
  · have hf := iq c_2 hf
    exact nomatch (show (some (.error "java/lang/IndexOutOfBoundsException") : Option (Except String (Unit))) = some (.ok _) from hf)

abbrev rmX6_requireLevel_k : Room := { frames := 0, cells := 0, slots := 0, locals := 0 }
set_option maxHeartbeats 4000000 in
set_option maxRecDepth 100000 in
theorem cX6_requireLevel_k_ok (l : Launch) (g : Gg) (p0 : Int32) (sz : Nat) {o : Unit} (hf : fX6_requireLevel p0 = some (.ok o)) : Met l yX6_requireLevel wsX6_requireLevel rmX6_requireLevel_k (va_Pc [.int p0] (PM g ([] : va_W) sz)) (va_Qv (fun _ : Unit => True) (fun _ t => PQ g ([] : va_W) (va_A ([] : va_W) sz) t) (va_A ([] : va_W) sz)) 0 0 (va_A ([] : va_W) sz) := by
  refine Met.ofW (cc := cX6_requireLevel) (maxL := 1) (ret := none) (by decide) rfl ?_
  intro p e s m args below meth c s₁ B hml hv
  obtain ⟨rfl, rfl, hP, hD0, hE, hZ⟩ := hv
  have hx := B.exec
  have hb := B.bytes
  have hr := B.returns
  have hts := atoms_spec (ws := wsX6_requireLevel) B.pre
  have hown : s.vm.findClass RX6 = some m.cls := findClass_of_methodNamed B.named
  have hlocks := B.notSynchronized
  have hD := hD0.self (sz := s.heap.size)
  generalize hAe : (va_A ([] : va_W) s.heap.size) = A at hD hZ ⊢
  have hA : ∀ q : Nat, s.heap.size ≤ q → A q := fun q h => by rw [← hAe]; exact Or.inr h
  have hS : va_S A s.heap s.heap [] := va_S.rf
  have hP : va_P g.1 vwCl ([] : va_W) s.heap := hP
  have hl := lv_entry ([.int p0]) (n := 1) (Nat.le_of_ble_eq_true rfl)
  rw [lg_entry_eq]
  generalize (lg_sl ([.int p0]) ++ List.replicate (1 - (lg_sl ([.int p0])).length) Slot.unset).toArray = ls at hl ⊢
  have hl : lv_has ls 1 [(0, .int p0)] := hl
  unfold fX6_requireLevel at hf
  refine lv_iload_n hx hb dX6_requireLevel_0 rfl (lv_at hl 0 rfl) ?_
  refine lv_if_lt (tgt := 10) hx hb dX6_requireLevel_1 (by decide) (fun c_1 => ?_) (fun c_1 => ?_)
  · have hf := ip c_1 hf
    exact nomatch (show (some (.error "java/lang/IllegalArgumentException") : Option (Except String (Unit))) = some (.ok _) from hf)
  · have hf := iq c_1 hf
    refine lv_iload_n hx hb dX6_requireLevel_4 rfl (lv_at hl 0 rfl) ?_
    refine lv_bipush (v := (99 : Int32)) hx hb dX6_requireLevel_5 (by decide) ?_
    refine lv_icmp_le (tgt := 21) hx hb dX6_requireLevel_7 (by decide) (fun c_2 => ?_) (fun c_2 => ?_)
    · have hf := ip c_2 hf
      have ho := okI hf
      subst ho
      exact m_vret hx hb hr hlocks hP hD hS dX6_requireLevel_21
    · have hf := iq c_2 hf
      exact nomatch (show (some (.error "java/lang/IllegalArgumentException") : Option (Except String (Unit))) = some (.ok _) from hf)

abbrev rmX6_requireDirection_k : Room := { frames := 1, cells := 0, slots := 0, locals := 20 }
set_option maxHeartbeats 4000000 in
set_option maxRecDepth 100000 in
theorem cX6_requireDirection_k_ok (l : Launch) (g : Gg) (p0 : Int32) (sz : Nat) {o : Unit} (hf : fX6_requireDirection p0 = some (.ok o)) : Met l yX6_requireDirection wsX6_requireDirection rmX6_requireDirection_k (va_Pc [.int p0] (PM g ([] : va_W) sz)) (va_Qv (fun _ : Unit => True) (fun _ t => PQ g ([] : va_W) (va_A ([] : va_W) sz) t) (va_A ([] : va_W) sz)) 0 0 (va_A ([] : va_W) sz) := by
  refine Met.ofW (cc := cX6_requireDirection) (maxL := 1) (ret := none) (by decide) rfl ?_
  intro p e s m args below meth c s₁ B hml hv
  obtain ⟨rfl, rfl, hP, hD0, hE, hZ⟩ := hv
  have hx := B.exec
  have hb := B.bytes
  have hr := B.returns
  have hts := atoms_spec (ws := wsX6_requireDirection) B.pre
  have hown : s.vm.findClass RX6 = some m.cls := findClass_of_methodNamed B.named
  have hlocks := B.notSynchronized
  have hD := hD0.self (sz := s.heap.size)
  generalize hAe : (va_A ([] : va_W) s.heap.size) = A at hD hZ ⊢
  have hA : ∀ q : Nat, s.heap.size ≤ q → A q := fun q h => by rw [← hAe]; exact Or.inr h
  have hS : va_S A s.heap s.heap [] := va_S.rf
  have hP : va_P g.1 vwCl ([] : va_W) s.heap := hP
  have hl := lv_entry ([.int p0]) (n := 1) (Nat.le_of_ble_eq_true rfl)
  rw [lg_entry_eq]
  generalize (lg_sl ([.int p0]) ++ List.replicate (1 - (lg_sl ([.int p0])).length) Slot.unset).toArray = ls at hl ⊢
  have hl : lv_has ls 1 [(0, .int p0)] := hl
  unfold fX6_requireDirection at hf
  refine lv_iload_n hx hb dX6_requireDirection_0 rfl (lv_at hl 0 rfl) ?_
  obtain ⟨r_1, e_1, hf⟩ := bo hf
  refine pcallS (W0 := ([] : va_W)) (As := [.int p0]) (rest := []) [] ⟨hx, hb, hml, hown, hts⟩ hP hE hZ hS (cX6_isDirection_ok l g  p0 e_1) (va_cwS 1 hts gX6_requireDirection_X6_isDirection rfl rfl rfl hdX6_isDirection.2 ⟨(Nat.le_of_ble_eq_true rfl), (Nat.le_of_ble_eq_true rfl)⟩) rfl rfl hl.1 rfl (Nat.le_of_ble_eq_true rfl) ⟨(Nat.le_of_ble_eq_true rfl), (Nat.le_of_ble_eq_true rfl)⟩ dX6_requireDirection_1 ?_
  refine lv_bne (tgt := 18) hx hb dX6_requireDirection_4 (by decide) (fun c_2 => ?_) (fun c_2 => ?_)
  · have hf := ip c_2 hf
    have ho := okI hf
    subst ho
    exact m_vret hx hb hr hlocks hP hD hS dX6_requireDirection_18
  · have hf := iq c_2 hf
    exact nomatch (show (some (.error "java/lang/IllegalArgumentException") : Option (Except String (Unit))) = some (.ok _) from hf)

abbrev rmX6_wipe_k : Room := { frames := 4, cells := 0, slots := 0, locals := 103 }
theorem fiX6_wipe_k_X6 : ∀ w ∈ wsX60, w ∈ wsX6_wipe := by decide +kernel
theorem flX6_wipe_k_19 : (.fieldLink RX6 19 "ContourLabels" "history" "LContourLabels$History;" : Cond) ∈ wsX6_wipe := by decide +kernel
theorem flX6_wipe_k_10 : (.fieldLink RX6 10 "ContourLabels" "sheet" "LContourLabels$Sheet;" : Cond) ∈ wsX6_wipe := by decide +kernel
set_option maxHeartbeats 4000000 in
set_option maxRecDepth 100000 in
theorem cX6_wipe_k_ok (l : Launch) (g : Gg) (c0 h k0 x0 d0 a1 a2 a3 a4 k1 : Nat) (γ : Nat → Nat → Nat) (σ : Sh) (η : Hi) (p0 : Int32) (sz : Nat) {o : Int32 × Sh × Hi} (hf : fX6_wipe σ η p0 = some (.ok o)) : Met l yX6_wipe wsX6_wipe rmX6_wipe_k (va_Pc [.ref c0, .int p0] (PM g (wC c0 h k0 x0 d0 ++ (wS g h a1 a2 a3 a4 σ ++ (wH g k0 k1 γ η))) sz)) (va_Qi (fun r' (_ : Unit) => r' = o.1) (fun _ t => PQ g (wC c0 h k0 x0 d0 ++ (wS g h a1 a2 a3 a4 o.2.1 ++ (wH g k0 k1 γ o.2.2))) (va_A (wC c0 h k0 x0 d0 ++ (wS g h a1 a2 a3 a4 σ ++ (wH g k0 k1 γ η))) sz) t) (va_A (wC c0 h k0 x0 d0 ++ (wS g h a1 a2 a3 a4 σ ++ (wH g k0 k1 γ η))) sz)) 0 0 (va_A (wC c0 h k0 x0 d0 ++ (wS g h a1 a2 a3 a4 σ ++ (wH g k0 k1 γ η))) sz) := by
  refine Met.ofW (cc := cX6_wipe) (maxL := 2) (ret := (some .int)) (by decide) rfl ?_
  intro p e s m args below meth c s₁ B hml hv
  obtain ⟨rfl, rfl, hP, hD0, hE, hZ⟩ := hv
  have hx := B.exec
  have hb := B.bytes
  have hr := B.returns
  have hts := atoms_spec (ws := wsX6_wipe) B.pre
  have hown : s.vm.findClass RX6 = some m.cls := findClass_of_methodNamed B.named
  have hlocks := B.notSynchronized
  have hD := hD0.self (sz := s.heap.size)
  generalize hAe : (va_A (wC c0 h k0 x0 d0 ++ (wS g h a1 a2 a3 a4 σ ++ (wH g k0 k1 γ η))) s.heap.size) = A at hD hZ ⊢
  have hA : ∀ q : Nat, s.heap.size ≤ q → A q := fun q h => by rw [← hAe]; exact Or.inr h
  have hS : va_S A s.heap s.heap [] := va_S.rf
  have hP : va_P g.1 vwCl (wC c0 h k0 x0 d0 ++ (wS g h a1 a2 a3 a4 σ ++ (wH g k0 k1 γ η))) s.heap := hP
  have hl := lv_entry ([.ref c0, .int p0]) (n := 2) (Nat.le_of_ble_eq_true rfl)
  rw [lg_entry_eq]
  generalize (lg_sl ([.ref c0, .int p0]) ++ List.replicate (2 - (lg_sl ([.ref c0, .int p0])).length) Slot.unset).toArray = ls at hl ⊢
  have hl : lv_has ls 2 [(0, .ref c0), (1, .int p0)] := hl
  unfold fX6_wipe at hf
  refine lv_aload_n hx hb dX6_wipe_0 rfl (lv_at hl 0 rfl) ?_
  refine lv_iload_n hx hb dX6_wipe_1 rfl (lv_at hl 1 rfl) ?_
  obtain ⟨r_1, e_1, hf⟩ := xok hf
  refine mcallVv (W0 := (wC c0 h k0 x0 d0 ++ (wS g h a1 a2 a3 a4 σ ++ (wH g k0 k1 γ η)))) (Wc := (wC c0 h k0 x0 d0 ++ (wS g h a1 a2 a3 a4 σ))) (Wr := (wH g k0 k1 γ η)) (W1 := (wC c0 h k0 x0 d0 ++ (wS g h a1 a2 a3 a4 σ))) (W2 := (wC c0 h k0 x0 d0 ++ (wS g h a1 a2 a3 a4 σ ++ (wH g k0 k1 γ η)))) (As := [.int p0]) (rest := []) [0, 1, 2, 3, 4, 5] [6, 7, 8, 9, 10, 11, 12, 13, 14, 15, 16, 17, 18, 19, 20, 21, 22, 23, 24, 25, 26, 27, 28, 29, 30, 31, 32, 33, 34, 35, 36, 37] [32, 33, 34, 35, 36, 37, 0, 1, 2, 3, 4, 5, 6, 7, 8, 9, 10, 11, 12, 13, 14, 15, 16, 17, 18, 19, 20, 21, 22, 23, 24, 25, 26, 27, 28, 29, 30, 31] 4 0 ⟨hx, hb, hml, hown, hts⟩ hP hD hE hZ hS hA (cX6_requireLine_k_ok l g  c0 h k0 x0 d0 a1 a2 a3 a4 σ p0 _ e_1) (cwV 1 hts gX6_wipe_X6_requireLine rfl rfl rfl hdX6_requireLine ⟨(Nat.le_of_ble_eq_true rfl), (Nat.le_of_ble_eq_true rfl)⟩) rfl rfl rfl (by decide) (by decide) (by decide) (by decide) rfl rfl rfl rfl hl.1 rfl (Nat.le_of_ble_eq_true rfl) ⟨(Nat.le_of_ble_eq_true rfl), (Nat.le_of_ble_eq_true rfl)⟩ dX6_wipe_2 (fun H locs hP hD hS => ?_)
  refine lv_aload_n hx hb dX6_wipe_5 rfl (lv_at hl 0 rfl) ?_
  refine va_get (v := .ref k0) (C := RX6) (T := TX6) (N := 4) hx hb hts fiX6_wipe_k_X6 hown hE.1 hP 0 rfl rfl 1 (by decide) (hts _ flX6_wipe_k_19) (fun _ h9 => h9) rfl dX6_wipe_6 ?_
  refine lv_aload_n hx hb dX6_wipe_9 rfl (lv_at hl 0 rfl) ?_
  refine va_get (v := .ref h) (C := RX6) (T := TX6) (N := 4) hx hb hts fiX6_wipe_k_X6 hown hE.1 hP 0 rfl rfl 0 (by decide) (hts _ flX6_wipe_k_10) (fun _ h9 => h9) rfl dX6_wipe_10 ?_
  obtain ⟨r_2, e_2, hf⟩ := bo hf
  refine mcallVv (W0 := (wC c0 h k0 x0 d0 ++ (wS g h a1 a2 a3 a4 σ ++ (wH g k0 k1 γ η)))) (Wc := (wS g h a1 a2 a3 a4 σ ++ (wH g k0 k1 γ η))) (Wr := (wC c0 h k0 x0 d0)) (W1 := (wS g h a1 a2 a3 a4 σ ++ (wH g k0 k1 γ r_2))) (W2 := (wC c0 h k0 x0 d0 ++ (wS g h a1 a2 a3 a4 σ ++ (wH g k0 k1 γ r_2)))) (As := [.ref h]) (rest := []) [1, 2, 3, 4, 5, 6, 7, 8, 9, 10, 11, 12, 13, 14, 15, 16, 17, 18, 19, 20, 21, 22, 23, 24, 25, 26, 27, 28, 29, 30, 31, 32, 33, 34, 35, 36, 37] [0] [0, 1, 2, 3, 4, 5, 6, 7, 8, 9, 10, 11, 12, 13, 14, 15, 16, 17, 18, 19, 20, 21, 22, 23, 24, 25, 26, 27, 28, 29, 30, 31, 32, 33, 34, 35, 36, 37] 1 5 ⟨hx, hb, hml, hown, hts⟩ hP hD hE hZ hS hA (cX1_save_ok l g  h a1 a2 a3 a4 k0 k1 γ σ η _ e_2) (cwV 1 hts gX6_wipe_X1_save rfl rfl rfl hdX1_save ⟨(Nat.le_of_ble_eq_true rfl), (Nat.le_of_ble_eq_true rfl)⟩) rfl rfl rfl (by decide) (by decide) (by decide) (by decide) rfl rfl rfl rfl hl.1 rfl (Nat.le_of_ble_eq_true rfl) ⟨(Nat.le_of_ble_eq_true rfl), (Nat.le_of_ble_eq_true rfl)⟩ dX6_wipe_13 (fun H locs hP hD hS => ?_)
  refine lv_aload_n hx hb dX6_wipe_16 rfl (lv_at hl 0 rfl) ?_
  refine va_get (v := .ref h) (C := RX6) (T := TX6) (N := 4) hx hb hts fiX6_wipe_k_X6 hown hE.1 hP 0 rfl rfl 0 (by decide) (hts _ flX6_wipe_k_10) (fun _ h9 => h9) rfl dX6_wipe_17 ?_
  refine lv_iload_n hx hb dX6_wipe_20 rfl (lv_at hl 1 rfl) ?_
  obtain ⟨r_3, e_3, hf⟩ := bo hf
  refine mcallVi (W0 := (wC c0 h k0 x0 d0 ++ (wS g h a1 a2 a3 a4 σ ++ (wH g k0 k1 γ r_2)))) (Wc := (wS g h a1 a2 a3 a4 σ)) (Wr := (wC c0 h k0 x0 d0 ++ (wH g k0 k1 γ r_2))) (W1 := (wS g h a1 a2 a3 a4 r_3.2)) (W2 := (wC c0 h k0 x0 d0 ++ (wS g h a1 a2 a3 a4 r_3.2 ++ (wH g k0 k1 γ r_2)))) (As := [.int p0]) (rest := []) [1, 2, 3, 4, 5] [0, 6, 7, 8, 9, 10, 11, 12, 13, 14, 15, 16, 17, 18, 19, 20, 21, 22, 23, 24, 25, 26, 27, 28, 29, 30, 31, 32, 33, 34, 35, 36, 37] [0, 33, 34, 35, 36, 37, 1, 2, 3, 4, 5, 6, 7, 8, 9, 10, 11, 12, 13, 14, 15, 16, 17, 18, 19, 20, 21, 22, 23, 24, 25, 26, 27, 28, 29, 30, 31, 32] 3 0 ⟨hx, hb, hml, hown, hts⟩ hP hD hE hZ hS hA (cX4_removeLine_ok l g  h a1 a2 a3 a4 σ p0 _ e_3) (cwV 1 hts gX6_wipe_X4_removeLine rfl rfl rfl hdX4_removeLine ⟨(Nat.le_of_ble_eq_true rfl), (Nat.le_of_ble_eq_true rfl)⟩) rfl rfl rfl (by decide) (by decide) (by decide) (by decide) rfl rfl rfl rfl hl.1 rfl (Nat.le_of_ble_eq_true rfl) ⟨(Nat.le_of_ble_eq_true rfl), (Nat.le_of_ble_eq_true rfl)⟩ dX6_wipe_21 (fun H locs hP hD hS => ?_)
  refine lv_pop hx hb dX6_wipe_24 rfl ?_
  refine lv_aload_n hx hb dX6_wipe_25 rfl (lv_at hl 0 rfl) ?_
  refine va_get (v := .ref h) (C := RX6) (T := TX6) (N := 4) hx hb hts fiX6_wipe_k_X6 hown hE.1 hP 0 rfl rfl 0 (by decide) (hts _ flX6_wipe_k_10) (fun _ h9 => h9) rfl dX6_wipe_26 ?_
  obtain ⟨r_4, e_4, hf⟩ := bo hf
  refine pcallV (W0 := (wC c0 h k0 x0 d0 ++ (wS g h a1 a2 a3 a4 r_3.2 ++ (wH g k0 k1 γ r_2)))) (As := []) (rest := []) [1, 2, 3, 4, 5] 3 0 ⟨hx, hb, hml, hown, hts⟩ hP hE hZ hS (cX4_lineCount_ok l g h a1 a2 a3 a4 r_3.2 e_4) (cwV 0 hts gX6_wipe_X4_lineCount rfl rfl rfl hdX4_lineCount ⟨(Nat.le_of_ble_eq_true rfl), (Nat.le_of_ble_eq_true rfl)⟩) rfl rfl rfl rfl rfl hl.1 rfl (Nat.le_of_ble_eq_true rfl) ⟨(Nat.le_of_ble_eq_true rfl), (Nat.le_of_ble_eq_true rfl)⟩ dX6_wipe_29 ?_
  have ho := okI hf
  subst ho
  exact m_iret (v := r_4) hx hb hr hlocks hP hD hS rfl dX6_wipe_32

abbrev rmX6_setLevel_k : Room := { frames := 4, cells := 0, slots := 0, locals := 103 }
theorem fiX6_setLevel_k_X6 : ∀ w ∈ wsX60, w ∈ wsX6_setLevel := by decide +kernel
theorem flX6_setLevel_k_19 : (.fieldLink RX6 19 "ContourLabels" "history" "LContourLabels$History;" : Cond) ∈ wsX6_setLevel := by decide +kernel
theorem flX6_setLevel_k_10 : (.fieldLink RX6 10 "ContourLabels" "sheet" "LContourLabels$Sheet;" : Cond) ∈ wsX6_setLevel := by decide +kernel
set_option maxHeartbeats 4000000 in
set_option maxRecDepth 100000 in
theorem cX6_setLevel_k_ok (l : Launch) (g : Gg) (c0 h k0 x0 d0 a1 a2 a3 a4 k1 : Nat) (γ : Nat → Nat → Nat) (σ : Sh) (η : Hi) (p0 p1 : Int32) (sz : Nat) {o : Int32 × Sh × Hi} (hf : fX6_setLevel σ η p0 p1 = some (.ok o)) : Met l yX6_setLevel wsX6_setLevel rmX6_setLevel_k (va_Pc [.ref c0, .int p0, .int p1] (PM g (wC c0 h k0 x0 d0 ++ (wS g h a1 a2 a3 a4 σ ++ (wH g k0 k1 γ η))) sz)) (va_Qi (fun r' (_ : Unit) => r' = o.1) (fun _ t => PQ g (wC c0 h k0 x0 d0 ++ (wS g h a1 a2 a3 a4 o.2.1 ++ (wH g k0 k1 γ o.2.2))) (va_A (wC c0 h k0 x0 d0 ++ (wS g h a1 a2 a3 a4 σ ++ (wH g k0 k1 γ η))) sz) t) (va_A (wC c0 h k0 x0 d0 ++ (wS g h a1 a2 a3 a4 σ ++ (wH g k0 k1 γ η))) sz)) 0 0 (va_A (wC c0 h k0 x0 d0 ++ (wS g h a1 a2 a3 a4 σ ++ (wH g k0 k1 γ η))) sz) := by
  refine Met.ofW (cc := cX6_setLevel) (maxL := 4) (ret := (some .int)) (by decide) rfl ?_
  intro p e s m args below meth c s₁ B hml hv
  obtain ⟨rfl, rfl, hP, hD0, hE, hZ⟩ := hv
  have hx := B.exec
  have hb := B.bytes
  have hr := B.returns
  have hts := atoms_spec (ws := wsX6_setLevel) B.pre
  have hown : s.vm.findClass RX6 = some m.cls := findClass_of_methodNamed B.named
  have hlocks := B.notSynchronized
  have hD := hD0.self (sz := s.heap.size)
  generalize hAe : (va_A (wC c0 h k0 x0 d0 ++ (wS g h a1 a2 a3 a4 σ ++ (wH g k0 k1 γ η))) s.heap.size) = A at hD hZ ⊢
  have hA : ∀ q : Nat, s.heap.size ≤ q → A q := fun q h => by rw [← hAe]; exact Or.inr h
  have hS : va_S A s.heap s.heap [] := va_S.rf
  have hP : va_P g.1 vwCl (wC c0 h k0 x0 d0 ++ (wS g h a1 a2 a3 a4 σ ++ (wH g k0 k1 γ η))) s.heap := hP
  have hl := lv_entry ([.ref c0, .int p0, .int p1]) (n := 4) (Nat.le_of_ble_eq_true rfl)
  rw [lg_entry_eq]
  generalize (lg_sl ([.ref c0, .int p0, .int p1]) ++ List.replicate (4 - (lg_sl ([.ref c0, .int p0, .int p1])).length) Slot.unset).toArray = ls at hl ⊢
  have hl : lv_has ls 4 [(0, .ref c0), (1, .int p0), (2, .int p1)] := hl
  unfold fX6_setLevel at hf
  refine lv_aload_n hx hb dX6_setLevel_0 rfl (lv_at hl 0 rfl) ?_
  refine lv_iload_n hx hb dX6_setLevel_1 rfl (lv_at hl 1 rfl) ?_
  obtain ⟨r_1, e_1, hf⟩ := xok hf
  refine mcallVv (W0 := (wC c0 h k0 x0 d0 ++ (wS g h a1 a2 a3 a4 σ ++ (wH g k0 k1 γ η)))) (Wc := (wC c0 h k0 x0 d0 ++ (wS g h a1 a2 a3 a4 σ))) (Wr := (wH g k0 k1 γ η)) (W1 := (wC c0 h k0 x0 d0 ++ (wS g h a1 a2 a3 a4 σ))) (W2 := (wC c0 h k0 x0 d0 ++ (wS g h a1 a2 a3 a4 σ ++ (wH g k0 k1 γ η)))) (As := [.int p0]) (rest := []) [0, 1, 2, 3, 4, 5] [6, 7, 8, 9, 10, 11, 12, 13, 14, 15, 16, 17, 18, 19, 20, 21, 22, 23, 24, 25, 26, 27, 28, 29, 30, 31, 32, 33, 34, 35, 36, 37] [32, 33, 34, 35, 36, 37, 0, 1, 2, 3, 4, 5, 6, 7, 8, 9, 10, 11, 12, 13, 14, 15, 16, 17, 18, 19, 20, 21, 22, 23, 24, 25, 26, 27, 28, 29, 30, 31] 4 0 ⟨hx, hb, hml, hown, hts⟩ hP hD hE hZ hS hA (cX6_requireLine_k_ok l g  c0 h k0 x0 d0 a1 a2 a3 a4 σ p0 _ e_1) (cwV 1 hts gX6_setLevel_X6_requireLine rfl rfl rfl hdX6_requireLine ⟨(Nat.le_of_ble_eq_true rfl), (Nat.le_of_ble_eq_true rfl)⟩) rfl rfl rfl (by decide) (by decide) (by decide) (by decide) rfl rfl rfl rfl hl.1 rfl (Nat.le_of_ble_eq_true rfl) ⟨(Nat.le_of_ble_eq_true rfl), (Nat.le_of_ble_eq_true rfl)⟩ dX6_setLevel_2 (fun H locs hP hD hS => ?_)
  refine lv_iload_n hx hb dX6_setLevel_5 rfl (lv_at hl 2 rfl) ?_
  obtain ⟨r_2, e_2, hf⟩ := xok hf
  refine mcallSv (W0 := (wC c0 h k0 x0 d0 ++ (wS g h a1 a2 a3 a4 σ ++ (wH g k0 k1 γ η)))) (Wc := ([] : va_W)) (Wr := (wC c0 h k0 x0 d0 ++ (wS g h a1 a2 a3 a4 σ ++ (wH g k0 k1 γ η)))) (W1 := ([] : va_W)) (W2 := (wC c0 h k0 x0 d0 ++ (wS g h a1 a2 a3 a4 σ ++ (wH g k0 k1 γ η)))) (As := [.int p1]) (rest := []) [] [0, 1, 2, 3, 4, 5, 6, 7, 8, 9, 10, 11, 12, 13, 14, 15, 16, 17, 18, 19, 20, 21, 22, 23, 24, 25, 26, 27, 28, 29, 30, 31, 32, 33, 34, 35, 36, 37] [0, 1, 2, 3, 4, 5, 6, 7, 8, 9, 10, 11, 12, 13, 14, 15, 16, 17, 18, 19, 20, 21, 22, 23, 24, 25, 26, 27, 28, 29, 30, 31, 32, 33, 34, 35, 36, 37] ⟨hx, hb, hml, hown, hts⟩ hP hD hE hZ hS hA (cX6_requireLevel_k_ok l g   p1 _ e_2) (va_cwS 1 hts gX6_setLevel_X6_requireLevel rfl rfl rfl hdX6_requireLevel.2 ⟨(Nat.le_of_ble_eq_true rfl), (Nat.le_of_ble_eq_true rfl)⟩) rfl rfl rfl (by decide) (by decide) (by decide) (by decide) rfl hl.1 rfl (Nat.le_of_ble_eq_true rfl) ⟨(Nat.le_of_ble_eq_true rfl), (Nat.le_of_ble_eq_true rfl)⟩ dX6_setLevel_6 (fun H locs hP hD hS => ?_)
  refine lv_aload_n hx hb dX6_setLevel_9 rfl (lv_at hl 0 rfl) ?_
  refine va_get (v := .ref k0) (C := RX6) (T := TX6) (N := 4) hx hb hts fiX6_setLevel_k_X6 hown hE.1 hP 0 rfl rfl 1 (by decide) (hts _ flX6_setLevel_k_19) (fun _ h9 => h9) rfl dX6_setLevel_10 ?_
  refine lv_aload_n hx hb dX6_setLevel_13 rfl (lv_at hl 0 rfl) ?_
  refine va_get (v := .ref h) (C := RX6) (T := TX6) (N := 4) hx hb hts fiX6_setLevel_k_X6 hown hE.1 hP 0 rfl rfl 0 (by decide) (hts _ flX6_setLevel_k_10) (fun _ h9 => h9) rfl dX6_setLevel_14 ?_
  obtain ⟨r_3, e_3, hf⟩ := bo hf
  refine mcallVv (W0 := (wC c0 h k0 x0 d0 ++ (wS g h a1 a2 a3 a4 σ ++ (wH g k0 k1 γ η)))) (Wc := (wS g h a1 a2 a3 a4 σ ++ (wH g k0 k1 γ η))) (Wr := (wC c0 h k0 x0 d0)) (W1 := (wS g h a1 a2 a3 a4 σ ++ (wH g k0 k1 γ r_3))) (W2 := (wC c0 h k0 x0 d0 ++ (wS g h a1 a2 a3 a4 σ ++ (wH g k0 k1 γ r_3)))) (As := [.ref h]) (rest := []) [1, 2, 3, 4, 5, 6, 7, 8, 9, 10, 11, 12, 13, 14, 15, 16, 17, 18, 19, 20, 21, 22, 23, 24, 25, 26, 27, 28, 29, 30, 31, 32, 33, 34, 35, 36, 37] [0] [0, 1, 2, 3, 4, 5, 6, 7, 8, 9, 10, 11, 12, 13, 14, 15, 16, 17, 18, 19, 20, 21, 22, 23, 24, 25, 26, 27, 28, 29, 30, 31, 32, 33, 34, 35, 36, 37] 1 5 ⟨hx, hb, hml, hown, hts⟩ hP hD hE hZ hS hA (cX1_save_ok l g  h a1 a2 a3 a4 k0 k1 γ σ η _ e_3) (cwV 1 hts gX6_setLevel_X1_save rfl rfl rfl hdX1_save ⟨(Nat.le_of_ble_eq_true rfl), (Nat.le_of_ble_eq_true rfl)⟩) rfl rfl rfl (by decide) (by decide) (by decide) (by decide) rfl rfl rfl rfl hl.1 rfl (Nat.le_of_ble_eq_true rfl) ⟨(Nat.le_of_ble_eq_true rfl), (Nat.le_of_ble_eq_true rfl)⟩ dX6_setLevel_17 (fun H locs hP hD hS => ?_)
  refine lv_aload_n hx hb dX6_setLevel_20 rfl (lv_at hl 0 rfl) ?_
  refine va_get (v := .ref h) (C := RX6) (T := TX6) (N := 4) hx hb hts fiX6_setLevel_k_X6 hown hE.1 hP 0 rfl rfl 0 (by decide) (hts _ flX6_setLevel_k_10) (fun _ h9 => h9) rfl dX6_setLevel_21 ?_
  refine lv_iload_n hx hb dX6_setLevel_24 rfl (lv_at hl 1 rfl) ?_
  obtain ⟨r_4, e_4, hf⟩ := bo hf
  refine pcallV (W0 := (wC c0 h k0 x0 d0 ++ (wS g h a1 a2 a3 a4 σ ++ (wH g k0 k1 γ r_3)))) (As := [.int p0]) (rest := []) [1, 2, 3, 4, 5] 3 0 ⟨hx, hb, hml, hown, hts⟩ hP hE hZ hS (cX4_levelIn_ok l g h a1 a2 a3 a4 σ p0 e_4) (cwV 1 hts gX6_setLevel_X4_levelIn rfl rfl rfl hdX4_levelIn ⟨(Nat.le_of_ble_eq_true rfl), (Nat.le_of_ble_eq_true rfl)⟩) rfl rfl rfl rfl rfl hl.1 rfl (Nat.le_of_ble_eq_true rfl) ⟨(Nat.le_of_ble_eq_true rfl), (Nat.le_of_ble_eq_true rfl)⟩ dX6_setLevel_25 ?_
  refine lv_istore_n (lv' := [(3, .int r_4), (0, .ref c0), (1, .int p0), (2, .int p1)]) hx hb dX6_setLevel_28 rfl hl (by decide) rfl (fun ls hl => ?_)
  refine lv_aload_n hx hb dX6_setLevel_29 rfl (lv_at hl 1 rfl) ?_
  refine va_get (v := .ref h) (C := RX6) (T := TX6) (N := 4) hx hb hts fiX6_setLevel_k_X6 hown hE.1 hP 0 rfl rfl 0 (by decide) (hts _ flX6_setLevel_k_10) (fun _ h9 => h9) rfl dX6_setLevel_30 ?_
  refine lv_iload_n hx hb dX6_setLevel_33 rfl (lv_at hl 2 rfl) ?_
  refine lv_iload_n hx hb dX6_setLevel_34 rfl (lv_at hl 3 rfl) ?_
  obtain ⟨r_5, e_5, hf⟩ := bo hf
  refine mcallVv (W0 := (wC c0 h k0 x0 d0 ++ (wS g h a1 a2 a3 a4 σ ++ (wH g k0 k1 γ r_3)))) (Wc := (wS g h a1 a2 a3 a4 σ)) (Wr := (wC c0 h k0 x0 d0 ++ (wH g k0 k1 γ r_3))) (W1 := (wS g h a1 a2 a3 a4 r_5)) (W2 := (wC c0 h k0 x0 d0 ++ (wS g h a1 a2 a3 a4 r_5 ++ (wH g k0 k1 γ r_3)))) (As := [.int p0, .int p1]) (rest := []) [1, 2, 3, 4, 5] [0, 6, 7, 8, 9, 10, 11, 12, 13, 14, 15, 16, 17, 18, 19, 20, 21, 22, 23, 24, 25, 26, 27, 28, 29, 30, 31, 32, 33, 34, 35, 36, 37] [0, 33, 34, 35, 36, 37, 1, 2, 3, 4, 5, 6, 7, 8, 9, 10, 11, 12, 13, 14, 15, 16, 17, 18, 19, 20, 21, 22, 23, 24, 25, 26, 27, 28, 29, 30, 31, 32] 3 0 ⟨hx, hb, hml, hown, hts⟩ hP hD hE hZ hS hA (cX4_putLevel_ok l g  h a1 a2 a3 a4 σ p0 p1 _ e_5) (cwV 2 hts gX6_setLevel_X4_putLevel rfl rfl rfl hdX4_putLevel ⟨(Nat.le_of_ble_eq_true rfl), (Nat.le_of_ble_eq_true rfl)⟩) rfl rfl rfl (by decide) (by decide) (by decide) (by decide) rfl rfl rfl rfl hl.1 rfl (Nat.le_of_ble_eq_true rfl) ⟨(Nat.le_of_ble_eq_true rfl), (Nat.le_of_ble_eq_true rfl)⟩ dX6_setLevel_35 (fun H locs hP hD hS => ?_)
  refine lv_aload_n hx hb dX6_setLevel_38 rfl (lv_at hl 1 rfl) ?_
  refine va_get (v := .ref h) (C := RX6) (T := TX6) (N := 4) hx hb hts fiX6_setLevel_k_X6 hown hE.1 hP 0 rfl rfl 0 (by decide) (hts _ flX6_setLevel_k_10) (fun _ h9 => h9) rfl dX6_setLevel_39 ?_
  refine lv_iload_n hx hb dX6_setLevel_42 rfl (lv_at hl 2 rfl) ?_
  refine lv_iconst (v := (-1 : Int32)) hx hb dX6_setLevel_43 (by decide) ?_
  obtain ⟨r_6, e_6, hf⟩ := bo hf
  refine mcallVv (W0 := (wC c0 h k0 x0 d0 ++ (wS g h a1 a2 a3 a4 r_5 ++ (wH g k0 k1 γ r_3)))) (Wc := (wS g h a1 a2 a3 a4 r_5)) (Wr := (wC c0 h k0 x0 d0 ++ (wH g k0 k1 γ r_3))) (W1 := (wS g h a1 a2 a3 a4 r_6)) (W2 := (wC c0 h k0 x0 d0 ++ (wS g h a1 a2 a3 a4 r_6 ++ (wH g k0 k1 γ r_3)))) (As := [.int p0, .int (-1 : Int32)]) (rest := []) [1, 2, 3, 4, 5] [0, 6, 7, 8, 9, 10, 11, 12, 13, 14, 15, 16, 17, 18, 19, 20, 21, 22, 23, 24, 25, 26, 27, 28, 29, 30, 31, 32, 33, 34, 35, 36, 37] [0, 33, 34, 35, 36, 37, 1, 2, 3, 4, 5, 6, 7, 8, 9, 10, 11, 12, 13, 14, 15, 16, 17, 18, 19, 20, 21, 22, 23, 24, 25, 26, 27, 28, 29, 30, 31, 32] 3 0 ⟨hx, hb, hml, hown, hts⟩ hP hD hE hZ hS hA (cX4_putLabel_ok l g  h a1 a2 a3 a4 r_5 p0 (-1 : Int32) _ e_6) (cwV 2 hts gX6_setLevel_X4_putLabel rfl rfl rfl hdX4_putLabel ⟨(Nat.le_of_ble_eq_true rfl), (Nat.le_of_ble_eq_true rfl)⟩) rfl rfl rfl (by decide) (by decide) (by decide) (by decide) rfl rfl rfl rfl hl.1 rfl (Nat.le_of_ble_eq_true rfl) ⟨(Nat.le_of_ble_eq_true rfl), (Nat.le_of_ble_eq_true rfl)⟩ dX6_setLevel_44 (fun H locs hP hD hS => ?_)
  refine lv_iload_n hx hb dX6_setLevel_47 rfl (lv_at hl 0 rfl) ?_
  have ho := okI hf
  subst ho
  exact m_iret (v := r_4) hx hb hr hlocks hP hD hS rfl dX6_setLevel_48

abbrev rmX6_setGap_k : Room := { frames := 4, cells := 0, slots := 0, locals := 103 }
theorem fiX6_setGap_k_X6 : ∀ w ∈ wsX60, w ∈ wsX6_setGap := by decide +kernel
theorem flX6_setGap_k_19 : (.fieldLink RX6 19 "ContourLabels" "history" "LContourLabels$History;" : Cond) ∈ wsX6_setGap := by decide +kernel
theorem flX6_setGap_k_10 : (.fieldLink RX6 10 "ContourLabels" "sheet" "LContourLabels$Sheet;" : Cond) ∈ wsX6_setGap := by decide +kernel
set_option maxHeartbeats 4000000 in
set_option maxRecDepth 100000 in
theorem cX6_setGap_k_ok (l : Launch) (g : Gg) (c0 h k0 x0 d0 a1 a2 a3 a4 k1 : Nat) (γ : Nat → Nat → Nat) (σ : Sh) (η : Hi) (p0 : Int32) (sz : Nat) {o : Int32 × Sh × Hi} (hf : fX6_setGap σ η p0 = some (.ok o)) : Met l yX6_setGap wsX6_setGap rmX6_setGap_k (va_Pc [.ref c0, .int p0] (PM g (wC c0 h k0 x0 d0 ++ (wS g h a1 a2 a3 a4 σ ++ (wH g k0 k1 γ η))) sz)) (va_Qi (fun r' (_ : Unit) => r' = o.1) (fun _ t => PQ g (wC c0 h k0 x0 d0 ++ (wS g h a1 a2 a3 a4 o.2.1 ++ (wH g k0 k1 γ o.2.2))) (va_A (wC c0 h k0 x0 d0 ++ (wS g h a1 a2 a3 a4 σ ++ (wH g k0 k1 γ η))) sz) t) (va_A (wC c0 h k0 x0 d0 ++ (wS g h a1 a2 a3 a4 σ ++ (wH g k0 k1 γ η))) sz)) 0 0 (va_A (wC c0 h k0 x0 d0 ++ (wS g h a1 a2 a3 a4 σ ++ (wH g k0 k1 γ η))) sz) := by
  refine Met.ofW (cc := cX6_setGap) (maxL := 3) (ret := (some .int)) (by decide) rfl ?_
  intro p e s m args below meth c s₁ B hml hv
  obtain ⟨rfl, rfl, hP, hD0, hE, hZ⟩ := hv
  have hx := B.exec
  have hb := B.bytes
  have hr := B.returns
  have hts := atoms_spec (ws := wsX6_setGap) B.pre
  have hown : s.vm.findClass RX6 = some m.cls := findClass_of_methodNamed B.named
  have hlocks := B.notSynchronized
  have hD := hD0.self (sz := s.heap.size)
  generalize hAe : (va_A (wC c0 h k0 x0 d0 ++ (wS g h a1 a2 a3 a4 σ ++ (wH g k0 k1 γ η))) s.heap.size) = A at hD hZ ⊢
  have hA : ∀ q : Nat, s.heap.size ≤ q → A q := fun q h => by rw [← hAe]; exact Or.inr h
  have hS : va_S A s.heap s.heap [] := va_S.rf
  have hP : va_P g.1 vwCl (wC c0 h k0 x0 d0 ++ (wS g h a1 a2 a3 a4 σ ++ (wH g k0 k1 γ η))) s.heap := hP
  have hl := lv_entry ([.ref c0, .int p0]) (n := 3) (Nat.le_of_ble_eq_true rfl)
  rw [lg_entry_eq]
  generalize (lg_sl ([.ref c0, .int p0]) ++ List.replicate (3 - (lg_sl ([.ref c0, .int p0])).length) Slot.unset).toArray = ls at hl ⊢
  have hl : lv_has ls 3 [(0, .ref c0), (1, .int p0)] := hl
  unfold fX6_setGap at hf
  refine lv_iload_n hx hb dX6_setGap_0 rfl (lv_at hl 1 rfl) ?_
  refine lv_iconst (v := (1 : Int32)) hx hb dX6_setGap_1 (by decide) ?_
  refine lv_icmp_lt (tgt := 11) hx hb dX6_setGap_2 (by decide) (fun c_1 => ?_) (fun c_1 => ?_)
  · have hf := ip c_1 hf
    exact nomatch (show (some (.error "java/lang/IllegalArgumentException") : Option (Except String (Int32 × Sh × Hi))) = some (.ok _) from hf)
  · have hf := iq c_1 hf
    refine lv_iload_n hx hb dX6_setGap_5 rfl (lv_at hl 1 rfl) ?_
    refine lv_bipush (v := (6 : Int32)) hx hb dX6_setGap_6 (by decide) ?_
    refine lv_icmp_le (tgt := 21) hx hb dX6_setGap_8 (by decide) (fun c_2 => ?_) (fun c_2 => ?_)
    · have hf := ip c_2 hf
      refine lv_aload_n hx hb dX6_setGap_21 rfl (lv_at hl 0 rfl) ?_
      refine va_get (v := .ref k0) (C := RX6) (T := TX6) (N := 4) hx hb hts fiX6_setGap_k_X6 hown hE.1 hP 0 rfl rfl 1 (by decide) (hts _ flX6_setGap_k_19) (fun _ h9 => h9) rfl dX6_setGap_22 ?_
      refine lv_aload_n hx hb dX6_setGap_25 rfl (lv_at hl 0 rfl) ?_
      refine va_get (v := .ref h) (C := RX6) (T := TX6) (N := 4) hx hb hts fiX6_setGap_k_X6 hown hE.1 hP 0 rfl rfl 0 (by decide) (hts _ flX6_setGap_k_10) (fun _ h9 => h9) rfl dX6_setGap_26 ?_
      obtain ⟨r_3, e_3, hf⟩ := bo hf
      refine mcallVv (W0 := (wC c0 h k0 x0 d0 ++ (wS g h a1 a2 a3 a4 σ ++ (wH g k0 k1 γ η)))) (Wc := (wS g h a1 a2 a3 a4 σ ++ (wH g k0 k1 γ η))) (Wr := (wC c0 h k0 x0 d0)) (W1 := (wS g h a1 a2 a3 a4 σ ++ (wH g k0 k1 γ r_3))) (W2 := (wC c0 h k0 x0 d0 ++ (wS g h a1 a2 a3 a4 σ ++ (wH g k0 k1 γ r_3)))) (As := [.ref h]) (rest := []) [1, 2, 3, 4, 5, 6, 7, 8, 9, 10, 11, 12, 13, 14, 15, 16, 17, 18, 19, 20, 21, 22, 23, 24, 25, 26, 27, 28, 29, 30, 31, 32, 33, 34, 35, 36, 37] [0] [0, 1, 2, 3, 4, 5, 6, 7, 8, 9, 10, 11, 12, 13, 14, 15, 16, 17, 18, 19, 20, 21, 22, 23, 24, 25, 26, 27, 28, 29, 30, 31, 32, 33, 34, 35, 36, 37] 1 5 ⟨hx, hb, hml, hown, hts⟩ hP hD hE hZ hS hA (cX1_save_ok l g  h a1 a2 a3 a4 k0 k1 γ σ η _ e_3) (cwV 1 hts gX6_setGap_X1_save rfl rfl rfl hdX1_save ⟨(Nat.le_of_ble_eq_true rfl), (Nat.le_of_ble_eq_true rfl)⟩) rfl rfl rfl (by decide) (by decide) (by decide) (by decide) rfl rfl rfl rfl hl.1 rfl (Nat.le_of_ble_eq_true rfl) ⟨(Nat.le_of_ble_eq_true rfl), (Nat.le_of_ble_eq_true rfl)⟩ dX6_setGap_29 (fun H locs hP hD hS => ?_)
      refine lv_aload_n hx hb dX6_setGap_32 rfl (lv_at hl 0 rfl) ?_
      refine va_get (v := .ref h) (C := RX6) (T := TX6) (N := 4) hx hb hts fiX6_setGap_k_X6 hown hE.1 hP 0 rfl rfl 0 (by decide) (hts _ flX6_setGap_k_10) (fun _ h9 => h9) rfl dX6_setGap_33 ?_
      obtain ⟨r_4, e_4, hf⟩ := bo hf
      refine pcallV (W0 := (wC c0 h k0 x0 d0 ++ (wS g h a1 a2 a3 a4 σ ++ (wH g k0 k1 γ r_3)))) (As := []) (rest := []) [1, 2, 3, 4, 5] 3 0 ⟨hx, hb, hml, hown, hts⟩ hP hE hZ hS (cX4_gapWidth_ok l g h a1 a2 a3 a4 σ e_4) (cwV 0 hts gX6_setGap_X4_gapWidth rfl rfl rfl hdX4_gapWidth ⟨(Nat.le_of_ble_eq_true rfl), (Nat.le_of_ble_eq_true rfl)⟩) rfl rfl rfl rfl rfl hl.1 rfl (Nat.le_of_ble_eq_true rfl) ⟨(Nat.le_of_ble_eq_true rfl), (Nat.le_of_ble_eq_true rfl)⟩ dX6_setGap_36 ?_
      refine lv_istore_n (lv' := [(2, .int r_4), (0, .ref c0), (1, .int p0)]) hx hb dX6_setGap_39 rfl hl (by decide) rfl (fun ls hl => ?_)
      refine lv_aload_n hx hb dX6_setGap_40 rfl (lv_at hl 1 rfl) ?_
      refine va_get (v := .ref h) (C := RX6) (T := TX6) (N := 4) hx hb hts fiX6_setGap_k_X6 hown hE.1 hP 0 rfl rfl 0 (by decide) (hts _ flX6_setGap_k_10) (fun _ h9 => h9) rfl dX6_setGap_41 ?_
      refine lv_iload_n hx hb dX6_setGap_44 rfl (lv_at hl 2 rfl) ?_
      obtain ⟨r_5, e_5, hf⟩ := bo hf
      refine mcallVv (W0 := (wC c0 h k0 x0 d0 ++ (wS g h a1 a2 a3 a4 σ ++ (wH g k0 k1 γ r_3)))) (Wc := (wS g h a1 a2 a3 a4 σ)) (Wr := (wC c0 h k0 x0 d0 ++ (wH g k0 k1 γ r_3))) (W1 := (wS g h a1 a2 a3 a4 r_5)) (W2 := (wC c0 h k0 x0 d0 ++ (wS g h a1 a2 a3 a4 r_5 ++ (wH g k0 k1 γ r_3)))) (As := [.int p0]) (rest := []) [1, 2, 3, 4, 5] [0, 6, 7, 8, 9, 10, 11, 12, 13, 14, 15, 16, 17, 18, 19, 20, 21, 22, 23, 24, 25, 26, 27, 28, 29, 30, 31, 32, 33, 34, 35, 36, 37] [0, 33, 34, 35, 36, 37, 1, 2, 3, 4, 5, 6, 7, 8, 9, 10, 11, 12, 13, 14, 15, 16, 17, 18, 19, 20, 21, 22, 23, 24, 25, 26, 27, 28, 29, 30, 31, 32] 3 0 ⟨hx, hb, hml, hown, hts⟩ hP hD hE hZ hS hA (cX4_putGap_ok l g  h a1 a2 a3 a4 σ p0 _ e_5) (cwV 1 hts gX6_setGap_X4_putGap rfl rfl rfl hdX4_putGap ⟨(Nat.le_of_ble_eq_true rfl), (Nat.le_of_ble_eq_true rfl)⟩) rfl rfl rfl (by decide) (by decide) (by decide) (by decide) rfl rfl rfl rfl hl.1 rfl (Nat.le_of_ble_eq_true rfl) ⟨(Nat.le_of_ble_eq_true rfl), (Nat.le_of_ble_eq_true rfl)⟩ dX6_setGap_45 (fun H locs hP hD hS => ?_)
      refine lv_iload_n hx hb dX6_setGap_48 rfl (lv_at hl 0 rfl) ?_
      have ho := okI hf
      subst ho
      exact m_iret (v := r_4) hx hb hr hlocks hP hD hS rfl dX6_setGap_49
    · have hf := iq c_2 hf
      exact nomatch (show (some (.error "java/lang/IllegalArgumentException") : Option (Except String (Int32 × Sh × Hi))) = some (.ok _) from hf)

abbrev rmX6_levelOf_k : Room := { frames := 2, cells := 0, slots := 0, locals := 42 }
theorem fiX6_levelOf_k_X6 : ∀ w ∈ wsX60, w ∈ wsX6_levelOf := by decide +kernel
theorem flX6_levelOf_k_10 : (.fieldLink RX6 10 "ContourLabels" "sheet" "LContourLabels$Sheet;" : Cond) ∈ wsX6_levelOf := by decide +kernel
set_option maxHeartbeats 4000000 in
set_option maxRecDepth 100000 in
theorem cX6_levelOf_k_ok (l : Launch) (g : Gg) (c0 h k0 x0 d0 a1 a2 a3 a4 : Nat) (σ : Sh) (p0 : Int32) (sz : Nat) {o : Int32} (hf : fX6_levelOf σ p0 = some (.ok o)) : Met l yX6_levelOf wsX6_levelOf rmX6_levelOf_k (va_Pc [.ref c0, .int p0] (PM g (wC c0 h k0 x0 d0 ++ (wS g h a1 a2 a3 a4 σ)) sz)) (va_Qi (fun r' (_ : Unit) => r' = o) (fun _ t => PQ g (wC c0 h k0 x0 d0 ++ (wS g h a1 a2 a3 a4 σ)) (va_A (wC c0 h k0 x0 d0 ++ (wS g h a1 a2 a3 a4 σ)) sz) t) (va_A (wC c0 h k0 x0 d0 ++ (wS g h a1 a2 a3 a4 σ)) sz)) 0 0 (va_A (wC c0 h k0 x0 d0 ++ (wS g h a1 a2 a3 a4 σ)) sz) := by
  refine Met.ofW (cc := cX6_levelOf) (maxL := 2) (ret := (some .int)) (by decide) rfl ?_
  intro p e s m args below meth c s₁ B hml hv
  obtain ⟨rfl, rfl, hP, hD0, hE, hZ⟩ := hv
  have hx := B.exec
  have hb := B.bytes
  have hr := B.returns
  have hts := atoms_spec (ws := wsX6_levelOf) B.pre
  have hown : s.vm.findClass RX6 = some m.cls := findClass_of_methodNamed B.named
  have hlocks := B.notSynchronized
  have hD := hD0.self (sz := s.heap.size)
  generalize hAe : (va_A (wC c0 h k0 x0 d0 ++ (wS g h a1 a2 a3 a4 σ)) s.heap.size) = A at hD hZ ⊢
  have hA : ∀ q : Nat, s.heap.size ≤ q → A q := fun q h => by rw [← hAe]; exact Or.inr h
  have hS : va_S A s.heap s.heap [] := va_S.rf
  have hP : va_P g.1 vwCl (wC c0 h k0 x0 d0 ++ (wS g h a1 a2 a3 a4 σ)) s.heap := hP
  have hl := lv_entry ([.ref c0, .int p0]) (n := 2) (Nat.le_of_ble_eq_true rfl)
  rw [lg_entry_eq]
  generalize (lg_sl ([.ref c0, .int p0]) ++ List.replicate (2 - (lg_sl ([.ref c0, .int p0])).length) Slot.unset).toArray = ls at hl ⊢
  have hl : lv_has ls 2 [(0, .ref c0), (1, .int p0)] := hl
  unfold fX6_levelOf at hf
  refine lv_aload_n hx hb dX6_levelOf_0 rfl (lv_at hl 0 rfl) ?_
  refine lv_iload_n hx hb dX6_levelOf_1 rfl (lv_at hl 1 rfl) ?_
  obtain ⟨r_1, e_1, hf⟩ := xok hf
  refine mcallVv (W0 := (wC c0 h k0 x0 d0 ++ (wS g h a1 a2 a3 a4 σ))) (Wc := (wC c0 h k0 x0 d0 ++ (wS g h a1 a2 a3 a4 σ))) (Wr := ([] : va_W)) (W1 := (wC c0 h k0 x0 d0 ++ (wS g h a1 a2 a3 a4 σ))) (W2 := (wC c0 h k0 x0 d0 ++ (wS g h a1 a2 a3 a4 σ))) (As := [.int p0]) (rest := []) [0, 1, 2, 3, 4, 5] [] [0, 1, 2, 3, 4, 5] 4 0 ⟨hx, hb, hml, hown, hts⟩ hP hD hE hZ hS hA (cX6_requireLine_k_ok l g  c0 h k0 x0 d0 a1 a2 a3 a4 σ p0 _ e_1) (cwV 1 hts gX6_levelOf_X6_requireLine rfl rfl rfl hdX6_requireLine ⟨(Nat.le_of_ble_eq_true rfl), (Nat.le_of_ble_eq_true rfl)⟩) rfl rfl rfl (by decide) (by decide) (by decide) (by decide) rfl rfl rfl rfl hl.1 rfl (Nat.le_of_ble_eq_true rfl) ⟨(Nat.le_of_ble_eq_true rfl), (Nat.le_of_ble_eq_true rfl)⟩ dX6_levelOf_2 (fun H locs hP hD hS => ?_)
  refine lv_aload_n hx hb dX6_levelOf_5 rfl (lv_at hl 0 rfl) ?_
  refine va_get (v := .ref h) (C := RX6) (T := TX6) (N := 4) hx hb hts fiX6_levelOf_k_X6 hown hE.1 hP 0 rfl rfl 0 (by decide) (hts _ flX6_levelOf_k_10) (fun _ h9 => h9) rfl dX6_levelOf_6 ?_
  refine lv_iload_n hx hb dX6_levelOf_9 rfl (lv_at hl 1 rfl) ?_
  obtain ⟨r_2, e_2, hf⟩ := bo hf
  refine pcallV (W0 := (wC c0 h k0 x0 d0 ++ (wS g h a1 a2 a3 a4 σ))) (As := [.int p0]) (rest := []) [1, 2, 3, 4, 5] 3 0 ⟨hx, hb, hml, hown, hts⟩ hP hE hZ hS (cX4_levelIn_ok l g h a1 a2 a3 a4 σ p0 e_2) (cwV 1 hts gX6_levelOf_X4_levelIn rfl rfl rfl hdX4_levelIn ⟨(Nat.le_of_ble_eq_true rfl), (Nat.le_of_ble_eq_true rfl)⟩) rfl rfl rfl rfl rfl hl.1 rfl (Nat.le_of_ble_eq_true rfl) ⟨(Nat.le_of_ble_eq_true rfl), (Nat.le_of_ble_eq_true rfl)⟩ dX6_levelOf_10 ?_
  have ho := okI hf
  subst ho
  exact m_iret (v := r_2) hx hb hr hlocks hP hD hS rfl dX6_levelOf_13

abbrev rmX6_stepsOf_k : Room := { frames := 2, cells := 0, slots := 0, locals := 42 }
theorem fiX6_stepsOf_k_X6 : ∀ w ∈ wsX60, w ∈ wsX6_stepsOf := by decide +kernel
theorem flX6_stepsOf_k_10 : (.fieldLink RX6 10 "ContourLabels" "sheet" "LContourLabels$Sheet;" : Cond) ∈ wsX6_stepsOf := by decide +kernel
set_option maxHeartbeats 4000000 in
set_option maxRecDepth 100000 in
theorem cX6_stepsOf_k_ok (l : Launch) (g : Gg) (c0 h k0 x0 d0 a1 a2 a3 a4 : Nat) (σ : Sh) (p0 : Int32) (sz : Nat) {o : Int32} (hf : fX6_stepsOf σ p0 = some (.ok o)) : Met l yX6_stepsOf wsX6_stepsOf rmX6_stepsOf_k (va_Pc [.ref c0, .int p0] (PM g (wC c0 h k0 x0 d0 ++ (wS g h a1 a2 a3 a4 σ)) sz)) (va_Qi (fun r' (_ : Unit) => r' = o) (fun _ t => PQ g (wC c0 h k0 x0 d0 ++ (wS g h a1 a2 a3 a4 σ)) (va_A (wC c0 h k0 x0 d0 ++ (wS g h a1 a2 a3 a4 σ)) sz) t) (va_A (wC c0 h k0 x0 d0 ++ (wS g h a1 a2 a3 a4 σ)) sz)) 0 0 (va_A (wC c0 h k0 x0 d0 ++ (wS g h a1 a2 a3 a4 σ)) sz) := by
  refine Met.ofW (cc := cX6_stepsOf) (maxL := 2) (ret := (some .int)) (by decide) rfl ?_
  intro p e s m args below meth c s₁ B hml hv
  obtain ⟨rfl, rfl, hP, hD0, hE, hZ⟩ := hv
  have hx := B.exec
  have hb := B.bytes
  have hr := B.returns
  have hts := atoms_spec (ws := wsX6_stepsOf) B.pre
  have hown : s.vm.findClass RX6 = some m.cls := findClass_of_methodNamed B.named
  have hlocks := B.notSynchronized
  have hD := hD0.self (sz := s.heap.size)
  generalize hAe : (va_A (wC c0 h k0 x0 d0 ++ (wS g h a1 a2 a3 a4 σ)) s.heap.size) = A at hD hZ ⊢
  have hA : ∀ q : Nat, s.heap.size ≤ q → A q := fun q h => by rw [← hAe]; exact Or.inr h
  have hS : va_S A s.heap s.heap [] := va_S.rf
  have hP : va_P g.1 vwCl (wC c0 h k0 x0 d0 ++ (wS g h a1 a2 a3 a4 σ)) s.heap := hP
  have hl := lv_entry ([.ref c0, .int p0]) (n := 2) (Nat.le_of_ble_eq_true rfl)
  rw [lg_entry_eq]
  generalize (lg_sl ([.ref c0, .int p0]) ++ List.replicate (2 - (lg_sl ([.ref c0, .int p0])).length) Slot.unset).toArray = ls at hl ⊢
  have hl : lv_has ls 2 [(0, .ref c0), (1, .int p0)] := hl
  unfold fX6_stepsOf at hf
  refine lv_aload_n hx hb dX6_stepsOf_0 rfl (lv_at hl 0 rfl) ?_
  refine lv_iload_n hx hb dX6_stepsOf_1 rfl (lv_at hl 1 rfl) ?_
  obtain ⟨r_1, e_1, hf⟩ := xok hf
  refine mcallVv (W0 := (wC c0 h k0 x0 d0 ++ (wS g h a1 a2 a3 a4 σ))) (Wc := (wC c0 h k0 x0 d0 ++ (wS g h a1 a2 a3 a4 σ))) (Wr := ([] : va_W)) (W1 := (wC c0 h k0 x0 d0 ++ (wS g h a1 a2 a3 a4 σ))) (W2 := (wC c0 h k0 x0 d0 ++ (wS g h a1 a2 a3 a4 σ))) (As := [.int p0]) (rest := []) [0, 1, 2, 3, 4, 5] [] [0, 1, 2, 3, 4, 5] 4 0 ⟨hx, hb, hml, hown, hts⟩ hP hD hE hZ hS hA (cX6_requireLine_k_ok l g  c0 h k0 x0 d0 a1 a2 a3 a4 σ p0 _ e_1) (cwV 1 hts gX6_stepsOf_X6_requireLine rfl rfl rfl hdX6_requireLine ⟨(Nat.le_of_ble_eq_true rfl), (Nat.le_of_ble_eq_true rfl)⟩) rfl rfl rfl (by decide) (by decide) (by decide) (by decide) rfl rfl rfl rfl hl.1 rfl (Nat.le_of_ble_eq_true rfl) ⟨(Nat.le_of_ble_eq_true rfl), (Nat.le_of_ble_eq_true rfl)⟩ dX6_stepsOf_2 (fun H locs hP hD hS => ?_)
  refine lv_aload_n hx hb dX6_stepsOf_5 rfl (lv_at hl 0 rfl) ?_
  refine va_get (v := .ref h) (C := RX6) (T := TX6) (N := 4) hx hb hts fiX6_stepsOf_k_X6 hown hE.1 hP 0 rfl rfl 0 (by decide) (hts _ flX6_stepsOf_k_10) (fun _ h9 => h9) rfl dX6_stepsOf_6 ?_
  refine lv_iload_n hx hb dX6_stepsOf_9 rfl (lv_at hl 1 rfl) ?_
  obtain ⟨r_2, e_2, hf⟩ := bo hf
  refine pcallV (W0 := (wC c0 h k0 x0 d0 ++ (wS g h a1 a2 a3 a4 σ))) (As := [.int p0]) (rest := []) [1, 2, 3, 4, 5] 3 0 ⟨hx, hb, hml, hown, hts⟩ hP hE hZ hS (cX4_stepCount_ok l g h a1 a2 a3 a4 σ p0 e_2) (cwV 1 hts gX6_stepsOf_X4_stepCount rfl rfl rfl hdX4_stepCount ⟨(Nat.le_of_ble_eq_true rfl), (Nat.le_of_ble_eq_true rfl)⟩) rfl rfl rfl rfl rfl hl.1 rfl (Nat.le_of_ble_eq_true rfl) ⟨(Nat.le_of_ble_eq_true rfl), (Nat.le_of_ble_eq_true rfl)⟩ dX6_stepsOf_10 ?_
  have ho := okI hf
  subst ho
  exact m_iret (v := r_2) hx hb hr hlocks hP hD hS rfl dX6_stepsOf_13

abbrev rmX6_pointOf_k : Room := { frames := 2, cells := 0, slots := 0, locals := 44 }
theorem fiX6_pointOf_k_X6 : ∀ w ∈ wsX60, w ∈ wsX6_pointOf := by decide +kernel
theorem flX6_pointOf_k_10 : (.fieldLink RX6 10 "ContourLabels" "sheet" "LContourLabels$Sheet;" : Cond) ∈ wsX6_pointOf := by decide +kernel
set_option maxHeartbeats 4000000 in
set_option maxRecDepth 100000 in
theorem cX6_pointOf_k_ok (l : Launch) (g : Gg) (c0 h k0 x0 d0 a1 a2 a3 a4 : Nat) (σ : Sh) (p0 p1 : Int32) (sz : Nat) {o : Int32} (hf : fX6_pointOf σ p0 p1 = some (.ok o)) : Met l yX6_pointOf wsX6_pointOf rmX6_pointOf_k (va_Pc [.ref c0, .int p0, .int p1] (PM g (wC c0 h k0 x0 d0 ++ (wS g h a1 a2 a3 a4 σ)) sz)) (va_Qi (fun r' (_ : Unit) => r' = o) (fun _ t => PQ g (wC c0 h k0 x0 d0 ++ (wS g h a1 a2 a3 a4 σ)) (va_A (wC c0 h k0 x0 d0 ++ (wS g h a1 a2 a3 a4 σ)) sz) t) (va_A (wC c0 h k0 x0 d0 ++ (wS g h a1 a2 a3 a4 σ)) sz)) 0 0 (va_A (wC c0 h k0 x0 d0 ++ (wS g h a1 a2 a3 a4 σ)) sz) := by
  refine Met.ofW (cc := cX6_pointOf) (maxL := 3) (ret := (some .int)) (by decide) rfl ?_
  intro p e s m args below meth c s₁ B hml hv
  obtain ⟨rfl, rfl, hP, hD0, hE, hZ⟩ := hv
  have hx := B.exec
  have hb := B.bytes
  have hr := B.returns
  have hts := atoms_spec (ws := wsX6_pointOf) B.pre
  have hown : s.vm.findClass RX6 = some m.cls := findClass_of_methodNamed B.named
  have hlocks := B.notSynchronized
  have hD := hD0.self (sz := s.heap.size)
  generalize hAe : (va_A (wC c0 h k0 x0 d0 ++ (wS g h a1 a2 a3 a4 σ)) s.heap.size) = A at hD hZ ⊢
  have hA : ∀ q : Nat, s.heap.size ≤ q → A q := fun q h => by rw [← hAe]; exact Or.inr h
  have hS : va_S A s.heap s.heap [] := va_S.rf
  have hP : va_P g.1 vwCl (wC c0 h k0 x0 d0 ++ (wS g h a1 a2 a3 a4 σ)) s.heap := hP
  have hl := lv_entry ([.ref c0, .int p0, .int p1]) (n := 3) (Nat.le_of_ble_eq_true rfl)
  rw [lg_entry_eq]
  generalize (lg_sl ([.ref c0, .int p0, .int p1]) ++ List.replicate (3 - (lg_sl ([.ref c0, .int p0, .int p1])).length) Slot.unset).toArray = ls at hl ⊢
  have hl : lv_has ls 3 [(0, .ref c0), (1, .int p0), (2, .int p1)] := hl
  unfold fX6_pointOf at hf
  refine lv_aload_n hx hb dX6_pointOf_0 rfl (lv_at hl 0 rfl) ?_
  refine lv_iload_n hx hb dX6_pointOf_1 rfl (lv_at hl 1 rfl) ?_
  refine lv_iload_n hx hb dX6_pointOf_2 rfl (lv_at hl 2 rfl) ?_
  obtain ⟨r_1, e_1, hf⟩ := xok hf
  refine mcallVv (W0 := (wC c0 h k0 x0 d0 ++ (wS g h a1 a2 a3 a4 σ))) (Wc := (wC c0 h k0 x0 d0 ++ (wS g h a1 a2 a3 a4 σ))) (Wr := ([] : va_W)) (W1 := (wC c0 h k0 x0 d0 ++ (wS g h a1 a2 a3 a4 σ))) (W2 := (wC c0 h k0 x0 d0 ++ (wS g h a1 a2 a3 a4 σ))) (As := [.int p0, .int p1]) (rest := []) [0, 1, 2, 3, 4, 5] [] [0, 1, 2, 3, 4, 5] 4 0 ⟨hx, hb, hml, hown, hts⟩ hP hD hE hZ hS hA (cX6_requireNumber_k_ok l g  c0 h k0 x0 d0 a1 a2 a3 a4 σ p0 p1 _ e_1) (cwV 2 hts gX6_pointOf_X6_requireNumber rfl rfl rfl hdX6_requireNumber ⟨(Nat.le_of_ble_eq_true rfl), (Nat.le_of_ble_eq_true rfl)⟩) rfl rfl rfl (by decide) (by decide) (by decide) (by decide) rfl rfl rfl rfl hl.1 rfl (Nat.le_of_ble_eq_true rfl) ⟨(Nat.le_of_ble_eq_true rfl), (Nat.le_of_ble_eq_true rfl)⟩ dX6_pointOf_3 (fun H locs hP hD hS => ?_)
  refine lv_aload_n hx hb dX6_pointOf_6 rfl (lv_at hl 0 rfl) ?_
  refine va_get (v := .ref h) (C := RX6) (T := TX6) (N := 4) hx hb hts fiX6_pointOf_k_X6 hown hE.1 hP 0 rfl rfl 0 (by decide) (hts _ flX6_pointOf_k_10) (fun _ h9 => h9) rfl dX6_pointOf_7 ?_
  refine lv_iload_n hx hb dX6_pointOf_10 rfl (lv_at hl 1 rfl) ?_
  refine lv_iload_n hx hb dX6_pointOf_11 rfl (lv_at hl 2 rfl) ?_
  obtain ⟨r_2, e_2, hf⟩ := bo hf
  refine pcallV (W0 := (wC c0 h k0 x0 d0 ++ (wS g h a1 a2 a3 a4 σ))) (As := [.int p0, .int p1]) (rest := []) [1, 2, 3, 4, 5] 3 0 ⟨hx, hb, hml, hown, hts⟩ hP hE hZ hS (cX4_pointAt_ok l g h a1 a2 a3 a4 σ p0 p1 e_2) (cwV 2 hts gX6_pointOf_X4_pointAt rfl rfl rfl hdX4_pointAt ⟨(Nat.le_of_ble_eq_true rfl), (Nat.le_of_ble_eq_true rfl)⟩) rfl rfl rfl rfl rfl hl.1 rfl (Nat.le_of_ble_eq_true rfl) ⟨(Nat.le_of_ble_eq_true rfl), (Nat.le_of_ble_eq_true rfl)⟩ dX6_pointOf_12 ?_
  have ho := okI hf
  subst ho
  exact m_iret (v := r_2) hx hb hr hlocks hP hD hS rfl dX6_pointOf_15

abbrev rmX6_lineAt_k : Room := { frames := 3, cells := 0, slots := 0, locals := 68 }
theorem fiX6_lineAt_k_X6 : ∀ w ∈ wsX60, w ∈ wsX6_lineAt := by decide +kernel
theorem flX6_lineAt_k_10 : (.fieldLink RX6 10 "ContourLabels" "sheet" "LContourLabels$Sheet;" : Cond) ∈ wsX6_lineAt := by decide +kernel
set_option maxHeartbeats 4000000 in
set_option maxRecDepth 100000 in
theorem cX6_lineAt_k_ok (l : Launch) (g : Gg) (c0 h k0 x0 d0 a1 a2 a3 a4 : Nat) (σ : Sh) (p0 : Int32) (sz : Nat) {o : Int32} (hf : fX6_lineAt σ p0 = some (.ok o)) : Met l yX6_lineAt wsX6_lineAt rmX6_lineAt_k (va_Pc [.ref c0, .int p0] (PM g (wC c0 h k0 x0 d0 ++ (wS g h a1 a2 a3 a4 σ)) sz)) (va_Qi (fun r' (_ : Unit) => r' = o) (fun _ t => PQ g (wC c0 h k0 x0 d0 ++ (wS g h a1 a2 a3 a4 σ)) (va_A (wC c0 h k0 x0 d0 ++ (wS g h a1 a2 a3 a4 σ)) sz) t) (va_A (wC c0 h k0 x0 d0 ++ (wS g h a1 a2 a3 a4 σ)) sz)) 0 0 (va_A (wC c0 h k0 x0 d0 ++ (wS g h a1 a2 a3 a4 σ)) sz) := by
  refine Met.ofW (cc := cX6_lineAt) (maxL := 2) (ret := (some .int)) (by decide) rfl ?_
  intro p e s m args below meth c s₁ B hml hv
  obtain ⟨rfl, rfl, hP, hD0, hE, hZ⟩ := hv
  have hx := B.exec
  have hb := B.bytes
  have hr := B.returns
  have hts := atoms_spec (ws := wsX6_lineAt) B.pre
  have hown : s.vm.findClass RX6 = some m.cls := findClass_of_methodNamed B.named
  have hlocks := B.notSynchronized
  have hD := hD0.self (sz := s.heap.size)
  generalize hAe : (va_A (wC c0 h k0 x0 d0 ++ (wS g h a1 a2 a3 a4 σ)) s.heap.size) = A at hD hZ ⊢
  have hA : ∀ q : Nat, s.heap.size ≤ q → A q := fun q h => by rw [← hAe]; exact Or.inr h
  have hS : va_S A s.heap s.heap [] := va_S.rf
  have hP : va_P g.1 vwCl (wC c0 h k0 x0 d0 ++ (wS g h a1 a2 a3 a4 σ)) s.heap := hP
  have hl := lv_entry ([.ref c0, .int p0]) (n := 2) (Nat.le_of_ble_eq_true rfl)
  rw [lg_entry_eq]
  generalize (lg_sl ([.ref c0, .int p0]) ++ List.replicate (2 - (lg_sl ([.ref c0, .int p0])).length) Slot.unset).toArray = ls at hl ⊢
  have hl : lv_has ls 2 [(0, .ref c0), (1, .int p0)] := hl
  unfold fX6_lineAt at hf
  refine lv_iload_n hx hb dX6_lineAt_0 rfl (lv_at hl 1 rfl) ?_
  obtain ⟨r_1, e_1, hf⟩ := xok hf
  refine mcallSv (W0 := (wC c0 h k0 x0 d0 ++ (wS g h a1 a2 a3 a4 σ))) (Wc := ([] : va_W)) (Wr := (wC c0 h k0 x0 d0 ++ (wS g h a1 a2 a3 a4 σ))) (W1 := ([] : va_W)) (W2 := (wC c0 h k0 x0 d0 ++ (wS g h a1 a2 a3 a4 σ))) (As := [.int p0]) (rest := []) [] [0, 1, 2, 3, 4, 5] [0, 1, 2, 3, 4, 5] ⟨hx, hb, hml, hown, hts⟩ hP hD hE hZ hS hA (cX6_requirePoint_k_ok l g   p0 _ e_1) (va_cwS 1 hts gX6_lineAt_X6_requirePoint rfl rfl rfl hdX6_requirePoint.2 ⟨(Nat.le_of_ble_eq_true rfl), (Nat.le_of_ble_eq_true rfl)⟩) rfl rfl rfl (by decide) (by decide) (by decide) (by decide) rfl hl.1 rfl (Nat.le_of_ble_eq_true rfl) ⟨(Nat.le_of_ble_eq_true rfl), (Nat.le_of_ble_eq_true rfl)⟩ dX6_lineAt_1 (fun H locs hP hD hS => ?_)
  refine lv_aload_n hx hb dX6_lineAt_4 rfl (lv_at hl 0 rfl) ?_
  refine va_get (v := .ref h) (C := RX6) (T := TX6) (N := 4) hx hb hts fiX6_lineAt_k_X6 hown hE.1 hP 0 rfl rfl 0 (by decide) (hts _ flX6_lineAt_k_10) (fun _ h9 => h9) rfl dX6_lineAt_5 ?_
  refine lv_iload_n hx hb dX6_lineAt_8 rfl (lv_at hl 1 rfl) ?_
  obtain ⟨r_2, e_2, hf⟩ := bo hf
  refine pcallV (W0 := (wC c0 h k0 x0 d0 ++ (wS g h a1 a2 a3 a4 σ))) (As := [.int p0]) (rest := []) [1, 2, 3, 4, 5] 3 0 ⟨hx, hb, hml, hown, hts⟩ hP hE hZ hS (cX4_lineOn_ok l g h a1 a2 a3 a4 σ p0 e_2) (cwV 1 hts gX6_lineAt_X4_lineOn rfl rfl rfl hdX4_lineOn ⟨(Nat.le_of_ble_eq_true rfl), (Nat.le_of_ble_eq_true rfl)⟩) rfl rfl rfl rfl rfl hl.1 rfl (Nat.le_of_ble_eq_true rfl) ⟨(Nat.le_of_ble_eq_true rfl), (Nat.le_of_ble_eq_true rfl)⟩ dX6_lineAt_9 ?_
  have ho := okI hf
  subst ho
  exact m_iret (v := r_2) hx hb hr hlocks hP hD hS rfl dX6_lineAt_12

abbrev rmX6_isClosed_k : Room := { frames := 2, cells := 0, slots := 0, locals := 42 }
theorem fiX6_isClosed_k_X6 : ∀ w ∈ wsX60, w ∈ wsX6_isClosed := by decide +kernel
theorem flX6_isClosed_k_10 : (.fieldLink RX6 10 "ContourLabels" "sheet" "LContourLabels$Sheet;" : Cond) ∈ wsX6_isClosed := by decide +kernel
set_option maxHeartbeats 4000000 in
set_option maxRecDepth 100000 in
theorem cX6_isClosed_k_ok (l : Launch) (g : Gg) (c0 h k0 x0 d0 a1 a2 a3 a4 : Nat) (σ : Sh) (p0 : Int32) (sz : Nat) {o : Bool} (hf : fX6_isClosed σ p0 = some (.ok o)) : Met l yX6_isClosed wsX6_isClosed rmX6_isClosed_k (va_Pc [.ref c0, .int p0] (PM g (wC c0 h k0 x0 d0 ++ (wS g h a1 a2 a3 a4 σ)) sz)) (va_Qi (fun r' (_ : Unit) => r' = b2i o) (fun _ t => PQ g (wC c0 h k0 x0 d0 ++ (wS g h a1 a2 a3 a4 σ)) (va_A (wC c0 h k0 x0 d0 ++ (wS g h a1 a2 a3 a4 σ)) sz) t) (va_A (wC c0 h k0 x0 d0 ++ (wS g h a1 a2 a3 a4 σ)) sz)) 0 0 (va_A (wC c0 h k0 x0 d0 ++ (wS g h a1 a2 a3 a4 σ)) sz) := by
  refine Met.ofW (cc := cX6_isClosed) (maxL := 2) (ret := (some .boolean)) (by decide) rfl ?_
  intro p e s m args below meth c s₁ B hml hv
  obtain ⟨rfl, rfl, hP, hD0, hE, hZ⟩ := hv
  have hx := B.exec
  have hb := B.bytes
  have hr := B.returns
  have hts := atoms_spec (ws := wsX6_isClosed) B.pre
  have hown : s.vm.findClass RX6 = some m.cls := findClass_of_methodNamed B.named
  have hlocks := B.notSynchronized
  have hD := hD0.self (sz := s.heap.size)
  generalize hAe : (va_A (wC c0 h k0 x0 d0 ++ (wS g h a1 a2 a3 a4 σ)) s.heap.size) = A at hD hZ ⊢
  have hA : ∀ q : Nat, s.heap.size ≤ q → A q := fun q h => by rw [← hAe]; exact Or.inr h
  have hS : va_S A s.heap s.heap [] := va_S.rf
  have hP : va_P g.1 vwCl (wC c0 h k0 x0 d0 ++ (wS g h a1 a2 a3 a4 σ)) s.heap := hP
  have hl := lv_entry ([.ref c0, .int p0]) (n := 2) (Nat.le_of_ble_eq_true rfl)
  rw [lg_entry_eq]
  generalize (lg_sl ([.ref c0, .int p0]) ++ List.replicate (2 - (lg_sl ([.ref c0, .int p0])).length) Slot.unset).toArray = ls at hl ⊢
  have hl : lv_has ls 2 [(0, .ref c0), (1, .int p0)] := hl
  unfold fX6_isClosed at hf
  refine lv_aload_n hx hb dX6_isClosed_0 rfl (lv_at hl 0 rfl) ?_
  refine lv_iload_n hx hb dX6_isClosed_1 rfl (lv_at hl 1 rfl) ?_
  obtain ⟨r_1, e_1, hf⟩ := xok hf
  refine mcallVv (W0 := (wC c0 h k0 x0 d0 ++ (wS g h a1 a2 a3 a4 σ))) (Wc := (wC c0 h k0 x0 d0 ++ (wS g h a1 a2 a3 a4 σ))) (Wr := ([] : va_W)) (W1 := (wC c0 h k0 x0 d0 ++ (wS g h a1 a2 a3 a4 σ))) (W2 := (wC c0 h k0 x0 d0 ++ (wS g h a1 a2 a3 a4 σ))) (As := [.int p0]) (rest := []) [0, 1, 2, 3, 4, 5] [] [0, 1, 2, 3, 4, 5] 4 0 ⟨hx, hb, hml, hown, hts⟩ hP hD hE hZ hS hA (cX6_requireLine_k_ok l g  c0 h k0 x0 d0 a1 a2 a3 a4 σ p0 _ e_1) (cwV 1 hts gX6_isClosed_X6_requireLine rfl rfl rfl hdX6_requireLine ⟨(Nat.le_of_ble_eq_true rfl), (Nat.le_of_ble_eq_true rfl)⟩) rfl rfl rfl (by decide) (by decide) (by decide) (by decide) rfl rfl rfl rfl hl.1 rfl (Nat.le_of_ble_eq_true rfl) ⟨(Nat.le_of_ble_eq_true rfl), (Nat.le_of_ble_eq_true rfl)⟩ dX6_isClosed_2 (fun H locs hP hD hS => ?_)
  refine lv_aload_n hx hb dX6_isClosed_5 rfl (lv_at hl 0 rfl) ?_
  refine va_get (v := .ref h) (C := RX6) (T := TX6) (N := 4) hx hb hts fiX6_isClosed_k_X6 hown hE.1 hP 0 rfl rfl 0 (by decide) (hts _ flX6_isClosed_k_10) (fun _ h9 => h9) rfl dX6_isClosed_6 ?_
  refine lv_iload_n hx hb dX6_isClosed_9 rfl (lv_at hl 1 rfl) ?_
  obtain ⟨r_2, e_2, hf⟩ := bo hf
  refine pcallV (W0 := (wC c0 h k0 x0 d0 ++ (wS g h a1 a2 a3 a4 σ))) (As := [.int p0]) (rest := []) [1, 2, 3, 4, 5] 3 0 ⟨hx, hb, hml, hown, hts⟩ hP hE hZ hS (cX4_isRing_ok l g h a1 a2 a3 a4 σ p0 e_2) (cwV 1 hts gX6_isClosed_X4_isRing rfl rfl rfl hdX4_isRing ⟨(Nat.le_of_ble_eq_true rfl), (Nat.le_of_ble_eq_true rfl)⟩) rfl rfl rfl rfl rfl hl.1 rfl (Nat.le_of_ble_eq_true rfl) ⟨(Nat.le_of_ble_eq_true rfl), (Nat.le_of_ble_eq_true rfl)⟩ dX6_isClosed_10 ?_
  have ho := okI hf
  subst ho
  exact m_zret (v := r_2) hx hb hr hlocks hP hD hS rfl dX6_isClosed_13

abbrev rmX6_whyNotStepped_k : Room := { frames := 4, cells := 0, slots := 0, locals := 100 }
theorem fiX6_whyNotStepped_k_X6 : ∀ w ∈ wsX60, w ∈ wsX6_whyNotStepped := by decide +kernel
theorem flX6_whyNotStepped_k_10 : (.fieldLink RX6 10 "ContourLabels" "sheet" "LContourLabels$Sheet;" : Cond) ∈ wsX6_whyNotStepped := by decide +kernel
set_option maxHeartbeats 4000000 in
set_option maxRecDepth 100000 in
theorem cX6_whyNotStepped_k_ok (l : Launch) (g : Gg) (c0 h k0 x0 d0 a1 a2 a3 a4 : Nat) (σ : Sh) (p0 p1 : Int32) (sz : Nat) {o : Int32} (hf : fX6_whyNotStepped σ p0 p1 = some (.ok o)) : Met l yX6_whyNotStepped wsX6_whyNotStepped rmX6_whyNotStepped_k (va_Pc [.ref c0, .int p0, .int p1] (PM g (wC c0 h k0 x0 d0 ++ (wS g h a1 a2 a3 a4 σ)) sz)) (va_Qi (fun r' (_ : Unit) => r' = o) (fun _ t => PQ g (wC c0 h k0 x0 d0 ++ (wS g h a1 a2 a3 a4 σ)) (va_A (wC c0 h k0 x0 d0 ++ (wS g h a1 a2 a3 a4 σ)) sz) t) (va_A (wC c0 h k0 x0 d0 ++ (wS g h a1 a2 a3 a4 σ)) sz)) 0 0 (va_A (wC c0 h k0 x0 d0 ++ (wS g h a1 a2 a3 a4 σ)) sz) := by
  refine Met.ofW (cc := cX6_whyNotStepped) (maxL := 3) (ret := (some .int)) (by decide) rfl ?_
  intro p e s m args below meth c s₁ B hml hv
  obtain ⟨rfl, rfl, hP, hD0, hE, hZ⟩ := hv
  have hx := B.exec
  have hb := B.bytes
  have hr := B.returns
  have hts := atoms_spec (ws := wsX6_whyNotStepped) B.pre
  have hown : s.vm.findClass RX6 = some m.cls := findClass_of_methodNamed B.named
  have hlocks := B.notSynchronized
  have hD := hD0.self (sz := s.heap.size)
  generalize hAe : (va_A (wC c0 h k0 x0 d0 ++ (wS g h a1 a2 a3 a4 σ)) s.heap.size) = A at hD hZ ⊢
  have hA : ∀ q : Nat, s.heap.size ≤ q → A q := fun q h => by rw [← hAe]; exact Or.inr h
  have hS : va_S A s.heap s.heap [] := va_S.rf
  have hP : va_P g.1 vwCl (wC c0 h k0 x0 d0 ++ (wS g h a1 a2 a3 a4 σ)) s.heap := hP
  have hl := lv_entry ([.ref c0, .int p0, .int p1]) (n := 3) (Nat.le_of_ble_eq_true rfl)
  rw [lg_entry_eq]
  generalize (lg_sl ([.ref c0, .int p0, .int p1]) ++ List.replicate (3 - (lg_sl ([.ref c0, .int p0, .int p1])).length) Slot.unset).toArray = ls at hl ⊢
  have hl : lv_has ls 3 [(0, .ref c0), (1, .int p0), (2, .int p1)] := hl
  unfold fX6_whyNotStepped at hf
  refine lv_aload_n hx hb dX6_whyNotStepped_0 rfl (lv_at hl 0 rfl) ?_
  refine lv_iload_n hx hb dX6_whyNotStepped_1 rfl (lv_at hl 1 rfl) ?_
  obtain ⟨r_1, e_1, hf⟩ := xok hf
  refine mcallVv (W0 := (wC c0 h k0 x0 d0 ++ (wS g h a1 a2 a3 a4 σ))) (Wc := (wC c0 h k0 x0 d0 ++ (wS g h a1 a2 a3 a4 σ))) (Wr := ([] : va_W)) (W1 := (wC c0 h k0 x0 d0 ++ (wS g h a1 a2 a3 a4 σ))) (W2 := (wC c0 h k0 x0 d0 ++ (wS g h a1 a2 a3 a4 σ))) (As := [.int p0]) (rest := []) [0, 1, 2, 3, 4, 5] [] [0, 1, 2, 3, 4, 5] 4 0 ⟨hx, hb, hml, hown, hts⟩ hP hD hE hZ hS hA (cX6_requireLine_k_ok l g  c0 h k0 x0 d0 a1 a2 a3 a4 σ p0 _ e_1) (cwV 1 hts gX6_whyNotStepped_X6_requireLine rfl rfl rfl hdX6_requireLine ⟨(Nat.le_of_ble_eq_true rfl), (Nat.le_of_ble_eq_true rfl)⟩) rfl rfl rfl (by decide) (by decide) (by decide) (by decide) rfl rfl rfl rfl hl.1 rfl (Nat.le_of_ble_eq_true rfl) ⟨(Nat.le_of_ble_eq_true rfl), (Nat.le_of_ble_eq_true rfl)⟩ dX6_whyNotStepped_2 (fun H locs hP hD hS => ?_)
  refine lv_iload_n hx hb dX6_whyNotStepped_5 rfl (lv_at hl 2 rfl) ?_
  obtain ⟨r_2, e_2, hf⟩ := xok hf
  refine mcallSv (W0 := (wC c0 h k0 x0 d0 ++ (wS g h a1 a2 a3 a4 σ))) (Wc := ([] : va_W)) (Wr := (wC c0 h k0 x0 d0 ++ (wS g h a1 a2 a3 a4 σ))) (W1 := ([] : va_W)) (W2 := (wC c0 h k0 x0 d0 ++ (wS g h a1 a2 a3 a4 σ))) (As := [.int p1]) (rest := []) [] [0, 1, 2, 3, 4, 5] [0, 1, 2, 3, 4, 5] ⟨hx, hb, hml, hown, hts⟩ hP hD hE hZ hS hA (cX6_requireDirection_k_ok l g   p1 _ e_2) (va_cwS 1 hts gX6_whyNotStepped_X6_requireDirection rfl rfl rfl hdX6_requireDirection.2 ⟨(Nat.le_of_ble_eq_true rfl), (Nat.le_of_ble_eq_true rfl)⟩) rfl rfl rfl (by decide) (by decide) (by decide) (by decide) rfl hl.1 rfl (Nat.le_of_ble_eq_true rfl) ⟨(Nat.le_of_ble_eq_true rfl), (Nat.le_of_ble_eq_true rfl)⟩ dX6_whyNotStepped_6 (fun H locs hP hD hS => ?_)
  refine lv_aload_n hx hb dX6_whyNotStepped_9 rfl (lv_at hl 0 rfl) ?_
  refine va_get (v := .ref h) (C := RX6) (T := TX6) (N := 4) hx hb hts fiX6_whyNotStepped_k_X6 hown hE.1 hP 0 rfl rfl 0 (by decide) (hts _ flX6_whyNotStepped_k_10) (fun _ h9 => h9) rfl dX6_whyNotStepped_10 ?_
  refine lv_iload_n hx hb dX6_whyNotStepped_13 rfl (lv_at hl 1 rfl) ?_
  refine lv_iload_n hx hb dX6_whyNotStepped_14 rfl (lv_at hl 2 rfl) ?_
  obtain ⟨r_3, e_3, hf⟩ := bo hf
  refine pcallV (W0 := (wC c0 h k0 x0 d0 ++ (wS g h a1 a2 a3 a4 σ))) (As := [.int p0, .int p1]) (rest := []) [1, 2, 3, 4, 5] 3 0 ⟨hx, hb, hml, hown, hts⟩ hP hE hZ hS (cX4_reasonAgainstStep_ok l g h a1 a2 a3 a4 σ p0 p1 e_3) (cwV 2 hts gX6_whyNotStepped_X4_reasonAgainstStep rfl rfl rfl hdX4_reasonAgainstStep ⟨(Nat.le_of_ble_eq_true rfl), (Nat.le_of_ble_eq_true rfl)⟩) rfl rfl rfl rfl rfl hl.1 rfl (Nat.le_of_ble_eq_true rfl) ⟨(Nat.le_of_ble_eq_true rfl), (Nat.le_of_ble_eq_true rfl)⟩ dX6_whyNotStepped_15 ?_
  have ho := okI hf
  subst ho
  exact m_iret (v := r_3) hx hb hr hlocks hP hD hS rfl dX6_whyNotStepped_18

abbrev rmX6_bendAt_k : Room := { frames := 2, cells := 0, slots := 0, locals := 48 }
theorem fiX6_bendAt_k_X6 : ∀ w ∈ wsX60, w ∈ wsX6_bendAt := by decide +kernel
theorem flX6_bendAt_k_10 : (.fieldLink RX6 10 "ContourLabels" "sheet" "LContourLabels$Sheet;" : Cond) ∈ wsX6_bendAt := by decide +kernel
set_option maxHeartbeats 4000000 in
set_option maxRecDepth 100000 in
theorem cX6_bendAt_k_ok (l : Launch) (g : Gg) (c0 h k0 x0 d0 a1 a2 a3 a4 : Nat) (σ : Sh) (p0 p1 : Int32) (sz : Nat) {o : Int32} (hf : fX6_bendAt σ p0 p1 = some (.ok o)) : Met l yX6_bendAt wsX6_bendAt rmX6_bendAt_k (va_Pc [.ref c0, .int p0, .int p1] (PM g (wC c0 h k0 x0 d0 ++ (wS g h a1 a2 a3 a4 σ)) sz)) (va_Qi (fun r' (_ : Unit) => r' = o) (fun _ t => PQ g (wC c0 h k0 x0 d0 ++ (wS g h a1 a2 a3 a4 σ)) (va_A (wC c0 h k0 x0 d0 ++ (wS g h a1 a2 a3 a4 σ)) sz) t) (va_A (wC c0 h k0 x0 d0 ++ (wS g h a1 a2 a3 a4 σ)) sz)) 0 0 (va_A (wC c0 h k0 x0 d0 ++ (wS g h a1 a2 a3 a4 σ)) sz) := by
  refine Met.ofW (cc := cX6_bendAt) (maxL := 3) (ret := (some .int)) (by decide) rfl ?_
  intro p e s m args below meth c s₁ B hml hv
  obtain ⟨rfl, rfl, hP, hD0, hE, hZ⟩ := hv
  have hx := B.exec
  have hb := B.bytes
  have hr := B.returns
  have hts := atoms_spec (ws := wsX6_bendAt) B.pre
  have hown : s.vm.findClass RX6 = some m.cls := findClass_of_methodNamed B.named
  have hlocks := B.notSynchronized
  have hD := hD0.self (sz := s.heap.size)
  generalize hAe : (va_A (wC c0 h k0 x0 d0 ++ (wS g h a1 a2 a3 a4 σ)) s.heap.size) = A at hD hZ ⊢
  have hA : ∀ q : Nat, s.heap.size ≤ q → A q := fun q h => by rw [← hAe]; exact Or.inr h
  have hS : va_S A s.heap s.heap [] := va_S.rf
  have hP : va_P g.1 vwCl (wC c0 h k0 x0 d0 ++ (wS g h a1 a2 a3 a4 σ)) s.heap := hP
  have hl := lv_entry ([.ref c0, .int p0, .int p1]) (n := 3) (Nat.le_of_ble_eq_true rfl)
  rw [lg_entry_eq]
  generalize (lg_sl ([.ref c0, .int p0, .int p1]) ++ List.replicate (3 - (lg_sl ([.ref c0, .int p0, .int p1])).length) Slot.unset).toArray = ls at hl ⊢
  have hl : lv_has ls 3 [(0, .ref c0), (1, .int p0), (2, .int p1)] := hl
  unfold fX6_bendAt at hf
  refine lv_aload_n hx hb dX6_bendAt_0 rfl (lv_at hl 0 rfl) ?_
  refine lv_iload_n hx hb dX6_bendAt_1 rfl (lv_at hl 1 rfl) ?_
  refine lv_iload_n hx hb dX6_bendAt_2 rfl (lv_at hl 2 rfl) ?_
  obtain ⟨r_1, e_1, hf⟩ := xok hf
  refine mcallVv (W0 := (wC c0 h k0 x0 d0 ++ (wS g h a1 a2 a3 a4 σ))) (Wc := (wC c0 h k0 x0 d0 ++ (wS g h a1 a2 a3 a4 σ))) (Wr := ([] : va_W)) (W1 := (wC c0 h k0 x0 d0 ++ (wS g h a1 a2 a3 a4 σ))) (W2 := (wC c0 h k0 x0 d0 ++ (wS g h a1 a2 a3 a4 σ))) (As := [.int p0, .int p1]) (rest := []) [0, 1, 2, 3, 4, 5] [] [0, 1, 2, 3, 4, 5] 4 0 ⟨hx, hb, hml, hown, hts⟩ hP hD hE hZ hS hA (cX6_requireNumber_k_ok l g  c0 h k0 x0 d0 a1 a2 a3 a4 σ p0 p1 _ e_1) (cwV 2 hts gX6_bendAt_X6_requireNumber rfl rfl rfl hdX6_requireNumber ⟨(Nat.le_of_ble_eq_true rfl), (Nat.le_of_ble_eq_true rfl)⟩) rfl rfl rfl (by decide) (by decide) (by decide) (by decide) rfl rfl rfl rfl hl.1 rfl (Nat.le_of_ble_eq_true rfl) ⟨(Nat.le_of_ble_eq_true rfl), (Nat.le_of_ble_eq_true rfl)⟩ dX6_bendAt_3 (fun H locs hP hD hS => ?_)
  refine lv_aload_n hx hb dX6_bendAt_6 rfl (lv_at hl 0 rfl) ?_
  refine va_get (v := .ref h) (C := RX6) (T := TX6) (N := 4) hx hb hts fiX6_bendAt_k_X6 hown hE.1 hP 0 rfl rfl 0 (by decide) (hts _ flX6_bendAt_k_10) (fun _ h9 => h9) rfl dX6_bendAt_7 ?_
  refine lv_iload_n hx hb dX6_bendAt_10 rfl (lv_at hl 1 rfl) ?_
  refine lv_iload_n hx hb dX6_bendAt_11 rfl (lv_at hl 2 rfl) ?_
  obtain ⟨r_2, e_2, hf⟩ := bo hf
  refine pcallV (W0 := (wC c0 h k0 x0 d0 ++ (wS g h a1 a2 a3 a4 σ))) (As := [.int p0, .int p1]) (rest := []) [1, 2, 3, 4, 5] 3 0 ⟨hx, hb, hml, hown, hts⟩ hP hE hZ hS (cX4_bendThere_ok l g h a1 a2 a3 a4 σ p0 p1 e_2) (cwV 2 hts gX6_bendAt_X4_bendThere rfl rfl rfl hdX4_bendThere ⟨(Nat.le_of_ble_eq_true rfl), (Nat.le_of_ble_eq_true rfl)⟩) rfl rfl rfl rfl rfl hl.1 rfl (Nat.le_of_ble_eq_true rfl) ⟨(Nat.le_of_ble_eq_true rfl), (Nat.le_of_ble_eq_true rfl)⟩ dX6_bendAt_12 ?_
  have ho := okI hf
  subst ho
  exact m_iret (v := r_2) hx hb hr hlocks hP hD hS rfl dX6_bendAt_15

abbrev rmX6_lengthByKinds_k : Room := { frames := 2, cells := 0, slots := 0, locals := 42 }
theorem fiX6_lengthByKinds_k_X6 : ∀ w ∈ wsX60, w ∈ wsX6_lengthByKinds := by decide +kernel
theorem flX6_lengthByKinds_k_10 : (.fieldLink RX6 10 "ContourLabels" "sheet" "LContourLabels$Sheet;" : Cond) ∈ wsX6_lengthByKinds := by decide +kernel
set_option maxHeartbeats 4000000 in
set_option maxRecDepth 100000 in
theorem cX6_lengthByKinds_k_ok (l : Launch) (g : Gg) (c0 h k0 x0 d0 a1 a2 a3 a4 : Nat) (σ : Sh) (p0 : Int32) (sz : Nat) {o : UInt64} (hf : fX6_lengthByKinds σ p0 = some (.ok o)) : Met l yX6_lengthByKinds wsX6_lengthByKinds rmX6_lengthByKinds_k (va_Pc [.ref c0, .int p0] (PM g (wC c0 h k0 x0 d0 ++ (wS g h a1 a2 a3 a4 σ)) sz)) (va_Qd (fun r' (_ : Unit) => r' = o) (fun _ t => PQ g (wC c0 h k0 x0 d0 ++ (wS g h a1 a2 a3 a4 σ)) (va_A (wC c0 h k0 x0 d0 ++ (wS g h a1 a2 a3 a4 σ)) sz) t) (va_A (wC c0 h k0 x0 d0 ++ (wS g h a1 a2 a3 a4 σ)) sz)) 0 0 (va_A (wC c0 h k0 x0 d0 ++ (wS g h a1 a2 a3 a4 σ)) sz) := by
  refine Met.ofW (cc := cX6_lengthByKinds) (maxL := 5) (ret := (some .double)) (by decide) rfl ?_
  intro p e s m args below meth c s₁ B hml hv
  obtain ⟨rfl, rfl, hP, hD0, hE, hZ⟩ := hv
  have hx := B.exec
  have hb := B.bytes
  have hr := B.returns
  have hts := atoms_spec (ws := wsX6_lengthByKinds) B.pre
  have hown : s.vm.findClass RX6 = some m.cls := findClass_of_methodNamed B.named
  have hlocks := B.notSynchronized
  have hD := hD0.self (sz := s.heap.size)
  generalize hAe : (va_A (wC c0 h k0 x0 d0 ++ (wS g h a1 a2 a3 a4 σ)) s.heap.size) = A at hD hZ ⊢
  have hA : ∀ q : Nat, s.heap.size ≤ q → A q := fun q h => by rw [← hAe]; exact Or.inr h
  have hS : va_S A s.heap s.heap [] := va_S.rf
  have hP : va_P g.1 vwCl (wC c0 h k0 x0 d0 ++ (wS g h a1 a2 a3 a4 σ)) s.heap := hP
  have hl := lv_entry ([.ref c0, .int p0]) (n := 5) (Nat.le_of_ble_eq_true rfl)
  rw [lg_entry_eq]
  generalize (lg_sl ([.ref c0, .int p0]) ++ List.replicate (5 - (lg_sl ([.ref c0, .int p0])).length) Slot.unset).toArray = ls at hl ⊢
  have hl : lv_has ls 5 [(0, .ref c0), (1, .int p0)] := hl
  have hB19 : ∀ (v2_19 : Int32) (n19 : Nat) (v3_19 : Int32) (v4_19 : Int32) (H : Heap) (locs : List Loc) (ls : Array Slot), va_P g.1 vwCl (wC c0 h k0 x0 d0 ++ (wS g h a1 a2 a3 a4 σ)) H → va_D A (wC c0 h k0 x0 d0 ++ (wS g h a1 a2 a3 a4 σ)) → va_S A s.heap H locs → lv_has ls 5 [(0, .ref c0), (1, .int p0), (2, .int v2_19), (3, .int v3_19), (4, .int v4_19)] → fX6_lengthByKinds_19 σ p0 v2_19 n19 v3_19 v4_19 = some (.ok o) → W p l e (headSpec wsX6_lengthByKinds rmX6_lengthByKinds_k).room s m ([.ref c0, .int p0] : List Value).toArray below meth c H locs 0 0 (MQ below (va_Qd (fun r' (_ : Unit) => r' = o) (fun _ t => PQ g (wC c0 h k0 x0 d0 ++ (wS g h a1 a2 a3 a4 σ)) A t) A) ([.ref c0, .int p0] : List Value).toArray s 0 0 A) (F0 m 19 ls []) := by
    intro v2_19 n19
    induction n19 with
    | zero => intro v3_19 v4_19 H locs ls hP hD hS hl hf; exact nomatch (show (none : Option (Except String (UInt64))) = some _ from hf)
    | succ n19 ih19 =>
      intro v3_19 v4_19 H locs ls hP hD hS hl hf
      rw [fX6_lengthByKinds_19] at hf
      refine lv_iload hx hb dX6_lengthByKinds_19 (lv_at hl 4 rfl) ?_
      refine lv_iload_n hx hb dX6_lengthByKinds_21 rfl (lv_at hl 2 rfl) ?_
      refine lv_icmp_ge (tgt := 50) hx hb dX6_lengthByKinds_22 (by decide) (fun c_1 => ?_) (fun c_1 => ?_)
      · have hf := ip c_1 hf
        refine lv_iload_n hx hb dX6_lengthByKinds_50 rfl (lv_at hl 2 rfl) ?_
        refine lv_iload_n hx hb dX6_lengthByKinds_51 rfl (lv_at hl 3 rfl) ?_
        refine lv_isub hx hb dX6_lengthByKinds_52 ?_
        refine lv_i2d hx hb dX6_lengthByKinds_53 ?_
        refine lv_iload_n hx hb dX6_lengthByKinds_54 rfl (lv_at hl 3 rfl) ?_
        refine lv_i2d hx hb dX6_lengthByKinds_55 ?_
        obtain ⟨r_2, e_2, hf⟩ := bo hf
        refine pcallSd (W0 := (wC c0 h k0 x0 d0 ++ (wS g h a1 a2 a3 a4 σ))) (As := []) (rest := [.double (FP.i2d v3_19), .double (FP.i2d (v2_19 - v3_19))]) [] ⟨hx, hb, hml, hown, hts⟩ hP hE hZ hS (cX6_slantingLength_ok l g   e_2) (va_cwS 0 hts gX6_lengthByKinds_X6_slantingLength rfl rfl rfl hdX6_slantingLength.2 ⟨(Nat.le_of_ble_eq_true rfl), (Nat.le_of_ble_eq_true rfl)⟩) rfl rfl hl.1 rfl (Nat.le_of_ble_eq_true rfl) ⟨(Nat.le_of_ble_eq_true rfl), (Nat.le_of_ble_eq_true rfl)⟩ dX6_lengthByKinds_56 ?_
        obtain ⟨h_3, hf⟩ := ck hf
        refine lv_dmul hx hb dX6_lengthByKinds_59 h_3 ?_
        obtain ⟨h_4, hf⟩ := ck hf
        refine lv_dadd hx hb dX6_lengthByKinds_60 h_4 ?_
        have ho := okI hf
        subst ho
        exact m_dret (v := (FP.dadd (FP.i2d (v2_19 - v3_19)) (FP.dmul (FP.i2d v3_19) r_2))) hx hb hr hlocks hP hD hS rfl dX6_lengthByKinds_61
      · have hf := iq c_1 hf
        refine lv_aload_n hx hb dX6_lengthByKinds_25 rfl (lv_at hl 0 rfl) ?_
        refine va_get (v := .ref h) (C := RX6) (T := TX6) (N := 4) hx hb hts fiX6_lengthByKinds_k_X6 hown hE.1 hP 0 rfl rfl 0 (by decide) (hts _ flX6_lengthByKinds_k_10) (fun _ h9 => h9) rfl dX6_lengthByKinds_26 ?_
        refine lv_iload_n hx hb dX6_lengthByKinds_29 rfl (lv_at hl 1 rfl) ?_
        refine lv_iload hx hb dX6_lengthByKinds_30 (lv_at hl 4 rfl) ?_
        obtain ⟨r_5, e_5, hf⟩ := bo hf
        refine pcallV (W0 := (wC c0 h k0 x0 d0 ++ (wS g h a1 a2 a3 a4 σ))) (As := [.int p0, .int v4_19]) (rest := []) [1, 2, 3, 4, 5] 3 0 ⟨hx, hb, hml, hown, hts⟩ hP hE hZ hS (cX4_directionAt_ok l g h a1 a2 a3 a4 σ p0 v4_19 e_5) (cwV 2 hts gX6_lengthByKinds_X4_directionAt rfl rfl rfl hdX4_directionAt ⟨(Nat.le_of_ble_eq_true rfl), (Nat.le_of_ble_eq_true rfl)⟩) rfl rfl rfl rfl rfl hl.1 rfl (Nat.le_of_ble_eq_true rfl) ⟨(Nat.le_of_ble_eq_true rfl), (Nat.le_of_ble_eq_true rfl)⟩ dX6_lengthByKinds_32 ?_
        obtain ⟨r_6, e_6, hf⟩ := bo hf
        refine pcallS (W0 := (wC c0 h k0 x0 d0 ++ (wS g h a1 a2 a3 a4 σ))) (As := [.int r_5]) (rest := []) [] ⟨hx, hb, hml, hown, hts⟩ hP hE hZ hS (cX6_isSlanting_ok l g  r_5 e_6) (va_cwS 1 hts gX6_lengthByKinds_X6_isSlanting rfl rfl rfl hdX6_isSlanting.2 ⟨(Nat.le_of_ble_eq_true rfl), (Nat.le_of_ble_eq_true rfl)⟩) rfl rfl hl.1 rfl (Nat.le_of_ble_eq_true rfl) ⟨(Nat.le_of_ble_eq_true rfl), (Nat.le_of_ble_eq_true rfl)⟩ dX6_lengthByKinds_35 ?_
        refine lv_beq (tgt := 44) hx hb dX6_lengthByKinds_38 (by decide) (fun c_7 => ?_) (fun c_7 => ?_)
        · have hf := iq c_7 hf
          refine lv_iinc (v := (v4_19 + 1)) (lv' := [(4, .int (v4_19 + 1)), (0, .ref c0), (1, .int p0), (2, .int v2_19), (3, .int v3_19)]) hx hb dX6_lengthByKinds_44 hl (k := 4) rfl rfl (by decide) rfl (fun ls hl => ?_)
          refine lv_goto (tgt := 19) hx hb dX6_lengthByKinds_47 (by decide) ?_
          exact ih19 v3_19 (v4_19 + 1) _ _ ls hP hD hS (lv_sub hl [1, 2, 3, 4, 0] rfl) hf
        · have hf := ip c_7 hf
          refine lv_iinc (v := (v3_19 + 1)) (lv' := [(3, .int (v3_19 + 1)), (0, .ref c0), (1, .int p0), (2, .int v2_19), (4, .int v4_19)]) hx hb dX6_lengthByKinds_41 hl (k := 3) rfl rfl (by decide) rfl (fun ls hl => ?_)
          refine lv_iinc (v := (v4_19 + 1)) (lv' := [(4, .int (v4_19 + 1)), (3, .int (v3_19 + 1)), (0, .ref c0), (1, .int p0), (2, .int v2_19)]) hx hb dX6_lengthByKinds_44 hl (k := 4) rfl rfl (by decide) rfl (fun ls hl => ?_)
          refine lv_goto (tgt := 19) hx hb dX6_lengthByKinds_47 (by decide) ?_
          exact ih19 (v3_19 + 1) (v4_19 + 1) _ _ ls hP hD hS (lv_sub hl [2, 3, 4, 1, 0] rfl) hf
  unfold fX6_lengthByKinds at hf
  refine lv_aload_n hx hb dX6_lengthByKinds_0 rfl (lv_at hl 0 rfl) ?_
  refine lv_iload_n hx hb dX6_lengthByKinds_1 rfl (lv_at hl 1 rfl) ?_
  obtain ⟨r_8, e_8, hf⟩ := xok hf
  refine mcallVv (W0 := (wC c0 h k0 x0 d0 ++ (wS g h a1 a2 a3 a4 σ))) (Wc := (wC c0 h k0 x0 d0 ++ (wS g h a1 a2 a3 a4 σ))) (Wr := ([] : va_W)) (W1 := (wC c0 h k0 x0 d0 ++ (wS g h a1 a2 a3 a4 σ))) (W2 := (wC c0 h k0 x0 d0 ++ (wS g h a1 a2 a3 a4 σ))) (As := [.int p0]) (rest := []) [0, 1, 2, 3, 4, 5] [] [0, 1, 2, 3, 4, 5] 4 0 ⟨hx, hb, hml, hown, hts⟩ hP hD hE hZ hS hA (cX6_requireLine_k_ok l g  c0 h k0 x0 d0 a1 a2 a3 a4 σ p0 _ e_8) (cwV 1 hts gX6_lengthByKinds_X6_requireLine rfl rfl rfl hdX6_requireLine ⟨(Nat.le_of_ble_eq_true rfl), (Nat.le_of_ble_eq_true rfl)⟩) rfl rfl rfl (by decide) (by decide) (by decide) (by decide) rfl rfl rfl rfl hl.1 rfl (Nat.le_of_ble_eq_true rfl) ⟨(Nat.le_of_ble_eq_true rfl), (Nat.le_of_ble_eq_true rfl)⟩ dX6_lengthByKinds_2 (fun H locs hP hD hS => ?_)
  refine lv_aload_n hx hb dX6_lengthByKinds_5 rfl (lv_at hl 0 rfl) ?_
  refine va_get (v := .ref h) (C := RX6) (T := TX6) (N := 4) hx hb hts fiX6_lengthByKinds_k_X6 hown hE.1 hP 0 rfl rfl 0 (by decide) (hts _ flX6_lengthByKinds_k_10) (fun _ h9 => h9) rfl dX6_lengthByKinds_6 ?_
  refine lv_iload_n hx hb dX6_lengthByKinds_9 rfl (lv_at hl 1 rfl) ?_
  obtain ⟨r_9, e_9, hf⟩ := bo hf
  refine pcallV (W0 := (wC c0 h k0 x0 d0 ++ (wS g h a1 a2 a3 a4 σ))) (As := [.int p0]) (rest := []) [1, 2, 3, 4, 5] 3 0 ⟨hx, hb, hml, hown, hts⟩ hP hE hZ hS (cX4_stepCount_ok l g h a1 a2 a3 a4 σ p0 e_9) (cwV 1 hts gX6_lengthByKinds_X4_stepCount rfl rfl rfl hdX4_stepCount ⟨(Nat.le_of_ble_eq_true rfl), (Nat.le_of_ble_eq_true rfl)⟩) rfl rfl rfl rfl rfl hl.1 rfl (Nat.le_of_ble_eq_true rfl) ⟨(Nat.le_of_ble_eq_true rfl), (Nat.le_of_ble_eq_true rfl)⟩ dX6_lengthByKinds_10 ?_
  refine lv_istore_n (lv' := [(2, .int r_9), (0, .ref c0), (1, .int p0)]) hx hb dX6_lengthByKinds_13 rfl hl (by decide) rfl (fun ls hl => ?_)
  refine lv_iconst (v := (0 : Int32)) hx hb dX6_lengthByKinds_14 (by decide) ?_
  refine lv_istore_n (lv' := [(3, .int (0 : Int32)), (2, .int r_9), (0, .ref c0), (1, .int p0)]) hx hb dX6_lengthByKinds_15 rfl hl (by decide) rfl (fun ls hl => ?_)
  refine lv_iconst (v := (0 : Int32)) hx hb dX6_lengthByKinds_16 (by decide) ?_
  refine lv_istore (lv' := [(4, .int (0 : Int32)), (3, .int (0 : Int32)), (2, .int r_9), (0, .ref c0), (1, .int p0)]) hx hb dX6_lengthByKinds_17 hl (by decide) rfl (fun ls hl => ?_)
  exact hB19 r_9 FU (0 : Int32) (0 : Int32) _ _ ls hP hD hS (lv_sub hl [3, 4, 2, 1, 0] rfl) hf

abbrev rmX6_lengthBySteps_k : Room := { frames := 2, cells := 0, slots := 0, locals := 42 }
theorem fiX6_lengthBySteps_k_X6 : ∀ w ∈ wsX60, w ∈ wsX6_lengthBySteps := by decide +kernel
theorem flX6_lengthBySteps_k_10 : (.fieldLink RX6 10 "ContourLabels" "sheet" "LContourLabels$Sheet;" : Cond) ∈ wsX6_lengthBySteps := by decide +kernel
set_option maxHeartbeats 4000000 in
set_option maxRecDepth 100000 in
theorem cX6_lengthBySteps_k_ok (l : Launch) (g : Gg) (c0 h k0 x0 d0 a1 a2 a3 a4 : Nat) (σ : Sh) (p0 : Int32) (sz : Nat) {o : UInt64} (hf : fX6_lengthBySteps σ p0 = some (.ok o)) : Met l yX6_lengthBySteps wsX6_lengthBySteps rmX6_lengthBySteps_k (va_Pc [.ref c0, .int p0] (PM g (wC c0 h k0 x0 d0 ++ (wS g h a1 a2 a3 a4 σ)) sz)) (va_Qd (fun r' (_ : Unit) => r' = o) (fun _ t => PQ g (wC c0 h k0 x0 d0 ++ (wS g h a1 a2 a3 a4 σ)) (va_A (wC c0 h k0 x0 d0 ++ (wS g h a1 a2 a3 a4 σ)) sz) t) (va_A (wC c0 h k0 x0 d0 ++ (wS g h a1 a2 a3 a4 σ)) sz)) 0 0 (va_A (wC c0 h k0 x0 d0 ++ (wS g h a1 a2 a3 a4 σ)) sz) := by
  refine Met.ofW (cc := cX6_lengthBySteps) (maxL := 6) (ret := (some .double)) (by decide) rfl ?_
  intro p e s m args below meth c s₁ B hml hv
  obtain ⟨rfl, rfl, hP, hD0, hE, hZ⟩ := hv
  have hx := B.exec
  have hb := B.bytes
  have hr := B.returns
  have hts := atoms_spec (ws := wsX6_lengthBySteps) B.pre
  have hown : s.vm.findClass RX6 = some m.cls := findClass_of_methodNamed B.named
  have hlocks := B.notSynchronized
  have hD := hD0.self (sz := s.heap.size)
  generalize hAe : (va_A (wC c0 h k0 x0 d0 ++ (wS g h a1 a2 a3 a4 σ)) s.heap.size) = A at hD hZ ⊢
  have hA : ∀ q : Nat, s.heap.size ≤ q → A q := fun q h => by rw [← hAe]; exact Or.inr h
  have hS : va_S A s.heap s.heap [] := va_S.rf
  have hP : va_P g.1 vwCl (wC c0 h k0 x0 d0 ++ (wS g h a1 a2 a3 a4 σ)) s.heap := hP
  have hl := lv_entry ([.ref c0, .int p0]) (n := 6) (Nat.le_of_ble_eq_true rfl)
  rw [lg_entry_eq]
  generalize (lg_sl ([.ref c0, .int p0]) ++ List.replicate (6 - (lg_sl ([.ref c0, .int p0])).length) Slot.unset).toArray = ls at hl ⊢
  have hl : lv_has ls 6 [(0, .ref c0), (1, .int p0)] := hl
  have hB19 : ∀ (v2_19 : Int32) (n19 : Nat) (v3_19 : UInt64) (v5_19 : Int32) (H : Heap) (locs : List Loc) (ls : Array Slot), va_P g.1 vwCl (wC c0 h k0 x0 d0 ++ (wS g h a1 a2 a3 a4 σ)) H → va_D A (wC c0 h k0 x0 d0 ++ (wS g h a1 a2 a3 a4 σ)) → va_S A s.heap H locs → lv_has ls 6 [(0, .ref c0), (1, .int p0), (2, .int v2_19), (3, .double v3_19), (5, .int v5_19)] → fX6_lengthBySteps_19 σ p0 v2_19 n19 v3_19 v5_19 = some (.ok o) → W p l e (headSpec wsX6_lengthBySteps rmX6_lengthBySteps_k).room s m ([.ref c0, .int p0] : List Value).toArray below meth c H locs 0 0 (MQ below (va_Qd (fun r' (_ : Unit) => r' = o) (fun _ t => PQ g (wC c0 h k0 x0 d0 ++ (wS g h a1 a2 a3 a4 σ)) A t) A) ([.ref c0, .int p0] : List Value).toArray s 0 0 A) (F0 m 19 ls []) := by
    intro v2_19 n19
    induction n19 with
    | zero => intro v3_19 v5_19 H locs ls hP hD hS hl hf; exact nomatch (show (none : Option (Except String (UInt64))) = some _ from hf)
    | succ n19 ih19 =>
      intro v3_19 v5_19 H locs ls hP hD hS hl hf
      rw [fX6_lengthBySteps_19] at hf
      refine lv_iload hx hb dX6_lengthBySteps_19 (lv_at hl 4 rfl) ?_
      refine lv_iload_n hx hb dX6_lengthBySteps_21 rfl (lv_at hl 2 rfl) ?_
      refine lv_icmp_ge (tgt := 57) hx hb dX6_lengthBySteps_22 (by decide) (fun c_1 => ?_) (fun c_1 => ?_)
      · have hf := ip c_1 hf
        refine lv_dload_n hx hb dX6_lengthBySteps_57 rfl (lv_at hl 3 rfl) ?_
        have ho := okI hf
        subst ho
        exact m_dret (v := v3_19) hx hb hr hlocks hP hD hS rfl dX6_lengthBySteps_58
      · have hf := iq c_1 hf
        refine lv_dload_n hx hb dX6_lengthBySteps_25 rfl (lv_at hl 3 rfl) ?_
        refine lv_aload_n hx hb dX6_lengthBySteps_26 rfl (lv_at hl 0 rfl) ?_
        refine va_get (v := .ref h) (C := RX6) (T := TX6) (N := 4) hx hb hts fiX6_lengthBySteps_k_X6 hown hE.1 hP 0 rfl rfl 0 (by decide) (hts _ flX6_lengthBySteps_k_10) (fun _ h9 => h9) rfl dX6_lengthBySteps_27 ?_
        refine lv_iload_n hx hb dX6_lengthBySteps_30 rfl (lv_at hl 1 rfl) ?_
        refine lv_iload hx hb dX6_lengthBySteps_31 (lv_at hl 4 rfl) ?_
        obtain ⟨r_2, e_2, hf⟩ := bo hf
        refine pcallV (W0 := (wC c0 h k0 x0 d0 ++ (wS g h a1 a2 a3 a4 σ))) (As := [.int p0, .int v5_19]) (rest := [.double v3_19]) [1, 2, 3, 4, 5] 3 0 ⟨hx, hb, hml, hown, hts⟩ hP hE hZ hS (cX4_directionAt_ok l g h a1 a2 a3 a4 σ p0 v5_19 e_2) (cwV 2 hts gX6_lengthBySteps_X4_directionAt rfl rfl rfl hdX4_directionAt ⟨(Nat.le_of_ble_eq_true rfl), (Nat.le_of_ble_eq_true rfl)⟩) rfl rfl rfl rfl rfl hl.1 rfl (Nat.le_of_ble_eq_true rfl) ⟨(Nat.le_of_ble_eq_true rfl), (Nat.le_of_ble_eq_true rfl)⟩ dX6_lengthBySteps_33 ?_
        obtain ⟨r_3, e_3, hf⟩ := bo hf
        refine pcallS (W0 := (wC c0 h k0 x0 d0 ++ (wS g h a1 a2 a3 a4 σ))) (As := [.int r_2]) (rest := [.double v3_19]) [] ⟨hx, hb, hml, hown, hts⟩ hP hE hZ hS (cX6_isSlanting_ok l g  r_2 e_3) (va_cwS 1 hts gX6_lengthBySteps_X6_isSlanting rfl rfl rfl hdX6_isSlanting.2 ⟨(Nat.le_of_ble_eq_true rfl), (Nat.le_of_ble_eq_true rfl)⟩) rfl rfl hl.1 rfl (Nat.le_of_ble_eq_true rfl) ⟨(Nat.le_of_ble_eq_true rfl), (Nat.le_of_ble_eq_true rfl)⟩ dX6_lengthBySteps_36 ?_
        refine lv_beq (tgt := 48) hx hb dX6_lengthBySteps_39 (by decide) (fun c_4 => ?_) (fun c_4 => ?_)
        · have hf := iq c_4 hf
          refine lv_dconst1 hx hb dX6_lengthBySteps_48 ?_
          obtain ⟨h_5, hf⟩ := ck hf
          refine lv_dadd hx hb dX6_lengthBySteps_49 h_5 ?_
          refine lv_dstore_n (lv' := [(3, .double (FP.dadd v3_19 (0x3ff0000000000000 : UInt64))), (0, .ref c0), (1, .int p0), (2, .int v2_19), (5, .int v5_19)]) hx hb dX6_lengthBySteps_50 rfl hl (by decide) rfl (fun ls hl => ?_)
          refine lv_iinc (v := (v5_19 + 1)) (lv' := [(5, .int (v5_19 + 1)), (3, .double (FP.dadd v3_19 (0x3ff0000000000000 : UInt64))), (0, .ref c0), (1, .int p0), (2, .int v2_19)]) hx hb dX6_lengthBySteps_51 hl (k := 4) rfl rfl (by decide) rfl (fun ls hl => ?_)
          refine lv_goto (tgt := 19) hx hb dX6_lengthBySteps_54 (by decide) ?_
          exact ih19 (FP.dadd v3_19 (0x3ff0000000000000 : UInt64)) (v5_19 + 1) _ _ ls hP hD hS (lv_sub hl [2, 3, 4, 1, 0] rfl) hf
        · have hf := ip c_4 hf
          obtain ⟨r_6, e_6, hf⟩ := bo hf
          refine pcallSd (W0 := (wC c0 h k0 x0 d0 ++ (wS g h a1 a2 a3 a4 σ))) (As := []) (rest := [.double v3_19]) [] ⟨hx, hb, hml, hown, hts⟩ hP hE hZ hS (cX6_slantingLength_ok l g   e_6) (va_cwS 0 hts gX6_lengthBySteps_X6_slantingLength rfl rfl rfl hdX6_slantingLength.2 ⟨(Nat.le_of_ble_eq_true rfl), (Nat.le_of_ble_eq_true rfl)⟩) rfl rfl hl.1 rfl (Nat.le_of_ble_eq_true rfl) ⟨(Nat.le_of_ble_eq_true rfl), (Nat.le_of_ble_eq_true rfl)⟩ dX6_lengthBySteps_42 ?_
          refine lv_goto (tgt := 49) hx hb dX6_lengthBySteps_45 (by decide) ?_
          obtain ⟨h_7, hf⟩ := ck hf
          refine lv_dadd hx hb dX6_lengthBySteps_49 h_7 ?_
          refine lv_dstore_n (lv' := [(3, .double (FP.dadd v3_19 r_6)), (0, .ref c0), (1, .int p0), (2, .int v2_19), (5, .int v5_19)]) hx hb dX6_lengthBySteps_50 rfl hl (by decide) rfl (fun ls hl => ?_)
          refine lv_iinc (v := (v5_19 + 1)) (lv' := [(5, .int (v5_19 + 1)), (3, .double (FP.dadd v3_19 r_6)), (0, .ref c0), (1, .int p0), (2, .int v2_19)]) hx hb dX6_lengthBySteps_51 hl (k := 4) rfl rfl (by decide) rfl (fun ls hl => ?_)
          refine lv_goto (tgt := 19) hx hb dX6_lengthBySteps_54 (by decide) ?_
          exact ih19 (FP.dadd v3_19 r_6) (v5_19 + 1) _ _ ls hP hD hS (lv_sub hl [2, 3, 4, 1, 0] rfl) hf
  unfold fX6_lengthBySteps at hf
  refine lv_aload_n hx hb dX6_lengthBySteps_0 rfl (lv_at hl 0 rfl) ?_
  refine lv_iload_n hx hb dX6_lengthBySteps_1 rfl (lv_at hl 1 rfl) ?_
  obtain ⟨r_8, e_8, hf⟩ := xok hf
  refine mcallVv (W0 := (wC c0 h k0 x0 d0 ++ (wS g h a1 a2 a3 a4 σ))) (Wc := (wC c0 h k0 x0 d0 ++ (wS g h a1 a2 a3 a4 σ))) (Wr := ([] : va_W)) (W1 := (wC c0 h k0 x0 d0 ++ (wS g h a1 a2 a3 a4 σ))) (W2 := (wC c0 h k0 x0 d0 ++ (wS g h a1 a2 a3 a4 σ))) (As := [.int p0]) (rest := []) [0, 1, 2, 3, 4, 5] [] [0, 1, 2, 3, 4, 5] 4 0 ⟨hx, hb, hml, hown, hts⟩ hP hD hE hZ hS hA (cX6_requireLine_k_ok l g  c0 h k0 x0 d0 a1 a2 a3 a4 σ p0 _ e_8) (cwV 1 hts gX6_lengthBySteps_X6_requireLine rfl rfl rfl hdX6_requireLine ⟨(Nat.le_of_ble_eq_true rfl), (Nat.le_of_ble_eq_true rfl)⟩) rfl rfl rfl (by decide) (by decide) (by decide) (by decide) rfl rfl rfl rfl hl.1 rfl (Nat.le_of_ble_eq_true rfl) ⟨(Nat.le_of_ble_eq_true rfl), (Nat.le_of_ble_eq_true rfl)⟩ dX6_lengthBySteps_2 (fun H locs hP hD hS => ?_)
  refine lv_aload_n hx hb dX6_lengthBySteps_5 rfl (lv_at hl 0 rfl) ?_
  refine va_get (v := .ref h) (C := RX6) (T := TX6) (N := 4) hx hb hts fiX6_lengthBySteps_k_X6 hown hE.1 hP 0 rfl rfl 0 (by decide) (hts _ flX6_lengthBySteps_k_10) (fun _ h9 => h9) rfl dX6_lengthBySteps_6 ?_
  refine lv_iload_n hx hb dX6_lengthBySteps_9 rfl (lv_at hl 1 rfl) ?_
  obtain ⟨r_9, e_9, hf⟩ := bo hf
  refine pcallV (W0 := (wC c0 h k0 x0 d0 ++ (wS g h a1 a2 a3 a4 σ))) (As := [.int p0]) (rest := []) [1, 2, 3, 4, 5] 3 0 ⟨hx, hb, hml, hown, hts⟩ hP hE hZ hS (cX4_stepCount_ok l g h a1 a2 a3 a4 σ p0 e_9) (cwV 1 hts gX6_lengthBySteps_X4_stepCount rfl rfl rfl hdX4_stepCount ⟨(Nat.le_of_ble_eq_true rfl), (Nat.le_of_ble_eq_true rfl)⟩) rfl rfl rfl rfl rfl hl.1 rfl (Nat.le_of_ble_eq_true rfl) ⟨(Nat.le_of_ble_eq_true rfl), (Nat.le_of_ble_eq_true rfl)⟩ dX6_lengthBySteps_10 ?_
  refine lv_istore_n (lv' := [(2, .int r_9), (0, .ref c0), (1, .int p0)]) hx hb dX6_lengthBySteps_13 rfl hl (by decide) rfl (fun ls hl => ?_)
  refine lv_dconst0 hx hb dX6_lengthBySteps_14 ?_
  refine lv_dstore_n (lv' := [(3, .double (0 : UInt64)), (2, .int r_9), (0, .ref c0), (1, .int p0)]) hx hb dX6_lengthBySteps_15 rfl hl (by decide) rfl (fun ls hl => ?_)
  refine lv_iconst (v := (0 : Int32)) hx hb dX6_lengthBySteps_16 (by decide) ?_
  refine lv_istore (lv' := [(5, .int (0 : Int32)), (3, .double (0 : UInt64)), (2, .int r_9), (0, .ref c0), (1, .int p0)]) hx hb dX6_lengthBySteps_17 hl (by decide) rfl (fun ls hl => ?_)
  exact hB19 r_9 FU (0 : UInt64) (0 : Int32) _ _ ls hP hD hS (lv_sub hl [3, 4, 2, 1, 0] rfl) hf

abbrev rmX6_labelOf_k : Room := { frames := 2, cells := 0, slots := 0, locals := 42 }
theorem fiX6_labelOf_k_X6 : ∀ w ∈ wsX60, w ∈ wsX6_labelOf := by decide +kernel
theorem flX6_labelOf_k_10 : (.fieldLink RX6 10 "ContourLabels" "sheet" "LContourLabels$Sheet;" : Cond) ∈ wsX6_labelOf := by decide +kernel
set_option maxHeartbeats 4000000 in
set_option maxRecDepth 100000 in
theorem cX6_labelOf_k_ok (l : Launch) (g : Gg) (c0 h k0 x0 d0 a1 a2 a3 a4 : Nat) (σ : Sh) (p0 : Int32) (sz : Nat) {o : Int32} (hf : fX6_labelOf σ p0 = some (.ok o)) : Met l yX6_labelOf wsX6_labelOf rmX6_labelOf_k (va_Pc [.ref c0, .int p0] (PM g (wC c0 h k0 x0 d0 ++ (wS g h a1 a2 a3 a4 σ)) sz)) (va_Qi (fun r' (_ : Unit) => r' = o) (fun _ t => PQ g (wC c0 h k0 x0 d0 ++ (wS g h a1 a2 a3 a4 σ)) (va_A (wC c0 h k0 x0 d0 ++ (wS g h a1 a2 a3 a4 σ)) sz) t) (va_A (wC c0 h k0 x0 d0 ++ (wS g h a1 a2 a3 a4 σ)) sz)) 0 0 (va_A (wC c0 h k0 x0 d0 ++ (wS g h a1 a2 a3 a4 σ)) sz) := by
  refine Met.ofW (cc := cX6_labelOf) (maxL := 2) (ret := (some .int)) (by decide) rfl ?_
  intro p e s m args below meth c s₁ B hml hv
  obtain ⟨rfl, rfl, hP, hD0, hE, hZ⟩ := hv
  have hx := B.exec
  have hb := B.bytes
  have hr := B.returns
  have hts := atoms_spec (ws := wsX6_labelOf) B.pre
  have hown : s.vm.findClass RX6 = some m.cls := findClass_of_methodNamed B.named
  have hlocks := B.notSynchronized
  have hD := hD0.self (sz := s.heap.size)
  generalize hAe : (va_A (wC c0 h k0 x0 d0 ++ (wS g h a1 a2 a3 a4 σ)) s.heap.size) = A at hD hZ ⊢
  have hA : ∀ q : Nat, s.heap.size ≤ q → A q := fun q h => by rw [← hAe]; exact Or.inr h
  have hS : va_S A s.heap s.heap [] := va_S.rf
  have hP : va_P g.1 vwCl (wC c0 h k0 x0 d0 ++ (wS g h a1 a2 a3 a4 σ)) s.heap := hP
  have hl := lv_entry ([.ref c0, .int p0]) (n := 2) (Nat.le_of_ble_eq_true rfl)
  rw [lg_entry_eq]
  generalize (lg_sl ([.ref c0, .int p0]) ++ List.replicate (2 - (lg_sl ([.ref c0, .int p0])).length) Slot.unset).toArray = ls at hl ⊢
  have hl : lv_has ls 2 [(0, .ref c0), (1, .int p0)] := hl
  unfold fX6_labelOf at hf
  refine lv_aload_n hx hb dX6_labelOf_0 rfl (lv_at hl 0 rfl) ?_
  refine lv_iload_n hx hb dX6_labelOf_1 rfl (lv_at hl 1 rfl) ?_
  obtain ⟨r_1, e_1, hf⟩ := xok hf
  refine mcallVv (W0 := (wC c0 h k0 x0 d0 ++ (wS g h a1 a2 a3 a4 σ))) (Wc := (wC c0 h k0 x0 d0 ++ (wS g h a1 a2 a3 a4 σ))) (Wr := ([] : va_W)) (W1 := (wC c0 h k0 x0 d0 ++ (wS g h a1 a2 a3 a4 σ))) (W2 := (wC c0 h k0 x0 d0 ++ (wS g h a1 a2 a3 a4 σ))) (As := [.int p0]) (rest := []) [0, 1, 2, 3, 4, 5] [] [0, 1, 2, 3, 4, 5] 4 0 ⟨hx, hb, hml, hown, hts⟩ hP hD hE hZ hS hA (cX6_requireLine_k_ok l g  c0 h k0 x0 d0 a1 a2 a3 a4 σ p0 _ e_1) (cwV 1 hts gX6_labelOf_X6_requireLine rfl rfl rfl hdX6_requireLine ⟨(Nat.le_of_ble_eq_true rfl), (Nat.le_of_ble_eq_true rfl)⟩) rfl rfl rfl (by decide) (by decide) (by decide) (by decide) rfl rfl rfl rfl hl.1 rfl (Nat.le_of_ble_eq_true rfl) ⟨(Nat.le_of_ble_eq_true rfl), (Nat.le_of_ble_eq_true rfl)⟩ dX6_labelOf_2 (fun H locs hP hD hS => ?_)
  refine lv_aload_n hx hb dX6_labelOf_5 rfl (lv_at hl 0 rfl) ?_
  refine va_get (v := .ref h) (C := RX6) (T := TX6) (N := 4) hx hb hts fiX6_labelOf_k_X6 hown hE.1 hP 0 rfl rfl 0 (by decide) (hts _ flX6_labelOf_k_10) (fun _ h9 => h9) rfl dX6_labelOf_6 ?_
  refine lv_iload_n hx hb dX6_labelOf_9 rfl (lv_at hl 1 rfl) ?_
  obtain ⟨r_2, e_2, hf⟩ := bo hf
  refine pcallV (W0 := (wC c0 h k0 x0 d0 ++ (wS g h a1 a2 a3 a4 σ))) (As := [.int p0]) (rest := []) [1, 2, 3, 4, 5] 3 0 ⟨hx, hb, hml, hown, hts⟩ hP hE hZ hS (cX4_labelIn_ok l g h a1 a2 a3 a4 σ p0 e_2) (cwV 1 hts gX6_labelOf_X4_labelIn rfl rfl rfl hdX4_labelIn ⟨(Nat.le_of_ble_eq_true rfl), (Nat.le_of_ble_eq_true rfl)⟩) rfl rfl rfl rfl rfl hl.1 rfl (Nat.le_of_ble_eq_true rfl) ⟨(Nat.le_of_ble_eq_true rfl), (Nat.le_of_ble_eq_true rfl)⟩ dX6_labelOf_10 ?_
  have ho := okI hf
  subst ho
  exact m_iret (v := r_2) hx hb hr hlocks hP hD hS rfl dX6_labelOf_13

abbrev rmX6_isTurned_k : Room := { frames := 3, cells := 0, slots := 0, locals := 67 }
theorem fiX6_isTurned_k_X6 : ∀ w ∈ wsX60, w ∈ wsX6_isTurned := by decide +kernel
theorem flX6_isTurned_k_10 : (.fieldLink RX6 10 "ContourLabels" "sheet" "LContourLabels$Sheet;" : Cond) ∈ wsX6_isTurned := by decide +kernel
set_option maxHeartbeats 4000000 in
set_option maxRecDepth 100000 in
theorem cX6_isTurned_k_ok (l : Launch) (g : Gg) (c0 h k0 x0 d0 a1 a2 a3 a4 : Nat) (σ : Sh) (p0 : Int32) (sz : Nat) {o : Bool} (hf : fX6_isTurned σ p0 = some (.ok o)) : Met l yX6_isTurned wsX6_isTurned rmX6_isTurned_k (va_Pc [.ref c0, .int p0] (PM g (wC c0 h k0 x0 d0 ++ (wS g h a1 a2 a3 a4 σ)) sz)) (va_Qi (fun r' (_ : Unit) => r' = b2i o) (fun _ t => PQ g (wC c0 h k0 x0 d0 ++ (wS g h a1 a2 a3 a4 σ)) (va_A (wC c0 h k0 x0 d0 ++ (wS g h a1 a2 a3 a4 σ)) sz) t) (va_A (wC c0 h k0 x0 d0 ++ (wS g h a1 a2 a3 a4 σ)) sz)) 0 0 (va_A (wC c0 h k0 x0 d0 ++ (wS g h a1 a2 a3 a4 σ)) sz) := by
  refine Met.ofW (cc := cX6_isTurned) (maxL := 3) (ret := (some .boolean)) (by decide) rfl ?_
  intro p e s m args below meth c s₁ B hml hv
  obtain ⟨rfl, rfl, hP, hD0, hE, hZ⟩ := hv
  have hx := B.exec
  have hb := B.bytes
  have hr := B.returns
  have hts := atoms_spec (ws := wsX6_isTurned) B.pre
  have hown : s.vm.findClass RX6 = some m.cls := findClass_of_methodNamed B.named
  have hlocks := B.notSynchronized
  have hD := hD0.self (sz := s.heap.size)
  generalize hAe : (va_A (wC c0 h k0 x0 d0 ++ (wS g h a1 a2 a3 a4 σ)) s.heap.size) = A at hD hZ ⊢
  have hA : ∀ q : Nat, s.heap.size ≤ q → A q := fun q h => by rw [← hAe]; exact Or.inr h
  have hS : va_S A s.heap s.heap [] := va_S.rf
  have hP : va_P g.1 vwCl (wC c0 h k0 x0 d0 ++ (wS g h a1 a2 a3 a4 σ)) s.heap := hP
  have hl := lv_entry ([.ref c0, .int p0]) (n := 3) (Nat.le_of_ble_eq_true rfl)
  rw [lg_entry_eq]
  generalize (lg_sl ([.ref c0, .int p0]) ++ List.replicate (3 - (lg_sl ([.ref c0, .int p0])).length) Slot.unset).toArray = ls at hl ⊢
  have hl : lv_has ls 3 [(0, .ref c0), (1, .int p0)] := hl
  unfold fX6_isTurned at hf
  refine lv_aload_n hx hb dX6_isTurned_0 rfl (lv_at hl 0 rfl) ?_
  refine lv_iload_n hx hb dX6_isTurned_1 rfl (lv_at hl 1 rfl) ?_
  obtain ⟨r_1, e_1, hf⟩ := xok hf
  refine mcallVv (W0 := (wC c0 h k0 x0 d0 ++ (wS g h a1 a2 a3 a4 σ))) (Wc := (wC c0 h k0 x0 d0 ++ (wS g h a1 a2 a3 a4 σ))) (Wr := ([] : va_W)) (W1 := (wC c0 h k0 x0 d0 ++ (wS g h a1 a2 a3 a4 σ))) (W2 := (wC c0 h k0 x0 d0 ++ (wS g h a1 a2 a3 a4 σ))) (As := [.int p0]) (rest := []) [0, 1, 2, 3, 4, 5] [] [0, 1, 2, 3, 4, 5] 4 0 ⟨hx, hb, hml, hown, hts⟩ hP hD hE hZ hS hA (cX6_requireLine_k_ok l g  c0 h k0 x0 d0 a1 a2 a3 a4 σ p0 _ e_1) (cwV 1 hts gX6_isTurned_X6_requireLine rfl rfl rfl hdX6_requireLine ⟨(Nat.le_of_ble_eq_true rfl), (Nat.le_of_ble_eq_true rfl)⟩) rfl rfl rfl (by decide) (by decide) (by decide) (by decide) rfl rfl rfl rfl hl.1 rfl (Nat.le_of_ble_eq_true rfl) ⟨(Nat.le_of_ble_eq_true rfl), (Nat.le_of_ble_eq_true rfl)⟩ dX6_isTurned_2 (fun H locs hP hD hS => ?_)
  refine lv_aload_n hx hb dX6_isTurned_5 rfl (lv_at hl 0 rfl) ?_
  refine va_get (v := .ref h) (C := RX6) (T := TX6) (N := 4) hx hb hts fiX6_isTurned_k_X6 hown hE.1 hP 0 rfl rfl 0 (by decide) (hts _ flX6_isTurned_k_10) (fun _ h9 => h9) rfl dX6_isTurned_6 ?_
  refine lv_iload_n hx hb dX6_isTurned_9 rfl (lv_at hl 1 rfl) ?_
  obtain ⟨r_2, e_2, hf⟩ := bo hf
  refine pcallV (W0 := (wC c0 h k0 x0 d0 ++ (wS g h a1 a2 a3 a4 σ))) (As := [.int p0]) (rest := []) [1, 2, 3, 4, 5] 3 0 ⟨hx, hb, hml, hown, hts⟩ hP hE hZ hS (cX4_labelIn_ok l g h a1 a2 a3 a4 σ p0 e_2) (cwV 1 hts gX6_isTurned_X4_labelIn rfl rfl rfl hdX4_labelIn ⟨(Nat.le_of_ble_eq_true rfl), (Nat.le_of_ble_eq_true rfl)⟩) rfl rfl rfl rfl rfl hl.1 rfl (Nat.le_of_ble_eq_true rfl) ⟨(Nat.le_of_ble_eq_true rfl), (Nat.le_of_ble_eq_true rfl)⟩ dX6_isTurned_10 ?_
  refine lv_istore_n (lv' := [(2, .int r_2), (0, .ref c0), (1, .int p0)]) hx hb dX6_isTurned_13 rfl hl (by decide) rfl (fun ls hl => ?_)
  refine lv_iload_n hx hb dX6_isTurned_14 rfl (lv_at hl 0 rfl) ?_
  refine lv_iconst (v := (-1 : Int32)) hx hb dX6_isTurned_15 (by decide) ?_
  refine lv_icmp_eq (tgt := 35) hx hb dX6_isTurned_16 (by decide) (fun c_3 => ?_) (fun c_3 => ?_)
  · have hf := ip c_3 hf
    refine lv_iconst (v := (0 : Int32)) hx hb dX6_isTurned_35 (by decide) ?_
    have ho := okI hf
    subst ho
    exact m_zret (v := false) hx hb hr hlocks hP hD hS rfl dX6_isTurned_36
  · have hf := iq c_3 hf
    refine lv_aload_n hx hb dX6_isTurned_19 rfl (lv_at hl 1 rfl) ?_
    refine va_get (v := .ref h) (C := RX6) (T := TX6) (N := 4) hx hb hts fiX6_isTurned_k_X6 hown hE.1 hP 0 rfl rfl 0 (by decide) (hts _ flX6_isTurned_k_10) (fun _ h9 => h9) rfl dX6_isTurned_20 ?_
    refine lv_iload_n hx hb dX6_isTurned_23 rfl (lv_at hl 2 rfl) ?_
    refine lv_iload_n hx hb dX6_isTurned_24 rfl (lv_at hl 0 rfl) ?_
    obtain ⟨r_4, e_4, hf⟩ := bo hf
    refine pcallS (W0 := (wC c0 h k0 x0 d0 ++ (wS g h a1 a2 a3 a4 σ))) (As := [.ref h, .int p0, .int r_2]) (rest := []) [1, 2, 3, 4, 5] ⟨hx, hb, hml, hown, hts⟩ hP hE hZ hS (cX2_goesLeft_ok l g h a1 a2 a3 a4 σ p0 r_2 e_4) (va_cwS 3 hts gX6_isTurned_X2_goesLeft rfl rfl rfl hdX2_goesLeft.2 ⟨(Nat.le_of_ble_eq_true rfl), (Nat.le_of_ble_eq_true rfl)⟩) rfl rfl hl.1 rfl (Nat.le_of_ble_eq_true rfl) ⟨(Nat.le_of_ble_eq_true rfl), (Nat.le_of_ble_eq_true rfl)⟩ dX6_isTurned_25 ?_
    refine lv_beq (tgt := 35) hx hb dX6_isTurned_28 (by decide) (fun c_5 => ?_) (fun c_5 => ?_)
    · have hf := iq c_5 hf
      refine lv_iconst (v := (0 : Int32)) hx hb dX6_isTurned_35 (by decide) ?_
      have ho := okI hf
      subst ho
      exact m_zret (v := false) hx hb hr hlocks hP hD hS rfl dX6_isTurned_36
    · have hf := ip c_5 hf
      refine lv_iconst (v := (1 : Int32)) hx hb dX6_isTurned_31 (by decide) ?_
      refine lv_goto (tgt := 36) hx hb dX6_isTurned_32 (by decide) ?_
      have ho := okI hf
      subst ho
      exact m_zret (v := true) hx hb hr hlocks hP hD hS rfl dX6_isTurned_36

abbrev rmX6_readFrom_k : Room := { frames := 3, cells := 0, slots := 0, locals := 67 }
theorem fiX6_readFrom_k_X6 : ∀ w ∈ wsX60, w ∈ wsX6_readFrom := by decide +kernel
theorem flX6_readFrom_k_10 : (.fieldLink RX6 10 "ContourLabels" "sheet" "LContourLabels$Sheet;" : Cond) ∈ wsX6_readFrom := by decide +kernel
set_option maxHeartbeats 4000000 in
set_option maxRecDepth 100000 in
theorem cX6_readFrom_k_ok (l : Launch) (g : Gg) (c0 h k0 x0 d0 a1 a2 a3 a4 : Nat) (σ : Sh) (p0 : Int32) (sz : Nat) {o : Int32} (hf : fX6_readFrom σ p0 = some (.ok o)) : Met l yX6_readFrom wsX6_readFrom rmX6_readFrom_k (va_Pc [.ref c0, .int p0] (PM g (wC c0 h k0 x0 d0 ++ (wS g h a1 a2 a3 a4 σ)) sz)) (va_Qi (fun r' (_ : Unit) => r' = o) (fun _ t => PQ g (wC c0 h k0 x0 d0 ++ (wS g h a1 a2 a3 a4 σ)) (va_A (wC c0 h k0 x0 d0 ++ (wS g h a1 a2 a3 a4 σ)) sz) t) (va_A (wC c0 h k0 x0 d0 ++ (wS g h a1 a2 a3 a4 σ)) sz)) 0 0 (va_A (wC c0 h k0 x0 d0 ++ (wS g h a1 a2 a3 a4 σ)) sz) := by
  refine Met.ofW (cc := cX6_readFrom) (maxL := 3) (ret := (some .int)) (by decide) rfl ?_
  intro p e s m args below meth c s₁ B hml hv
  obtain ⟨rfl, rfl, hP, hD0, hE, hZ⟩ := hv
  have hx := B.exec
  have hb := B.bytes
  have hr := B.returns
  have hts := atoms_spec (ws := wsX6_readFrom) B.pre
  have hown : s.vm.findClass RX6 = some m.cls := findClass_of_methodNamed B.named
  have hlocks := B.notSynchronized
  have hD := hD0.self (sz := s.heap.size)
  generalize hAe : (va_A (wC c0 h k0 x0 d0 ++ (wS g h a1 a2 a3 a4 σ)) s.heap.size) = A at hD hZ ⊢
  have hA : ∀ q : Nat, s.heap.size ≤ q → A q := fun q h => by rw [← hAe]; exact Or.inr h
  have hS : va_S A s.heap s.heap [] := va_S.rf
  have hP : va_P g.1 vwCl (wC c0 h k0 x0 d0 ++ (wS g h a1 a2 a3 a4 σ)) s.heap := hP
  have hl := lv_entry ([.ref c0, .int p0]) (n := 3) (Nat.le_of_ble_eq_true rfl)
  rw [lg_entry_eq]
  generalize (lg_sl ([.ref c0, .int p0]) ++ List.replicate (3 - (lg_sl ([.ref c0, .int p0])).length) Slot.unset).toArray = ls at hl ⊢
  have hl : lv_has ls 3 [(0, .ref c0), (1, .int p0)] := hl
  unfold fX6_readFrom at hf
  refine lv_aload_n hx hb dX6_readFrom_0 rfl (lv_at hl 0 rfl) ?_
  refine lv_iload_n hx hb dX6_readFrom_1 rfl (lv_at hl 1 rfl) ?_
  obtain ⟨r_1, e_1, hf⟩ := xok hf
  refine mcallVv (W0 := (wC c0 h k0 x0 d0 ++ (wS g h a1 a2 a3 a4 σ))) (Wc := (wC c0 h k0 x0 d0 ++ (wS g h a1 a2 a3 a4 σ))) (Wr := ([] : va_W)) (W1 := (wC c0 h k0 x0 d0 ++ (wS g h a1 a2 a3 a4 σ))) (W2 := (wC c0 h k0 x0 d0 ++ (wS g h a1 a2 a3 a4 σ))) (As := [.int p0]) (rest := []) [0, 1, 2, 3, 4, 5] [] [0, 1, 2, 3, 4, 5] 4 0 ⟨hx, hb, hml, hown, hts⟩ hP hD hE hZ hS hA (cX6_requireLine_k_ok l g  c0 h k0 x0 d0 a1 a2 a3 a4 σ p0 _ e_1) (cwV 1 hts gX6_readFrom_X6_requireLine rfl rfl rfl hdX6_requireLine ⟨(Nat.le_of_ble_eq_true rfl), (Nat.le_of_ble_eq_true rfl)⟩) rfl rfl rfl (by decide) (by decide) (by decide) (by decide) rfl rfl rfl rfl hl.1 rfl (Nat.le_of_ble_eq_true rfl) ⟨(Nat.le_of_ble_eq_true rfl), (Nat.le_of_ble_eq_true rfl)⟩ dX6_readFrom_2 (fun H locs hP hD hS => ?_)
  refine lv_aload_n hx hb dX6_readFrom_5 rfl (lv_at hl 0 rfl) ?_
  refine va_get (v := .ref h) (C := RX6) (T := TX6) (N := 4) hx hb hts fiX6_readFrom_k_X6 hown hE.1 hP 0 rfl rfl 0 (by decide) (hts _ flX6_readFrom_k_10) (fun _ h9 => h9) rfl dX6_readFrom_6 ?_
  refine lv_iload_n hx hb dX6_readFrom_9 rfl (lv_at hl 1 rfl) ?_
  obtain ⟨r_2, e_2, hf⟩ := bo hf
  refine pcallV (W0 := (wC c0 h k0 x0 d0 ++ (wS g h a1 a2 a3 a4 σ))) (As := [.int p0]) (rest := []) [1, 2, 3, 4, 5] 3 0 ⟨hx, hb, hml, hown, hts⟩ hP hE hZ hS (cX4_labelIn_ok l g h a1 a2 a3 a4 σ p0 e_2) (cwV 1 hts gX6_readFrom_X4_labelIn rfl rfl rfl hdX4_labelIn ⟨(Nat.le_of_ble_eq_true rfl), (Nat.le_of_ble_eq_true rfl)⟩) rfl rfl rfl rfl rfl hl.1 rfl (Nat.le_of_ble_eq_true rfl) ⟨(Nat.le_of_ble_eq_true rfl), (Nat.le_of_ble_eq_true rfl)⟩ dX6_readFrom_10 ?_
  refine lv_istore_n (lv' := [(2, .int r_2), (0, .ref c0), (1, .int p0)]) hx hb dX6_readFrom_13 rfl hl (by decide) rfl (fun ls hl => ?_)
  refine lv_iload_n hx hb dX6_readFrom_14 rfl (lv_at hl 0 rfl) ?_
  refine lv_iconst (v := (-1 : Int32)) hx hb dX6_readFrom_15 (by decide) ?_
  refine lv_icmp_ne (tgt := 21) hx hb dX6_readFrom_16 (by decide) (fun c_3 => ?_) (fun c_3 => ?_)
  · have hf := iq c_3 hf
    refine lv_aload_n hx hb dX6_readFrom_21 rfl (lv_at hl 1 rfl) ?_
    refine va_get (v := .ref h) (C := RX6) (T := TX6) (N := 4) hx hb hts fiX6_readFrom_k_X6 hown hE.1 hP 0 rfl rfl 0 (by decide) (hts _ flX6_readFrom_k_10) (fun _ h9 => h9) rfl dX6_readFrom_22 ?_
    refine lv_iload_n hx hb dX6_readFrom_25 rfl (lv_at hl 2 rfl) ?_
    refine lv_iload_n hx hb dX6_readFrom_26 rfl (lv_at hl 0 rfl) ?_
    obtain ⟨r_4, e_4, hf⟩ := bo hf
    refine pcallS (W0 := (wC c0 h k0 x0 d0 ++ (wS g h a1 a2 a3 a4 σ))) (As := [.ref h, .int p0, .int r_2]) (rest := []) [1, 2, 3, 4, 5] ⟨hx, hb, hml, hown, hts⟩ hP hE hZ hS (cX2_goesLeft_ok l g h a1 a2 a3 a4 σ p0 r_2 e_4) (va_cwS 3 hts gX6_readFrom_X2_goesLeft rfl rfl rfl hdX2_goesLeft.2 ⟨(Nat.le_of_ble_eq_true rfl), (Nat.le_of_ble_eq_true rfl)⟩) rfl rfl hl.1 rfl (Nat.le_of_ble_eq_true rfl) ⟨(Nat.le_of_ble_eq_true rfl), (Nat.le_of_ble_eq_true rfl)⟩ dX6_readFrom_27 ?_
    refine lv_beq (tgt := 51) hx hb dX6_readFrom_30 (by decide) (fun c_5 => ?_) (fun c_5 => ?_)
    · have hf := iq c_5 hf
      refine lv_aload_n hx hb dX6_readFrom_51 rfl (lv_at hl 1 rfl) ?_
      refine va_get (v := .ref h) (C := RX6) (T := TX6) (N := 4) hx hb hts fiX6_readFrom_k_X6 hown hE.1 hP 0 rfl rfl 0 (by decide) (hts _ flX6_readFrom_k_10) (fun _ h9 => h9) rfl dX6_readFrom_52 ?_
      refine lv_iload_n hx hb dX6_readFrom_55 rfl (lv_at hl 2 rfl) ?_
      refine lv_iload_n hx hb dX6_readFrom_56 rfl (lv_at hl 0 rfl) ?_
      obtain ⟨r_6, e_6, hf⟩ := bo hf
      refine pcallV (W0 := (wC c0 h k0 x0 d0 ++ (wS g h a1 a2 a3 a4 σ))) (As := [.int p0, .int r_2]) (rest := []) [1, 2, 3, 4, 5] 3 0 ⟨hx, hb, hml, hown, hts⟩ hP hE hZ hS (cX4_pointAt_ok l g h a1 a2 a3 a4 σ p0 r_2 e_6) (cwV 2 hts gX6_readFrom_X4_pointAt rfl rfl rfl hdX4_pointAt ⟨(Nat.le_of_ble_eq_true rfl), (Nat.le_of_ble_eq_true rfl)⟩) rfl rfl rfl rfl rfl hl.1 rfl (Nat.le_of_ble_eq_true rfl) ⟨(Nat.le_of_ble_eq_true rfl), (Nat.le_of_ble_eq_true rfl)⟩ dX6_readFrom_57 ?_
      have ho := okI hf
      subst ho
      exact m_iret (v := r_6) hx hb hr hlocks hP hD hS rfl dX6_readFrom_60
    · have hf := ip c_5 hf
      refine lv_aload_n hx hb dX6_readFrom_33 rfl (lv_at hl 1 rfl) ?_
      refine va_get (v := .ref h) (C := RX6) (T := TX6) (N := 4) hx hb hts fiX6_readFrom_k_X6 hown hE.1 hP 0 rfl rfl 0 (by decide) (hts _ flX6_readFrom_k_10) (fun _ h9 => h9) rfl dX6_readFrom_34 ?_
      refine lv_iload_n hx hb dX6_readFrom_37 rfl (lv_at hl 2 rfl) ?_
      refine lv_aload_n hx hb dX6_readFrom_38 rfl (lv_at hl 1 rfl) ?_
      refine va_get (v := .ref h) (C := RX6) (T := TX6) (N := 4) hx hb hts fiX6_readFrom_k_X6 hown hE.1 hP 0 rfl rfl 0 (by decide) (hts _ flX6_readFrom_k_10) (fun _ h9 => h9) rfl dX6_readFrom_39 ?_
      refine lv_iload_n hx hb dX6_readFrom_42 rfl (lv_at hl 2 rfl) ?_
      refine lv_iload_n hx hb dX6_readFrom_43 rfl (lv_at hl 0 rfl) ?_
      obtain ⟨r_7, e_7, hf⟩ := bo hf
      refine pcallS (W0 := (wC c0 h k0 x0 d0 ++ (wS g h a1 a2 a3 a4 σ))) (As := [.ref h, .int p0, .int r_2]) (rest := [.int p0, .ref h]) [1, 2, 3, 4, 5] ⟨hx, hb, hml, hown, hts⟩ hP hE hZ hS (cX2_lastNumber_ok l g h a1 a2 a3 a4 σ p0 r_2 e_7) (va_cwS 3 hts gX6_readFrom_X2_lastNumber rfl rfl rfl hdX2_lastNumber.2 ⟨(Nat.le_of_ble_eq_true rfl), (Nat.le_of_ble_eq_true rfl)⟩) rfl rfl hl.1 rfl (Nat.le_of_ble_eq_true rfl) ⟨(Nat.le_of_ble_eq_true rfl), (Nat.le_of_ble_eq_true rfl)⟩ dX6_readFrom_44 ?_
      obtain ⟨r_8, e_8, hf⟩ := bo hf
      refine pcallV (W0 := (wC c0 h k0 x0 d0 ++ (wS g h a1 a2 a3 a4 σ))) (As := [.int p0, .int r_7]) (rest := []) [1, 2, 3, 4, 5] 3 0 ⟨hx, hb, hml, hown, hts⟩ hP hE hZ hS (cX4_pointAt_ok l g h a1 a2 a3 a4 σ p0 r_7 e_8) (cwV 2 hts gX6_readFrom_X4_pointAt rfl rfl rfl hdX4_pointAt ⟨(Nat.le_of_ble_eq_true rfl), (Nat.le_of_ble_eq_true rfl)⟩) rfl rfl rfl rfl rfl hl.1 rfl (Nat.le_of_ble_eq_true rfl) ⟨(Nat.le_of_ble_eq_true rfl), (Nat.le_of_ble_eq_true rfl)⟩ dX6_readFrom_47 ?_
      have ho := okI hf
      subst ho
      exact m_iret (v := r_8) hx hb hr hlocks hP hD hS rfl dX6_readFrom_50
  · have hf := ip c_3 hf
    refine lv_iconst (v := (-1 : Int32)) hx hb dX6_readFrom_19 (by decide) ?_
    have ho := okI hf
    subst ho
    exact m_iret (v := (-1 : Int32)) hx hb hr hlocks hP hD hS rfl dX6_readFrom_20

abbrev rmX6_sizeOf_k : Room := { frames := 2, cells := 0, slots := 0, locals := 42 }
theorem fiX6_sizeOf_k_X6 : ∀ w ∈ wsX60, w ∈ wsX6_sizeOf := by decide +kernel
theorem flX6_sizeOf_k_10 : (.fieldLink RX6 10 "ContourLabels" "sheet" "LContourLabels$Sheet;" : Cond) ∈ wsX6_sizeOf := by decide +kernel
set_option maxHeartbeats 4000000 in
set_option maxRecDepth 100000 in
theorem cX6_sizeOf_k_ok (l : Launch) (g : Gg) (c0 h k0 x0 d0 a1 a2 a3 a4 : Nat) (σ : Sh) (p0 : Int32) (sz : Nat) {o : Int32} (hf : fX6_sizeOf σ p0 = some (.ok o)) : Met l yX6_sizeOf wsX6_sizeOf rmX6_sizeOf_k (va_Pc [.ref c0, .int p0] (PM g (wC c0 h k0 x0 d0 ++ (wS g h a1 a2 a3 a4 σ)) sz)) (va_Qi (fun r' (_ : Unit) => r' = o) (fun _ t => PQ g (wC c0 h k0 x0 d0 ++ (wS g h a1 a2 a3 a4 σ)) (va_A (wC c0 h k0 x0 d0 ++ (wS g h a1 a2 a3 a4 σ)) sz) t) (va_A (wC c0 h k0 x0 d0 ++ (wS g h a1 a2 a3 a4 σ)) sz)) 0 0 (va_A (wC c0 h k0 x0 d0 ++ (wS g h a1 a2 a3 a4 σ)) sz) := by
  refine Met.ofW (cc := cX6_sizeOf) (maxL := 2) (ret := (some .int)) (by decide) rfl ?_
  intro p e s m args below meth c s₁ B hml hv
  obtain ⟨rfl, rfl, hP, hD0, hE, hZ⟩ := hv
  have hx := B.exec
  have hb := B.bytes
  have hr := B.returns
  have hts := atoms_spec (ws := wsX6_sizeOf) B.pre
  have hown : s.vm.findClass RX6 = some m.cls := findClass_of_methodNamed B.named
  have hlocks := B.notSynchronized
  have hD := hD0.self (sz := s.heap.size)
  generalize hAe : (va_A (wC c0 h k0 x0 d0 ++ (wS g h a1 a2 a3 a4 σ)) s.heap.size) = A at hD hZ ⊢
  have hA : ∀ q : Nat, s.heap.size ≤ q → A q := fun q h => by rw [← hAe]; exact Or.inr h
  have hS : va_S A s.heap s.heap [] := va_S.rf
  have hP : va_P g.1 vwCl (wC c0 h k0 x0 d0 ++ (wS g h a1 a2 a3 a4 σ)) s.heap := hP
  have hl := lv_entry ([.ref c0, .int p0]) (n := 2) (Nat.le_of_ble_eq_true rfl)
  rw [lg_entry_eq]
  generalize (lg_sl ([.ref c0, .int p0]) ++ List.replicate (2 - (lg_sl ([.ref c0, .int p0])).length) Slot.unset).toArray = ls at hl ⊢
  have hl : lv_has ls 2 [(0, .ref c0), (1, .int p0)] := hl
  unfold fX6_sizeOf at hf
  refine lv_aload_n hx hb dX6_sizeOf_0 rfl (lv_at hl 0 rfl) ?_
  refine lv_iload_n hx hb dX6_sizeOf_1 rfl (lv_at hl 1 rfl) ?_
  obtain ⟨r_1, e_1, hf⟩ := xok hf
  refine mcallVv (W0 := (wC c0 h k0 x0 d0 ++ (wS g h a1 a2 a3 a4 σ))) (Wc := (wC c0 h k0 x0 d0 ++ (wS g h a1 a2 a3 a4 σ))) (Wr := ([] : va_W)) (W1 := (wC c0 h k0 x0 d0 ++ (wS g h a1 a2 a3 a4 σ))) (W2 := (wC c0 h k0 x0 d0 ++ (wS g h a1 a2 a3 a4 σ))) (As := [.int p0]) (rest := []) [0, 1, 2, 3, 4, 5] [] [0, 1, 2, 3, 4, 5] 4 0 ⟨hx, hb, hml, hown, hts⟩ hP hD hE hZ hS hA (cX6_requireLine_k_ok l g  c0 h k0 x0 d0 a1 a2 a3 a4 σ p0 _ e_1) (cwV 1 hts gX6_sizeOf_X6_requireLine rfl rfl rfl hdX6_requireLine ⟨(Nat.le_of_ble_eq_true rfl), (Nat.le_of_ble_eq_true rfl)⟩) rfl rfl rfl (by decide) (by decide) (by decide) (by decide) rfl rfl rfl rfl hl.1 rfl (Nat.le_of_ble_eq_true rfl) ⟨(Nat.le_of_ble_eq_true rfl), (Nat.le_of_ble_eq_true rfl)⟩ dX6_sizeOf_2 (fun H locs hP hD hS => ?_)
  refine lv_aload_n hx hb dX6_sizeOf_5 rfl (lv_at hl 0 rfl) ?_
  refine va_get (v := .ref h) (C := RX6) (T := TX6) (N := 4) hx hb hts fiX6_sizeOf_k_X6 hown hE.1 hP 0 rfl rfl 0 (by decide) (hts _ flX6_sizeOf_k_10) (fun _ h9 => h9) rfl dX6_sizeOf_6 ?_
  refine lv_iload_n hx hb dX6_sizeOf_9 rfl (lv_at hl 1 rfl) ?_
  obtain ⟨r_2, e_2, hf⟩ := bo hf
  refine pcallV (W0 := (wC c0 h k0 x0 d0 ++ (wS g h a1 a2 a3 a4 σ))) (As := [.int p0]) (rest := []) [1, 2, 3, 4, 5] 3 0 ⟨hx, hb, hml, hown, hts⟩ hP hE hZ hS (cX4_sizeIn_ok l g h a1 a2 a3 a4 σ p0 e_2) (cwV 1 hts gX6_sizeOf_X4_sizeIn rfl rfl rfl hdX4_sizeIn ⟨(Nat.le_of_ble_eq_true rfl), (Nat.le_of_ble_eq_true rfl)⟩) rfl rfl rfl rfl rfl hl.1 rfl (Nat.le_of_ble_eq_true rfl) ⟨(Nat.le_of_ble_eq_true rfl), (Nat.le_of_ble_eq_true rfl)⟩ dX6_sizeOf_10 ?_
  have ho := okI hf
  subst ho
  exact m_iret (v := r_2) hx hb hr hlocks hP hD hS rfl dX6_sizeOf_13

abbrev rmX6_bendOf_k : Room := { frames := 3, cells := 0, slots := 0, locals := 73 }
theorem fiX6_bendOf_k_X6 : ∀ w ∈ wsX60, w ∈ wsX6_bendOf := by decide +kernel
theorem flX6_bendOf_k_10 : (.fieldLink RX6 10 "ContourLabels" "sheet" "LContourLabels$Sheet;" : Cond) ∈ wsX6_bendOf := by decide +kernel
set_option maxHeartbeats 4000000 in
set_option maxRecDepth 100000 in
theorem cX6_bendOf_k_ok (l : Launch) (g : Gg) (c0 h k0 x0 d0 a1 a2 a3 a4 : Nat) (σ : Sh) (p0 p1 : Int32) (sz : Nat) {o : Int32} (hf : fX6_bendOf σ p0 p1 = some (.ok o)) : Met l yX6_bendOf wsX6_bendOf rmX6_bendOf_k (va_Pc [.ref c0, .int p0, .int p1] (PM g (wC c0 h k0 x0 d0 ++ (wS g h a1 a2 a3 a4 σ)) sz)) (va_Qi (fun r' (_ : Unit) => r' = o) (fun _ t => PQ g (wC c0 h k0 x0 d0 ++ (wS g h a1 a2 a3 a4 σ)) (va_A (wC c0 h k0 x0 d0 ++ (wS g h a1 a2 a3 a4 σ)) sz) t) (va_A (wC c0 h k0 x0 d0 ++ (wS g h a1 a2 a3 a4 σ)) sz)) 0 0 (va_A (wC c0 h k0 x0 d0 ++ (wS g h a1 a2 a3 a4 σ)) sz) := by
  refine Met.ofW (cc := cX6_bendOf) (maxL := 3) (ret := (some .int)) (by decide) rfl ?_
  intro p e s m args below meth c s₁ B hml hv
  obtain ⟨rfl, rfl, hP, hD0, hE, hZ⟩ := hv
  have hx := B.exec
  have hb := B.bytes
  have hr := B.returns
  have hts := atoms_spec (ws := wsX6_bendOf) B.pre
  have hown : s.vm.findClass RX6 = some m.cls := findClass_of_methodNamed B.named
  have hlocks := B.notSynchronized
  have hD := hD0.self (sz := s.heap.size)
  generalize hAe : (va_A (wC c0 h k0 x0 d0 ++ (wS g h a1 a2 a3 a4 σ)) s.heap.size) = A at hD hZ ⊢
  have hA : ∀ q : Nat, s.heap.size ≤ q → A q := fun q h => by rw [← hAe]; exact Or.inr h
  have hS : va_S A s.heap s.heap [] := va_S.rf
  have hP : va_P g.1 vwCl (wC c0 h k0 x0 d0 ++ (wS g h a1 a2 a3 a4 σ)) s.heap := hP
  have hl := lv_entry ([.ref c0, .int p0, .int p1]) (n := 3) (Nat.le_of_ble_eq_true rfl)
  rw [lg_entry_eq]
  generalize (lg_sl ([.ref c0, .int p0, .int p1]) ++ List.replicate (3 - (lg_sl ([.ref c0, .int p0, .int p1])).length) Slot.unset).toArray = ls at hl ⊢
  have hl : lv_has ls 3 [(0, .ref c0), (1, .int p0), (2, .int p1)] := hl
  unfold fX6_bendOf at hf
  refine lv_aload_n hx hb dX6_bendOf_0 rfl (lv_at hl 0 rfl) ?_
  refine lv_iload_n hx hb dX6_bendOf_1 rfl (lv_at hl 1 rfl) ?_
  refine lv_iload_n hx hb dX6_bendOf_2 rfl (lv_at hl 2 rfl) ?_
  obtain ⟨r_1, e_1, hf⟩ := xok hf
  refine mcallVv (W0 := (wC c0 h k0 x0 d0 ++ (wS g h a1 a2 a3 a4 σ))) (Wc := (wC c0 h k0 x0 d0 ++ (wS g h a1 a2 a3 a4 σ))) (Wr := ([] : va_W)) (W1 := (wC c0 h k0 x0 d0 ++ (wS g h a1 a2 a3 a4 σ))) (W2 := (wC c0 h k0 x0 d0 ++ (wS g h a1 a2 a3 a4 σ))) (As := [.int p0, .int p1]) (rest := []) [0, 1, 2, 3, 4, 5] [] [0, 1, 2, 3, 4, 5] 4 0 ⟨hx, hb, hml, hown, hts⟩ hP hD hE hZ hS hA (cX6_requireNumber_k_ok l g  c0 h k0 x0 d0 a1 a2 a3 a4 σ p0 p1 _ e_1) (cwV 2 hts gX6_bendOf_X6_requireNumber rfl rfl rfl hdX6_requireNumber ⟨(Nat.le_of_ble_eq_true rfl), (Nat.le_of_ble_eq_true rfl)⟩) rfl rfl rfl (by decide) (by decide) (by decide) (by decide) rfl rfl rfl rfl hl.1 rfl (Nat.le_of_ble_eq_true rfl) ⟨(Nat.le_of_ble_eq_true rfl), (Nat.le_of_ble_eq_true rfl)⟩ dX6_bendOf_3 (fun H locs hP hD hS => ?_)
  refine lv_aload_n hx hb dX6_bendOf_6 rfl (lv_at hl 0 rfl) ?_
  refine va_get (v := .ref h) (C := RX6) (T := TX6) (N := 4) hx hb hts fiX6_bendOf_k_X6 hown hE.1 hP 0 rfl rfl 0 (by decide) (hts _ flX6_bendOf_k_10) (fun _ h9 => h9) rfl dX6_bendOf_7 ?_
  refine lv_iload_n hx hb dX6_bendOf_10 rfl (lv_at hl 1 rfl) ?_
  refine lv_iload_n hx hb dX6_bendOf_11 rfl (lv_at hl 2 rfl) ?_
  obtain ⟨r_2, e_2, hf⟩ := bo hf
  refine pcallS (W0 := (wC c0 h k0 x0 d0 ++ (wS g h a1 a2 a3 a4 σ))) (As := [.ref h, .int p0, .int p1]) (rest := []) [1, 2, 3, 4, 5] ⟨hx, hb, hml, hown, hts⟩ hP hE hZ hS (cX2_bendOfPlace_ok l g h a1 a2 a3 a4 σ p0 p1 e_2) (va_cwS 3 hts gX6_bendOf_X2_bendOfPlace rfl rfl rfl hdX2_bendOfPlace.2 ⟨(Nat.le_of_ble_eq_true rfl), (Nat.le_of_ble_eq_true rfl)⟩) rfl rfl hl.1 rfl (Nat.le_of_ble_eq_true rfl) ⟨(Nat.le_of_ble_eq_true rfl), (Nat.le_of_ble_eq_true rfl)⟩ dX6_bendOf_12 ?_
  have ho := okI hf
  subst ho
  exact m_iret (v := r_2) hx hb hr hlocks hP hD hS rfl dX6_bendOf_15

abbrev rmX6_whyNotLabelled_k : Room := { frames := 5, cells := 0, slots := 0, locals := 121 }
theorem fiX6_whyNotLabelled_k_X6 : ∀ w ∈ wsX60, w ∈ wsX6_whyNotLabelled := by decide +kernel
theorem flX6_whyNotLabelled_k_10 : (.fieldLink RX6 10 "ContourLabels" "sheet" "LContourLabels$Sheet;" : Cond) ∈ wsX6_whyNotLabelled := by decide +kernel
set_option maxHeartbeats 4000000 in
set_option maxRecDepth 100000 in
theorem cX6_whyNotLabelled_k_ok (l : Launch) (g : Gg) (c0 h k0 x0 d0 a1 a2 a3 a4 : Nat) (σ : Sh) (p0 p1 : Int32) (sz : Nat) {o : Int32} (hf : fX6_whyNotLabelled σ p0 p1 = some (.ok o)) : Met l yX6_whyNotLabelled wsX6_whyNotLabelled rmX6_whyNotLabelled_k (va_Pc [.ref c0, .int p0, .int p1] (PM g (wC c0 h k0 x0 d0 ++ (wS g h a1 a2 a3 a4 σ)) sz)) (va_Qi (fun r' (_ : Unit) => r' = o) (fun _ t => PQ g (wC c0 h k0 x0 d0 ++ (wS g h a1 a2 a3 a4 σ)) (va_A (wC c0 h k0 x0 d0 ++ (wS g h a1 a2 a3 a4 σ)) sz) t) (va_A (wC c0 h k0 x0 d0 ++ (wS g h a1 a2 a3 a4 σ)) sz)) 0 0 (va_A (wC c0 h k0 x0 d0 ++ (wS g h a1 a2 a3 a4 σ)) sz) := by
  refine Met.ofW (cc := cX6_whyNotLabelled) (maxL := 3) (ret := (some .int)) (by decide) rfl ?_
  intro p e s m args below meth c s₁ B hml hv
  obtain ⟨rfl, rfl, hP, hD0, hE, hZ⟩ := hv
  have hx := B.exec
  have hb := B.bytes
  have hr := B.returns
  have hts := atoms_spec (ws := wsX6_whyNotLabelled) B.pre
  have hown : s.vm.findClass RX6 = some m.cls := findClass_of_methodNamed B.named
  have hlocks := B.notSynchronized
  have hD := hD0.self (sz := s.heap.size)
  generalize hAe : (va_A (wC c0 h k0 x0 d0 ++ (wS g h a1 a2 a3 a4 σ)) s.heap.size) = A at hD hZ ⊢
  have hA : ∀ q : Nat, s.heap.size ≤ q → A q := fun q h => by rw [← hAe]; exact Or.inr h
  have hS : va_S A s.heap s.heap [] := va_S.rf
  have hP : va_P g.1 vwCl (wC c0 h k0 x0 d0 ++ (wS g h a1 a2 a3 a4 σ)) s.heap := hP
  have hl := lv_entry ([.ref c0, .int p0, .int p1]) (n := 3) (Nat.le_of_ble_eq_true rfl)
  rw [lg_entry_eq]
  generalize (lg_sl ([.ref c0, .int p0, .int p1]) ++ List.replicate (3 - (lg_sl ([.ref c0, .int p0, .int p1])).length) Slot.unset).toArray = ls at hl ⊢
  have hl : lv_has ls 3 [(0, .ref c0), (1, .int p0), (2, .int p1)] := hl
  unfold fX6_whyNotLabelled at hf
  refine lv_aload_n hx hb dX6_whyNotLabelled_0 rfl (lv_at hl 0 rfl) ?_
  refine lv_iload_n hx hb dX6_whyNotLabelled_1 rfl (lv_at hl 1 rfl) ?_
  refine lv_iload_n hx hb dX6_whyNotLabelled_2 rfl (lv_at hl 2 rfl) ?_
  obtain ⟨r_1, e_1, hf⟩ := xok hf
  refine mcallVv (W0 := (wC c0 h k0 x0 d0 ++ (wS g h a1 a2 a3 a4 σ))) (Wc := (wC c0 h k0 x0 d0 ++ (wS g h a1 a2 a3 a4 σ))) (Wr := ([] : va_W)) (W1 := (wC c0 h k0 x0 d0 ++ (wS g h a1 a2 a3 a4 σ))) (W2 := (wC c0 h k0 x0 d0 ++ (wS g h a1 a2 a3 a4 σ))) (As := [.int p0, .int p1]) (rest := []) [0, 1, 2, 3, 4, 5] [] [0, 1, 2, 3, 4, 5] 4 0 ⟨hx, hb, hml, hown, hts⟩ hP hD hE hZ hS hA (cX6_requireNumber_k_ok l g  c0 h k0 x0 d0 a1 a2 a3 a4 σ p0 p1 _ e_1) (cwV 2 hts gX6_whyNotLabelled_X6_requireNumber rfl rfl rfl hdX6_requireNumber ⟨(Nat.le_of_ble_eq_true rfl), (Nat.le_of_ble_eq_true rfl)⟩) rfl rfl rfl (by decide) (by decide) (by decide) (by decide) rfl rfl rfl rfl hl.1 rfl (Nat.le_of_ble_eq_true rfl) ⟨(Nat.le_of_ble_eq_true rfl), (Nat.le_of_ble_eq_true rfl)⟩ dX6_whyNotLabelled_3 (fun H locs hP hD hS => ?_)
  refine lv_aload_n hx hb dX6_whyNotLabelled_6 rfl (lv_at hl 0 rfl) ?_
  refine va_get (v := .ref h) (C := RX6) (T := TX6) (N := 4) hx hb hts fiX6_whyNotLabelled_k_X6 hown hE.1 hP 0 rfl rfl 0 (by decide) (hts _ flX6_whyNotLabelled_k_10) (fun _ h9 => h9) rfl dX6_whyNotLabelled_7 ?_
  refine lv_iload_n hx hb dX6_whyNotLabelled_10 rfl (lv_at hl 1 rfl) ?_
  refine lv_iload_n hx hb dX6_whyNotLabelled_11 rfl (lv_at hl 2 rfl) ?_
  obtain ⟨r_2, e_2, hf⟩ := bo hf
  refine pcallS (W0 := (wC c0 h k0 x0 d0 ++ (wS g h a1 a2 a3 a4 σ))) (As := [.ref h, .int p0, .int p1]) (rest := []) [1, 2, 3, 4, 5] ⟨hx, hb, hml, hown, hts⟩ hP hE hZ hS (cX2_reasonAgainst_ok l g h a1 a2 a3 a4 σ p0 p1 e_2) (va_cwS 3 hts gX6_whyNotLabelled_X2_reasonAgainst rfl rfl rfl hdX2_reasonAgainst.2 ⟨(Nat.le_of_ble_eq_true rfl), (Nat.le_of_ble_eq_true rfl)⟩) rfl rfl hl.1 rfl (Nat.le_of_ble_eq_true rfl) ⟨(Nat.le_of_ble_eq_true rfl), (Nat.le_of_ble_eq_true rfl)⟩ dX6_whyNotLabelled_12 ?_
  have ho := okI hf
  subst ho
  exact m_iret (v := r_2) hx hb hr hlocks hP hD hS rfl dX6_whyNotLabelled_15

abbrev rmX6_placesOf_k : Room := { frames := 6, cells := 0, slots := 0, locals := 145 }
theorem fiX6_placesOf_k_X6 : ∀ w ∈ wsX60, w ∈ wsX6_placesOf := by decide +kernel
theorem flX6_placesOf_k_10 : (.fieldLink RX6 10 "ContourLabels" "sheet" "LContourLabels$Sheet;" : Cond) ∈ wsX6_placesOf := by decide +kernel
set_option maxHeartbeats 4000000 in
set_option maxRecDepth 100000 in
theorem cX6_placesOf_k_ok (l : Launch) (g : Gg) (c0 h k0 x0 d0 a1 a2 a3 a4 : Nat) (σ : Sh) (p0 : Int32) (sz : Nat) {o : Int32} (hf : fX6_placesOf σ p0 = some (.ok o)) : Met l yX6_placesOf wsX6_placesOf rmX6_placesOf_k (va_Pc [.ref c0, .int p0] (PM g (wC c0 h k0 x0 d0 ++ (wS g h a1 a2 a3 a4 σ)) sz)) (va_Qi (fun r' (_ : Unit) => r' = o) (fun _ t => PQ g (wC c0 h k0 x0 d0 ++ (wS g h a1 a2 a3 a4 σ)) (va_A (wC c0 h k0 x0 d0 ++ (wS g h a1 a2 a3 a4 σ)) sz) t) (va_A (wC c0 h k0 x0 d0 ++ (wS g h a1 a2 a3 a4 σ)) sz)) 0 0 (va_A (wC c0 h k0 x0 d0 ++ (wS g h a1 a2 a3 a4 σ)) sz) := by
  refine Met.ofW (cc := cX6_placesOf) (maxL := 2) (ret := (some .int)) (by decide) rfl ?_
  intro p e s m args below meth c s₁ B hml hv
  obtain ⟨rfl, rfl, hP, hD0, hE, hZ⟩ := hv
  have hx := B.exec
  have hb := B.bytes
  have hr := B.returns
  have hts := atoms_spec (ws := wsX6_placesOf) B.pre
  have hown : s.vm.findClass RX6 = some m.cls := findClass_of_methodNamed B.named
  have hlocks := B.notSynchronized
  have hD := hD0.self (sz := s.heap.size)
  generalize hAe : (va_A (wC c0 h k0 x0 d0 ++ (wS g h a1 a2 a3 a4 σ)) s.heap.size) = A at hD hZ ⊢
  have hA : ∀ q : Nat, s.heap.size ≤ q → A q := fun q h => by rw [← hAe]; exact Or.inr h
  have hS : va_S A s.heap s.heap [] := va_S.rf
  have hP : va_P g.1 vwCl (wC c0 h k0 x0 d0 ++ (wS g h a1 a2 a3 a4 σ)) s.heap := hP
  have hl := lv_entry ([.ref c0, .int p0]) (n := 2) (Nat.le_of_ble_eq_true rfl)
  rw [lg_entry_eq]
  generalize (lg_sl ([.ref c0, .int p0]) ++ List.replicate (2 - (lg_sl ([.ref c0, .int p0])).length) Slot.unset).toArray = ls at hl ⊢
  have hl : lv_has ls 2 [(0, .ref c0), (1, .int p0)] := hl
  unfold fX6_placesOf at hf
  refine lv_aload_n hx hb dX6_placesOf_0 rfl (lv_at hl 0 rfl) ?_
  refine lv_iload_n hx hb dX6_placesOf_1 rfl (lv_at hl 1 rfl) ?_
  obtain ⟨r_1, e_1, hf⟩ := xok hf
  refine mcallVv (W0 := (wC c0 h k0 x0 d0 ++ (wS g h a1 a2 a3 a4 σ))) (Wc := (wC c0 h k0 x0 d0 ++ (wS g h a1 a2 a3 a4 σ))) (Wr := ([] : va_W)) (W1 := (wC c0 h k0 x0 d0 ++ (wS g h a1 a2 a3 a4 σ))) (W2 := (wC c0 h k0 x0 d0 ++ (wS g h a1 a2 a3 a4 σ))) (As := [.int p0]) (rest := []) [0, 1, 2, 3, 4, 5] [] [0, 1, 2, 3, 4, 5] 4 0 ⟨hx, hb, hml, hown, hts⟩ hP hD hE hZ hS hA (cX6_requireLine_k_ok l g  c0 h k0 x0 d0 a1 a2 a3 a4 σ p0 _ e_1) (cwV 1 hts gX6_placesOf_X6_requireLine rfl rfl rfl hdX6_requireLine ⟨(Nat.le_of_ble_eq_true rfl), (Nat.le_of_ble_eq_true rfl)⟩) rfl rfl rfl (by decide) (by decide) (by decide) (by decide) rfl rfl rfl rfl hl.1 rfl (Nat.le_of_ble_eq_true rfl) ⟨(Nat.le_of_ble_eq_true rfl), (Nat.le_of_ble_eq_true rfl)⟩ dX6_placesOf_2 (fun H locs hP hD hS => ?_)
  refine lv_aload_n hx hb dX6_placesOf_5 rfl (lv_at hl 0 rfl) ?_
  refine va_get (v := .ref h) (C := RX6) (T := TX6) (N := 4) hx hb hts fiX6_placesOf_k_X6 hown hE.1 hP 0 rfl rfl 0 (by decide) (hts _ flX6_placesOf_k_10) (fun _ h9 => h9) rfl dX6_placesOf_6 ?_
  refine lv_iload_n hx hb dX6_placesOf_9 rfl (lv_at hl 1 rfl) ?_
  obtain ⟨r_2, e_2, hf⟩ := bo hf
  refine pcallS (W0 := (wC c0 h k0 x0 d0 ++ (wS g h a1 a2 a3 a4 σ))) (As := [.ref h, .int p0]) (rest := []) [1, 2, 3, 4, 5] ⟨hx, hb, hml, hown, hts⟩ hP hE hZ hS (cX2_countPlaces_ok l g h a1 a2 a3 a4 σ p0 e_2) (va_cwS 2 hts gX6_placesOf_X2_countPlaces rfl rfl rfl hdX2_countPlaces.2 ⟨(Nat.le_of_ble_eq_true rfl), (Nat.le_of_ble_eq_true rfl)⟩) rfl rfl hl.1 rfl (Nat.le_of_ble_eq_true rfl) ⟨(Nat.le_of_ble_eq_true rfl), (Nat.le_of_ble_eq_true rfl)⟩ dX6_placesOf_10 ?_
  have ho := okI hf
  subst ho
  exact m_iret (v := r_2) hx hb hr hlocks hP hD hS rfl dX6_placesOf_13

abbrev rmX6_bestPlace_k : Room := { frames := 5, cells := 0, slots := 0, locals := 127 }
theorem fiX6_bestPlace_k_X6 : ∀ w ∈ wsX60, w ∈ wsX6_bestPlace := by decide +kernel
theorem flX6_bestPlace_k_10 : (.fieldLink RX6 10 "ContourLabels" "sheet" "LContourLabels$Sheet;" : Cond) ∈ wsX6_bestPlace := by decide +kernel
set_option maxHeartbeats 4000000 in
set_option maxRecDepth 100000 in
theorem cX6_bestPlace_k_ok (l : Launch) (g : Gg) (c0 h k0 x0 d0 a1 a2 a3 a4 : Nat) (σ : Sh) (p0 : Int32) (sz : Nat) {o : Int32} (hf : fX6_bestPlace σ p0 = some (.ok o)) : Met l yX6_bestPlace wsX6_bestPlace rmX6_bestPlace_k (va_Pc [.ref c0, .int p0] (PM g (wC c0 h k0 x0 d0 ++ (wS g h a1 a2 a3 a4 σ)) sz)) (va_Qi (fun r' (_ : Unit) => r' = o) (fun _ t => PQ g (wC c0 h k0 x0 d0 ++ (wS g h a1 a2 a3 a4 σ)) (va_A (wC c0 h k0 x0 d0 ++ (wS g h a1 a2 a3 a4 σ)) sz) t) (va_A (wC c0 h k0 x0 d0 ++ (wS g h a1 a2 a3 a4 σ)) sz)) 0 0 (va_A (wC c0 h k0 x0 d0 ++ (wS g h a1 a2 a3 a4 σ)) sz) := by
  refine Met.ofW (cc := cX6_bestPlace) (maxL := 2) (ret := (some .int)) (by decide) rfl ?_
  intro p e s m args below meth c s₁ B hml hv
  obtain ⟨rfl, rfl, hP, hD0, hE, hZ⟩ := hv
  have hx := B.exec
  have hb := B.bytes
  have hr := B.returns
  have hts := atoms_spec (ws := wsX6_bestPlace) B.pre
  have hown : s.vm.findClass RX6 = some m.cls := findClass_of_methodNamed B.named
  have hlocks := B.notSynchronized
  have hD := hD0.self (sz := s.heap.size)
  generalize hAe : (va_A (wC c0 h k0 x0 d0 ++ (wS g h a1 a2 a3 a4 σ)) s.heap.size) = A at hD hZ ⊢
  have hA : ∀ q : Nat, s.heap.size ≤ q → A q := fun q h => by rw [← hAe]; exact Or.inr h
  have hS : va_S A s.heap s.heap [] := va_S.rf
  have hP : va_P g.1 vwCl (wC c0 h k0 x0 d0 ++ (wS g h a1 a2 a3 a4 σ)) s.heap := hP
  have hl := lv_entry ([.ref c0, .int p0]) (n := 2) (Nat.le_of_ble_eq_true rfl)
  rw [lg_entry_eq]
  generalize (lg_sl ([.ref c0, .int p0]) ++ List.replicate (2 - (lg_sl ([.ref c0, .int p0])).length) Slot.unset).toArray = ls at hl ⊢
  have hl : lv_has ls 2 [(0, .ref c0), (1, .int p0)] := hl
  unfold fX6_bestPlace at hf
  refine lv_aload_n hx hb dX6_bestPlace_0 rfl (lv_at hl 0 rfl) ?_
  refine lv_iload_n hx hb dX6_bestPlace_1 rfl (lv_at hl 1 rfl) ?_
  obtain ⟨r_1, e_1, hf⟩ := xok hf
  refine mcallVv (W0 := (wC c0 h k0 x0 d0 ++ (wS g h a1 a2 a3 a4 σ))) (Wc := (wC c0 h k0 x0 d0 ++ (wS g h a1 a2 a3 a4 σ))) (Wr := ([] : va_W)) (W1 := (wC c0 h k0 x0 d0 ++ (wS g h a1 a2 a3 a4 σ))) (W2 := (wC c0 h k0 x0 d0 ++ (wS g h a1 a2 a3 a4 σ))) (As := [.int p0]) (rest := []) [0, 1, 2, 3, 4, 5] [] [0, 1, 2, 3, 4, 5] 4 0 ⟨hx, hb, hml, hown, hts⟩ hP hD hE hZ hS hA (cX6_requireLine_k_ok l g  c0 h k0 x0 d0 a1 a2 a3 a4 σ p0 _ e_1) (cwV 1 hts gX6_bestPlace_X6_requireLine rfl rfl rfl hdX6_requireLine ⟨(Nat.le_of_ble_eq_true rfl), (Nat.le_of_ble_eq_true rfl)⟩) rfl rfl rfl (by decide) (by decide) (by decide) (by decide) rfl rfl rfl rfl hl.1 rfl (Nat.le_of_ble_eq_true rfl) ⟨(Nat.le_of_ble_eq_true rfl), (Nat.le_of_ble_eq_true rfl)⟩ dX6_bestPlace_2 (fun H locs hP hD hS => ?_)
  refine lv_aload_n hx hb dX6_bestPlace_5 rfl (lv_at hl 0 rfl) ?_
  refine va_get (v := .ref h) (C := RX6) (T := TX6) (N := 4) hx hb hts fiX6_bestPlace_k_X6 hown hE.1 hP 0 rfl rfl 0 (by decide) (hts _ flX6_bestPlace_k_10) (fun _ h9 => h9) rfl dX6_bestPlace_6 ?_
  refine lv_iload_n hx hb dX6_bestPlace_9 rfl (lv_at hl 1 rfl) ?_
  obtain ⟨r_2, e_2, hf⟩ := bo hf
  refine pcallS (W0 := (wC c0 h k0 x0 d0 ++ (wS g h a1 a2 a3 a4 σ))) (As := [.ref h, .int p0]) (rest := []) [1, 2, 3, 4, 5] ⟨hx, hb, hml, hown, hts⟩ hP hE hZ hS (cX2_best_ok l g h a1 a2 a3 a4 σ p0 e_2) (va_cwS 2 hts gX6_bestPlace_X2_best rfl rfl rfl hdX2_best.2 ⟨(Nat.le_of_ble_eq_true rfl), (Nat.le_of_ble_eq_true rfl)⟩) rfl rfl hl.1 rfl (Nat.le_of_ble_eq_true rfl) ⟨(Nat.le_of_ble_eq_true rfl), (Nat.le_of_ble_eq_true rfl)⟩ dX6_bestPlace_10 ?_
  have ho := okI hf
  subst ho
  exact m_iret (v := r_2) hx hb hr hlocks hP hD hS rfl dX6_bestPlace_13

abbrev rmX6_isWithinByRays_k : Room := { frames := 3, cells := 0, slots := 0, locals := 75 }
theorem fiX6_isWithinByRays_k_X6 : ∀ w ∈ wsX60, w ∈ wsX6_isWithinByRays := by decide +kernel
theorem flX6_isWithinByRays_k_10 : (.fieldLink RX6 10 "ContourLabels" "sheet" "LContourLabels$Sheet;" : Cond) ∈ wsX6_isWithinByRays := by decide +kernel
set_option maxHeartbeats 4000000 in
set_option maxRecDepth 100000 in
theorem cX6_isWithinByRays_k_ok (l : Launch) (g : Gg) (c0 h k0 x0 d0 a1 a2 a3 a4 : Nat) (σ : Sh) (p0 p1 : Int32) (sz : Nat) {o : Bool} (hf : fX6_isWithinByRays σ p0 p1 = some (.ok o)) : Met l yX6_isWithinByRays wsX6_isWithinByRays rmX6_isWithinByRays_k (va_Pc [.ref c0, .int p0, .int p1] (PM g (wC c0 h k0 x0 d0 ++ (wS g h a1 a2 a3 a4 σ)) sz)) (va_Qi (fun r' (_ : Unit) => r' = b2i o) (fun _ t => PQ g (wC c0 h k0 x0 d0 ++ (wS g h a1 a2 a3 a4 σ)) (va_A (wC c0 h k0 x0 d0 ++ (wS g h a1 a2 a3 a4 σ)) sz) t) (va_A (wC c0 h k0 x0 d0 ++ (wS g h a1 a2 a3 a4 σ)) sz)) 0 0 (va_A (wC c0 h k0 x0 d0 ++ (wS g h a1 a2 a3 a4 σ)) sz) := by
  refine Met.ofW (cc := cX6_isWithinByRays) (maxL := 3) (ret := (some .boolean)) (by decide) rfl ?_
  intro p e s m args below meth c s₁ B hml hv
  obtain ⟨rfl, rfl, hP, hD0, hE, hZ⟩ := hv
  have hx := B.exec
  have hb := B.bytes
  have hr := B.returns
  have hts := atoms_spec (ws := wsX6_isWithinByRays) B.pre
  have hown : s.vm.findClass RX6 = some m.cls := findClass_of_methodNamed B.named
  have hlocks := B.notSynchronized
  have hD := hD0.self (sz := s.heap.size)
  generalize hAe : (va_A (wC c0 h k0 x0 d0 ++ (wS g h a1 a2 a3 a4 σ)) s.heap.size) = A at hD hZ ⊢
  have hA : ∀ q : Nat, s.heap.size ≤ q → A q := fun q h => by rw [← hAe]; exact Or.inr h
  have hS : va_S A s.heap s.heap [] := va_S.rf
  have hP : va_P g.1 vwCl (wC c0 h k0 x0 d0 ++ (wS g h a1 a2 a3 a4 σ)) s.heap := hP
  have hl := lv_entry ([.ref c0, .int p0, .int p1]) (n := 3) (Nat.le_of_ble_eq_true rfl)
  rw [lg_entry_eq]
  generalize (lg_sl ([.ref c0, .int p0, .int p1]) ++ List.replicate (3 - (lg_sl ([.ref c0, .int p0, .int p1])).length) Slot.unset).toArray = ls at hl ⊢
  have hl : lv_has ls 3 [(0, .ref c0), (1, .int p0), (2, .int p1)] := hl
  unfold fX6_isWithinByRays at hf
  refine lv_aload_n hx hb dX6_isWithinByRays_0 rfl (lv_at hl 0 rfl) ?_
  refine lv_iload_n hx hb dX6_isWithinByRays_1 rfl (lv_at hl 1 rfl) ?_
  obtain ⟨r_1, e_1, hf⟩ := xok hf
  refine mcallVv (W0 := (wC c0 h k0 x0 d0 ++ (wS g h a1 a2 a3 a4 σ))) (Wc := (wC c0 h k0 x0 d0 ++ (wS g h a1 a2 a3 a4 σ))) (Wr := ([] : va_W)) (W1 := (wC c0 h k0 x0 d0 ++ (wS g h a1 a2 a3 a4 σ))) (W2 := (wC c0 h k0 x0 d0 ++ (wS g h a1 a2 a3 a4 σ))) (As := [.int p0]) (rest := []) [0, 1, 2, 3, 4, 5] [] [0, 1, 2, 3, 4, 5] 4 0 ⟨hx, hb, hml, hown, hts⟩ hP hD hE hZ hS hA (cX6_requireLine_k_ok l g  c0 h k0 x0 d0 a1 a2 a3 a4 σ p0 _ e_1) (cwV 1 hts gX6_isWithinByRays_X6_requireLine rfl rfl rfl hdX6_requireLine ⟨(Nat.le_of_ble_eq_true rfl), (Nat.le_of_ble_eq_true rfl)⟩) rfl rfl rfl (by decide) (by decide) (by decide) (by decide) rfl rfl rfl rfl hl.1 rfl (Nat.le_of_ble_eq_true rfl) ⟨(Nat.le_of_ble_eq_true rfl), (Nat.le_of_ble_eq_true rfl)⟩ dX6_isWithinByRays_2 (fun H locs hP hD hS => ?_)
  refine lv_iload_n hx hb dX6_isWithinByRays_5 rfl (lv_at hl 2 rfl) ?_
  obtain ⟨r_2, e_2, hf⟩ := xok hf
  refine mcallSv (W0 := (wC c0 h k0 x0 d0 ++ (wS g h a1 a2 a3 a4 σ))) (Wc := ([] : va_W)) (Wr := (wC c0 h k0 x0 d0 ++ (wS g h a1 a2 a3 a4 σ))) (W1 := ([] : va_W)) (W2 := (wC c0 h k0 x0 d0 ++ (wS g h a1 a2 a3 a4 σ))) (As := [.int p1]) (rest := []) [] [0, 1, 2, 3, 4, 5] [0, 1, 2, 3, 4, 5] ⟨hx, hb, hml, hown, hts⟩ hP hD hE hZ hS hA (cX6_requirePoint_k_ok l g   p1 _ e_2) (va_cwS 1 hts gX6_isWithinByRays_X6_requirePoint rfl rfl rfl hdX6_requirePoint.2 ⟨(Nat.le_of_ble_eq_true rfl), (Nat.le_of_ble_eq_true rfl)⟩) rfl rfl rfl (by decide) (by decide) (by decide) (by decide) rfl hl.1 rfl (Nat.le_of_ble_eq_true rfl) ⟨(Nat.le_of_ble_eq_true rfl), (Nat.le_of_ble_eq_true rfl)⟩ dX6_isWithinByRays_6 (fun H locs hP hD hS => ?_)
  refine lv_aload_n hx hb dX6_isWithinByRays_9 rfl (lv_at hl 0 rfl) ?_
  refine va_get (v := .ref h) (C := RX6) (T := TX6) (N := 4) hx hb hts fiX6_isWithinByRays_k_X6 hown hE.1 hP 0 rfl rfl 0 (by decide) (hts _ flX6_isWithinByRays_k_10) (fun _ h9 => h9) rfl dX6_isWithinByRays_10 ?_
  refine lv_iload_n hx hb dX6_isWithinByRays_13 rfl (lv_at hl 1 rfl) ?_
  refine lv_iload_n hx hb dX6_isWithinByRays_14 rfl (lv_at hl 2 rfl) ?_
  obtain ⟨r_3, e_3, hf⟩ := bo hf
  refine pcallS (W0 := (wC c0 h k0 x0 d0 ++ (wS g h a1 a2 a3 a4 σ))) (As := [.ref h, .int p0, .int p1]) (rest := []) [1, 2, 3, 4, 5] ⟨hx, hb, hml, hown, hts⟩ hP hE hZ hS (cX5_goesRound_ok l g h a1 a2 a3 a4 σ p0 p1 e_3) (va_cwS 3 hts gX6_isWithinByRays_X5_goesRound rfl rfl rfl hdX5_goesRound.2 ⟨(Nat.le_of_ble_eq_true rfl), (Nat.le_of_ble_eq_true rfl)⟩) rfl rfl hl.1 rfl (Nat.le_of_ble_eq_true rfl) ⟨(Nat.le_of_ble_eq_true rfl), (Nat.le_of_ble_eq_true rfl)⟩ dX6_isWithinByRays_15 ?_
  have ho := okI hf
  subst ho
  exact m_zret (v := r_3) hx hb hr hlocks hP hD hS rfl dX6_isWithinByRays_18

abbrev rmX6_isWithinBySpreading_k : Room := { frames := 3, cells := 0, slots := 0, locals := 69 }
theorem fiX6_isWithinBySpreading_k_X6 : ∀ w ∈ wsX60, w ∈ wsX6_isWithinBySpreading := by decide +kernel
theorem flX6_isWithinBySpreading_k_10 : (.fieldLink RX6 10 "ContourLabels" "sheet" "LContourLabels$Sheet;" : Cond) ∈ wsX6_isWithinBySpreading := by decide +kernel
theorem flX6_isWithinBySpreading_k_33 : (.fieldLink RX6 33 "ContourLabels" "drawing" "LContourLabels$Drawing;" : Cond) ∈ wsX6_isWithinBySpreading := by decide +kernel
set_option maxHeartbeats 4000000 in
set_option maxRecDepth 100000 in
theorem cX6_isWithinBySpreading_k_ok (l : Launch) (g : Gg) (c0 h k0 x0 d0 a1 a2 a3 a4 d1 d2 : Nat) (σ : Sh) (δ : Dr) (p0 p1 : Int32) (sz : Nat) {o : Bool × Dr} (hf : fX6_isWithinBySpreading σ δ p0 p1 = some (.ok o)) : Met l yX6_isWithinBySpreading wsX6_isWithinBySpreading rmX6_isWithinBySpreading_k (va_Pc [.ref c0, .int p0, .int p1] (PM g (wC c0 h k0 x0 d0 ++ (wS g h a1 a2 a3 a4 σ ++ (wD g d0 d1 d2 δ))) sz)) (va_Qi (fun r' (_ : Unit) => r' = b2i o.1) (fun _ t => PQ g (wC c0 h k0 x0 d0 ++ (wS g h a1 a2 a3 a4 σ ++ (wD g d0 d1 d2 o.2))) (va_A (wC c0 h k0 x0 d0 ++ (wS g h a1 a2 a3 a4 σ ++ (wD g d0 d1 d2 δ))) sz) t) (va_A (wC c0 h k0 x0 d0 ++ (wS g h a1 a2 a3 a4 σ ++ (wD g d0 d1 d2 δ))) sz)) 0 0 (va_A (wC c0 h k0 x0 d0 ++ (wS g h a1 a2 a3 a4 σ ++ (wD g d0 d1 d2 δ))) sz) := by
  refine Met.ofW (cc := cX6_isWithinBySpreading) (maxL := 3) (ret := (some .boolean)) (by decide) rfl ?_
  intro p e s m args below meth c s₁ B hml hv
  obtain ⟨rfl, rfl, hP, hD0, hE, hZ⟩ := hv
  have hx := B.exec
  have hb := B.bytes
  have hr := B.returns
  have hts := atoms_spec (ws := wsX6_isWithinBySpreading) B.pre
  have hown : s.vm.findClass RX6 = some m.cls := findClass_of_methodNamed B.named
  have hlocks := B.notSynchronized
  have hD := hD0.self (sz := s.heap.size)
  generalize hAe : (va_A (wC c0 h k0 x0 d0 ++ (wS g h a1 a2 a3 a4 σ ++ (wD g d0 d1 d2 δ))) s.heap.size) = A at hD hZ ⊢
  have hA : ∀ q : Nat, s.heap.size ≤ q → A q := fun q h => by rw [← hAe]; exact Or.inr h
  have hS : va_S A s.heap s.heap [] := va_S.rf
  have hP : va_P g.1 vwCl (wC c0 h k0 x0 d0 ++ (wS g h a1 a2 a3 a4 σ ++ (wD g d0 d1 d2 δ))) s.heap := hP
  have hl := lv_entry ([.ref c0, .int p0, .int p1]) (n := 3) (Nat.le_of_ble_eq_true rfl)
  rw [lg_entry_eq]
  generalize (lg_sl ([.ref c0, .int p0, .int p1]) ++ List.replicate (3 - (lg_sl ([.ref c0, .int p0, .int p1])).length) Slot.unset).toArray = ls at hl ⊢
  have hl : lv_has ls 3 [(0, .ref c0), (1, .int p0), (2, .int p1)] := hl
  unfold fX6_isWithinBySpreading at hf
  refine lv_aload_n hx hb dX6_isWithinBySpreading_0 rfl (lv_at hl 0 rfl) ?_
  refine lv_iload_n hx hb dX6_isWithinBySpreading_1 rfl (lv_at hl 1 rfl) ?_
  obtain ⟨r_1, e_1, hf⟩ := xok hf
  refine mcallVv (W0 := (wC c0 h k0 x0 d0 ++ (wS g h a1 a2 a3 a4 σ ++ (wD g d0 d1 d2 δ)))) (Wc := (wC c0 h k0 x0 d0 ++ (wS g h a1 a2 a3 a4 σ))) (Wr := (wD g d0 d1 d2 δ)) (W1 := (wC c0 h k0 x0 d0 ++ (wS g h a1 a2 a3 a4 σ))) (W2 := (wC c0 h k0 x0 d0 ++ (wS g h a1 a2 a3 a4 σ ++ (wD g d0 d1 d2 δ)))) (As := [.int p0]) (rest := []) [0, 1, 2, 3, 4, 5] [6, 7, 8] [3, 4, 5, 6, 7, 8, 0, 1, 2] 4 0 ⟨hx, hb, hml, hown, hts⟩ hP hD hE hZ hS hA (cX6_requireLine_k_ok l g  c0 h k0 x0 d0 a1 a2 a3 a4 σ p0 _ e_1) (cwV 1 hts gX6_isWithinBySpreading_X6_requireLine rfl rfl rfl hdX6_requireLine ⟨(Nat.le_of_ble_eq_true rfl), (Nat.le_of_ble_eq_true rfl)⟩) rfl rfl rfl (by decide) (by decide) (by decide) (by decide) rfl rfl rfl rfl hl.1 rfl (Nat.le_of_ble_eq_true rfl) ⟨(Nat.le_of_ble_eq_true rfl), (Nat.le_of_ble_eq_true rfl)⟩ dX6_isWithinBySpreading_2 (fun H locs hP hD hS => ?_)
  refine lv_iload_n hx hb dX6_isWithinBySpreading_5 rfl (lv_at hl 2 rfl) ?_
  obtain ⟨r_2, e_2, hf⟩ := xok hf
  refine mcallSv (W0 := (wC c0 h k0 x0 d0 ++ (wS g h a1 a2 a3 a4 σ ++ (wD g d0 d1 d2 δ)))) (Wc := ([] : va_W)) (Wr := (wC c0 h k0 x0 d0 ++ (wS g h a1 a2 a3 a4 σ ++ (wD g d0 d1 d2 δ)))) (W1 := ([] : va_W)) (W2 := (wC c0 h k0 x0 d0 ++ (wS g h a1 a2 a3 a4 σ ++ (wD g d0 d1 d2 δ)))) (As := [.int p1]) (rest := []) [] [0, 1, 2, 3, 4, 5, 6, 7, 8] [0, 1, 2, 3, 4, 5, 6, 7, 8] ⟨hx, hb, hml, hown, hts⟩ hP hD hE hZ hS hA (cX6_requirePoint_k_ok l g   p1 _ e_2) (va_cwS 1 hts gX6_isWithinBySpreading_X6_requirePoint rfl rfl rfl hdX6_requirePoint.2 ⟨(Nat.le_of_ble_eq_true rfl), (Nat.le_of_ble_eq_true rfl)⟩) rfl rfl rfl (by decide) (by decide) (by decide) (by decide) rfl hl.1 rfl (Nat.le_of_ble_eq_true rfl) ⟨(Nat.le_of_ble_eq_true rfl), (Nat.le_of_ble_eq_true rfl)⟩ dX6_isWithinBySpreading_6 (fun H locs hP hD hS => ?_)
  refine lv_aload_n hx hb dX6_isWithinBySpreading_9 rfl (lv_at hl 0 rfl) ?_
  refine va_get (v := .ref h) (C := RX6) (T := TX6) (N := 4) hx hb hts fiX6_isWithinBySpreading_k_X6 hown hE.1 hP 0 rfl rfl 0 (by decide) (hts _ flX6_isWithinBySpreading_k_10) (fun _ h9 => h9) rfl dX6_isWithinBySpreading_10 ?_
  refine lv_iload_n hx hb dX6_isWithinBySpreading_13 rfl (lv_at hl 1 rfl) ?_
  obtain ⟨r_3, e_3, hf⟩ := bo hf
  refine pcallV (W0 := (wC c0 h k0 x0 d0 ++ (wS g h a1 a2 a3 a4 σ ++ (wD g d0 d1 d2 δ)))) (As := [.int p0]) (rest := []) [1, 2, 3, 4, 5] 3 0 ⟨hx, hb, hml, hown, hts⟩ hP hE hZ hS (cX4_isRing_ok l g h a1 a2 a3 a4 σ p0 e_3) (cwV 1 hts gX6_isWithinBySpreading_X4_isRing rfl rfl rfl hdX4_isRing ⟨(Nat.le_of_ble_eq_true rfl), (Nat.le_of_ble_eq_true rfl)⟩) rfl rfl rfl rfl rfl hl.1 rfl (Nat.le_of_ble_eq_true rfl) ⟨(Nat.le_of_ble_eq_true rfl), (Nat.le_of_ble_eq_true rfl)⟩ dX6_isWithinBySpreading_14 ?_
  refine lv_bne (tgt := 22) hx hb dX6_isWithinBySpreading_17 (by decide) (fun c_4 => ?_) (fun c_4 => ?_)
  · have hf := ip c_4 hf
    refine lv_aload_n hx hb dX6_isWithinBySpreading_22 rfl (lv_at hl 0 rfl) ?_
    refine va_get (v := .ref d0) (C := RX6) (T := TX6) (N := 4) hx hb hts fiX6_isWithinBySpreading_k_X6 hown hE.1 hP 0 rfl rfl 3 (by decide) (hts _ flX6_isWithinBySpreading_k_33) (fun _ h9 => h9) rfl dX6_isWithinBySpreading_23 ?_
    refine lv_aload_n hx hb dX6_isWithinBySpreading_26 rfl (lv_at hl 0 rfl) ?_
    refine va_get (v := .ref h) (C := RX6) (T := TX6) (N := 4) hx hb hts fiX6_isWithinBySpreading_k_X6 hown hE.1 hP 0 rfl rfl 0 (by decide) (hts _ flX6_isWithinBySpreading_k_10) (fun _ h9 => h9) rfl dX6_isWithinBySpreading_27 ?_
    refine lv_iload_n hx hb dX6_isWithinBySpreading_30 rfl (lv_at hl 1 rfl) ?_
    obtain ⟨r_5, e_5, hf⟩ := bo hf
    refine mcallVv (W0 := (wC c0 h k0 x0 d0 ++ (wS g h a1 a2 a3 a4 σ ++ (wD g d0 d1 d2 δ)))) (Wc := (wS g h a1 a2 a3 a4 σ ++ (wD g d0 d1 d2 δ))) (Wr := (wC c0 h k0 x0 d0)) (W1 := (wS g h a1 a2 a3 a4 σ ++ (wD g d0 d1 d2 r_5))) (W2 := (wC c0 h k0 x0 d0 ++ (wS g h a1 a2 a3 a4 σ ++ (wD g d0 d1 d2 r_5)))) (As := [.ref h, .int p0]) (rest := []) [1, 2, 3, 4, 5, 6, 7, 8] [0] [0, 1, 2, 3, 4, 5, 6, 7, 8] 0 5 ⟨hx, hb, hml, hown, hts⟩ hP hD hE hZ hS hA (cX0_drawLine_ok l g  h a1 a2 a3 a4 d0 d1 d2 σ δ p0 _ e_5) (cwV 2 hts gX6_isWithinBySpreading_X0_drawLine rfl rfl rfl hdX0_drawLine ⟨(Nat.le_of_ble_eq_true rfl), (Nat.le_of_ble_eq_true rfl)⟩) rfl rfl rfl (by decide) (by decide) (by decide) (by decide) rfl rfl rfl rfl hl.1 rfl (Nat.le_of_ble_eq_true rfl) ⟨(Nat.le_of_ble_eq_true rfl), (Nat.le_of_ble_eq_true rfl)⟩ dX6_isWithinBySpreading_31 (fun H locs hP hD hS => ?_)
    refine lv_aload_n hx hb dX6_isWithinBySpreading_34 rfl (lv_at hl 0 rfl) ?_
    refine va_get (v := .ref d0) (C := RX6) (T := TX6) (N := 4) hx hb hts fiX6_isWithinBySpreading_k_X6 hown hE.1 hP 0 rfl rfl 3 (by decide) (hts _ flX6_isWithinBySpreading_k_33) (fun _ h9 => h9) rfl dX6_isWithinBySpreading_35 ?_
    obtain ⟨r_6, e_6, hf⟩ := bo hf
    refine mcallVv (W0 := (wC c0 h k0 x0 d0 ++ (wS g h a1 a2 a3 a4 σ ++ (wD g d0 d1 d2 r_5)))) (Wc := (wD g d0 d1 d2 r_5)) (Wr := (wC c0 h k0 x0 d0 ++ (wS g h a1 a2 a3 a4 σ))) (W1 := (wD g d0 d1 d2 r_6)) (W2 := (wC c0 h k0 x0 d0 ++ (wS g h a1 a2 a3 a4 σ ++ (wD g d0 d1 d2 r_6)))) (As := []) (rest := []) [6, 7, 8] [0, 1, 2, 3, 4, 5] [0, 1, 2, 3, 4, 5, 6, 7, 8] 0 0 ⟨hx, hb, hml, hown, hts⟩ hP hD hE hZ hS hA (cX0_spread_ok l g  d0 d1 d2 r_5 _ e_6) (cwV 0 hts gX6_isWithinBySpreading_X0_spread rfl rfl rfl hdX0_spread ⟨(Nat.le_of_ble_eq_true rfl), (Nat.le_of_ble_eq_true rfl)⟩) rfl rfl rfl (by decide) (by decide) (by decide) (by decide) rfl rfl rfl rfl hl.1 rfl (Nat.le_of_ble_eq_true rfl) ⟨(Nat.le_of_ble_eq_true rfl), (Nat.le_of_ble_eq_true rfl)⟩ dX6_isWithinBySpreading_38 (fun H locs hP hD hS => ?_)
    refine lv_aload_n hx hb dX6_isWithinBySpreading_41 rfl (lv_at hl 0 rfl) ?_
    refine va_get (v := .ref d0) (C := RX6) (T := TX6) (N := 4) hx hb hts fiX6_isWithinBySpreading_k_X6 hown hE.1 hP 0 rfl rfl 3 (by decide) (hts _ flX6_isWithinBySpreading_k_33) (fun _ h9 => h9) rfl dX6_isWithinBySpreading_42 ?_
    refine lv_iload_n hx hb dX6_isWithinBySpreading_45 rfl (lv_at hl 2 rfl) ?_
    obtain ⟨r_7, e_7, hf⟩ := bo hf
    refine pcallV (W0 := (wC c0 h k0 x0 d0 ++ (wS g h a1 a2 a3 a4 σ ++ (wD g d0 d1 d2 r_6)))) (As := [.int p1]) (rest := []) [6, 7, 8] 0 0 ⟨hx, hb, hml, hown, hts⟩ hP hE hZ hS (cX0_isLeftOut_ok l g d0 d1 d2 r_6 p1 e_7) (cwV 1 hts gX6_isWithinBySpreading_X0_isLeftOut rfl rfl rfl hdX0_isLeftOut ⟨(Nat.le_of_ble_eq_true rfl), (Nat.le_of_ble_eq_true rfl)⟩) rfl rfl rfl rfl rfl hl.1 rfl (Nat.le_of_ble_eq_true rfl) ⟨(Nat.le_of_ble_eq_true rfl), (Nat.le_of_ble_eq_true rfl)⟩ dX6_isWithinBySpreading_46 ?_
    have ho := okI hf
    subst ho
    exact m_zret (v := r_7) hx hb hr hlocks hP hD hS rfl dX6_isWithinBySpreading_49
  · have hf := iq c_4 hf
    refine lv_iconst (v := (0 : Int32)) hx hb dX6_isWithinBySpreading_20 (by decide) ?_
    have ho := okI hf
    subst ho
    exact m_zret (v := false) hx hb hr hlocks hP hD hS rfl dX6_isWithinBySpreading_21

abbrev rmX6_pointsWithin_k : Room := { frames := 3, cells := 0, slots := 0, locals := 75 }
theorem fiX6_pointsWithin_k_X6 : ∀ w ∈ wsX60, w ∈ wsX6_pointsWithin := by decide +kernel
theorem flX6_pointsWithin_k_10 : (.fieldLink RX6 10 "ContourLabels" "sheet" "LContourLabels$Sheet;" : Cond) ∈ wsX6_pointsWithin := by decide +kernel
set_option maxHeartbeats 4000000 in
set_option maxRecDepth 100000 in
theorem cX6_pointsWithin_k_ok (l : Launch) (g : Gg) (c0 h k0 x0 d0 a1 a2 a3 a4 : Nat) (σ : Sh) (p0 : Int32) (sz : Nat) {o : Int32} (hf : fX6_pointsWithin σ p0 = some (.ok o)) : Met l yX6_pointsWithin wsX6_pointsWithin rmX6_pointsWithin_k (va_Pc [.ref c0, .int p0] (PM g (wC c0 h k0 x0 d0 ++ (wS g h a1 a2 a3 a4 σ)) sz)) (va_Qi (fun r' (_ : Unit) => r' = o) (fun _ t => PQ g (wC c0 h k0 x0 d0 ++ (wS g h a1 a2 a3 a4 σ)) (va_A (wC c0 h k0 x0 d0 ++ (wS g h a1 a2 a3 a4 σ)) sz) t) (va_A (wC c0 h k0 x0 d0 ++ (wS g h a1 a2 a3 a4 σ)) sz)) 0 0 (va_A (wC c0 h k0 x0 d0 ++ (wS g h a1 a2 a3 a4 σ)) sz) := by
  refine Met.ofW (cc := cX6_pointsWithin) (maxL := 4) (ret := (some .int)) (by decide) rfl ?_
  intro p e s m args below meth c s₁ B hml hv
  obtain ⟨rfl, rfl, hP, hD0, hE, hZ⟩ := hv
  have hx := B.exec
  have hb := B.bytes
  have hr := B.returns
  have hts := atoms_spec (ws := wsX6_pointsWithin) B.pre
  have hown : s.vm.findClass RX6 = some m.cls := findClass_of_methodNamed B.named
  have hlocks := B.notSynchronized
  have hD := hD0.self (sz := s.heap.size)
  generalize hAe : (va_A (wC c0 h k0 x0 d0 ++ (wS g h a1 a2 a3 a4 σ)) s.heap.size) = A at hD hZ ⊢
  have hA : ∀ q : Nat, s.heap.size ≤ q → A q := fun q h => by rw [← hAe]; exact Or.inr h
  have hS : va_S A s.heap s.heap [] := va_S.rf
  have hP : va_P g.1 vwCl (wC c0 h k0 x0 d0 ++ (wS g h a1 a2 a3 a4 σ)) s.heap := hP
  have hl := lv_entry ([.ref c0, .int p0]) (n := 4) (Nat.le_of_ble_eq_true rfl)
  rw [lg_entry_eq]
  generalize (lg_sl ([.ref c0, .int p0]) ++ List.replicate (4 - (lg_sl ([.ref c0, .int p0])).length) Slot.unset).toArray = ls at hl ⊢
  have hl : lv_has ls 4 [(0, .ref c0), (1, .int p0)] := hl
  have hB9 : ∀ (n9 : Nat) (v2_9 : Int32) (v3_9 : Int32) (H : Heap) (locs : List Loc) (ls : Array Slot), va_P g.1 vwCl (wC c0 h k0 x0 d0 ++ (wS g h a1 a2 a3 a4 σ)) H → va_D A (wC c0 h k0 x0 d0 ++ (wS g h a1 a2 a3 a4 σ)) → va_S A s.heap H locs → lv_has ls 4 [(0, .ref c0), (1, .int p0), (2, .int v2_9), (3, .int v3_9)] → fX6_pointsWithin_9 σ p0 n9 v2_9 v3_9 = some (.ok o) → W p l e (headSpec wsX6_pointsWithin rmX6_pointsWithin_k).room s m ([.ref c0, .int p0] : List Value).toArray below meth c H locs 0 0 (MQ below (va_Qi (fun r' (_ : Unit) => r' = o) (fun _ t => PQ g (wC c0 h k0 x0 d0 ++ (wS g h a1 a2 a3 a4 σ)) A t) A) ([.ref c0, .int p0] : List Value).toArray s 0 0 A) (F0 m 9 ls []) := by
    intro  n9
    induction n9 with
    | zero => intro v2_9 v3_9 H locs ls hP hD hS hl hf; exact nomatch (show (none : Option (Except String (Int32))) = some _ from hf)
    | succ n9 ih9 =>
      intro v2_9 v3_9 H locs ls hP hD hS hl hf
      rw [fX6_pointsWithin_9] at hf
      refine lv_iload_n hx hb dX6_pointsWithin_9 rfl (lv_at hl 3 rfl) ?_
      refine lv_sipush (v := (384 : Int32)) hx hb dX6_pointsWithin_10 (by decide) ?_
      refine lv_icmp_ge (tgt := 37) hx hb dX6_pointsWithin_13 (by decide) (fun c_1 => ?_) (fun c_1 => ?_)
      · have hf := ip c_1 hf
        refine lv_iload_n hx hb dX6_pointsWithin_37 rfl (lv_at hl 2 rfl) ?_
        have ho := okI hf
        subst ho
        exact m_iret (v := v2_9) hx hb hr hlocks hP hD hS rfl dX6_pointsWithin_38
      · have hf := iq c_1 hf
        refine lv_aload_n hx hb dX6_pointsWithin_16 rfl (lv_at hl 0 rfl) ?_
        refine va_get (v := .ref h) (C := RX6) (T := TX6) (N := 4) hx hb hts fiX6_pointsWithin_k_X6 hown hE.1 hP 0 rfl rfl 0 (by decide) (hts _ flX6_pointsWithin_k_10) (fun _ h9 => h9) rfl dX6_pointsWithin_17 ?_
        refine lv_iload_n hx hb dX6_pointsWithin_20 rfl (lv_at hl 1 rfl) ?_
        refine lv_iload_n hx hb dX6_pointsWithin_21 rfl (lv_at hl 3 rfl) ?_
        obtain ⟨r_2, e_2, hf⟩ := bo hf
        refine pcallS (W0 := (wC c0 h k0 x0 d0 ++ (wS g h a1 a2 a3 a4 σ))) (As := [.ref h, .int p0, .int v3_9]) (rest := []) [1, 2, 3, 4, 5] ⟨hx, hb, hml, hown, hts⟩ hP hE hZ hS (cX5_goesRound_ok l g h a1 a2 a3 a4 σ p0 v3_9 e_2) (va_cwS 3 hts gX6_pointsWithin_X5_goesRound rfl rfl rfl hdX5_goesRound.2 ⟨(Nat.le_of_ble_eq_true rfl), (Nat.le_of_ble_eq_true rfl)⟩) rfl rfl hl.1 rfl (Nat.le_of_ble_eq_true rfl) ⟨(Nat.le_of_ble_eq_true rfl), (Nat.le_of_ble_eq_true rfl)⟩ dX6_pointsWithin_22 ?_
        refine lv_beq (tgt := 31) hx hb dX6_pointsWithin_25 (by decide) (fun c_3 => ?_) (fun c_3 => ?_)
        · have hf := iq c_3 hf
          refine lv_iinc (v := (v3_9 + 1)) (lv' := [(3, .int (v3_9 + 1)), (0, .ref c0), (1, .int p0), (2, .int v2_9)]) hx hb dX6_pointsWithin_31 hl (k := 3) rfl rfl (by decide) rfl (fun ls hl => ?_)
          refine lv_goto (tgt := 9) hx hb dX6_pointsWithin_34 (by decide) ?_
          exact ih9 v2_9 (v3_9 + 1) _ _ ls hP hD hS (lv_sub hl [1, 2, 3, 0] rfl) hf
        · have hf := ip c_3 hf
          refine lv_iinc (v := (v2_9 + 1)) (lv' := [(2, .int (v2_9 + 1)), (0, .ref c0), (1, .int p0), (3, .int v3_9)]) hx hb dX6_pointsWithin_28 hl (k := 2) rfl rfl (by decide) rfl (fun ls hl => ?_)
          refine lv_iinc (v := (v3_9 + 1)) (lv' := [(3, .int (v3_9 + 1)), (2, .int (v2_9 + 1)), (0, .ref c0), (1, .int p0)]) hx hb dX6_pointsWithin_31 hl (k := 3) rfl rfl (by decide) rfl (fun ls hl => ?_)
          refine lv_goto (tgt := 9) hx hb dX6_pointsWithin_34 (by decide) ?_
          exact ih9 (v2_9 + 1) (v3_9 + 1) _ _ ls hP hD hS (lv_sub hl [2, 3, 1, 0] rfl) hf
  unfold fX6_pointsWithin at hf
  refine lv_aload_n hx hb dX6_pointsWithin_0 rfl (lv_at hl 0 rfl) ?_
  refine lv_iload_n hx hb dX6_pointsWithin_1 rfl (lv_at hl 1 rfl) ?_
  obtain ⟨r_4, e_4, hf⟩ := xok hf
  refine mcallVv (W0 := (wC c0 h k0 x0 d0 ++ (wS g h a1 a2 a3 a4 σ))) (Wc := (wC c0 h k0 x0 d0 ++ (wS g h a1 a2 a3 a4 σ))) (Wr := ([] : va_W)) (W1 := (wC c0 h k0 x0 d0 ++ (wS g h a1 a2 a3 a4 σ))) (W2 := (wC c0 h k0 x0 d0 ++ (wS g h a1 a2 a3 a4 σ))) (As := [.int p0]) (rest := []) [0, 1, 2, 3, 4, 5] [] [0, 1, 2, 3, 4, 5] 4 0 ⟨hx, hb, hml, hown, hts⟩ hP hD hE hZ hS hA (cX6_requireLine_k_ok l g  c0 h k0 x0 d0 a1 a2 a3 a4 σ p0 _ e_4) (cwV 1 hts gX6_pointsWithin_X6_requireLine rfl rfl rfl hdX6_requireLine ⟨(Nat.le_of_ble_eq_true rfl), (Nat.le_of_ble_eq_true rfl)⟩) rfl rfl rfl (by decide) (by decide) (by decide) (by decide) rfl rfl rfl rfl hl.1 rfl (Nat.le_of_ble_eq_true rfl) ⟨(Nat.le_of_ble_eq_true rfl), (Nat.le_of_ble_eq_true rfl)⟩ dX6_pointsWithin_2 (fun H locs hP hD hS => ?_)
  refine lv_iconst (v := (0 : Int32)) hx hb dX6_pointsWithin_5 (by decide) ?_
  refine lv_istore_n (lv' := [(2, .int (0 : Int32)), (0, .ref c0), (1, .int p0)]) hx hb dX6_pointsWithin_6 rfl hl (by decide) rfl (fun ls hl => ?_)
  refine lv_iconst (v := (0 : Int32)) hx hb dX6_pointsWithin_7 (by decide) ?_
  refine lv_istore_n (lv' := [(3, .int (0 : Int32)), (2, .int (0 : Int32)), (0, .ref c0), (1, .int p0)]) hx hb dX6_pointsWithin_8 rfl hl (by decide) rfl (fun ls hl => ?_)
  exact hB9 FU (0 : Int32) (0 : Int32) _ _ ls hP hD hS (lv_sub hl [2, 3, 1, 0] rfl) hf

abbrev rmX6_lineRound_k : Room := { frames := 4, cells := 0, slots := 0, locals := 99 }
theorem fiX6_lineRound_k_X6 : ∀ w ∈ wsX60, w ∈ wsX6_lineRound := by decide +kernel
theorem flX6_lineRound_k_10 : (.fieldLink RX6 10 "ContourLabels" "sheet" "LContourLabels$Sheet;" : Cond) ∈ wsX6_lineRound := by decide +kernel
set_option maxHeartbeats 4000000 in
set_option maxRecDepth 100000 in
theorem cX6_lineRound_k_ok (l : Launch) (g : Gg) (c0 h k0 x0 d0 a1 a2 a3 a4 : Nat) (σ : Sh) (p0 : Int32) (sz : Nat) {o : Int32} (hf : fX6_lineRound σ p0 = some (.ok o)) : Met l yX6_lineRound wsX6_lineRound rmX6_lineRound_k (va_Pc [.ref c0, .int p0] (PM g (wC c0 h k0 x0 d0 ++ (wS g h a1 a2 a3 a4 σ)) sz)) (va_Qi (fun r' (_ : Unit) => r' = o) (fun _ t => PQ g (wC c0 h k0 x0 d0 ++ (wS g h a1 a2 a3 a4 σ)) (va_A (wC c0 h k0 x0 d0 ++ (wS g h a1 a2 a3 a4 σ)) sz) t) (va_A (wC c0 h k0 x0 d0 ++ (wS g h a1 a2 a3 a4 σ)) sz)) 0 0 (va_A (wC c0 h k0 x0 d0 ++ (wS g h a1 a2 a3 a4 σ)) sz) := by
  refine Met.ofW (cc := cX6_lineRound) (maxL := 2) (ret := (some .int)) (by decide) rfl ?_
  intro p e s m args below meth c s₁ B hml hv
  obtain ⟨rfl, rfl, hP, hD0, hE, hZ⟩ := hv
  have hx := B.exec
  have hb := B.bytes
  have hr := B.returns
  have hts := atoms_spec (ws := wsX6_lineRound) B.pre
  have hown : s.vm.findClass RX6 = some m.cls := findClass_of_methodNamed B.named
  have hlocks := B.notSynchronized
  have hD := hD0.self (sz := s.heap.size)
  generalize hAe : (va_A (wC c0 h k0 x0 d0 ++ (wS g h a1 a2 a3 a4 σ)) s.heap.size) = A at hD hZ ⊢
  have hA : ∀ q : Nat, s.heap.size ≤ q → A q := fun q h => by rw [← hAe]; exact Or.inr h
  have hS : va_S A s.heap s.heap [] := va_S.rf
  have hP : va_P g.1 vwCl (wC c0 h k0 x0 d0 ++ (wS g h a1 a2 a3 a4 σ)) s.heap := hP
  have hl := lv_entry ([.ref c0, .int p0]) (n := 2) (Nat.le_of_ble_eq_true rfl)
  rw [lg_entry_eq]
  generalize (lg_sl ([.ref c0, .int p0]) ++ List.replicate (2 - (lg_sl ([.ref c0, .int p0])).length) Slot.unset).toArray = ls at hl ⊢
  have hl : lv_has ls 2 [(0, .ref c0), (1, .int p0)] := hl
  unfold fX6_lineRound at hf
  refine lv_aload_n hx hb dX6_lineRound_0 rfl (lv_at hl 0 rfl) ?_
  refine lv_iload_n hx hb dX6_lineRound_1 rfl (lv_at hl 1 rfl) ?_
  obtain ⟨r_1, e_1, hf⟩ := xok hf
  refine mcallVv (W0 := (wC c0 h k0 x0 d0 ++ (wS g h a1 a2 a3 a4 σ))) (Wc := (wC c0 h k0 x0 d0 ++ (wS g h a1 a2 a3 a4 σ))) (Wr := ([] : va_W)) (W1 := (wC c0 h k0 x0 d0 ++ (wS g h a1 a2 a3 a4 σ))) (W2 := (wC c0 h k0 x0 d0 ++ (wS g h a1 a2 a3 a4 σ))) (As := [.int p0]) (rest := []) [0, 1, 2, 3, 4, 5] [] [0, 1, 2, 3, 4, 5] 4 0 ⟨hx, hb, hml, hown, hts⟩ hP hD hE hZ hS hA (cX6_requireLine_k_ok l g  c0 h k0 x0 d0 a1 a2 a3 a4 σ p0 _ e_1) (cwV 1 hts gX6_lineRound_X6_requireLine rfl rfl rfl hdX6_requireLine ⟨(Nat.le_of_ble_eq_true rfl), (Nat.le_of_ble_eq_true rfl)⟩) rfl rfl rfl (by decide) (by decide) (by decide) (by decide) rfl rfl rfl rfl hl.1 rfl (Nat.le_of_ble_eq_true rfl) ⟨(Nat.le_of_ble_eq_true rfl), (Nat.le_of_ble_eq_true rfl)⟩ dX6_lineRound_2 (fun H locs hP hD hS => ?_)
  refine lv_aload_n hx hb dX6_lineRound_5 rfl (lv_at hl 0 rfl) ?_
  refine va_get (v := .ref h) (C := RX6) (T := TX6) (N := 4) hx hb hts fiX6_lineRound_k_X6 hown hE.1 hP 0 rfl rfl 0 (by decide) (hts _ flX6_lineRound_k_10) (fun _ h9 => h9) rfl dX6_lineRound_6 ?_
  refine lv_iload_n hx hb dX6_lineRound_9 rfl (lv_at hl 1 rfl) ?_
  obtain ⟨r_2, e_2, hf⟩ := bo hf
  refine pcallS (W0 := (wC c0 h k0 x0 d0 ++ (wS g h a1 a2 a3 a4 σ))) (As := [.ref h, .int p0]) (rest := []) [1, 2, 3, 4, 5] ⟨hx, hb, hml, hown, hts⟩ hP hE hZ hS (cX5_innermostRound_ok l g h a1 a2 a3 a4 σ p0 e_2) (va_cwS 2 hts gX6_lineRound_X5_innermostRound rfl rfl rfl hdX5_innermostRound.2 ⟨(Nat.le_of_ble_eq_true rfl), (Nat.le_of_ble_eq_true rfl)⟩) rfl rfl hl.1 rfl (Nat.le_of_ble_eq_true rfl) ⟨(Nat.le_of_ble_eq_true rfl), (Nat.le_of_ble_eq_true rfl)⟩ dX6_lineRound_10 ?_
  have ho := okI hf
  subst ho
  exact m_iret (v := r_2) hx hb hr hlocks hP hD hS rfl dX6_lineRound_13

abbrev rmX6_isSteady_k : Room := { frames := 4, cells := 0, slots := 0, locals := 99 }
theorem fiX6_isSteady_k_X6 : ∀ w ∈ wsX60, w ∈ wsX6_isSteady := by decide +kernel
theorem flX6_isSteady_k_10 : (.fieldLink RX6 10 "ContourLabels" "sheet" "LContourLabels$Sheet;" : Cond) ∈ wsX6_isSteady := by decide +kernel
theorem mlX6_isSteady_k_197 : (.methodLink RX6 197 Lib.Math.abs.name : Cond) ∈ wsX6_isSteady := by decide +kernel
theorem msX6_isSteady_k_abs : (.static Lib.Math.abs.name : Cond) ∈ wsX6_isSteady := by decide +kernel
theorem miX6_isSteady_k : (.initialized "java/lang/Math" : Cond) ∈ wsX6_isSteady := by decide +kernel
theorem mcX6_isSteady_k_abs : (.code Lib.Math.abs.name Lib.Math.abs.code 1 (some .int) : Cond) ∈ wsX6_isSteady := by decide +kernel
set_option maxHeartbeats 4000000 in
set_option maxRecDepth 100000 in
theorem cX6_isSteady_k_ok (l : Launch) (g : Gg) (c0 h k0 x0 d0 a1 a2 a3 a4 : Nat) (σ : Sh) (p0 : Int32) (sz : Nat) {o : Bool} (hf : fX6_isSteady σ p0 = some (.ok o)) : Met l yX6_isSteady wsX6_isSteady rmX6_isSteady_k (va_Pc [.ref c0, .int p0] (PM g (wC c0 h k0 x0 d0 ++ (wS g h a1 a2 a3 a4 σ)) sz)) (va_Qi (fun r' (_ : Unit) => r' = b2i o) (fun _ t => PQ g (wC c0 h k0 x0 d0 ++ (wS g h a1 a2 a3 a4 σ)) (va_A (wC c0 h k0 x0 d0 ++ (wS g h a1 a2 a3 a4 σ)) sz) t) (va_A (wC c0 h k0 x0 d0 ++ (wS g h a1 a2 a3 a4 σ)) sz)) 0 0 (va_A (wC c0 h k0 x0 d0 ++ (wS g h a1 a2 a3 a4 σ)) sz) := by
  refine Met.ofW (cc := cX6_isSteady) (maxL := 3) (ret := (some .boolean)) (by decide) rfl ?_
  intro p e s m args below meth c s₁ B hml hv
  obtain ⟨rfl, rfl, hP, hD0, hE, hZ⟩ := hv
  have hx := B.exec
  have hb := B.bytes
  have hr := B.returns
  have hts := atoms_spec (ws := wsX6_isSteady) B.pre
  have hown : s.vm.findClass RX6 = some m.cls := findClass_of_methodNamed B.named
  have hlocks := B.notSynchronized
  have hD := hD0.self (sz := s.heap.size)
  generalize hAe : (va_A (wC c0 h k0 x0 d0 ++ (wS g h a1 a2 a3 a4 σ)) s.heap.size) = A at hD hZ ⊢
  have hA : ∀ q : Nat, s.heap.size ≤ q → A q := fun q h => by rw [← hAe]; exact Or.inr h
  have hS : va_S A s.heap s.heap [] := va_S.rf
  have hP : va_P g.1 vwCl (wC c0 h k0 x0 d0 ++ (wS g h a1 a2 a3 a4 σ)) s.heap := hP
  have hl := lv_entry ([.ref c0, .int p0]) (n := 3) (Nat.le_of_ble_eq_true rfl)
  rw [lg_entry_eq]
  generalize (lg_sl ([.ref c0, .int p0]) ++ List.replicate (3 - (lg_sl ([.ref c0, .int p0])).length) Slot.unset).toArray = ls at hl ⊢
  have hl : lv_has ls 3 [(0, .ref c0), (1, .int p0)] := hl
  unfold fX6_isSteady at hf
  refine lv_aload_n hx hb dX6_isSteady_0 rfl (lv_at hl 0 rfl) ?_
  refine lv_iload_n hx hb dX6_isSteady_1 rfl (lv_at hl 1 rfl) ?_
  obtain ⟨r_1, e_1, hf⟩ := xok hf
  refine mcallVv (W0 := (wC c0 h k0 x0 d0 ++ (wS g h a1 a2 a3 a4 σ))) (Wc := (wC c0 h k0 x0 d0 ++ (wS g h a1 a2 a3 a4 σ))) (Wr := ([] : va_W)) (W1 := (wC c0 h k0 x0 d0 ++ (wS g h a1 a2 a3 a4 σ))) (W2 := (wC c0 h k0 x0 d0 ++ (wS g h a1 a2 a3 a4 σ))) (As := [.int p0]) (rest := []) [0, 1, 2, 3, 4, 5] [] [0, 1, 2, 3, 4, 5] 4 0 ⟨hx, hb, hml, hown, hts⟩ hP hD hE hZ hS hA (cX6_requireLine_k_ok l g  c0 h k0 x0 d0 a1 a2 a3 a4 σ p0 _ e_1) (cwV 1 hts gX6_isSteady_X6_requireLine rfl rfl rfl hdX6_requireLine ⟨(Nat.le_of_ble_eq_true rfl), (Nat.le_of_ble_eq_true rfl)⟩) rfl rfl rfl (by decide) (by decide) (by decide) (by decide) rfl rfl rfl rfl hl.1 rfl (Nat.le_of_ble_eq_true rfl) ⟨(Nat.le_of_ble_eq_true rfl), (Nat.le_of_ble_eq_true rfl)⟩ dX6_isSteady_2 (fun H locs hP hD hS => ?_)
  refine lv_aload_n hx hb dX6_isSteady_5 rfl (lv_at hl 0 rfl) ?_
  refine va_get (v := .ref h) (C := RX6) (T := TX6) (N := 4) hx hb hts fiX6_isSteady_k_X6 hown hE.1 hP 0 rfl rfl 0 (by decide) (hts _ flX6_isSteady_k_10) (fun _ h9 => h9) rfl dX6_isSteady_6 ?_
  refine lv_iload_n hx hb dX6_isSteady_9 rfl (lv_at hl 1 rfl) ?_
  obtain ⟨r_2, e_2, hf⟩ := bo hf
  refine pcallS (W0 := (wC c0 h k0 x0 d0 ++ (wS g h a1 a2 a3 a4 σ))) (As := [.ref h, .int p0]) (rest := []) [1, 2, 3, 4, 5] ⟨hx, hb, hml, hown, hts⟩ hP hE hZ hS (cX5_innermostRound_ok l g h a1 a2 a3 a4 σ p0 e_2) (va_cwS 2 hts gX6_isSteady_X5_innermostRound rfl rfl rfl hdX5_innermostRound.2 ⟨(Nat.le_of_ble_eq_true rfl), (Nat.le_of_ble_eq_true rfl)⟩) rfl rfl hl.1 rfl (Nat.le_of_ble_eq_true rfl) ⟨(Nat.le_of_ble_eq_true rfl), (Nat.le_of_ble_eq_true rfl)⟩ dX6_isSteady_10 ?_
  refine lv_istore_n (lv' := [(2, .int r_2), (0, .ref c0), (1, .int p0)]) hx hb dX6_isSteady_13 rfl hl (by decide) rfl (fun ls hl => ?_)
  refine lv_iload_n hx hb dX6_isSteady_14 rfl (lv_at hl 0 rfl) ?_
  refine lv_iconst (v := (-1 : Int32)) hx hb dX6_isSteady_15 (by decide) ?_
  refine lv_icmp_ne (tgt := 21) hx hb dX6_isSteady_16 (by decide) (fun c_3 => ?_) (fun c_3 => ?_)
  · have hf := iq c_3 hf
    refine lv_aload_n hx hb dX6_isSteady_21 rfl (lv_at hl 1 rfl) ?_
    refine va_get (v := .ref h) (C := RX6) (T := TX6) (N := 4) hx hb hts fiX6_isSteady_k_X6 hown hE.1 hP 0 rfl rfl 0 (by decide) (hts _ flX6_isSteady_k_10) (fun _ h9 => h9) rfl dX6_isSteady_22 ?_
    refine lv_iload_n hx hb dX6_isSteady_25 rfl (lv_at hl 2 rfl) ?_
    obtain ⟨r_4, e_4, hf⟩ := bo hf
    refine pcallV (W0 := (wC c0 h k0 x0 d0 ++ (wS g h a1 a2 a3 a4 σ))) (As := [.int p0]) (rest := []) [1, 2, 3, 4, 5] 3 0 ⟨hx, hb, hml, hown, hts⟩ hP hE hZ hS (cX4_levelIn_ok l g h a1 a2 a3 a4 σ p0 e_4) (cwV 1 hts gX6_isSteady_X4_levelIn rfl rfl rfl hdX4_levelIn ⟨(Nat.le_of_ble_eq_true rfl), (Nat.le_of_ble_eq_true rfl)⟩) rfl rfl rfl rfl rfl hl.1 rfl (Nat.le_of_ble_eq_true rfl) ⟨(Nat.le_of_ble_eq_true rfl), (Nat.le_of_ble_eq_true rfl)⟩ dX6_isSteady_26 ?_
    refine lv_aload_n hx hb dX6_isSteady_29 rfl (lv_at hl 1 rfl) ?_
    refine va_get (v := .ref h) (C := RX6) (T := TX6) (N := 4) hx hb hts fiX6_isSteady_k_X6 hown hE.1 hP 0 rfl rfl 0 (by decide) (hts _ flX6_isSteady_k_10) (fun _ h9 => h9) rfl dX6_isSteady_30 ?_
    refine lv_iload_n hx hb dX6_isSteady_33 rfl (lv_at hl 0 rfl) ?_
    obtain ⟨r_5, e_5, hf⟩ := bo hf
    refine pcallV (W0 := (wC c0 h k0 x0 d0 ++ (wS g h a1 a2 a3 a4 σ))) (As := [.int r_2]) (rest := [.int r_4]) [1, 2, 3, 4, 5] 3 0 ⟨hx, hb, hml, hown, hts⟩ hP hE hZ hS (cX4_levelIn_ok l g h a1 a2 a3 a4 σ r_2 e_5) (cwV 1 hts gX6_isSteady_X4_levelIn rfl rfl rfl hdX4_levelIn ⟨(Nat.le_of_ble_eq_true rfl), (Nat.le_of_ble_eq_true rfl)⟩) rfl rfl rfl rfl rfl hl.1 rfl (Nat.le_of_ble_eq_true rfl) ⟨(Nat.le_of_ble_eq_true rfl), (Nat.le_of_ble_eq_true rfl)⟩ dX6_isSteady_34 ?_
    refine lv_isub hx hb dX6_isSteady_37 ?_
    refine va_mabs hx hb (hml.trans hl.1.symm) hown (hts _ mlX6_isSteady_k_197) (hts _ msX6_isSteady_k_abs) (hts _ miX6_isSteady_k) (hts _ mcX6_isSteady_k_abs) (Nat.le_of_ble_eq_true rfl) (Nat.le_of_ble_eq_true rfl) (Nat.le_of_ble_eq_true rfl) (Nat.le_of_ble_eq_true rfl) dX6_isSteady_38 ?_
    refine W.eq (g2 := F0 m 41 ls [.int (iabs (r_4 - r_5))]) rfl ?_
    refine lv_iconst (v := (5 : Int32)) hx hb dX6_isSteady_41 (by decide) ?_
    refine lv_icmp_ne (tgt := 49) hx hb dX6_isSteady_42 (by decide) (fun c_6 => ?_) (fun c_6 => ?_)
    · have hf := iq c_6 hf
      refine lv_iconst (v := (0 : Int32)) hx hb dX6_isSteady_49 (by decide) ?_
      have ho := okI hf
      subst ho
      exact m_zret (v := false) hx hb hr hlocks hP hD hS rfl dX6_isSteady_50
    · have hf := ip c_6 hf
      refine lv_iconst (v := (1 : Int32)) hx hb dX6_isSteady_45 (by decide) ?_
      refine lv_goto (tgt := 50) hx hb dX6_isSteady_46 (by decide) ?_
      have ho := okI hf
      subst ho
      exact m_zret (v := true) hx hb hr hlocks hP hD hS rfl dX6_isSteady_50
  · have hf := ip c_3 hf
    refine lv_iconst (v := (1 : Int32)) hx hb dX6_isSteady_19 (by decide) ?_
    have ho := okI hf
    subst ho
    exact m_zret (v := true) hx hb hr hlocks hP hD hS rfl dX6_isSteady_20

abbrev rmX6_lineByLevel_k : Room := { frames := 3, cells := 0, slots := 0, locals := 68 }
theorem fiX6_lineByLevel_k_X6 : ∀ w ∈ wsX60, w ∈ wsX6_lineByLevel := by decide +kernel
theorem flX6_lineByLevel_k_10 : (.fieldLink RX6 10 "ContourLabels" "sheet" "LContourLabels$Sheet;" : Cond) ∈ wsX6_lineByLevel := by decide +kernel
set_option maxHeartbeats 4000000 in
set_option maxRecDepth 100000 in
theorem cX6_lineByLevel_k_ok (l : Launch) (g : Gg) (c0 h k0 x0 d0 a1 a2 a3 a4 : Nat) (σ : Sh) (p0 : Int32) (sz : Nat) {o : Int32} (hf : fX6_lineByLevel σ p0 = some (.ok o)) : Met l yX6_lineByLevel wsX6_lineByLevel rmX6_lineByLevel_k (va_Pc [.ref c0, .int p0] (PM g (wC c0 h k0 x0 d0 ++ (wS g h a1 a2 a3 a4 σ)) sz)) (va_Qi (fun r' (_ : Unit) => r' = o) (fun _ t => PQ g (wC c0 h k0 x0 d0 ++ (wS g h a1 a2 a3 a4 σ)) (va_A (wC c0 h k0 x0 d0 ++ (wS g h a1 a2 a3 a4 σ)) sz) t) (va_A (wC c0 h k0 x0 d0 ++ (wS g h a1 a2 a3 a4 σ)) sz)) 0 0 (va_A (wC c0 h k0 x0 d0 ++ (wS g h a1 a2 a3 a4 σ)) sz) := by
  refine Met.ofW (cc := cX6_lineByLevel) (maxL := 2) (ret := (some .int)) (by decide) rfl ?_
  intro p e s m args below meth c s₁ B hml hv
  obtain ⟨rfl, rfl, hP, hD0, hE, hZ⟩ := hv
  have hx := B.exec
  have hb := B.bytes
  have hr := B.returns
  have hts := atoms_spec (ws := wsX6_lineByLevel) B.pre
  have hown : s.vm.findClass RX6 = some m.cls := findClass_of_methodNamed B.named
  have hlocks := B.notSynchronized
  have hD := hD0.self (sz := s.heap.size)
  generalize hAe : (va_A (wC c0 h k0 x0 d0 ++ (wS g h a1 a2 a3 a4 σ)) s.heap.size) = A at hD hZ ⊢
  have hA : ∀ q : Nat, s.heap.size ≤ q → A q := fun q h => by rw [← hAe]; exact Or.inr h
  have hS : va_S A s.heap s.heap [] := va_S.rf
  have hP : va_P g.1 vwCl (wC c0 h k0 x0 d0 ++ (wS g h a1 a2 a3 a4 σ)) s.heap := hP
  have hl := lv_entry ([.ref c0, .int p0]) (n := 2) (Nat.le_of_ble_eq_true rfl)
  rw [lg_entry_eq]
  generalize (lg_sl ([.ref c0, .int p0]) ++ List.replicate (2 - (lg_sl ([.ref c0, .int p0])).length) Slot.unset).toArray = ls at hl ⊢
  have hl : lv_has ls 2 [(0, .ref c0), (1, .int p0)] := hl
  unfold fX6_lineByLevel at hf
  refine lv_aload_n hx hb dX6_lineByLevel_0 rfl (lv_at hl 0 rfl) ?_
  refine va_get (v := .ref h) (C := RX6) (T := TX6) (N := 4) hx hb hts fiX6_lineByLevel_k_X6 hown hE.1 hP 0 rfl rfl 0 (by decide) (hts _ flX6_lineByLevel_k_10) (fun _ h9 => h9) rfl dX6_lineByLevel_1 ?_
  refine lv_iload_n hx hb dX6_lineByLevel_4 rfl (lv_at hl 1 rfl) ?_
  obtain ⟨r_1, e_1, hf⟩ := bo hf
  refine pcallV (W0 := (wC c0 h k0 x0 d0 ++ (wS g h a1 a2 a3 a4 σ))) (As := [.int p0]) (rest := []) [1, 2, 3, 4, 5] 3 0 ⟨hx, hb, hml, hown, hts⟩ hP hE hZ hS (cX4_hasLine_ok l g h a1 a2 a3 a4 σ p0 e_1) (cwV 1 hts gX6_lineByLevel_X4_hasLine rfl rfl rfl hdX4_hasLine ⟨(Nat.le_of_ble_eq_true rfl), (Nat.le_of_ble_eq_true rfl)⟩) rfl rfl rfl rfl rfl hl.1 rfl (Nat.le_of_ble_eq_true rfl) ⟨(Nat.le_of_ble_eq_true rfl), (Nat.le_of_ble_eq_true rfl)⟩ dX6_lineByLevel_5 ?_
  refine lv_bne (tgt := 21) hx hb dX6_lineByLevel_8 (by decide) (fun c_2 => ?_) (fun c_2 => ?_)
  · have hf := ip c_2 hf
    refine lv_aload_n hx hb dX6_lineByLevel_21 rfl (lv_at hl 0 rfl) ?_
    refine va_get (v := .ref h) (C := RX6) (T := TX6) (N := 4) hx hb hts fiX6_lineByLevel_k_X6 hown hE.1 hP 0 rfl rfl 0 (by decide) (hts _ flX6_lineByLevel_k_10) (fun _ h9 => h9) rfl dX6_lineByLevel_22 ?_
    refine lv_iload_n hx hb dX6_lineByLevel_25 rfl (lv_at hl 1 rfl) ?_
    obtain ⟨r_3, e_3, hf⟩ := bo hf
    refine pcallV (W0 := (wC c0 h k0 x0 d0 ++ (wS g h a1 a2 a3 a4 σ))) (As := [.int p0]) (rest := []) [1, 2, 3, 4, 5] 3 0 ⟨hx, hb, hml, hown, hts⟩ hP hE hZ hS (cX4_lineOfRank_ok l g h a1 a2 a3 a4 σ p0 e_3) (cwV 1 hts gX6_lineByLevel_X4_lineOfRank rfl rfl rfl hdX4_lineOfRank ⟨(Nat.le_of_ble_eq_true rfl), (Nat.le_of_ble_eq_true rfl)⟩) rfl rfl rfl rfl rfl hl.1 rfl (Nat.le_of_ble_eq_true rfl) ⟨(Nat.le_of_ble_eq_true rfl), (Nat.le_of_ble_eq_true rfl)⟩ dX6_lineByLevel_26 ?_
    have ho := okI hf
    subst ho
    exact m_iret (v := r_3) hx hb hr hlocks hP hD hS rfl dX6_lineByLevel_29
  · have hf := iq c_2 hf
    exact nomatch (show (some (.error "java/lang/IndexOutOfBoundsException") : Option (Except String (Int32))) = some (.ok _) from hf)
