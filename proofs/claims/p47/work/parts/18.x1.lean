def fX1_savedAt (η : Hi) (p0 : Int32) : Option (Nat) := (if inR (irm ((H_old η) + p0) (5 : Int32)) 5 then (some (Int32.toNatClampNeg (irm ((H_old η) + p0) (5 : Int32)))) else none)
abbrev rmX1_savedAt : Room := { frames := 0, cells := 0, slots := 0, locals := 0 }
theorem hdX1_savedAt : yX1_savedAt.cls = RX1 ∧ yX1_savedAt.cls ≠ "java/lang/invoke/MethodHandle" ∧ yX1_savedAt.cls ≠ "java/lang/invoke/VarHandle" ∧ (parseMethodDescriptor yX1_savedAt.desc).map (fun d => d.parameters.length) = some 1 := by decide +kernel
theorem fiX1_savedAt_X1 : ∀ w ∈ wsX10, w ∈ wsX1_savedAt := by decide +kernel
theorem flX1_savedAt_11 : (.fieldLink RX1 11 "ContourLabels$History" "saved" "[LContourLabels$Sheet;" : Cond) ∈ wsX1_savedAt := by decide +kernel
theorem flX1_savedAt_24 : (.fieldLink RX1 24 "ContourLabels$History" "oldest" "I" : Cond) ∈ wsX1_savedAt := by decide +kernel
set_option maxHeartbeats 4000000 in
set_option maxRecDepth 100000 in
theorem cX1_savedAt_ok (l : Launch) (g : Gg) (k0 k1 : Nat) (γ : Nat → Nat → Nat) (η : Hi) (p0 : Int32) {r : Nat} (hf : fX1_savedAt η p0 = some r) : Met l yX1_savedAt wsX1_savedAt rmX1_savedAt (va_Pc [.ref k0, .int p0] (PP g (wH g k0 k1 γ η))) (va_Sr (fun k' => k' = r) (fun k => .ref (γ k 0))) 0 0 (fun _ => False) := by
  refine Met.ofW (cc := cX1_savedAt) (maxL := 2) (ret := (some (.object "ContourLabels$Sheet"))) (by decide) rfl ?_
  intro p e s m args below meth c s₁ B hml hv
  obtain ⟨rfl, hP, hE, hZ⟩ := hv
  have hx := B.exec
  have hb := B.bytes
  have hr := B.returns
  have hts := atoms_spec (ws := wsX1_savedAt) B.pre
  have hown : s.vm.findClass RX1 = some m.cls := findClass_of_methodNamed B.named
  have hlocks := B.notSynchronized
  have hS : va_S (fun _ => False) s.heap s.heap [] := va_S.rf
  have hl := lv_entry ([.ref k0, .int p0]) (n := 2) (Nat.le_of_ble_eq_true rfl)
  rw [lg_entry_eq]
  generalize (lg_sl ([.ref k0, .int p0]) ++ List.replicate (2 - (lg_sl ([.ref k0, .int p0])).length) Slot.unset).toArray = ls at hl ⊢
  have hl : lv_has ls 2 [(0, .ref k0), (1, .int p0)] := hl
  unfold fX1_savedAt at hf
  refine lv_aload_n hx hb dX1_savedAt_0 rfl (lv_at hl 0 rfl) ?_
  refine va_get (v := .ref k1) (C := RX1) (T := TX1) (N := 5) hx hb hts fiX1_savedAt_X1 hown hE.1 hP 0 rfl rfl 0 (by decide) (hts _ flX1_savedAt_11) (fun _ h9 => h9) rfl dX1_savedAt_1 ?_
  refine lv_aload_n hx hb dX1_savedAt_4 rfl (lv_at hl 0 rfl) ?_
  refine va_get (v := .int (H_old η)) (C := RX1) (T := TX1) (N := 5) hx hb hts fiX1_savedAt_X1 hown hE.1 hP 0 rfl rfl 1 (by decide) (hts _ flX1_savedAt_24) (fun _ h9 => h9) rfl dX1_savedAt_5 ?_
  refine lv_iload_n hx hb dX1_savedAt_8 rfl (lv_at hl 1 rfl) ?_
  refine lv_iadd hx hb dX1_savedAt_9 ?_
  refine lv_iconst (v := (5 : Int32)) hx hb dX1_savedAt_10 (by decide) ?_
  refine lv_irm hx hb dX1_savedAt_11 (by decide) ?_
  obtain ⟨h_1, hf⟩ := ck hf
  refine va_aldq hx hb hE.1 hP 1 1 rfl rfl (vin h_1) dX1_savedAt_12 ?_
  exact p_aret (k := (Int32.toNatClampNeg (irm ((H_old η) + p0) (5 : Int32)))) (ad := fun k => .ref (γ k 0)) hx hb hr hlocks (fun _ => ⟨_, rfl⟩) (Option.some.inj hf) dX1_savedAt_13

theorem fX1_savedAt_lt {η : Hi} {p0 : Int32} {r : Nat} (h : fX1_savedAt η p0 = some r) : r = 0 ∨ r = 1 ∨ r = 2 ∨ r = 3 ∨ r = 4 := by
  unfold fX1_savedAt at h
  obtain ⟨h1, h2⟩ := ck h
  have h3 := Option.some.inj h2
  have h4 : r < 5 := by rw [← h3]; exact Nat.not_le.mp (fun q => h1 (Or.inr q))
  omega

def fX1_copy (σ : Sh) (ρ : Sh) : Option (Sh) := ((fX4_copyFrom σ ρ).bind fun r_1 => (some r_1))
abbrev rmX1_copy : Room := { frames := 2, cells := 0, slots := 0, locals := 61 }
theorem hdX1_copy : yX1_copy.cls = RX1 ∧ yX1_copy.cls ≠ "java/lang/invoke/MethodHandle" ∧ yX1_copy.cls ≠ "java/lang/invoke/VarHandle" ∧ (parseMethodDescriptor yX1_copy.desc).map (fun d => d.parameters.length) = some 2 := by decide +kernel
set_option maxHeartbeats 4000000 in
set_option maxRecDepth 100000 in
theorem cX1_copy_ok (l : Launch) (g : Gg) (h a1 a2 a3 a4 h2 b1 b2 b3 b4 : Nat) (σ : Sh) (ρ : Sh) (sz : Nat) {o : Sh} (hf : fX1_copy σ ρ = some o) : Met l yX1_copy wsX1_copy rmX1_copy (va_Pc [.ref h2, .ref h] (PM g (wS g h a1 a2 a3 a4 σ ++ (wS g h2 b1 b2 b3 b4 ρ)) sz)) (va_Qv (fun _ : Unit => True) (fun _ t => PQ g (wS g h a1 a2 a3 a4 o ++ (wS g h2 b1 b2 b3 b4 ρ)) (va_A (wS g h a1 a2 a3 a4 σ ++ (wS g h2 b1 b2 b3 b4 ρ)) sz) t) (va_A (wS g h a1 a2 a3 a4 σ ++ (wS g h2 b1 b2 b3 b4 ρ)) sz)) 0 0 (va_A (wS g h a1 a2 a3 a4 σ ++ (wS g h2 b1 b2 b3 b4 ρ)) sz) := by
  refine Met.ofW (cc := cX1_copy) (maxL := 2) (ret := none) (by decide) rfl ?_
  intro p e s m args below meth c s₁ B hml hv
  obtain ⟨rfl, rfl, hP, hD0, hE, hZ⟩ := hv
  have hx := B.exec
  have hb := B.bytes
  have hr := B.returns
  have hts := atoms_spec (ws := wsX1_copy) B.pre
  have hown : s.vm.findClass RX1 = some m.cls := findClass_of_methodNamed B.named
  have hlocks := B.notSynchronized
  have hD := hD0.self (sz := s.heap.size)
  generalize hAe : (va_A (wS g h a1 a2 a3 a4 σ ++ (wS g h2 b1 b2 b3 b4 ρ)) s.heap.size) = A at hD hZ ⊢
  have hA : ∀ q : Nat, s.heap.size ≤ q → A q := fun q h => by rw [← hAe]; exact Or.inr h
  have hS : va_S A s.heap s.heap [] := va_S.rf
  have hP : va_P g.1 vwCl (wS g h a1 a2 a3 a4 σ ++ (wS g h2 b1 b2 b3 b4 ρ)) s.heap := hP
  have hl := lv_entry ([.ref h2, .ref h]) (n := 2) (Nat.le_of_ble_eq_true rfl)
  rw [lg_entry_eq]
  generalize (lg_sl ([.ref h2, .ref h]) ++ List.replicate (2 - (lg_sl ([.ref h2, .ref h])).length) Slot.unset).toArray = ls at hl ⊢
  have hl : lv_has ls 2 [(0, .ref h2), (1, .ref h)] := hl
  unfold fX1_copy at hf
  refine lv_aload_n hx hb dX1_copy_0 rfl (lv_at hl 0 rfl) ?_
  refine lv_ifnull hx hb dX1_copy_1 ?_
  refine lv_aload_n hx hb dX1_copy_4 rfl (lv_at hl 1 rfl) ?_
  refine lv_ifnull hx hb dX1_copy_5 ?_
  refine lv_aload_n hx hb dX1_copy_8 rfl (lv_at hl 1 rfl) ?_
  refine lv_aload_n hx hb dX1_copy_9 rfl (lv_at hl 0 rfl) ?_
  obtain ⟨r_1, e_1, hf⟩ := bo hf
  refine mcallVv (W0 := (wS g h a1 a2 a3 a4 σ ++ (wS g h2 b1 b2 b3 b4 ρ))) (Wc := (wS g h a1 a2 a3 a4 σ ++ (wS g h2 b1 b2 b3 b4 ρ))) (Wr := ([] : va_W)) (W1 := (wS g h a1 a2 a3 a4 r_1 ++ (wS g h2 b1 b2 b3 b4 ρ))) (W2 := (wS g h a1 a2 a3 a4 r_1 ++ (wS g h2 b1 b2 b3 b4 ρ))) (As := [.ref h2]) (rest := []) [0, 1, 2, 3, 4, 5, 6, 7, 8, 9] [] [0, 1, 2, 3, 4, 5, 6, 7, 8, 9] 3 0 ⟨hx, hb, hml, hown, hts⟩ hP hD hE hZ hS hA (cX4_copyFrom_ok l g h a1 a2 a3 a4 h2 b1 b2 b3 b4 σ ρ _ e_1) (cwV 1 hts gX1_copy_X4_copyFrom rfl rfl rfl hdX4_copyFrom ⟨(Nat.le_of_ble_eq_true rfl), (Nat.le_of_ble_eq_true rfl)⟩) rfl rfl rfl (by decide) (by decide) (by decide) (by decide) rfl rfl rfl rfl hl.1 rfl (Nat.le_of_ble_eq_true rfl) ⟨(Nat.le_of_ble_eq_true rfl), (Nat.le_of_ble_eq_true rfl)⟩ dX1_copy_10 (fun H locs hP hD hS => ?_)
  have ho := Option.some.inj hf
  subst ho
  exact m_vret hx hb hr hlocks hP hD hS dX1_copy_13

def fX1_save (σ : Sh) (η : Hi) : Option (Hi) := (if (H_cnt η) = (5 : Int32) then ((fX1_savedAt (H_cnt' (H_old' η (irm ((H_old η) + (1 : Int32)) (5 : Int32))) ((H_cnt η) - (1 : Int32))) ((H_cnt η) - (1 : Int32))).bind fun r_9 => ((fX1_copy (H_sv η r_9) σ).bind fun r_10 => (some (H_cnt' (H_sv' (H_cnt' (H_old' η (irm ((H_old η) + (1 : Int32)) (5 : Int32))) ((H_cnt η) - (1 : Int32))) (updS (H_sv η) r_9 r_10)) (((H_cnt η) - (1 : Int32)) + (1 : Int32)))))) else ((fX1_savedAt η (H_cnt η)).bind fun r_2 => ((fX1_copy (H_sv η r_2) σ).bind fun r_3 => (some (H_cnt' (H_sv' η (updS (H_sv η) r_2 r_3)) ((H_cnt η) + (1 : Int32)))))))
abbrev rmX1_save : Room := { frames := 3, cells := 0, slots := 0, locals := 82 }
theorem hdX1_save : yX1_save.cls = RX1 ∧ yX1_save.cls ≠ "java/lang/invoke/MethodHandle" ∧ yX1_save.cls ≠ "java/lang/invoke/VarHandle" ∧ (parseMethodDescriptor yX1_save.desc).map (fun d => d.parameters.length) = some 1 := by decide +kernel
theorem fiX1_save_X1 : ∀ w ∈ wsX10, w ∈ wsX1_save := by decide +kernel
theorem flX1_save_20 : (.fieldLink RX1 20 "ContourLabels$History" "savedCount" "I" : Cond) ∈ wsX1_save := by decide +kernel
theorem flX1_save_24 : (.fieldLink RX1 24 "ContourLabels$History" "oldest" "I" : Cond) ∈ wsX1_save := by decide +kernel
set_option maxHeartbeats 4000000 in
set_option maxRecDepth 100000 in
theorem cX1_save_ok (l : Launch) (g : Gg) (h a1 a2 a3 a4 k0 k1 : Nat) (γ : Nat → Nat → Nat) (σ : Sh) (η : Hi) (sz : Nat) {o : Hi} (hf : fX1_save σ η = some o) : Met l yX1_save wsX1_save rmX1_save (va_Pc [.ref k0, .ref h] (PM g (wS g h a1 a2 a3 a4 σ ++ (wH g k0 k1 γ η)) sz)) (va_Qv (fun _ : Unit => True) (fun _ t => PQ g (wS g h a1 a2 a3 a4 σ ++ (wH g k0 k1 γ o)) (va_A (wS g h a1 a2 a3 a4 σ ++ (wH g k0 k1 γ η)) sz) t) (va_A (wS g h a1 a2 a3 a4 σ ++ (wH g k0 k1 γ η)) sz)) 0 0 (va_A (wS g h a1 a2 a3 a4 σ ++ (wH g k0 k1 γ η)) sz) := by
  refine Met.ofW (cc := cX1_save) (maxL := 2) (ret := none) (by decide) rfl ?_
  intro p e s m args below meth c s₁ B hml hv
  obtain ⟨rfl, rfl, hP, hD0, hE, hZ⟩ := hv
  have hx := B.exec
  have hb := B.bytes
  have hr := B.returns
  have hts := atoms_spec (ws := wsX1_save) B.pre
  have hown : s.vm.findClass RX1 = some m.cls := findClass_of_methodNamed B.named
  have hlocks := B.notSynchronized
  have hD := hD0.self (sz := s.heap.size)
  generalize hAe : (va_A (wS g h a1 a2 a3 a4 σ ++ (wH g k0 k1 γ η)) s.heap.size) = A at hD hZ ⊢
  have hA : ∀ q : Nat, s.heap.size ≤ q → A q := fun q h => by rw [← hAe]; exact Or.inr h
  have hS : va_S A s.heap s.heap [] := va_S.rf
  have hP : va_P g.1 vwCl (wS g h a1 a2 a3 a4 σ ++ (wH g k0 k1 γ η)) s.heap := hP
  have hl := lv_entry ([.ref k0, .ref h]) (n := 2) (Nat.le_of_ble_eq_true rfl)
  rw [lg_entry_eq]
  generalize (lg_sl ([.ref k0, .ref h]) ++ List.replicate (2 - (lg_sl ([.ref k0, .ref h])).length) Slot.unset).toArray = ls at hl ⊢
  have hl : lv_has ls 2 [(0, .ref k0), (1, .ref h)] := hl
  unfold fX1_save at hf
  refine lv_aload_n hx hb dX1_save_0 rfl (lv_at hl 0 rfl) ?_
  refine va_get (v := .int (H_cnt η)) (C := RX1) (T := TX1) (N := 5) hx hb hts fiX1_save_X1 hown hE.1 hP 5 rfl rfl 2 (by decide) (hts _ flX1_save_20) (fun _ h9 => h9) rfl dX1_save_1 ?_
  refine lv_iconst (v := (5 : Int32)) hx hb dX1_save_4 (by decide) ?_
  refine lv_icmp_ne (tgt := 30) hx hb dX1_save_5 (by decide) (fun c_1 => ?_) (fun c_1 => ?_)
  · have hf := iq c_1 hf
    refine lv_aload_n hx hb dX1_save_30 rfl (lv_at hl 1 rfl) ?_
    refine lv_aload_n hx hb dX1_save_31 rfl (lv_at hl 0 rfl) ?_
    refine lv_aload_n hx hb dX1_save_32 rfl (lv_at hl 0 rfl) ?_
    refine va_get (v := .int (H_cnt η)) (C := RX1) (T := TX1) (N := 5) hx hb hts fiX1_save_X1 hown hE.1 hP 5 rfl rfl 2 (by decide) (hts _ flX1_save_20) (fun _ h9 => h9) rfl dX1_save_33 ?_
    obtain ⟨r_2, e_2, hf⟩ := bo hf
    refine pcallVr (ad := fun k => .ref (γ k 0)) (W0 := (wS g h a1 a2 a3 a4 σ ++ (wH g k0 k1 γ η))) (As := [.int (H_cnt η)]) (rest := [.ref h]) [5, 6, 7, 8, 9, 10, 11, 12, 13, 14, 15, 16, 17, 18, 19, 20, 21, 22, 23, 24, 25, 26, 27, 28, 29, 30, 31, 32, 33, 34, 35, 36] 1 0 ⟨hx, hb, hml, hown, hts⟩ hP hE hZ hS (cX1_savedAt_ok l g k0 k1 γ η (H_cnt η) e_2) (cwV 1 hts gX1_save_X1_savedAt rfl rfl rfl hdX1_savedAt ⟨(Nat.le_of_ble_eq_true rfl), (Nat.le_of_ble_eq_true rfl)⟩) rfl rfl rfl rfl rfl hl.1 rfl (Nat.le_of_ble_eq_true rfl) ⟨(Nat.le_of_ble_eq_true rfl), (Nat.le_of_ble_eq_true rfl)⟩ dX1_save_36 ?_
    have q_2 := fX1_savedAt_lt e_2
    rcases q_2 with rfl | rfl | rfl | rfl | rfl
    · obtain ⟨r_4, e_4, hf⟩ := bo hf
      refine mcallSv (W0 := (wS g h a1 a2 a3 a4 σ ++ (wH g k0 k1 γ η))) (Wc := (wS g (γ 0 0) (γ 0 1) (γ 0 2) (γ 0 3) (γ 0 4) (H_sv η 0) ++ (wS g h a1 a2 a3 a4 σ))) (Wr := ([(k0, .inr (1, [.ref k1, .int (H_old η), .int (H_cnt η), .ref (γ 5 0), .int (b2i (H_tk η))]))] ++ ([(k1, .inl (g.2.1 1, 5, .inr (.inr (.inr (.inr (fun k => some (γ k 0)))))))] ++ (wS g (γ 1 0) (γ 1 1) (γ 1 2) (γ 1 3) (γ 1 4) (H_sv η 1) ++ (wS g (γ 2 0) (γ 2 1) (γ 2 2) (γ 2 3) (γ 2 4) (H_sv η 2) ++ (wS g (γ 3 0) (γ 3 1) (γ 3 2) (γ 3 3) (γ 3 4) (H_sv η 3) ++ (wS g (γ 4 0) (γ 4 1) (γ 4 2) (γ 4 3) (γ 4 4) (H_sv η 4) ++ (wS g (γ 5 0) (γ 5 1) (γ 5 2) (γ 5 3) (γ 5 4) (H_sn η))))))))) (W1 := (wS g (γ 0 0) (γ 0 1) (γ 0 2) (γ 0 3) (γ 0 4) r_4 ++ (wS g h a1 a2 a3 a4 σ))) (W2 := (wS g h a1 a2 a3 a4 σ ++ (wH g k0 k1 γ (H_sv' η (updS (H_sv η) 0 r_4))))) (As := [.ref h, .ref (γ 0 0)]) (rest := []) [7, 8, 9, 10, 11, 0, 1, 2, 3, 4] [5, 6, 12, 13, 14, 15, 16, 17, 18, 19, 20, 21, 22, 23, 24, 25, 26, 27, 28, 29, 30, 31, 32, 33, 34, 35, 36] [32, 33, 34, 35, 36, 0, 1, 27, 28, 29, 30, 31, 2, 3, 4, 5, 6, 7, 8, 9, 10, 11, 12, 13, 14, 15, 16, 17, 18, 19, 20, 21, 22, 23, 24, 25, 26] ⟨hx, hb, hml, hown, hts⟩ hP hD hE hZ hS hA (cX1_copy_ok l g (γ 0 0) (γ 0 1) (γ 0 2) (γ 0 3) (γ 0 4) h a1 a2 a3 a4 (H_sv η 0) σ _ e_4) (va_cwS 2 hts gX1_save_X1_copy rfl rfl rfl hdX1_copy.2 ⟨(Nat.le_of_ble_eq_true rfl), (Nat.le_of_ble_eq_true rfl)⟩) rfl rfl rfl (by decide) (by decide) (by decide) (by decide) rfl hl.1 rfl (Nat.le_of_ble_eq_true rfl) ⟨(Nat.le_of_ble_eq_true rfl), (Nat.le_of_ble_eq_true rfl)⟩ dX1_save_39 (fun H locs hP hD hS => ?_)
      refine lv_aload_n hx hb dX1_save_42 rfl (lv_at hl 0 rfl) ?_
      refine lv_dup hx hb dX1_save_43 rfl ?_
      refine va_get (v := .int (H_cnt η)) (C := RX1) (T := TX1) (N := 5) hx hb hts fiX1_save_X1 hown hE.1 hP 5 rfl rfl 2 (by decide) (hts _ flX1_save_20) (fun _ h9 => h9) rfl dX1_save_44 ?_
      refine lv_iconst (v := (1 : Int32)) hx hb dX1_save_47 (by decide) ?_
      refine lv_iadd hx hb dX1_save_48 ?_
      refine va_put (v := .int ((H_cnt η) + (1 : Int32))) (ty := .int) (C := RX1) (T := TX1) (N := 5) hx hb hts fiX1_save_X1 tyX1 tyX1_ok nmX1 hown hE.1 hP hD hS 5 rfl rfl 2 (by decide) (hts _ flX1_save_20) (fun _ h9 => h9) rfl (by decide +kernel) rfl rfl (Nat.le_of_ble_eq_true rfl) dX1_save_49 (fun H locs hP hD hS => ?_)
      have hP : va_P g.1 vwCl (wS g h a1 a2 a3 a4 σ ++ (wH g k0 k1 γ (H_cnt' (H_sv' η (updS (H_sv η) 0 r_4)) ((H_cnt η) + (1 : Int32))))) H := hP
      have hD : va_D A (wS g h a1 a2 a3 a4 σ ++ (wH g k0 k1 γ (H_cnt' (H_sv' η (updS (H_sv η) 0 r_4)) ((H_cnt η) + (1 : Int32))))) := hD
      have ho := Option.some.inj hf
      subst ho
      exact m_vret hx hb hr hlocks hP hD hS dX1_save_52
    · obtain ⟨r_5, e_5, hf⟩ := bo hf
      refine mcallSv (W0 := (wS g h a1 a2 a3 a4 σ ++ (wH g k0 k1 γ η))) (Wc := (wS g (γ 1 0) (γ 1 1) (γ 1 2) (γ 1 3) (γ 1 4) (H_sv η 1) ++ (wS g h a1 a2 a3 a4 σ))) (Wr := ([(k0, .inr (1, [.ref k1, .int (H_old η), .int (H_cnt η), .ref (γ 5 0), .int (b2i (H_tk η))]))] ++ ([(k1, .inl (g.2.1 1, 5, .inr (.inr (.inr (.inr (fun k => some (γ k 0)))))))] ++ (wS g (γ 0 0) (γ 0 1) (γ 0 2) (γ 0 3) (γ 0 4) (H_sv η 0) ++ (wS g (γ 2 0) (γ 2 1) (γ 2 2) (γ 2 3) (γ 2 4) (H_sv η 2) ++ (wS g (γ 3 0) (γ 3 1) (γ 3 2) (γ 3 3) (γ 3 4) (H_sv η 3) ++ (wS g (γ 4 0) (γ 4 1) (γ 4 2) (γ 4 3) (γ 4 4) (H_sv η 4) ++ (wS g (γ 5 0) (γ 5 1) (γ 5 2) (γ 5 3) (γ 5 4) (H_sn η))))))))) (W1 := (wS g (γ 1 0) (γ 1 1) (γ 1 2) (γ 1 3) (γ 1 4) r_5 ++ (wS g h a1 a2 a3 a4 σ))) (W2 := (wS g h a1 a2 a3 a4 σ ++ (wH g k0 k1 γ (H_sv' η (updS (H_sv η) 1 r_5))))) (As := [.ref h, .ref (γ 1 0)]) (rest := []) [12, 13, 14, 15, 16, 0, 1, 2, 3, 4] [5, 6, 7, 8, 9, 10, 11, 17, 18, 19, 20, 21, 22, 23, 24, 25, 26, 27, 28, 29, 30, 31, 32, 33, 34, 35, 36] [32, 33, 34, 35, 36, 0, 1, 2, 3, 4, 5, 6, 27, 28, 29, 30, 31, 7, 8, 9, 10, 11, 12, 13, 14, 15, 16, 17, 18, 19, 20, 21, 22, 23, 24, 25, 26] ⟨hx, hb, hml, hown, hts⟩ hP hD hE hZ hS hA (cX1_copy_ok l g (γ 1 0) (γ 1 1) (γ 1 2) (γ 1 3) (γ 1 4) h a1 a2 a3 a4 (H_sv η 1) σ _ e_5) (va_cwS 2 hts gX1_save_X1_copy rfl rfl rfl hdX1_copy.2 ⟨(Nat.le_of_ble_eq_true rfl), (Nat.le_of_ble_eq_true rfl)⟩) rfl rfl rfl (by decide) (by decide) (by decide) (by decide) rfl hl.1 rfl (Nat.le_of_ble_eq_true rfl) ⟨(Nat.le_of_ble_eq_true rfl), (Nat.le_of_ble_eq_true rfl)⟩ dX1_save_39 (fun H locs hP hD hS => ?_)
      refine lv_aload_n hx hb dX1_save_42 rfl (lv_at hl 0 rfl) ?_
      refine lv_dup hx hb dX1_save_43 rfl ?_
      refine va_get (v := .int (H_cnt η)) (C := RX1) (T := TX1) (N := 5) hx hb hts fiX1_save_X1 hown hE.1 hP 5 rfl rfl 2 (by decide) (hts _ flX1_save_20) (fun _ h9 => h9) rfl dX1_save_44 ?_
      refine lv_iconst (v := (1 : Int32)) hx hb dX1_save_47 (by decide) ?_
      refine lv_iadd hx hb dX1_save_48 ?_
      refine va_put (v := .int ((H_cnt η) + (1 : Int32))) (ty := .int) (C := RX1) (T := TX1) (N := 5) hx hb hts fiX1_save_X1 tyX1 tyX1_ok nmX1 hown hE.1 hP hD hS 5 rfl rfl 2 (by decide) (hts _ flX1_save_20) (fun _ h9 => h9) rfl (by decide +kernel) rfl rfl (Nat.le_of_ble_eq_true rfl) dX1_save_49 (fun H locs hP hD hS => ?_)
      have hP : va_P g.1 vwCl (wS g h a1 a2 a3 a4 σ ++ (wH g k0 k1 γ (H_cnt' (H_sv' η (updS (H_sv η) 1 r_5)) ((H_cnt η) + (1 : Int32))))) H := hP
      have hD : va_D A (wS g h a1 a2 a3 a4 σ ++ (wH g k0 k1 γ (H_cnt' (H_sv' η (updS (H_sv η) 1 r_5)) ((H_cnt η) + (1 : Int32))))) := hD
      have ho := Option.some.inj hf
      subst ho
      exact m_vret hx hb hr hlocks hP hD hS dX1_save_52
    · obtain ⟨r_6, e_6, hf⟩ := bo hf
      refine mcallSv (W0 := (wS g h a1 a2 a3 a4 σ ++ (wH g k0 k1 γ η))) (Wc := (wS g (γ 2 0) (γ 2 1) (γ 2 2) (γ 2 3) (γ 2 4) (H_sv η 2) ++ (wS g h a1 a2 a3 a4 σ))) (Wr := ([(k0, .inr (1, [.ref k1, .int (H_old η), .int (H_cnt η), .ref (γ 5 0), .int (b2i (H_tk η))]))] ++ ([(k1, .inl (g.2.1 1, 5, .inr (.inr (.inr (.inr (fun k => some (γ k 0)))))))] ++ (wS g (γ 0 0) (γ 0 1) (γ 0 2) (γ 0 3) (γ 0 4) (H_sv η 0) ++ (wS g (γ 1 0) (γ 1 1) (γ 1 2) (γ 1 3) (γ 1 4) (H_sv η 1) ++ (wS g (γ 3 0) (γ 3 1) (γ 3 2) (γ 3 3) (γ 3 4) (H_sv η 3) ++ (wS g (γ 4 0) (γ 4 1) (γ 4 2) (γ 4 3) (γ 4 4) (H_sv η 4) ++ (wS g (γ 5 0) (γ 5 1) (γ 5 2) (γ 5 3) (γ 5 4) (H_sn η))))))))) (W1 := (wS g (γ 2 0) (γ 2 1) (γ 2 2) (γ 2 3) (γ 2 4) r_6 ++ (wS g h a1 a2 a3 a4 σ))) (W2 := (wS g h a1 a2 a3 a4 σ ++ (wH g k0 k1 γ (H_sv' η (updS (H_sv η) 2 r_6))))) (As := [.ref h, .ref (γ 2 0)]) (rest := []) [17, 18, 19, 20, 21, 0, 1, 2, 3, 4] [5, 6, 7, 8, 9, 10, 11, 12, 13, 14, 15, 16, 22, 23, 24, 25, 26, 27, 28, 29, 30, 31, 32, 33, 34, 35, 36] [32, 33, 34, 35, 36, 0, 1, 2, 3, 4, 5, 6, 7, 8, 9, 10, 11, 27, 28, 29, 30, 31, 12, 13, 14, 15, 16, 17, 18, 19, 20, 21, 22, 23, 24, 25, 26] ⟨hx, hb, hml, hown, hts⟩ hP hD hE hZ hS hA (cX1_copy_ok l g (γ 2 0) (γ 2 1) (γ 2 2) (γ 2 3) (γ 2 4) h a1 a2 a3 a4 (H_sv η 2) σ _ e_6) (va_cwS 2 hts gX1_save_X1_copy rfl rfl rfl hdX1_copy.2 ⟨(Nat.le_of_ble_eq_true rfl), (Nat.le_of_ble_eq_true rfl)⟩) rfl rfl rfl (by decide) (by decide) (by decide) (by decide) rfl hl.1 rfl (Nat.le_of_ble_eq_true rfl) ⟨(Nat.le_of_ble_eq_true rfl), (Nat.le_of_ble_eq_true rfl)⟩ dX1_save_39 (fun H locs hP hD hS => ?_)
      refine lv_aload_n hx hb dX1_save_42 rfl (lv_at hl 0 rfl) ?_
      refine lv_dup hx hb dX1_save_43 rfl ?_
      refine va_get (v := .int (H_cnt η)) (C := RX1) (T := TX1) (N := 5) hx hb hts fiX1_save_X1 hown hE.1 hP 5 rfl rfl 2 (by decide) (hts _ flX1_save_20) (fun _ h9 => h9) rfl dX1_save_44 ?_
      refine lv_iconst (v := (1 : Int32)) hx hb dX1_save_47 (by decide) ?_
      refine lv_iadd hx hb dX1_save_48 ?_
      refine va_put (v := .int ((H_cnt η) + (1 : Int32))) (ty := .int) (C := RX1) (T := TX1) (N := 5) hx hb hts fiX1_save_X1 tyX1 tyX1_ok nmX1 hown hE.1 hP hD hS 5 rfl rfl 2 (by decide) (hts _ flX1_save_20) (fun _ h9 => h9) rfl (by decide +kernel) rfl rfl (Nat.le_of_ble_eq_true rfl) dX1_save_49 (fun H locs hP hD hS => ?_)
      have hP : va_P g.1 vwCl (wS g h a1 a2 a3 a4 σ ++ (wH g k0 k1 γ (H_cnt' (H_sv' η (updS (H_sv η) 2 r_6)) ((H_cnt η) + (1 : Int32))))) H := hP
      have hD : va_D A (wS g h a1 a2 a3 a4 σ ++ (wH g k0 k1 γ (H_cnt' (H_sv' η (updS (H_sv η) 2 r_6)) ((H_cnt η) + (1 : Int32))))) := hD
      have ho := Option.some.inj hf
      subst ho
      exact m_vret hx hb hr hlocks hP hD hS dX1_save_52
    · obtain ⟨r_7, e_7, hf⟩ := bo hf
      refine mcallSv (W0 := (wS g h a1 a2 a3 a4 σ ++ (wH g k0 k1 γ η))) (Wc := (wS g (γ 3 0) (γ 3 1) (γ 3 2) (γ 3 3) (γ 3 4) (H_sv η 3) ++ (wS g h a1 a2 a3 a4 σ))) (Wr := ([(k0, .inr (1, [.ref k1, .int (H_old η), .int (H_cnt η), .ref (γ 5 0), .int (b2i (H_tk η))]))] ++ ([(k1, .inl (g.2.1 1, 5, .inr (.inr (.inr (.inr (fun k => some (γ k 0)))))))] ++ (wS g (γ 0 0) (γ 0 1) (γ 0 2) (γ 0 3) (γ 0 4) (H_sv η 0) ++ (wS g (γ 1 0) (γ 1 1) (γ 1 2) (γ 1 3) (γ 1 4) (H_sv η 1) ++ (wS g (γ 2 0) (γ 2 1) (γ 2 2) (γ 2 3) (γ 2 4) (H_sv η 2) ++ (wS g (γ 4 0) (γ 4 1) (γ 4 2) (γ 4 3) (γ 4 4) (H_sv η 4) ++ (wS g (γ 5 0) (γ 5 1) (γ 5 2) (γ 5 3) (γ 5 4) (H_sn η))))))))) (W1 := (wS g (γ 3 0) (γ 3 1) (γ 3 2) (γ 3 3) (γ 3 4) r_7 ++ (wS g h a1 a2 a3 a4 σ))) (W2 := (wS g h a1 a2 a3 a4 σ ++ (wH g k0 k1 γ (H_sv' η (updS (H_sv η) 3 r_7))))) (As := [.ref h, .ref (γ 3 0)]) (rest := []) [22, 23, 24, 25, 26, 0, 1, 2, 3, 4] [5, 6, 7, 8, 9, 10, 11, 12, 13, 14, 15, 16, 17, 18, 19, 20, 21, 27, 28, 29, 30, 31, 32, 33, 34, 35, 36] [32, 33, 34, 35, 36, 0, 1, 2, 3, 4, 5, 6, 7, 8, 9, 10, 11, 12, 13, 14, 15, 16, 27, 28, 29, 30, 31, 17, 18, 19, 20, 21, 22, 23, 24, 25, 26] ⟨hx, hb, hml, hown, hts⟩ hP hD hE hZ hS hA (cX1_copy_ok l g (γ 3 0) (γ 3 1) (γ 3 2) (γ 3 3) (γ 3 4) h a1 a2 a3 a4 (H_sv η 3) σ _ e_7) (va_cwS 2 hts gX1_save_X1_copy rfl rfl rfl hdX1_copy.2 ⟨(Nat.le_of_ble_eq_true rfl), (Nat.le_of_ble_eq_true rfl)⟩) rfl rfl rfl (by decide) (by decide) (by decide) (by decide) rfl hl.1 rfl (Nat.le_of_ble_eq_true rfl) ⟨(Nat.le_of_ble_eq_true rfl), (Nat.le_of_ble_eq_true rfl)⟩ dX1_save_39 (fun H locs hP hD hS => ?_)
      refine lv_aload_n hx hb dX1_save_42 rfl (lv_at hl 0 rfl) ?_
      refine lv_dup hx hb dX1_save_43 rfl ?_
      refine va_get (v := .int (H_cnt η)) (C := RX1) (T := TX1) (N := 5) hx hb hts fiX1_save_X1 hown hE.1 hP 5 rfl rfl 2 (by decide) (hts _ flX1_save_20) (fun _ h9 => h9) rfl dX1_save_44 ?_
      refine lv_iconst (v := (1 : Int32)) hx hb dX1_save_47 (by decide) ?_
      refine lv_iadd hx hb dX1_save_48 ?_
      refine va_put (v := .int ((H_cnt η) + (1 : Int32))) (ty := .int) (C := RX1) (T := TX1) (N := 5) hx hb hts fiX1_save_X1 tyX1 tyX1_ok nmX1 hown hE.1 hP hD hS 5 rfl rfl 2 (by decide) (hts _ flX1_save_20) (fun _ h9 => h9) rfl (by decide +kernel) rfl rfl (Nat.le_of_ble_eq_true rfl) dX1_save_49 (fun H locs hP hD hS => ?_)
      have hP : va_P g.1 vwCl (wS g h a1 a2 a3 a4 σ ++ (wH g k0 k1 γ (H_cnt' (H_sv' η (updS (H_sv η) 3 r_7)) ((H_cnt η) + (1 : Int32))))) H := hP
      have hD : va_D A (wS g h a1 a2 a3 a4 σ ++ (wH g k0 k1 γ (H_cnt' (H_sv' η (updS (H_sv η) 3 r_7)) ((H_cnt η) + (1 : Int32))))) := hD
      have ho := Option.some.inj hf
      subst ho
      exact m_vret hx hb hr hlocks hP hD hS dX1_save_52
    · obtain ⟨r_8, e_8, hf⟩ := bo hf
      refine mcallSv (W0 := (wS g h a1 a2 a3 a4 σ ++ (wH g k0 k1 γ η))) (Wc := (wS g (γ 4 0) (γ 4 1) (γ 4 2) (γ 4 3) (γ 4 4) (H_sv η 4) ++ (wS g h a1 a2 a3 a4 σ))) (Wr := ([(k0, .inr (1, [.ref k1, .int (H_old η), .int (H_cnt η), .ref (γ 5 0), .int (b2i (H_tk η))]))] ++ ([(k1, .inl (g.2.1 1, 5, .inr (.inr (.inr (.inr (fun k => some (γ k 0)))))))] ++ (wS g (γ 0 0) (γ 0 1) (γ 0 2) (γ 0 3) (γ 0 4) (H_sv η 0) ++ (wS g (γ 1 0) (γ 1 1) (γ 1 2) (γ 1 3) (γ 1 4) (H_sv η 1) ++ (wS g (γ 2 0) (γ 2 1) (γ 2 2) (γ 2 3) (γ 2 4) (H_sv η 2) ++ (wS g (γ 3 0) (γ 3 1) (γ 3 2) (γ 3 3) (γ 3 4) (H_sv η 3) ++ (wS g (γ 5 0) (γ 5 1) (γ 5 2) (γ 5 3) (γ 5 4) (H_sn η))))))))) (W1 := (wS g (γ 4 0) (γ 4 1) (γ 4 2) (γ 4 3) (γ 4 4) r_8 ++ (wS g h a1 a2 a3 a4 σ))) (W2 := (wS g h a1 a2 a3 a4 σ ++ (wH g k0 k1 γ (H_sv' η (updS (H_sv η) 4 r_8))))) (As := [.ref h, .ref (γ 4 0)]) (rest := []) [27, 28, 29, 30, 31, 0, 1, 2, 3, 4] [5, 6, 7, 8, 9, 10, 11, 12, 13, 14, 15, 16, 17, 18, 19, 20, 21, 22, 23, 24, 25, 26, 32, 33, 34, 35, 36] [32, 33, 34, 35, 36, 0, 1, 2, 3, 4, 5, 6, 7, 8, 9, 10, 11, 12, 13, 14, 15, 16, 17, 18, 19, 20, 21, 27, 28, 29, 30, 31, 22, 23, 24, 25, 26] ⟨hx, hb, hml, hown, hts⟩ hP hD hE hZ hS hA (cX1_copy_ok l g (γ 4 0) (γ 4 1) (γ 4 2) (γ 4 3) (γ 4 4) h a1 a2 a3 a4 (H_sv η 4) σ _ e_8) (va_cwS 2 hts gX1_save_X1_copy rfl rfl rfl hdX1_copy.2 ⟨(Nat.le_of_ble_eq_true rfl), (Nat.le_of_ble_eq_true rfl)⟩) rfl rfl rfl (by decide) (by decide) (by decide) (by decide) rfl hl.1 rfl (Nat.le_of_ble_eq_true rfl) ⟨(Nat.le_of_ble_eq_true rfl), (Nat.le_of_ble_eq_true rfl)⟩ dX1_save_39 (fun H locs hP hD hS => ?_)
      refine lv_aload_n hx hb dX1_save_42 rfl (lv_at hl 0 rfl) ?_
      refine lv_dup hx hb dX1_save_43 rfl ?_
      refine va_get (v := .int (H_cnt η)) (C := RX1) (T := TX1) (N := 5) hx hb hts fiX1_save_X1 hown hE.1 hP 5 rfl rfl 2 (by decide) (hts _ flX1_save_20) (fun _ h9 => h9) rfl dX1_save_44 ?_
      refine lv_iconst (v := (1 : Int32)) hx hb dX1_save_47 (by decide) ?_
      refine lv_iadd hx hb dX1_save_48 ?_
      refine va_put (v := .int ((H_cnt η) + (1 : Int32))) (ty := .int) (C := RX1) (T := TX1) (N := 5) hx hb hts fiX1_save_X1 tyX1 tyX1_ok nmX1 hown hE.1 hP hD hS 5 rfl rfl 2 (by decide) (hts _ flX1_save_20) (fun _ h9 => h9) rfl (by decide +kernel) rfl rfl (Nat.le_of_ble_eq_true rfl) dX1_save_49 (fun H locs hP hD hS => ?_)
      have hP : va_P g.1 vwCl (wS g h a1 a2 a3 a4 σ ++ (wH g k0 k1 γ (H_cnt' (H_sv' η (updS (H_sv η) 4 r_8)) ((H_cnt η) + (1 : Int32))))) H := hP
      have hD : va_D A (wS g h a1 a2 a3 a4 σ ++ (wH g k0 k1 γ (H_cnt' (H_sv' η (updS (H_sv η) 4 r_8)) ((H_cnt η) + (1 : Int32))))) := hD
      have ho := Option.some.inj hf
      subst ho
      exact m_vret hx hb hr hlocks hP hD hS dX1_save_52
  · have hf := ip c_1 hf
    refine lv_aload_n hx hb dX1_save_8 rfl (lv_at hl 0 rfl) ?_
    refine lv_aload_n hx hb dX1_save_9 rfl (lv_at hl 0 rfl) ?_
    refine va_get (v := .int (H_old η)) (C := RX1) (T := TX1) (N := 5) hx hb hts fiX1_save_X1 hown hE.1 hP 5 rfl rfl 1 (by decide) (hts _ flX1_save_24) (fun _ h9 => h9) rfl dX1_save_10 ?_
    refine lv_iconst (v := (1 : Int32)) hx hb dX1_save_13 (by decide) ?_
    refine lv_iadd hx hb dX1_save_14 ?_
    refine lv_iconst (v := (5 : Int32)) hx hb dX1_save_15 (by decide) ?_
    refine lv_irm hx hb dX1_save_16 (by decide) ?_
    refine va_put (v := .int (irm ((H_old η) + (1 : Int32)) (5 : Int32))) (ty := .int) (C := RX1) (T := TX1) (N := 5) hx hb hts fiX1_save_X1 tyX1 tyX1_ok nmX1 hown hE.1 hP hD hS 5 rfl rfl 1 (by decide) (hts _ flX1_save_24) (fun _ h9 => h9) rfl (by decide +kernel) rfl rfl (Nat.le_of_ble_eq_true rfl) dX1_save_17 (fun H locs hP hD hS => ?_)
    have hP : va_P g.1 vwCl (wS g h a1 a2 a3 a4 σ ++ (wH g k0 k1 γ (H_old' η (irm ((H_old η) + (1 : Int32)) (5 : Int32))))) H := hP
    have hD : va_D A (wS g h a1 a2 a3 a4 σ ++ (wH g k0 k1 γ (H_old' η (irm ((H_old η) + (1 : Int32)) (5 : Int32))))) := hD
    refine lv_aload_n hx hb dX1_save_20 rfl (lv_at hl 0 rfl) ?_
    refine lv_dup hx hb dX1_save_21 rfl ?_
    refine va_get (v := .int (H_cnt η)) (C := RX1) (T := TX1) (N := 5) hx hb hts fiX1_save_X1 hown hE.1 hP 5 rfl rfl 2 (by decide) (hts _ flX1_save_20) (fun _ h9 => h9) rfl dX1_save_22 ?_
    refine lv_iconst (v := (1 : Int32)) hx hb dX1_save_25 (by decide) ?_
    refine lv_isub hx hb dX1_save_26 ?_
    refine va_put (v := .int ((H_cnt η) - (1 : Int32))) (ty := .int) (C := RX1) (T := TX1) (N := 5) hx hb hts fiX1_save_X1 tyX1 tyX1_ok nmX1 hown hE.1 hP hD hS 5 rfl rfl 2 (by decide) (hts _ flX1_save_20) (fun _ h9 => h9) rfl (by decide +kernel) rfl rfl (Nat.le_of_ble_eq_true rfl) dX1_save_27 (fun H locs hP hD hS => ?_)
    have hP : va_P g.1 vwCl (wS g h a1 a2 a3 a4 σ ++ (wH g k0 k1 γ (H_cnt' (H_old' η (irm ((H_old η) + (1 : Int32)) (5 : Int32))) ((H_cnt η) - (1 : Int32))))) H := hP
    have hD : va_D A (wS g h a1 a2 a3 a4 σ ++ (wH g k0 k1 γ (H_cnt' (H_old' η (irm ((H_old η) + (1 : Int32)) (5 : Int32))) ((H_cnt η) - (1 : Int32))))) := hD
    refine lv_aload_n hx hb dX1_save_30 rfl (lv_at hl 1 rfl) ?_
    refine lv_aload_n hx hb dX1_save_31 rfl (lv_at hl 0 rfl) ?_
    refine lv_aload_n hx hb dX1_save_32 rfl (lv_at hl 0 rfl) ?_
    refine va_get (v := .int ((H_cnt η) - (1 : Int32))) (C := RX1) (T := TX1) (N := 5) hx hb hts fiX1_save_X1 hown hE.1 hP 5 rfl rfl 2 (by decide) (hts _ flX1_save_20) (fun _ h9 => h9) rfl dX1_save_33 ?_
    obtain ⟨r_9, e_9, hf⟩ := bo hf
    refine pcallVr (ad := fun k => .ref (γ k 0)) (W0 := (wS g h a1 a2 a3 a4 σ ++ (wH g k0 k1 γ (H_cnt' (H_old' η (irm ((H_old η) + (1 : Int32)) (5 : Int32))) ((H_cnt η) - (1 : Int32)))))) (As := [.int ((H_cnt η) - (1 : Int32))]) (rest := [.ref h]) [5, 6, 7, 8, 9, 10, 11, 12, 13, 14, 15, 16, 17, 18, 19, 20, 21, 22, 23, 24, 25, 26, 27, 28, 29, 30, 31, 32, 33, 34, 35, 36] 1 0 ⟨hx, hb, hml, hown, hts⟩ hP hE hZ hS (cX1_savedAt_ok l g k0 k1 γ (H_cnt' (H_old' η (irm ((H_old η) + (1 : Int32)) (5 : Int32))) ((H_cnt η) - (1 : Int32))) ((H_cnt η) - (1 : Int32)) e_9) (cwV 1 hts gX1_save_X1_savedAt rfl rfl rfl hdX1_savedAt ⟨(Nat.le_of_ble_eq_true rfl), (Nat.le_of_ble_eq_true rfl)⟩) rfl rfl rfl rfl rfl hl.1 rfl (Nat.le_of_ble_eq_true rfl) ⟨(Nat.le_of_ble_eq_true rfl), (Nat.le_of_ble_eq_true rfl)⟩ dX1_save_36 ?_
    have q_9 := fX1_savedAt_lt e_9
    rcases q_9 with rfl | rfl | rfl | rfl | rfl
    · obtain ⟨r_11, e_11, hf⟩ := bo hf
      refine mcallSv (W0 := (wS g h a1 a2 a3 a4 σ ++ (wH g k0 k1 γ (H_cnt' (H_old' η (irm ((H_old η) + (1 : Int32)) (5 : Int32))) ((H_cnt η) - (1 : Int32)))))) (Wc := (wS g (γ 0 0) (γ 0 1) (γ 0 2) (γ 0 3) (γ 0 4) (H_sv η 0) ++ (wS g h a1 a2 a3 a4 σ))) (Wr := ([(k0, .inr (1, [.ref k1, .int (H_old (H_cnt' (H_old' η (irm ((H_old η) + (1 : Int32)) (5 : Int32))) ((H_cnt η) - (1 : Int32)))), .int (H_cnt (H_cnt' (H_old' η (irm ((H_old η) + (1 : Int32)) (5 : Int32))) ((H_cnt η) - (1 : Int32)))), .ref (γ 5 0), .int (b2i (H_tk (H_cnt' (H_old' η (irm ((H_old η) + (1 : Int32)) (5 : Int32))) ((H_cnt η) - (1 : Int32)))))]))] ++ ([(k1, .inl (g.2.1 1, 5, .inr (.inr (.inr (.inr (fun k => some (γ k 0)))))))] ++ (wS g (γ 1 0) (γ 1 1) (γ 1 2) (γ 1 3) (γ 1 4) (H_sv (H_cnt' (H_old' η (irm ((H_old η) + (1 : Int32)) (5 : Int32))) ((H_cnt η) - (1 : Int32))) 1) ++ (wS g (γ 2 0) (γ 2 1) (γ 2 2) (γ 2 3) (γ 2 4) (H_sv (H_cnt' (H_old' η (irm ((H_old η) + (1 : Int32)) (5 : Int32))) ((H_cnt η) - (1 : Int32))) 2) ++ (wS g (γ 3 0) (γ 3 1) (γ 3 2) (γ 3 3) (γ 3 4) (H_sv (H_cnt' (H_old' η (irm ((H_old η) + (1 : Int32)) (5 : Int32))) ((H_cnt η) - (1 : Int32))) 3) ++ (wS g (γ 4 0) (γ 4 1) (γ 4 2) (γ 4 3) (γ 4 4) (H_sv (H_cnt' (H_old' η (irm ((H_old η) + (1 : Int32)) (5 : Int32))) ((H_cnt η) - (1 : Int32))) 4) ++ (wS g (γ 5 0) (γ 5 1) (γ 5 2) (γ 5 3) (γ 5 4) (H_sn (H_cnt' (H_old' η (irm ((H_old η) + (1 : Int32)) (5 : Int32))) ((H_cnt η) - (1 : Int32)))))))))))) (W1 := (wS g (γ 0 0) (γ 0 1) (γ 0 2) (γ 0 3) (γ 0 4) r_11 ++ (wS g h a1 a2 a3 a4 σ))) (W2 := (wS g h a1 a2 a3 a4 σ ++ (wH g k0 k1 γ (H_sv' (H_cnt' (H_old' η (irm ((H_old η) + (1 : Int32)) (5 : Int32))) ((H_cnt η) - (1 : Int32))) (updS (H_sv η) 0 r_11))))) (As := [.ref h, .ref (γ 0 0)]) (rest := []) [7, 8, 9, 10, 11, 0, 1, 2, 3, 4] [5, 6, 12, 13, 14, 15, 16, 17, 18, 19, 20, 21, 22, 23, 24, 25, 26, 27, 28, 29, 30, 31, 32, 33, 34, 35, 36] [32, 33, 34, 35, 36, 0, 1, 27, 28, 29, 30, 31, 2, 3, 4, 5, 6, 7, 8, 9, 10, 11, 12, 13, 14, 15, 16, 17, 18, 19, 20, 21, 22, 23, 24, 25, 26] ⟨hx, hb, hml, hown, hts⟩ hP hD hE hZ hS hA (cX1_copy_ok l g (γ 0 0) (γ 0 1) (γ 0 2) (γ 0 3) (γ 0 4) h a1 a2 a3 a4 (H_sv η 0) σ _ e_11) (va_cwS 2 hts gX1_save_X1_copy rfl rfl rfl hdX1_copy.2 ⟨(Nat.le_of_ble_eq_true rfl), (Nat.le_of_ble_eq_true rfl)⟩) rfl rfl rfl (by decide) (by decide) (by decide) (by decide) rfl hl.1 rfl (Nat.le_of_ble_eq_true rfl) ⟨(Nat.le_of_ble_eq_true rfl), (Nat.le_of_ble_eq_true rfl)⟩ dX1_save_39 (fun H locs hP hD hS => ?_)
      refine lv_aload_n hx hb dX1_save_42 rfl (lv_at hl 0 rfl) ?_
      refine lv_dup hx hb dX1_save_43 rfl ?_
      refine va_get (v := .int ((H_cnt η) - (1 : Int32))) (C := RX1) (T := TX1) (N := 5) hx hb hts fiX1_save_X1 hown hE.1 hP 5 rfl rfl 2 (by decide) (hts _ flX1_save_20) (fun _ h9 => h9) rfl dX1_save_44 ?_
      refine lv_iconst (v := (1 : Int32)) hx hb dX1_save_47 (by decide) ?_
      refine lv_iadd hx hb dX1_save_48 ?_
      refine va_put (v := .int (((H_cnt η) - (1 : Int32)) + (1 : Int32))) (ty := .int) (C := RX1) (T := TX1) (N := 5) hx hb hts fiX1_save_X1 tyX1 tyX1_ok nmX1 hown hE.1 hP hD hS 5 rfl rfl 2 (by decide) (hts _ flX1_save_20) (fun _ h9 => h9) rfl (by decide +kernel) rfl rfl (Nat.le_of_ble_eq_true rfl) dX1_save_49 (fun H locs hP hD hS => ?_)
      have hP : va_P g.1 vwCl (wS g h a1 a2 a3 a4 σ ++ (wH g k0 k1 γ (H_cnt' (H_sv' (H_cnt' (H_old' η (irm ((H_old η) + (1 : Int32)) (5 : Int32))) ((H_cnt η) - (1 : Int32))) (updS (H_sv η) 0 r_11)) (((H_cnt η) - (1 : Int32)) + (1 : Int32))))) H := hP
      have hD : va_D A (wS g h a1 a2 a3 a4 σ ++ (wH g k0 k1 γ (H_cnt' (H_sv' (H_cnt' (H_old' η (irm ((H_old η) + (1 : Int32)) (5 : Int32))) ((H_cnt η) - (1 : Int32))) (updS (H_sv η) 0 r_11)) (((H_cnt η) - (1 : Int32)) + (1 : Int32))))) := hD
      have ho := Option.some.inj hf
      subst ho
      exact m_vret hx hb hr hlocks hP hD hS dX1_save_52
    · obtain ⟨r_12, e_12, hf⟩ := bo hf
      refine mcallSv (W0 := (wS g h a1 a2 a3 a4 σ ++ (wH g k0 k1 γ (H_cnt' (H_old' η (irm ((H_old η) + (1 : Int32)) (5 : Int32))) ((H_cnt η) - (1 : Int32)))))) (Wc := (wS g (γ 1 0) (γ 1 1) (γ 1 2) (γ 1 3) (γ 1 4) (H_sv η 1) ++ (wS g h a1 a2 a3 a4 σ))) (Wr := ([(k0, .inr (1, [.ref k1, .int (H_old (H_cnt' (H_old' η (irm ((H_old η) + (1 : Int32)) (5 : Int32))) ((H_cnt η) - (1 : Int32)))), .int (H_cnt (H_cnt' (H_old' η (irm ((H_old η) + (1 : Int32)) (5 : Int32))) ((H_cnt η) - (1 : Int32)))), .ref (γ 5 0), .int (b2i (H_tk (H_cnt' (H_old' η (irm ((H_old η) + (1 : Int32)) (5 : Int32))) ((H_cnt η) - (1 : Int32)))))]))] ++ ([(k1, .inl (g.2.1 1, 5, .inr (.inr (.inr (.inr (fun k => some (γ k 0)))))))] ++ (wS g (γ 0 0) (γ 0 1) (γ 0 2) (γ 0 3) (γ 0 4) (H_sv (H_cnt' (H_old' η (irm ((H_old η) + (1 : Int32)) (5 : Int32))) ((H_cnt η) - (1 : Int32))) 0) ++ (wS g (γ 2 0) (γ 2 1) (γ 2 2) (γ 2 3) (γ 2 4) (H_sv (H_cnt' (H_old' η (irm ((H_old η) + (1 : Int32)) (5 : Int32))) ((H_cnt η) - (1 : Int32))) 2) ++ (wS g (γ 3 0) (γ 3 1) (γ 3 2) (γ 3 3) (γ 3 4) (H_sv (H_cnt' (H_old' η (irm ((H_old η) + (1 : Int32)) (5 : Int32))) ((H_cnt η) - (1 : Int32))) 3) ++ (wS g (γ 4 0) (γ 4 1) (γ 4 2) (γ 4 3) (γ 4 4) (H_sv (H_cnt' (H_old' η (irm ((H_old η) + (1 : Int32)) (5 : Int32))) ((H_cnt η) - (1 : Int32))) 4) ++ (wS g (γ 5 0) (γ 5 1) (γ 5 2) (γ 5 3) (γ 5 4) (H_sn (H_cnt' (H_old' η (irm ((H_old η) + (1 : Int32)) (5 : Int32))) ((H_cnt η) - (1 : Int32)))))))))))) (W1 := (wS g (γ 1 0) (γ 1 1) (γ 1 2) (γ 1 3) (γ 1 4) r_12 ++ (wS g h a1 a2 a3 a4 σ))) (W2 := (wS g h a1 a2 a3 a4 σ ++ (wH g k0 k1 γ (H_sv' (H_cnt' (H_old' η (irm ((H_old η) + (1 : Int32)) (5 : Int32))) ((H_cnt η) - (1 : Int32))) (updS (H_sv η) 1 r_12))))) (As := [.ref h, .ref (γ 1 0)]) (rest := []) [12, 13, 14, 15, 16, 0, 1, 2, 3, 4] [5, 6, 7, 8, 9, 10, 11, 17, 18, 19, 20, 21, 22, 23, 24, 25, 26, 27, 28, 29, 30, 31, 32, 33, 34, 35, 36] [32, 33, 34, 35, 36, 0, 1, 2, 3, 4, 5, 6, 27, 28, 29, 30, 31, 7, 8, 9, 10, 11, 12, 13, 14, 15, 16, 17, 18, 19, 20, 21, 22, 23, 24, 25, 26] ⟨hx, hb, hml, hown, hts⟩ hP hD hE hZ hS hA (cX1_copy_ok l g (γ 1 0) (γ 1 1) (γ 1 2) (γ 1 3) (γ 1 4) h a1 a2 a3 a4 (H_sv η 1) σ _ e_12) (va_cwS 2 hts gX1_save_X1_copy rfl rfl rfl hdX1_copy.2 ⟨(Nat.le_of_ble_eq_true rfl), (Nat.le_of_ble_eq_true rfl)⟩) rfl rfl rfl (by decide) (by decide) (by decide) (by decide) rfl hl.1 rfl (Nat.le_of_ble_eq_true rfl) ⟨(Nat.le_of_ble_eq_true rfl), (Nat.le_of_ble_eq_true rfl)⟩ dX1_save_39 (fun H locs hP hD hS => ?_)
      refine lv_aload_n hx hb dX1_save_42 rfl (lv_at hl 0 rfl) ?_
      refine lv_dup hx hb dX1_save_43 rfl ?_
      refine va_get (v := .int ((H_cnt η) - (1 : Int32))) (C := RX1) (T := TX1) (N := 5) hx hb hts fiX1_save_X1 hown hE.1 hP 5 rfl rfl 2 (by decide) (hts _ flX1_save_20) (fun _ h9 => h9) rfl dX1_save_44 ?_
      refine lv_iconst (v := (1 : Int32)) hx hb dX1_save_47 (by decide) ?_
      refine lv_iadd hx hb dX1_save_48 ?_
      refine va_put (v := .int (((H_cnt η) - (1 : Int32)) + (1 : Int32))) (ty := .int) (C := RX1) (T := TX1) (N := 5) hx hb hts fiX1_save_X1 tyX1 tyX1_ok nmX1 hown hE.1 hP hD hS 5 rfl rfl 2 (by decide) (hts _ flX1_save_20) (fun _ h9 => h9) rfl (by decide +kernel) rfl rfl (Nat.le_of_ble_eq_true rfl) dX1_save_49 (fun H locs hP hD hS => ?_)
      have hP : va_P g.1 vwCl (wS g h a1 a2 a3 a4 σ ++ (wH g k0 k1 γ (H_cnt' (H_sv' (H_cnt' (H_old' η (irm ((H_old η) + (1 : Int32)) (5 : Int32))) ((H_cnt η) - (1 : Int32))) (updS (H_sv η) 1 r_12)) (((H_cnt η) - (1 : Int32)) + (1 : Int32))))) H := hP
      have hD : va_D A (wS g h a1 a2 a3 a4 σ ++ (wH g k0 k1 γ (H_cnt' (H_sv' (H_cnt' (H_old' η (irm ((H_old η) + (1 : Int32)) (5 : Int32))) ((H_cnt η) - (1 : Int32))) (updS (H_sv η) 1 r_12)) (((H_cnt η) - (1 : Int32)) + (1 : Int32))))) := hD
      have ho := Option.some.inj hf
      subst ho
      exact m_vret hx hb hr hlocks hP hD hS dX1_save_52
    · obtain ⟨r_13, e_13, hf⟩ := bo hf
      refine mcallSv (W0 := (wS g h a1 a2 a3 a4 σ ++ (wH g k0 k1 γ (H_cnt' (H_old' η (irm ((H_old η) + (1 : Int32)) (5 : Int32))) ((H_cnt η) - (1 : Int32)))))) (Wc := (wS g (γ 2 0) (γ 2 1) (γ 2 2) (γ 2 3) (γ 2 4) (H_sv η 2) ++ (wS g h a1 a2 a3 a4 σ))) (Wr := ([(k0, .inr (1, [.ref k1, .int (H_old (H_cnt' (H_old' η (irm ((H_old η) + (1 : Int32)) (5 : Int32))) ((H_cnt η) - (1 : Int32)))), .int (H_cnt (H_cnt' (H_old' η (irm ((H_old η) + (1 : Int32)) (5 : Int32))) ((H_cnt η) - (1 : Int32)))), .ref (γ 5 0), .int (b2i (H_tk (H_cnt' (H_old' η (irm ((H_old η) + (1 : Int32)) (5 : Int32))) ((H_cnt η) - (1 : Int32)))))]))] ++ ([(k1, .inl (g.2.1 1, 5, .inr (.inr (.inr (.inr (fun k => some (γ k 0)))))))] ++ (wS g (γ 0 0) (γ 0 1) (γ 0 2) (γ 0 3) (γ 0 4) (H_sv (H_cnt' (H_old' η (irm ((H_old η) + (1 : Int32)) (5 : Int32))) ((H_cnt η) - (1 : Int32))) 0) ++ (wS g (γ 1 0) (γ 1 1) (γ 1 2) (γ 1 3) (γ 1 4) (H_sv (H_cnt' (H_old' η (irm ((H_old η) + (1 : Int32)) (5 : Int32))) ((H_cnt η) - (1 : Int32))) 1) ++ (wS g (γ 3 0) (γ 3 1) (γ 3 2) (γ 3 3) (γ 3 4) (H_sv (H_cnt' (H_old' η (irm ((H_old η) + (1 : Int32)) (5 : Int32))) ((H_cnt η) - (1 : Int32))) 3) ++ (wS g (γ 4 0) (γ 4 1) (γ 4 2) (γ 4 3) (γ 4 4) (H_sv (H_cnt' (H_old' η (irm ((H_old η) + (1 : Int32)) (5 : Int32))) ((H_cnt η) - (1 : Int32))) 4) ++ (wS g (γ 5 0) (γ 5 1) (γ 5 2) (γ 5 3) (γ 5 4) (H_sn (H_cnt' (H_old' η (irm ((H_old η) + (1 : Int32)) (5 : Int32))) ((H_cnt η) - (1 : Int32)))))))))))) (W1 := (wS g (γ 2 0) (γ 2 1) (γ 2 2) (γ 2 3) (γ 2 4) r_13 ++ (wS g h a1 a2 a3 a4 σ))) (W2 := (wS g h a1 a2 a3 a4 σ ++ (wH g k0 k1 γ (H_sv' (H_cnt' (H_old' η (irm ((H_old η) + (1 : Int32)) (5 : Int32))) ((H_cnt η) - (1 : Int32))) (updS (H_sv η) 2 r_13))))) (As := [.ref h, .ref (γ 2 0)]) (rest := []) [17, 18, 19, 20, 21, 0, 1, 2, 3, 4] [5, 6, 7, 8, 9, 10, 11, 12, 13, 14, 15, 16, 22, 23, 24, 25, 26, 27, 28, 29, 30, 31, 32, 33, 34, 35, 36] [32, 33, 34, 35, 36, 0, 1, 2, 3, 4, 5, 6, 7, 8, 9, 10, 11, 27, 28, 29, 30, 31, 12, 13, 14, 15, 16, 17, 18, 19, 20, 21, 22, 23, 24, 25, 26] ⟨hx, hb, hml, hown, hts⟩ hP hD hE hZ hS hA (cX1_copy_ok l g (γ 2 0) (γ 2 1) (γ 2 2) (γ 2 3) (γ 2 4) h a1 a2 a3 a4 (H_sv η 2) σ _ e_13) (va_cwS 2 hts gX1_save_X1_copy rfl rfl rfl hdX1_copy.2 ⟨(Nat.le_of_ble_eq_true rfl), (Nat.le_of_ble_eq_true rfl)⟩) rfl rfl rfl (by decide) (by decide) (by decide) (by decide) rfl hl.1 rfl (Nat.le_of_ble_eq_true rfl) ⟨(Nat.le_of_ble_eq_true rfl), (Nat.le_of_ble_eq_true rfl)⟩ dX1_save_39 (fun H locs hP hD hS => ?_)
      refine lv_aload_n hx hb dX1_save_42 rfl (lv_at hl 0 rfl) ?_
      refine lv_dup hx hb dX1_save_43 rfl ?_
      refine va_get (v := .int ((H_cnt η) - (1 : Int32))) (C := RX1) (T := TX1) (N := 5) hx hb hts fiX1_save_X1 hown hE.1 hP 5 rfl rfl 2 (by decide) (hts _ flX1_save_20) (fun _ h9 => h9) rfl dX1_save_44 ?_
      refine lv_iconst (v := (1 : Int32)) hx hb dX1_save_47 (by decide) ?_
      refine lv_iadd hx hb dX1_save_48 ?_
      refine va_put (v := .int (((H_cnt η) - (1 : Int32)) + (1 : Int32))) (ty := .int) (C := RX1) (T := TX1) (N := 5) hx hb hts fiX1_save_X1 tyX1 tyX1_ok nmX1 hown hE.1 hP hD hS 5 rfl rfl 2 (by decide) (hts _ flX1_save_20) (fun _ h9 => h9) rfl (by decide +kernel) rfl rfl (Nat.le_of_ble_eq_true rfl) dX1_save_49 (fun H locs hP hD hS => ?_)
      have hP : va_P g.1 vwCl (wS g h a1 a2 a3 a4 σ ++ (wH g k0 k1 γ (H_cnt' (H_sv' (H_cnt' (H_old' η (irm ((H_old η) + (1 : Int32)) (5 : Int32))) ((H_cnt η) - (1 : Int32))) (updS (H_sv η) 2 r_13)) (((H_cnt η) - (1 : Int32)) + (1 : Int32))))) H := hP
      have hD : va_D A (wS g h a1 a2 a3 a4 σ ++ (wH g k0 k1 γ (H_cnt' (H_sv' (H_cnt' (H_old' η (irm ((H_old η) + (1 : Int32)) (5 : Int32))) ((H_cnt η) - (1 : Int32))) (updS (H_sv η) 2 r_13)) (((H_cnt η) - (1 : Int32)) + (1 : Int32))))) := hD
      have ho := Option.some.inj hf
      subst ho
      exact m_vret hx hb hr hlocks hP hD hS dX1_save_52
    · obtain ⟨r_14, e_14, hf⟩ := bo hf
      refine mcallSv (W0 := (wS g h a1 a2 a3 a4 σ ++ (wH g k0 k1 γ (H_cnt' (H_old' η (irm ((H_old η) + (1 : Int32)) (5 : Int32))) ((H_cnt η) - (1 : Int32)))))) (Wc := (wS g (γ 3 0) (γ 3 1) (γ 3 2) (γ 3 3) (γ 3 4) (H_sv η 3) ++ (wS g h a1 a2 a3 a4 σ))) (Wr := ([(k0, .inr (1, [.ref k1, .int (H_old (H_cnt' (H_old' η (irm ((H_old η) + (1 : Int32)) (5 : Int32))) ((H_cnt η) - (1 : Int32)))), .int (H_cnt (H_cnt' (H_old' η (irm ((H_old η) + (1 : Int32)) (5 : Int32))) ((H_cnt η) - (1 : Int32)))), .ref (γ 5 0), .int (b2i (H_tk (H_cnt' (H_old' η (irm ((H_old η) + (1 : Int32)) (5 : Int32))) ((H_cnt η) - (1 : Int32)))))]))] ++ ([(k1, .inl (g.2.1 1, 5, .inr (.inr (.inr (.inr (fun k => some (γ k 0)))))))] ++ (wS g (γ 0 0) (γ 0 1) (γ 0 2) (γ 0 3) (γ 0 4) (H_sv (H_cnt' (H_old' η (irm ((H_old η) + (1 : Int32)) (5 : Int32))) ((H_cnt η) - (1 : Int32))) 0) ++ (wS g (γ 1 0) (γ 1 1) (γ 1 2) (γ 1 3) (γ 1 4) (H_sv (H_cnt' (H_old' η (irm ((H_old η) + (1 : Int32)) (5 : Int32))) ((H_cnt η) - (1 : Int32))) 1) ++ (wS g (γ 2 0) (γ 2 1) (γ 2 2) (γ 2 3) (γ 2 4) (H_sv (H_cnt' (H_old' η (irm ((H_old η) + (1 : Int32)) (5 : Int32))) ((H_cnt η) - (1 : Int32))) 2) ++ (wS g (γ 4 0) (γ 4 1) (γ 4 2) (γ 4 3) (γ 4 4) (H_sv (H_cnt' (H_old' η (irm ((H_old η) + (1 : Int32)) (5 : Int32))) ((H_cnt η) - (1 : Int32))) 4) ++ (wS g (γ 5 0) (γ 5 1) (γ 5 2) (γ 5 3) (γ 5 4) (H_sn (H_cnt' (H_old' η (irm ((H_old η) + (1 : Int32)) (5 : Int32))) ((H_cnt η) - (1 : Int32)))))))))))) (W1 := (wS g (γ 3 0) (γ 3 1) (γ 3 2) (γ 3 3) (γ 3 4) r_14 ++ (wS g h a1 a2 a3 a4 σ))) (W2 := (wS g h a1 a2 a3 a4 σ ++ (wH g k0 k1 γ (H_sv' (H_cnt' (H_old' η (irm ((H_old η) + (1 : Int32)) (5 : Int32))) ((H_cnt η) - (1 : Int32))) (updS (H_sv η) 3 r_14))))) (As := [.ref h, .ref (γ 3 0)]) (rest := []) [22, 23, 24, 25, 26, 0, 1, 2, 3, 4] [5, 6, 7, 8, 9, 10, 11, 12, 13, 14, 15, 16, 17, 18, 19, 20, 21, 27, 28, 29, 30, 31, 32, 33, 34, 35, 36] [32, 33, 34, 35, 36, 0, 1, 2, 3, 4, 5, 6, 7, 8, 9, 10, 11, 12, 13, 14, 15, 16, 27, 28, 29, 30, 31, 17, 18, 19, 20, 21, 22, 23, 24, 25, 26] ⟨hx, hb, hml, hown, hts⟩ hP hD hE hZ hS hA (cX1_copy_ok l g (γ 3 0) (γ 3 1) (γ 3 2) (γ 3 3) (γ 3 4) h a1 a2 a3 a4 (H_sv η 3) σ _ e_14) (va_cwS 2 hts gX1_save_X1_copy rfl rfl rfl hdX1_copy.2 ⟨(Nat.le_of_ble_eq_true rfl), (Nat.le_of_ble_eq_true rfl)⟩) rfl rfl rfl (by decide) (by decide) (by decide) (by decide) rfl hl.1 rfl (Nat.le_of_ble_eq_true rfl) ⟨(Nat.le_of_ble_eq_true rfl), (Nat.le_of_ble_eq_true rfl)⟩ dX1_save_39 (fun H locs hP hD hS => ?_)
      refine lv_aload_n hx hb dX1_save_42 rfl (lv_at hl 0 rfl) ?_
      refine lv_dup hx hb dX1_save_43 rfl ?_
      refine va_get (v := .int ((H_cnt η) - (1 : Int32))) (C := RX1) (T := TX1) (N := 5) hx hb hts fiX1_save_X1 hown hE.1 hP 5 rfl rfl 2 (by decide) (hts _ flX1_save_20) (fun _ h9 => h9) rfl dX1_save_44 ?_
      refine lv_iconst (v := (1 : Int32)) hx hb dX1_save_47 (by decide) ?_
      refine lv_iadd hx hb dX1_save_48 ?_
      refine va_put (v := .int (((H_cnt η) - (1 : Int32)) + (1 : Int32))) (ty := .int) (C := RX1) (T := TX1) (N := 5) hx hb hts fiX1_save_X1 tyX1 tyX1_ok nmX1 hown hE.1 hP hD hS 5 rfl rfl 2 (by decide) (hts _ flX1_save_20) (fun _ h9 => h9) rfl (by decide +kernel) rfl rfl (Nat.le_of_ble_eq_true rfl) dX1_save_49 (fun H locs hP hD hS => ?_)
      have hP : va_P g.1 vwCl (wS g h a1 a2 a3 a4 σ ++ (wH g k0 k1 γ (H_cnt' (H_sv' (H_cnt' (H_old' η (irm ((H_old η) + (1 : Int32)) (5 : Int32))) ((H_cnt η) - (1 : Int32))) (updS (H_sv η) 3 r_14)) (((H_cnt η) - (1 : Int32)) + (1 : Int32))))) H := hP
      have hD : va_D A (wS g h a1 a2 a3 a4 σ ++ (wH g k0 k1 γ (H_cnt' (H_sv' (H_cnt' (H_old' η (irm ((H_old η) + (1 : Int32)) (5 : Int32))) ((H_cnt η) - (1 : Int32))) (updS (H_sv η) 3 r_14)) (((H_cnt η) - (1 : Int32)) + (1 : Int32))))) := hD
      have ho := Option.some.inj hf
      subst ho
      exact m_vret hx hb hr hlocks hP hD hS dX1_save_52
    · obtain ⟨r_15, e_15, hf⟩ := bo hf
      refine mcallSv (W0 := (wS g h a1 a2 a3 a4 σ ++ (wH g k0 k1 γ (H_cnt' (H_old' η (irm ((H_old η) + (1 : Int32)) (5 : Int32))) ((H_cnt η) - (1 : Int32)))))) (Wc := (wS g (γ 4 0) (γ 4 1) (γ 4 2) (γ 4 3) (γ 4 4) (H_sv η 4) ++ (wS g h a1 a2 a3 a4 σ))) (Wr := ([(k0, .inr (1, [.ref k1, .int (H_old (H_cnt' (H_old' η (irm ((H_old η) + (1 : Int32)) (5 : Int32))) ((H_cnt η) - (1 : Int32)))), .int (H_cnt (H_cnt' (H_old' η (irm ((H_old η) + (1 : Int32)) (5 : Int32))) ((H_cnt η) - (1 : Int32)))), .ref (γ 5 0), .int (b2i (H_tk (H_cnt' (H_old' η (irm ((H_old η) + (1 : Int32)) (5 : Int32))) ((H_cnt η) - (1 : Int32)))))]))] ++ ([(k1, .inl (g.2.1 1, 5, .inr (.inr (.inr (.inr (fun k => some (γ k 0)))))))] ++ (wS g (γ 0 0) (γ 0 1) (γ 0 2) (γ 0 3) (γ 0 4) (H_sv (H_cnt' (H_old' η (irm ((H_old η) + (1 : Int32)) (5 : Int32))) ((H_cnt η) - (1 : Int32))) 0) ++ (wS g (γ 1 0) (γ 1 1) (γ 1 2) (γ 1 3) (γ 1 4) (H_sv (H_cnt' (H_old' η (irm ((H_old η) + (1 : Int32)) (5 : Int32))) ((H_cnt η) - (1 : Int32))) 1) ++ (wS g (γ 2 0) (γ 2 1) (γ 2 2) (γ 2 3) (γ 2 4) (H_sv (H_cnt' (H_old' η (irm ((H_old η) + (1 : Int32)) (5 : Int32))) ((H_cnt η) - (1 : Int32))) 2) ++ (wS g (γ 3 0) (γ 3 1) (γ 3 2) (γ 3 3) (γ 3 4) (H_sv (H_cnt' (H_old' η (irm ((H_old η) + (1 : Int32)) (5 : Int32))) ((H_cnt η) - (1 : Int32))) 3) ++ (wS g (γ 5 0) (γ 5 1) (γ 5 2) (γ 5 3) (γ 5 4) (H_sn (H_cnt' (H_old' η (irm ((H_old η) + (1 : Int32)) (5 : Int32))) ((H_cnt η) - (1 : Int32)))))))))))) (W1 := (wS g (γ 4 0) (γ 4 1) (γ 4 2) (γ 4 3) (γ 4 4) r_15 ++ (wS g h a1 a2 a3 a4 σ))) (W2 := (wS g h a1 a2 a3 a4 σ ++ (wH g k0 k1 γ (H_sv' (H_cnt' (H_old' η (irm ((H_old η) + (1 : Int32)) (5 : Int32))) ((H_cnt η) - (1 : Int32))) (updS (H_sv η) 4 r_15))))) (As := [.ref h, .ref (γ 4 0)]) (rest := []) [27, 28, 29, 30, 31, 0, 1, 2, 3, 4] [5, 6, 7, 8, 9, 10, 11, 12, 13, 14, 15, 16, 17, 18, 19, 20, 21, 22, 23, 24, 25, 26, 32, 33, 34, 35, 36] [32, 33, 34, 35, 36, 0, 1, 2, 3, 4, 5, 6, 7, 8, 9, 10, 11, 12, 13, 14, 15, 16, 17, 18, 19, 20, 21, 27, 28, 29, 30, 31, 22, 23, 24, 25, 26] ⟨hx, hb, hml, hown, hts⟩ hP hD hE hZ hS hA (cX1_copy_ok l g (γ 4 0) (γ 4 1) (γ 4 2) (γ 4 3) (γ 4 4) h a1 a2 a3 a4 (H_sv η 4) σ _ e_15) (va_cwS 2 hts gX1_save_X1_copy rfl rfl rfl hdX1_copy.2 ⟨(Nat.le_of_ble_eq_true rfl), (Nat.le_of_ble_eq_true rfl)⟩) rfl rfl rfl (by decide) (by decide) (by decide) (by decide) rfl hl.1 rfl (Nat.le_of_ble_eq_true rfl) ⟨(Nat.le_of_ble_eq_true rfl), (Nat.le_of_ble_eq_true rfl)⟩ dX1_save_39 (fun H locs hP hD hS => ?_)
      refine lv_aload_n hx hb dX1_save_42 rfl (lv_at hl 0 rfl) ?_
      refine lv_dup hx hb dX1_save_43 rfl ?_
      refine va_get (v := .int ((H_cnt η) - (1 : Int32))) (C := RX1) (T := TX1) (N := 5) hx hb hts fiX1_save_X1 hown hE.1 hP 5 rfl rfl 2 (by decide) (hts _ flX1_save_20) (fun _ h9 => h9) rfl dX1_save_44 ?_
      refine lv_iconst (v := (1 : Int32)) hx hb dX1_save_47 (by decide) ?_
      refine lv_iadd hx hb dX1_save_48 ?_
      refine va_put (v := .int (((H_cnt η) - (1 : Int32)) + (1 : Int32))) (ty := .int) (C := RX1) (T := TX1) (N := 5) hx hb hts fiX1_save_X1 tyX1 tyX1_ok nmX1 hown hE.1 hP hD hS 5 rfl rfl 2 (by decide) (hts _ flX1_save_20) (fun _ h9 => h9) rfl (by decide +kernel) rfl rfl (Nat.le_of_ble_eq_true rfl) dX1_save_49 (fun H locs hP hD hS => ?_)
      have hP : va_P g.1 vwCl (wS g h a1 a2 a3 a4 σ ++ (wH g k0 k1 γ (H_cnt' (H_sv' (H_cnt' (H_old' η (irm ((H_old η) + (1 : Int32)) (5 : Int32))) ((H_cnt η) - (1 : Int32))) (updS (H_sv η) 4 r_15)) (((H_cnt η) - (1 : Int32)) + (1 : Int32))))) H := hP
      have hD : va_D A (wS g h a1 a2 a3 a4 σ ++ (wH g k0 k1 γ (H_cnt' (H_sv' (H_cnt' (H_old' η (irm ((H_old η) + (1 : Int32)) (5 : Int32))) ((H_cnt η) - (1 : Int32))) (updS (H_sv η) 4 r_15)) (((H_cnt η) - (1 : Int32)) + (1 : Int32))))) := hD
      have ho := Option.some.inj hf
      subst ho
      exact m_vret hx hb hr hlocks hP hD hS dX1_save_52
