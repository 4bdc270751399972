/-! counted labels, pairs too near, the model's changes -/
noncomputable def lbA (a : Ab) : Nat → Nat → Int → Int
  | 0, _, acc => acc
  | m + 1, i, acc => lbA a m (i + 1) (if ab a i = -1 then acc else acc + 1)
section LB
variable {σ : Sh} {μ : Mo} {a : Ab}
theorem sp_near (H : RepS σ a) (I : InvA a) {i j : Nat} (hi : i < an a) (hj : j < an a) : ∃ b, fX2_areTooNear σ (iI i) (iI j) = some b ∧ (b = true ↔ nearA a i j) := by
  have l1 := lab_rng I hi
  have l2 := lab_rng I hj
  have hg := I.2.2.1
  unfold fX2_areTooNear nearA
  rw [sp_labelIn H I hi, Option.bind_some]
  by_cases q1 : ab a i = -1
  · rw [if_pos (by rw [q1]; rfl)]; exact ⟨false, rfl, (fun h => by cases h), (fun h => absurd q1 h.1)⟩
  · rw [if_neg (by rw [Lm1]; exact neq (by omega) (by omega) q1), sp_labelIn H I hj, Option.bind_some]
    by_cases q2 : ab a j = -1
    · rw [if_pos (by rw [q2]; rfl)]; exact ⟨false, rfl, (fun h => by cases h), (fun h => absurd q2 h.2.1)⟩
    · have p1 := lab_pl I hi q1
      have p2 := lab_pl I hj q2
      have e := sp_distanceToLabel H I hi hj (p := (ab a i).toNat) p1.2.1 p2.1
      rw [p1.2.2.2] at e
      have hr := dl_rng I hi hj p1.2.1 p2.2.1
      rw [if_neg (by rw [Lm1]; exact neq (by omega) (by omega) q2), e, Option.bind_some, sp_gapWidth H, Option.bind_some]
      by_cases q3 : (ag a : Int) ≤ dlA a i (ab a i).toNat j (ab a j).toNat
      · rw [if_pos (yle (by omega) (by omega) q3)]; exact ⟨false, rfl, (fun h => by cases h), (fun h => by have := h.2.2; omega)⟩
      · rw [if_neg (nle (by omega) (by omega) (by omega))]; exact ⟨true, rfl, (fun _ => ⟨q1, q2, by omega⟩), (fun _ => rfl)⟩
theorem sm_puts {k j : Nat} (hk : k < 8) (hj : j < 64) (v : Int32) : fX7_puts μ (iI k) (iI j) v = some (M_row' μ (upd (M_row μ) (2 + 64 * k + j) v)) := by
  have e : ((2 : Int32) + ((64 : Int32) * iI (k : Int))) + iI (j : Int) = iI ((2 + 64 * k + j : Nat) : Int) := by
    rw [L2, L64, iI_mul, iI_add, iI_add]; exact congrArg iI (by omega)
  unfold fX7_puts
  rw [e, if_pos (inR_iI (by omega) (by omega) (by omega)), iI_tn (by omega) (by omega), Int.toNat_natCast]
theorem rm_lab {f : Nat → Int32} (H : RepM f a) (I : InvA a) {k : Nat} (hk : k < an a) (b : Int) : RepM (upd f (2 + 64 * k + 3) (iI b)) (aLab a k b) := by
  have h8 := I.1
  have u : ∀ x, x ≠ 2 + 64 * k + 3 → upd f (2 + 64 * k + 3) (iI b) x = f x := fun x hx => by unfold upd; rw [if_neg hx]
  refine ⟨(u 0 (by omega)).trans H.1, (u 1 (by omega)).trans H.2.1, fun i hi => ?_⟩
  obtain ⟨h1, h2, h3, h4, h5⟩ := H.2.2 i hi
  have h60 := (I.2.2.2.1 i hi).2.1
  refine ⟨(u _ (by omega)).trans h1, (u _ (by omega)).trans h2, (u _ (by omega)).trans h3, ?_, fun j hj => (u _ (by have : j < ah a i := hj; omega)).trans (h5 j hj)⟩
  show upd f (2 + 64 * k + 3) (iI b) (2 + 64 * i + 3) = iI (if i = k then b else ab a i)
  by_cases q : i = k
  · rw [if_pos q, q]; unfold upd; rw [if_pos rfl]
  · rw [if_neg q, u _ (by omega)]; exact h4
theorem rm_lev {f : Nat → Int32} (H : RepM f a) (I : InvA a) {k : Nat} (hk : k < an a) (l : Nat) : RepM (upd f (2 + 64 * k + 0) (iI l)) (aLev a k l) := by
  have h8 := I.1
  have u : ∀ x, x ≠ 2 + 64 * k → upd f (2 + 64 * k + 0) (iI l) x = f x := fun x hx => by unfold upd; rw [if_neg (by omega)]
  refine ⟨(u 0 (by omega)).trans H.1, (u 1 (by omega)).trans H.2.1, fun i hi => ?_⟩
  obtain ⟨h1, h2, h3, h4, h5⟩ := H.2.2 i hi
  have h60 := (I.2.2.2.1 i hi).2.1
  refine ⟨?_, (u _ (by omega)).trans h2, (u _ (by omega)).trans h3, (u _ (by omega)).trans h4, fun j hj => (u _ (by have : j < ah a i := hj; omega)).trans (h5 j hj)⟩
  show upd f (2 + 64 * k + 0) (iI l) (2 + 64 * i) = iI ((if i = k then l else al a i : Nat) : Int)
  by_cases q : i = k
  · rw [if_pos q, q]; unfold upd; rw [if_pos (by omega)]
  · rw [if_neg q, u _ (by omega)]; exact h1
theorem rm_gap {f : Nat → Int32} (H : RepM f a) (I : InvA a) (g : Nat) : RepM (upd f 1 (iI g)) (aGap a g) := by
  have u : ∀ x, x ≠ 1 → upd f 1 (iI g) x = f x := fun x hx => by unfold upd; rw [if_neg hx]
  refine ⟨(u 0 (by omega)).trans H.1, rfl, fun i hi => ?_⟩
  obtain ⟨h1, h2, h3, h4, h5⟩ := H.2.2 i hi
  exact ⟨(u _ (by omega)).trans h1, (u _ (by omega)).trans h2, (u _ (by omega)).trans h3, (u _ (by omega)).trans h4, fun j hj => (u _ (by omega)).trans (h5 j hj)⟩
theorem sp_lb_loop (H : RepS σ a) (I : InvA a) : ∀ (m i fu : Nat) (acc : Int), i + m = an a → m < fu → fX4_labelCount_4 σ fu (iI acc) (iI i) = some (iI (lbA a m i acc)) := by
  have h8 := I.1
  intro m
  induction m with
  | zero =>
    intro i fu acc h1 h2
    obtain ⟨f, rfl⟩ : ∃ f, fu = f + 1 := ⟨fu - 1, by omega⟩
    rw [fX4_labelCount_4, H.1, if_pos (yle (by omega) (by omega) (by omega)), lbA]
  | succ m ih =>
    intro i fu acc h1 h2
    obtain ⟨f, rfl⟩ : ∃ f, fu = f + 1 := ⟨fu - 1, by omega⟩
    have hi : i < an a := by omega
    have hl := lab_rng I hi
    rw [fX4_labelCount_4, H.1, if_neg (nle (by omega) (by omega) (by omega)), sp_labelIn H I hi, Option.bind_some, iI_s, iI_s', lbA]
    by_cases q : ab a i = -1
    · rw [if_pos (by rw [q]; rfl), if_pos q]; exact ih (i + 1) f acc (by omega) (by omega)
    · rw [if_neg (by rw [Lm1]; exact neq (by omega) (by omega) q), if_neg q]; exact ih (i + 1) f (acc + 1) (by omega) (by omega)
theorem sp_labelCount (H : RepS σ a) (I : InvA a) : fX4_labelCount σ = some (iI (lbA a (an a) 0 0)) := by
  have e := sp_lb_loop H I (an a) 0 FU 0 (by omega) (FU_gt (by have := I.1; omega))
  rw [Z0, Z0'] at e
  unfold fX4_labelCount
  exact e
theorem sm_lb_loop (H : RepM (M_row μ) a) (I : InvA a) : ∀ (m i fu : Nat) (acc : Int), i + m = an a → m < fu → fX7_labelled_4 μ fu (iI acc) (iI i) = some (iI (lbA a m i acc)) := by
  have h8 := I.1
  intro m
  induction m with
  | zero =>
    intro i fu acc h1 h2
    obtain ⟨f, rfl⟩ : ∃ f, fu = f + 1 := ⟨fu - 1, by omega⟩
    rw [fX7_labelled_4, sm_n H, if_pos (yle (by omega) (by omega) (by omega)), lbA]
  | succ m ih =>
    intro i fu acc h1 h2
    obtain ⟨f, rfl⟩ : ∃ f, fu = f + 1 := ⟨fu - 1, by omega⟩
    have hi : i < an a := by omega
    have hl := lab_rng I hi
    rw [fX7_labelled_4, sm_n H, if_neg (nle (by omega) (by omega) (by omega)), sm_lab H I hi, Option.bind_some, iI_s, iI_s', lbA]
    by_cases q : ab a i = -1
    · rw [if_pos (by rw [q]; rfl), if_pos q, L0, iI_add, Int.add_zero]; exact ih (i + 1) f acc (by omega) (by omega)
    · rw [if_neg (by rw [Lm1]; exact neq (by omega) (by omega) q), if_neg q]; exact ih (i + 1) f (acc + 1) (by omega) (by omega)
theorem sm_labelled (H : RepM (M_row μ) a) (I : InvA a) : fX7_labelled μ = some (iI (lbA a (an a) 0 0)) := by
  have e := sm_lb_loop H I (an a) 0 FU 0 (by omega) (FU_gt (by have := I.1; omega))
  rw [Z0, Z0'] at e
  unfold fX7_labelled
  exact e
end LB
