/-! pairs too near, both sides -/
section PR
variable {σ : Sh} {μ : Mo} {a : Ab}
theorem sp_pr_in (H : RepS σ a) (I : InvA a) {i : Nat} (hi : i < an a) (K : Int32 → Int32 → Option Int32) : ∀ (m j fu : Nat) (acc : Int), j + m = an a → m < fu →
    fX2_countPairsTooNear_16 σ (iI i) K fu (iI acc) (iI j) = K (iI (acc + smI (fun j => nrA a i j) m j)) (iI i + 1) := by
  have h8 := I.1
  intro m
  induction m with
  | zero =>
    intro j fu acc h1 h2
    obtain ⟨f, rfl⟩ : ∃ f, fu = f + 1 := ⟨fu - 1, by omega⟩
    rw [fX2_countPairsTooNear_16, sp_lineCount H, Option.bind_some, if_pos (yle (by omega) (by omega) (by omega)), smI, Int.add_zero]
  | succ m ih =>
    intro j fu acc h1 h2
    obtain ⟨f, rfl⟩ : ∃ f, fu = f + 1 := ⟨fu - 1, by omega⟩
    obtain ⟨b, hb, ib⟩ := sp_near H I hi (j := j) (by omega)
    rw [fX2_countPairsTooNear_16, sp_lineCount H, Option.bind_some, if_neg (nle (by omega) (by omega) (by omega)), hb, Option.bind_some, iI_s, iI_s', smI]
    by_cases q : nearA a i j
    · rw [if_pos (ib.mpr q), ih (j + 1) f (acc + 1) (by omega) (by omega), show nrA a i j = 1 from cIf_pos q, Int.add_assoc]
    · rw [if_neg (fun z => q (ib.mp z)), ih (j + 1) f acc (by omega) (by omega), show nrA a i j = 0 from cIf_neg q, Int.zero_add]
theorem sp_pr_out (H : RepS σ a) (I : InvA a) : ∀ (m i fu : Nat) (acc : Int), i + m = an a → m < fu →
    fX2_countPairsTooNear_4 σ fu (iI acc) (iI i) = some (iI (acc + smI (fun i => smI (fun j => nrA a i j) (an a - (i + 1)) (i + 1)) m i)) := by
  have h8 := I.1
  intro m
  induction m with
  | zero =>
    intro i fu acc h1 h2
    obtain ⟨f, rfl⟩ : ∃ f, fu = f + 1 := ⟨fu - 1, by omega⟩
    rw [fX2_countPairsTooNear_4, sp_lineCount H, Option.bind_some, if_pos (yle (by omega) (by omega) (by omega)), smI, Int.add_zero]
  | succ m ih =>
    intro i fu acc h1 h2
    obtain ⟨f, rfl⟩ : ∃ f, fu = f + 1 := ⟨fu - 1, by omega⟩
    have e : iI (i : Int) + (1 : Int32) = iI ((i + 1 : Nat) : Int) := iI_s i
    rw [fX2_countPairsTooNear_4, sp_lineCount H, Option.bind_some, if_neg (nle (by omega) (by omega) (by omega)), e, sp_pr_in H I (i := i) (by omega) _ (an a - (i + 1)) (i + 1) FU acc (by omega) (FU_gt (by omega)), iI_s, ih (i + 1) f _ (by omega) (by omega), smI, Int.add_assoc]
theorem sp_pairs (H : RepS σ a) (I : InvA a) : fX2_countPairsTooNear σ = some (iI (smI (fun i => smI (fun j => nrA a i j) i 0) (an a) 0)) := by
  have e := sp_pr_out H I (an a) 0 FU 0 (by omega) (FU_gt (by have := I.1; omega))
  rw [Z0, Z0', Int.zero_add, smI_swap (g := fun i j => nrA a i j) (fun i j => nr_symm I i j)] at e
  unfold fX2_countPairsTooNear
  exact e
theorem sm_pr_in (H : RepM (M_row μ) a) (I : InvA a) {i : Nat} (hi : i < an a) (K : Int32 → Int32 → Option (Int32 × Mo)) : ∀ (m j fu : Nat) (acc : Int), j + m = i → m < fu →
    fX7_tooNear_21 μ (iI i) K fu (iI acc) (iI j) = K (iI (acc + smI (fun j => nrA a i j) m j)) (iI i + 1) := by
  have h8 := I.1
  intro m
  induction m with
  | zero =>
    intro j fu acc h1 h2
    obtain ⟨f, rfl⟩ : ∃ f, fu = f + 1 := ⟨fu - 1, by omega⟩
    rw [fX7_tooNear_21, if_pos (yle (by omega) (by omega) (by omega)), smI, Int.add_zero]
  | succ m ih =>
    intro j fu acc h1 h2
    obtain ⟨f, rfl⟩ : ∃ f, fu = f + 1 := ⟨fu - 1, by omega⟩
    have hj : j < an a := by omega
    have l1 := lab_rng I hi
    have l2 := lab_rng I hj
    have hg := I.2.2.1
    have no : ¬ nearA a i j → fX7_tooNear_21 μ (iI i) K f (iI acc + (0 : Int32)) (iI j + 1) = K (iI (acc + smI (fun j => nrA a i j) (m + 1) j)) (iI i + 1) := by
      intro q
      rw [L0, iI_add, Int.add_zero, iI_s, ih (j + 1) f acc (by omega) (by omega), smI, show nrA a i j = 0 from cIf_neg q, Int.zero_add]
    have yes : nearA a i j → fX7_tooNear_21 μ (iI i) K f (iI acc + (1 : Int32)) (iI j + 1) = K (iI (acc + smI (fun j => nrA a i j) (m + 1) j)) (iI i + 1) := by
      intro q
      rw [iI_s', iI_s, ih (j + 1) f (acc + 1) (by omega) (by omega), smI, show nrA a i j = 1 from cIf_pos q, Int.add_assoc]
    rw [fX7_tooNear_21, if_neg (nle (by omega) (by omega) (by omega)), sm_lab H I hi, Option.bind_some]
    by_cases q1 : ab a i = -1
    · rw [if_pos (by rw [q1]; rfl)]
      unfold fX7_tooNear_51
      rw [if_neg (by decide)]
      exact no (fun z => z.1 q1)
    · rw [if_neg (by rw [Lm1]; exact neq (by omega) (by omega) q1), sm_lab H I hj, Option.bind_some]
      by_cases q2 : ab a j = -1
      · rw [if_pos (by rw [q2]; rfl)]
        unfold fX7_tooNear_51
        rw [if_neg (by decide)]
        exact no (fun z => z.2.1 q2)
      · have p1 := lab_pl I hi q1
        have p2 := lab_pl I hj q2
        have e := sm_between H I hi hj p1.2.1 p2.2.1
        rw [p1.2.2.2, p2.2.2.2] at e
        have hr := dl_rng I hi hj p1.2.1 p2.2.1
        rw [if_neg (by rw [Lm1]; exact neq (by omega) (by omega) q2)]
        unfold fX7_tooNear_51
        rw [if_pos rfl, sm_lab H I hi, Option.bind_some, sm_lab H I hj, Option.bind_some, e, Option.bind_some, sm_g H]
        by_cases q3 : (ag a : Int) ≤ dlA a i (ab a i).toNat j (ab a j).toNat
        · rw [if_pos (yle (by omega) (by omega) q3)]; exact no (fun z => by have := z.2.2; omega)
        · rw [if_neg (nle (by omega) (by omega) (by omega))]; exact yes ⟨q1, q2, by omega⟩
theorem sm_pr_out (H : RepM (M_row μ) a) (I : InvA a) : ∀ (m i fu : Nat) (acc : Int), i + m = an a → m < fu →
    fX7_tooNear_9 μ fu (iI acc) (iI i) = some (iI (acc + smI (fun i => smI (fun j => nrA a i j) i 0) m i), μ) := by
  have h8 := I.1
  intro m
  induction m with
  | zero =>
    intro i fu acc h1 h2
    obtain ⟨f, rfl⟩ : ∃ f, fu = f + 1 := ⟨fu - 1, by omega⟩
    rw [fX7_tooNear_9, sm_n H, if_pos (yle (by omega) (by omega) (by omega)), smI, Int.add_zero]
  | succ m ih =>
    intro i fu acc h1 h2
    obtain ⟨f, rfl⟩ : ∃ f, fu = f + 1 := ⟨fu - 1, by omega⟩
    have e := sm_pr_in H I (i := i) (by omega) (fX7_tooNear_9 μ f) i 0 FU acc (by omega) (FU_gt (by omega))
    rw [Z0, iI_s, ih (i + 1) f _ (by omega) (by omega)] at e
    rw [fX7_tooNear_9, sm_n H, if_neg (nle (by omega) (by omega) (by omega)), e, smI, Int.add_assoc]
end PR
