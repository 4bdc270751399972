/-! pairs too near, both sides -/
section PR
variable {σ : Sh} {a : Ab}
theorem sp_pr_in (H : RepS σ a) (I : InvA a) {i : Nat} (hi : i < an a) (K : Int32 → Int32 → Option Int32) : ∀ (m j fu : Nat) (acc : Int), j + m = an a → m < fu →
    fX2_countPairsTooNear_16 σ (iI i) K fu (iI acc) (iI j) = K (iI (acc + smI (fun j => nrA a i j) m j)) (iI i + 1) := by
  have h8 := I.1
  intro m
  induction m with
  | zero =>
    intro j fu acc h1 h2
    obtain ⟨f, rfl⟩ : ∃ f, fu = f + 1 := ⟨fu - 1, by omega⟩
    rw [fX2_countPairsTooNear_16, sp_lineCount H, Option.bind_some, if_pos (yle (by omega) (by omega) (by omega)), smI, Int.add_zero]
  | succ m ih =>
    intro j fu acc h1 h2
    obtain ⟨f, rfl⟩ : ∃ f, fu = f + 1 := ⟨fu - 1, by omega⟩
    obtain ⟨b, hb, ib⟩ := sp_near H I hi (j := j) (by omega)
    rw [fX2_countPairsTooNear_16, sp_lineCount H, Option.bind_some, if_neg (nle (by omega) (by omega) (by omega)), hb, Option.bind_some, iI_s, iI_s', smI]
    by_cases q : nearA a i j
    · rw [if_pos (ib.mpr q), ih (j + 1) f (acc + 1) (by omega) (by omega), show nrA a i j = 1 from cIf_pos q, Int.add_assoc]
    · rw [if_neg (fun z => q (ib.mp z)), ih (j + 1) f acc (by omega) (by omega), show nrA a i j = 0 from cIf_neg q, Int.zero_add]
theorem sp_pr_out (H : RepS σ a) (I : InvA a) : ∀ (m i fu : Nat) (acc : Int), i + m = an a → m < fu →
    fX2_countPairsTooNear_4 σ fu (iI acc) (iI i) = some (iI (acc + smI (fun i => smI (fun j => nrA a i j) (an a - (i + 1)) (i + 1)) m i)) := by
  have h8 := I.1
  intro m
  induction m with
  | zero =>
    intro i fu acc h1 h2
    obtain ⟨f, rfl⟩ : ∃ f, fu = f + 1 := ⟨fu - 1, by omega⟩
    rw [fX2_countPairsTooNear_4, sp_lineCount H, Option.bind_some, if_pos (yle (by omega) (by omega) (by omega)), smI, Int.add_zero]
  | succ m ih =>
    intro i fu acc h1 h2
    obtain ⟨f, rfl⟩ : ∃ f, fu = f + 1 := ⟨fu - 1, by omega⟩
    have e : iI (i : Int) + (1 : Int32) = iI ((i + 1 : Nat) : Int) := iI_s i
    rw [fX2_countPairsTooNear_4, sp_lineCount H, Option.bind_some, if_neg (nle (by omega) (by omega) (by omega)), e, sp_pr_in H I (i := i) (by omega) _ (an a - (i + 1)) (i + 1) FU acc (by omega) (FU_gt (by omega)), iI_s, ih (i + 1) f _ (by omega) (by omega), smI, Int.add_assoc]
theorem sp_pairs (H : RepS σ a) (I : InvA a) : fX2_countPairsTooNear σ = some (iI (smI (fun i => smI (fun j => nrA a i j) i 0) (an a) 0)) := by
  have e := sp_pr_out H I (an a) 0 FU 0 (by omega) (FU_gt (by have := I.1; omega))
  rw [Z0, Z0', Int.zero_add, smI_swap (g := fun i j => nrA a i j) (fun i j => nr_symm I i j)] at e
  unfold fX2_countPairsTooNear
  exact e
end PR
