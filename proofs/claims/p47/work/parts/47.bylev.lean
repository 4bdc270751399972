/-! ranks on both sides -/
section BL
variable {σ : Sh} {a : Ab}
theorem rk_add (a : Ab) (i m j : Nat) (h : ahd a i j) : rkA a i (m + 1) j = 1 + rkA a i m (j + 1) := by rw [rkA, cIf_pos h]
theorem rk_skip (a : Ab) (i m j : Nat) (h : ¬ ahd a i j) : rkA a i (m + 1) j = rkA a i m (j + 1) := by rw [rkA, cIf_neg h, Nat.zero_add]
theorem sp_ahead_loop (H : RepS σ a) (I : InvA a) {i : Nat} (hi : i < an a) : ∀ (m j fu acc : Nat), j + m = an a → m < fu →
    fX4_countAhead_11 σ (iI i) (iI (al a i)) fu (iI acc) (iI j) = some (iI ((acc + rkA a i m j : Nat) : Int)) := by
  have h8 := I.1
  have l1 := (I.2.2.2.1 i hi).1
  intro m
  induction m with
  | zero =>
    intro j fu acc h1 h2
    obtain ⟨f, rfl⟩ : ∃ f, fu = f + 1 := ⟨fu - 1, by omega⟩
    rw [fX4_countAhead_11, H.1, if_pos (yle (by omega) (by omega) (by omega)), rkA, Nat.add_zero]
  | succ m ih =>
    intro j fu acc h1 h2
    obtain ⟨f, rfl⟩ : ∃ f, fu = f + 1 := ⟨fu - 1, by omega⟩
    have hj : j < an a := by omega
    have l2 := (I.2.2.2.1 j hj).1
    rw [fX4_countAhead_11, H.1, if_neg (nle (by omega) (by omega) (by omega)), sp_levelIn H I hj, Option.bind_some, iI_s, iI_s]
    have yes : ahd a i j → fX4_countAhead_11 σ (iI i) (iI (al a i)) f (iI ((acc + 1 : Nat) : Int)) (iI ((j + 1 : Nat) : Int)) = some (iI ((acc + rkA a i (m + 1) j : Nat) : Int)) := by
      intro q
      rw [ih (j + 1) f (acc + 1) (by omega) (by omega), rk_add a i m j q, Nat.add_assoc]
    have no : ¬ ahd a i j → fX4_countAhead_11 σ (iI i) (iI (al a i)) f (iI (acc : Int)) (iI ((j + 1 : Nat) : Int)) = some (iI ((acc + rkA a i (m + 1) j : Nat) : Int)) := by
      intro q
      rw [ih (j + 1) f acc (by omega) (by omega), rk_skip a i m j q]
    by_cases c1 : al a j < al a i
    · rw [if_pos (ylt (by omega) (by omega) (by omega))]; exact yes (Or.inl c1)
    · rw [if_neg (nlt (by omega) (by omega) (by omega))]
      by_cases c2 : al a j = al a i
      · rw [if_pos (by rw [c2])]
        by_cases c3 : i ≤ j
        · rw [if_pos (yle (by omega) (by omega) (by omega))]; exact no (by unfold ahd; omega)
        · rw [if_neg (nle (by omega) (by omega) (by omega))]; exact yes (Or.inr ⟨c2, by omega⟩)
      · rw [if_neg (neq (by omega) (by omega) (by omega))]; exact no (by unfold ahd; omega)
theorem sp_countAhead (H : RepS σ a) (I : InvA a) {i : Nat} (hi : i < an a) : fX4_countAhead σ (iI i) = some (iI (rank a i)) := by
  have e := sp_ahead_loop H I hi (an a) 0 FU 0 (by omega) (FU_gt (by have := I.1; omega))
  rw [Z0, Nat.zero_add] at e
  unfold fX4_countAhead
  rw [sp_levelIn H I hi, Option.bind_some]
  exact e
theorem sp_lor_loop (H : RepS σ a) (I : InvA a) {i : Nat} (hi : i < an a) : ∀ (d k fu : Nat), k + d = i → d < fu → fX4_lineOfRank_2 σ (iI (rank a i)) fu (iI k) = some (iI i) := by
  have h8 := I.1
  have r1 := rank_lt hi
  intro d
  induction d with
  | zero =>
    intro k fu h1 h2
    obtain ⟨f, rfl⟩ : ∃ f, fu = f + 1 := ⟨fu - 1, by omega⟩
    have hk : k = i := by omega
    subst hk
    rw [fX4_lineOfRank_2, H.1, if_neg (nle (by omega) (by omega) (by omega)), sp_countAhead H I hi, Option.bind_some, if_pos rfl]
  | succ d ih =>
    intro k fu h1 h2
    obtain ⟨f, rfl⟩ : ∃ f, fu = f + 1 := ⟨fu - 1, by omega⟩
    have hk : k < an a := by omega
    have r2 := rank_lt hk
    have hne : rank a k ≠ rank a i := fun z => by have := rank_inj hk hi z; omega
    rw [fX4_lineOfRank_2, H.1, if_neg (nle (by omega) (by omega) (by omega)), sp_countAhead H I hk, Option.bind_some, if_neg (neq (by omega) (by omega) (by omega)), iI_s]
    exact ih (k + 1) f (by omega) (by omega)
theorem sp_lineOfRank (H : RepS σ a) (I : InvA a) {i : Nat} (hi : i < an a) : fX4_lineOfRank σ (iI (rank a i)) = some (iI i) := by
  have e := sp_lor_loop H I hi i 0 FU (by omega) (FU_gt (by have := I.1; omega))
  rw [Z0] at e
  unfold fX4_lineOfRank
  exact e
end BL
