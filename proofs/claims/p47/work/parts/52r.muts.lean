/-! the calls that change: both answer alike and stay beside each other -/
section MUT
variable {σ : Sh} {η : Hi} {a : Ab}
theorem rq_lev {z : Int} (hz : -2147483648 ≤ z ∧ z < 2147483648) : (0 ≤ z ∧ z ≤ 99 → fX6_requireLevel (iI z) = some (.ok ())) ∧ (¬ (0 ≤ z ∧ z ≤ 99) → fX6_requireLevel (iI z) = some (.error "java/lang/IllegalArgumentException")) := by
  unfold fX6_requireLevel
  constructor
  · intro h
    rw [if_neg (nlt0 (by omega)), L99, if_pos (yle (by omega) (by omega) (by omega))]
  · intro h
    by_cases q : z < 0
    · rw [if_pos (by rw [L0]; exact ylt (by omega) (by omega) q)]
    · rw [if_neg (nlt0 (by omega)), L99, if_neg (nle (by omega) (by omega) (by omega))]
theorem n01 : ¬ ((0 : Int32) = 1) := by decide
theorem c1 : (1 : Int32) = iI 1 := rfl
theorem c2 : (2 : Int32) = iI 2 := rfl
theorem c3 : (3 : Int32) = iI 3 := rfl
theorem why_rng (a : Ab) (k : Nat) (d : Int) : 0 ≤ whyA a k d ∧ whyA a k d ≤ 5 := by
  unfold whyA
  by_cases h1 : ringA a k
  · rw [cIf_pos h1]; omega
  · rw [cIf_neg h1]
    by_cases h2 : ah a k = 60
    · rw [cIf_pos h2]; omega
    · rw [cIf_neg h2]
      by_cases h3 : besI (ap a k (ah a k)) d = -1
      · rw [cIf_pos h3]; omega
      · rw [cIf_neg h3]
        by_cases h4 : (¬ (3 ≤ ah a k ∧ besI (ap a k (ah a k)) d = ap a k 0) ∧ ∃ k', k' < an a ∧ onL a k' (besI (ap a k (ah a k)) d))
        · rw [cIf_pos h4]; omega
        · rw [cIf_neg h4]
          by_cases h5 : crossA a (ap a k (ah a k)) d
          · rw [cIf_pos h5]; omega
          · rw [cIf_neg h5]; omega
theorem best_rng (I : InvA a) {k : Nat} (hk : k < an a) : -1 ≤ bestA a k ∧ bestA a k ≤ 60 := by
  have h60 := (I.2.2.2.1 k hk).2.1
  rcases best_pl a k with h | ⟨p, p1, p2, p3⟩ <;> omega
end MUT
