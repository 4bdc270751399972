/-! the model's row after a begun line and after a step; the best place is a place -/
section RW
variable {a : Ab}
theorem dir_stp {p q : Nat} {d : Int} (h0 : 0 ≤ d) (h7 : d ≤ 7) (hq : (q : Int) = p + 24 * dnI d + acI d) : dirD ((q : Int) - p) = d := by
  have : d = 0 ∨ d = 1 ∨ d = 2 ∨ d = 3 ∨ d = 4 ∨ d = 5 ∨ d = 6 ∨ d = 7 := by omega
  rcases this with rfl | rfl | rfl | rfl | rfl | rfl | rfl | rfl <;> rw [hq] <;> simp [dirD, dnI, acI] <;> omega
theorem bst_pl (a : Ab) (k : Nat) : ∀ (m j : Nat) (x y z : Int), j + m = ah a k + 1 → (x = -1 ∨ ∃ i : Nat, x = i ∧ i ≤ ah a k ∧ whlA a k i = 0) → (bstA a k m j x y z = -1 ∨ ∃ i : Nat, bstA a k m j x y z = i ∧ i ≤ ah a k ∧ whlA a k i = 0) := by
  intro m
  induction m with
  | zero => intro j x y z _ h; exact h
  | succ m ih =>
    intro j x y z h1 h
    rw [bstA]
    by_cases q : whlA a k j = 0 ∧ (x = -1 ∨ bopA a k j < y ∨ (bopA a k j = y ∧ z < freeA a k j))
    · rw [cIf_pos q]; exact ih (j + 1) _ _ _ (by omega) (Or.inr ⟨j, rfl, by omega, q.1⟩)
    · rw [cIf_neg q]; exact ih (j + 1) x y z (by omega) h
theorem best_pl (a : Ab) (k : Nat) : bestA a k = -1 ∨ ∃ i : Nat, bestA a k = i ∧ i ≤ ah a k ∧ whlA a k i = 0 := bst_pl a k (ah a k + 1) 0 (-1) 0 0 (by omega) (Or.inl rfl)
theorem whl_lab {k p : Nat} (h : whlA a k p = 0) : (0 : Int) ≤ p ∧ (p : Int) + szA a k ≤ ah a k + 1 := by
  have := pl_le (shp_pl (whl_shp h).1)
  omega
theorem best_inv (I : InvA a) (k : Nat) : InvA (aLab a k (bestA a k)) := by
  refine inv_lab I ?_
  rcases best_pl a k with h | ⟨i, h1, h2, h3⟩
  · exact Or.inl h
  · rw [h1]; exact Or.inr (whl_lab h3)
end RW
