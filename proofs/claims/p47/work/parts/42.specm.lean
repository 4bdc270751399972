/-! the model's methods in the same words -/
section SM
variable {a : Ab}
theorem ap_next (I : InvA a) {k : Nat} (hk : k < an a) {j : Nat} (hj : j < ah a k) : (ap a k (j + 1) : Int) = ap a k j + 24 * dnI (drA a k j) + acI (drA a k j) :=
  (stp_dir ((I.2.2.2.1 k hk).2.2.2.2 j hj)).2.2.1
def jnA (a : Ab) (k : Nat) (p q : Int) (i : Nat) : Prop := ((ap a k i : Int) = p ∧ (ap a k (i + 1) : Int) = q) ∨ ((ap a k i : Int) = q ∧ (ap a k (i + 1) : Int) = p)
theorem sm_slant {d : Int} (h : 0 ≤ d ∧ d ≤ 7) : ((irm (iI d) (2 : Int32)) = (1 : Int32)) ↔ d % 2 = 1 := by
  rw [L2, L1, iI_irm (by omega) (by omega), iI_eq (by omega) (by omega)]
end SM
