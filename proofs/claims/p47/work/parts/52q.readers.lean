/-! the calls that change nothing: both answer alike -/
theorem xth_ok {α β : Type} {v : α} {k : α → Option (Except String β)} : xthen (some (.ok v)) k = k v := rfl
theorem xth_err {α β : Type} {e : String} {k : α → Option (Except String β)} : xthen (some (.error e)) k = some (.error e) := rfl
theorem nft : ¬ (false = true) := by decide
section RDR
variable {σ : Sh} {a : Ab}
theorem rq_line (H : RepS σ a) (I : InvA a) {z : Int} (hz : -2147483648 ≤ z ∧ z < 2147483648) : (0 ≤ z ∧ z < an a → fX6_requireLine σ (iI z) = some (.ok ())) ∧ (¬ (0 ≤ z ∧ z < an a) → fX6_requireLine σ (iI z) = some (.error "java/lang/IndexOutOfBoundsException")) := by
  obtain ⟨b, hb, ib⟩ := sp_hasLine H I hz
  unfold fX6_requireLine
  rw [hb, Option.bind_some]
  exact ⟨fun h => by rw [if_pos (ib.mpr h)], fun h => by rw [if_neg (fun w => h (ib.mp w))]⟩
theorem rq_num (H : RepS σ a) (I : InvA a) {z w : Int} (hz : -2147483648 ≤ z ∧ z < 2147483648) (hw : -2147483648 ≤ w ∧ w < 2147483648) : ((0 ≤ z ∧ z < an a) ∧ 0 ≤ w ∧ w ≤ ah a z.toNat → fX6_requireNumber σ (iI z) (iI w) = some (.ok ())) ∧ (¬ ((0 ≤ z ∧ z < an a) ∧ 0 ≤ w ∧ w ≤ ah a z.toNat) → fX6_requireNumber σ (iI z) (iI w) = some (.error "java/lang/IndexOutOfBoundsException")) := by
  obtain ⟨b, hb, ib⟩ := sp_hasNumber H I hz hw
  unfold fX6_requireNumber
  rw [hb, Option.bind_some]
  exact ⟨fun h => by rw [if_pos (ib.mpr h)], fun h => by rw [if_neg (fun w => h (ib.mp w))]⟩
theorem rq_pt {z : Int} (hz : -2147483648 ≤ z ∧ z < 2147483648) : (0 ≤ z ∧ z ≤ 383 → fX6_requirePoint (iI z) = some (.ok ())) ∧ (¬ (0 ≤ z ∧ z ≤ 383) → fX6_requirePoint (iI z) = some (.error "java/lang/IndexOutOfBoundsException")) := by
  obtain ⟨b, hb, ib⟩ := sp_isOnMap hz
  unfold fX6_requirePoint
  rw [hb, Option.bind_some]
  exact ⟨fun h => by rw [if_pos (ib.mpr h)], fun h => by rw [if_neg (fun w => h (ib.mp w))]⟩
theorem rq_dir {z : Int} (hz : -2147483648 ≤ z ∧ z < 2147483648) : (0 ≤ z ∧ z ≤ 7 → fX6_requireDirection (iI z) = some (.ok ())) ∧ (¬ (0 ≤ z ∧ z ≤ 7) → fX6_requireDirection (iI z) = some (.error "java/lang/IllegalArgumentException")) := by
  obtain ⟨b, hb, ib⟩ := sp_isDirection hz
  unfold fX6_requireDirection
  rw [hb, Option.bind_some]
  exact ⟨fun h => by rw [if_pos (ib.mpr h)], fun h => by rw [if_neg (fun w => h (ib.mp w))]⟩
theorem natz {z : Int} {n : Nat} (h : 0 ≤ z ∧ z < n) : ∃ k : Nat, z = k ∧ k < n := ⟨z.toNat, by omega, by omega⟩
theorem bool_eq {b c : Bool} {P : Prop} (h1 : b = true ↔ P) (h2 : c = true ↔ P) : b = c := by
  cases b <;> cases c
  · rfl
  · exact absurd (h1.mpr (h2.mp rfl)) nft
  · exact absurd (h2.mpr (h1.mp rfl)) nft
  · rfl
end RDR
