/-! the model's row after a begun line and after a step; the best place is a place -/
section RW
variable {a : Ab}
theorem dir_stp {p q : Nat} {d : Int} (h0 : 0 ≤ d) (h7 : d ≤ 7) (hq : (q : Int) = p + 24 * dnI d + acI d) : dirD ((q : Int) - p) = d := by
  have : d = 0 ∨ d = 1 ∨ d = 2 ∨ d = 3 ∨ d = 4 ∨ d = 5 ∨ d = 6 ∨ d = 7 := by omega
  rcases this with rfl | rfl | rfl | rfl | rfl | rfl | rfl | rfl <;> rw [hq] <;> simp [dirD, dnI, acI] <;> omega
theorem bst_pl (a : Ab) (k : Nat) : ∀ (m j : Nat) (x y z : Int), j + m = ah a k + 1 → (x = -1 ∨ ∃ i : Nat, x = i ∧ i ≤ ah a k ∧ whlA a k i = 0) → (bstA a k m j x y z = -1 ∨ ∃ i : Nat, bstA a k m j x y z = i ∧ i ≤ ah a k ∧ whlA a k i = 0) := by
  intro m
  induction m with
  | zero => intro j x y z _ h; exact h
  | succ m ih =>
    intro j x y z h1 h
    rw [bstA]
    by_cases q : whlA a k j = 0 ∧ (x = -1 ∨ bopA a k j < y ∨ (bopA a k j = y ∧ z < freeA a k j))
    · rw [cIf_pos q]; exact ih (j + 1) _ _ _ (by omega) (Or.inr ⟨j, rfl, by omega, q.1⟩)
    · rw [cIf_neg q]; exact ih (j + 1) x y z (by omega) h
theorem best_pl (a : Ab) (k : Nat) : bestA a k = -1 ∨ ∃ i : Nat, bestA a k = i ∧ i ≤ ah a k ∧ whlA a k i = 0 := bst_pl a k (ah a k + 1) 0 (-1) 0 0 (by omega) (Or.inl rfl)
theorem whl_lab {k p : Nat} (h : whlA a k p = 0) : (0 : Int) ≤ p ∧ (p : Int) + szA a k ≤ ah a k + 1 := by
  have := pl_le (shp_pl (whl_shp h).1)
  omega
theorem best_inv (I : InvA a) (k : Nat) : InvA (aLab a k (bestA a k)) := by
  refine inv_lab I ?_
  rcases best_pl a k with h | ⟨i, h1, h2, h3⟩
  · exact Or.inl h
  · rw [h1]; exact Or.inr (whl_lab h3)
theorem rm_step {f : Nat → Int32} (H : RepM f a) (I : InvA a) {k : Nat} (hk : k < an a) (h60 : ah a k < 60) {d : Int} (hd : 0 ≤ d ∧ d ≤ 7) {p : Nat} (hq : (p : Int) = ap a k (ah a k) + 24 * dnI d + acI d) :
    RepM (upd (upd f (2 + 64 * k + (4 + ah a k)) (iI d)) (2 + 64 * k + 2) (iI ((ah a k + 1 : Nat) : Int))) (aStep a k p) := by
  have h8 := I.1
  have u : ∀ x, x ≠ 2 + 64 * k + (4 + ah a k) → x ≠ 2 + 64 * k + 2 → upd (upd f (2 + 64 * k + (4 + ah a k)) (iI d)) (2 + 64 * k + 2) (iI ((ah a k + 1 : Nat) : Int)) x = f x := fun x h1 h2 => by unfold upd; rw [if_neg h2, if_neg h1]
  have ep : ∀ i j, ap (aStep a k p) i j = if i = k ∧ j = ah a k + 1 then p else ap a i j := fun _ _ => rfl
  have eh : ∀ i, ah (aStep a k p) i = if i = k then ah a k + 1 else ah a i := fun _ => rfl
  refine ⟨(u 0 (by omega) (by omega)).trans H.1, (u 1 (by omega) (by omega)).trans H.2.1, fun i hi => ?_⟩
  obtain ⟨h1, h2, h3, h4, h5⟩ := H.2.2 i hi
  have hi60 := (I.2.2.2.1 i hi).2.1
  refine ⟨(u _ (by omega) (by omega)).trans h1, ?_, ?_, (u _ (by omega) (by omega)).trans h4, fun j hj => ?_⟩
  · rw [ep, if_neg (by omega), u _ (by omega) (by omega)]; exact h2
  · rw [eh]
    by_cases q : i = k
    · rw [if_pos q, q]; unfold upd; rw [if_pos rfl]
    · rw [if_neg q, u _ (by omega) (by omega)]; exact h3
  · rw [eh] at hj
    rw [ep, ep]
    by_cases q : i = k
    · rw [if_pos q] at hj
      subst q
      by_cases r : j = ah a i
      · rw [if_pos ⟨rfl, by omega⟩, if_neg (by omega), r, dir_stp hd.1 hd.2 hq]
        unfold upd
        rw [if_neg (by omega), if_pos (by omega)]
      · rw [if_neg (by omega), if_neg (by omega), u _ (by omega) (by omega)]; exact h5 j (by omega)
    · rw [if_neg q] at hj
      rw [if_neg (fun t => q t.1), if_neg (fun t => q t.1), u _ (by omega) (by omega)]; exact h5 j hj
theorem rm_line {f g : Nat → Int32} (H : RepM f a) (I : InvA a) {l p : Nat} (h0 : g 0 = iI ((an a + 1 : Nat) : Int)) (hl : g (2 + 64 * an a) = iI l) (hp : g (2 + 64 * an a + 1) = iI p) (hs : g (2 + 64 * an a + 2) = iI 0) (hb : g (2 + 64 * an a + 3) = iI (-1)) (hg : ∀ x, 0 < x → x < 2 + 64 * an a → g x = f x) : RepM g (aLine a l p) := by
  refine ⟨h0, (hg 1 (by omega) (by omega)).trans H.2.1, fun i hi => ?_⟩
  have hi' : i < an a + 1 := hi
  by_cases q : i = an a
  · subst q
    refine ⟨hl.trans (congrArg (fun z : Nat => iI (z : Int)) (show l = al (aLine a l p) (an a) from (if_pos rfl).symm)), hp.trans (congrArg (fun z : Nat => iI (z : Int)) (show p = ap (aLine a l p) (an a) 0 from (if_pos rfl).symm)), hs.trans (congrArg (fun z : Nat => iI (z : Int)) (show 0 = ah (aLine a l p) (an a) from (if_pos rfl).symm)), hb.trans (congrArg iI (show (-1 : Int) = ab (aLine a l p) (an a) from (if_pos rfl).symm)), fun j hj => ?_⟩
    have : ah (aLine a l p) (an a) = 0 := if_pos rfl
    omega
  · obtain ⟨h1, h2, h3, h4, h5⟩ := H.2.2 i (by omega)
    have hi60 := (I.2.2.2.1 i (by omega)).2.1
    have e1 : al (aLine a l p) i = al a i := if_neg q
    have e2 : ah (aLine a l p) i = ah a i := if_neg q
    have e3 : ab (aLine a l p) i = ab a i := if_neg q
    have e4 : ∀ j, ap (aLine a l p) i j = ap a i j := fun j => if_neg q
    rw [e1, e2, e3, e4]
    refine ⟨(hg _ (by omega) (by omega)).trans h1, (hg _ (by omega) (by omega)).trans h2, (hg _ (by omega) (by omega)).trans h3, (hg _ (by omega) (by omega)).trans h4, fun j hj => ?_⟩
    rw [e4, e4, hg _ (by omega) (by omega)]; exact h5 j hj
end RW
