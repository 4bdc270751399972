/-! what keeps the lines from crossing -/
section KP
variable {a : Ab}
theorem nox_gap (N : NoX a) (g : Nat) : NoX (aGap a g) := N
theorem nox_lab (N : NoX a) (k : Nat) (b : Int) : NoX (aLab a k b) := N
theorem nox_lev (N : NoX a) (k l : Nat) : NoX (aLev a k l) := N
theorem nox_line (N : NoX a) (l p : Nat) : NoX (aLine a l p) := by
  intro k i j hk hi hj ho hn
  by_cases q : k = an a
  · subst q
    have e : ah (aLine a l p) (an a) = 0 := if_pos rfl
    omega
  · have hk' : k < an a := by have : k < an a + 1 := hk; omega
    have e2 : ah (aLine a l p) k = ah a k := if_neg q
    have e4 : ∀ j, ap (aLine a l p) k j = ap a k j := fun j => if_neg q
    have e5 : drA (aLine a l p) k i = drA a k i := by unfold drA; rw [e4, e4]
    rw [e2] at hi hj
    rw [e5] at ho hn
    unfold jnA at hn
    rw [e4, e4, e4] at hn
    exact N k i j hk' hi hj ho hn
theorem nox_wipe (N : NoX a) {k : Nat} (hk : k < an a) : NoX (aWipe a k) := by
  intro k2 i j hk2 hi hj ho hn
  have hk2' : k2 < an a - 1 := hk2
  by_cases q : k2 < k
  · have e2 : ah (aWipe a k) k2 = ah a k2 := if_pos q
    have e4 : ∀ j, ap (aWipe a k) k2 j = ap a k2 j := fun j => if_pos q
    have e5 : drA (aWipe a k) k2 i = drA a k2 i := by unfold drA; rw [e4, e4]
    rw [e2] at hi hj
    rw [e5] at ho hn
    unfold jnA at hn
    rw [e4, e4, e4] at hn
    exact N k2 i j (by omega) hi hj ho hn
  · have e2 : ah (aWipe a k) k2 = ah a (k2 + 1) := if_neg q
    have e4 : ∀ j, ap (aWipe a k) k2 j = ap a (k2 + 1) j := fun j => if_neg q
    have e5 : drA (aWipe a k) k2 i = drA a (k2 + 1) i := by unfold drA; rw [e4, e4]
    rw [e2] at hi hj
    rw [e5] at ho hn
    unfold jnA at hn
    rw [e4, e4, e4] at hn
    exact N (k2 + 1) i j (by omega) hi hj ho hn
theorem step_pt (I : InvA a) {k : Nat} (hk : k < an a) {d : Int} {p : Nat} (hp : besI (ap a k (ah a k)) d = p) (hw : whyA a k d = 0) : (p : Int) = ap a k (ah a k) + 24 * dnI d + acI d ∧ ¬ crossA a (ap a k (ah a k)) d := by
  have hl := (I.2.2.2.1 k hk).2.2.2.1 (ah a k) (Nat.le_refl _)
  unfold whyA at hw
  rw [hp] at hw
  have c1 : ¬ ringA a k := fun q => by rw [cIf_pos q] at hw; omega
  rw [cIf_neg c1] at hw
  have c2 : ¬ ah a k = 60 := fun q => by rw [cIf_pos q] at hw; omega
  rw [cIf_neg c2] at hw
  have c3 : ¬ (p : Int) = -1 := fun q => by omega
  rw [cIf_neg c3] at hw
  have c4 : ¬ (¬ (3 ≤ ah a k ∧ (p : Int) = ap a k 0) ∧ ∃ k', k' < an a ∧ onL a k' p) := fun q => by rw [cIf_pos q] at hw; omega
  rw [cIf_neg c4] at hw
  have c5 : ¬ crossA a (ap a k (ah a k)) d := fun q => by rw [cIf_pos q] at hw; omega
  refine ⟨?_, c5⟩
  unfold besI at hp
  by_cases t : 0 ≤ (ap a k (ah a k) : Int) % 24 + acI d ∧ (ap a k (ah a k) : Int) % 24 + acI d < 24 ∧ 0 ≤ (ap a k (ah a k) : Int) / 24 + dnI d ∧ (ap a k (ah a k) : Int) / 24 + dnI d < 16
  · rw [if_pos t] at hp; omega
  · rw [if_neg t] at hp; omega
theorem nox_step (I : InvA a) (N : NoX a) {k : Nat} (hk : k < an a) {d : Int} (hd : 0 ≤ d ∧ d ≤ 7) {p : Nat} (hp : besI (ap a k (ah a k)) d = p) (hw : whyA a k d = 0) : NoX (aStep a k p) := by
  obtain ⟨hpv, hc⟩ := step_pt I hk hp hw
  have eh : ∀ i, ah (aStep a k p) i = if i = k then ah a k + 1 else ah a i := fun _ => rfl
  have ep : ∀ i j, ap (aStep a k p) i j = if i = k ∧ j = ah a k + 1 then p else ap a i j := fun _ _ => rfl
  have od := ac_odd hd
  have a1 := ac_rng d
  have a2 := dn_rng d
  intro k2 i j hk2 hi hj ho hn
  by_cases q : k2 = k
  · subst q
    rw [eh, if_pos rfl] at hi hj
    have en : ∀ i, i ≤ ah a k2 → ap (aStep a k2 p) k2 i = ap a k2 i := fun i hi => by rw [ep, if_neg (by omega)]
    have el : ap (aStep a k2 p) k2 (ah a k2 + 1) = p := by rw [ep, if_pos ⟨rfl, rfl⟩]
    have dl : drA (aStep a k2 p) k2 (ah a k2) = d := by
      unfold drA
      rw [el, en _ (Nat.le_refl _)]
      exact dir_stp hd.1 hd.2 hpv
    have dn : ∀ i, i < ah a k2 → drA (aStep a k2 p) k2 i = drA a k2 i := fun i hi => by
      unfold drA
      rw [en _ (by omega), en _ (by omega)]
    by_cases hi2 : i = ah a k2
    · subst hi2
      rw [dl] at ho hn
      rw [en _ (Nat.le_refl _)] at hn
      by_cases hj2 : j = ah a k2
      · subst hj2
        unfold jnA at hn
        rw [en _ (Nat.le_refl _)] at hn
        have := od.1.mp ho
        omega
      · have hj3 : j < ah a k2 := by omega
        unfold jnA at hn
        rw [en _ (by omega), en _ (by omega)] at hn
        exact hc ⟨ho, k2, hk, j, hj3, hn⟩
    · have hi3 : i < ah a k2 := by omega
      rw [dn i hi3] at ho hn
      rw [en _ (by omega)] at hn
      by_cases hj2 : j = ah a k2
      · subst hj2
        unfold jnA at hn
        rw [en _ (Nat.le_refl _), el] at hn
        have g := dr_rng I hk hi3
        have oe := (ac_odd g).1.mp ho
        have b1 := ac_rng (drA a k2 i)
        have b2 := dn_rng (drA a k2 i)
        have hq := ap_next I hk hi3
        generalize drA a k2 i = e at ho hn oe b1 b2 hq
        rcases hn with ⟨n1, n2⟩ | ⟨n1, n2⟩
        · refine hc ⟨od.1.mpr (by omega), k2, hk, i, hi3, Or.inl ⟨by omega, by omega⟩⟩
        · refine hc ⟨od.1.mpr (by omega), k2, hk, i, hi3, Or.inr ⟨by omega, by omega⟩⟩
      · unfold jnA at hn
        rw [en _ (by omega), en _ (by omega)] at hn
        exact N k2 i j hk hi3 (by omega) ho hn
  · rw [eh, if_neg q] at hi hj
    have en : ∀ i, ap (aStep a k p) k2 i = ap a k2 i := fun i => by rw [ep, if_neg (fun w => q w.1)]
    have dn : drA (aStep a k p) k2 i = drA a k2 i := by unfold drA; rw [en, en]
    rw [dn] at ho hn
    unfold jnA at hn
    rw [en, en, en] at hn
    exact N k2 i j hk2 hi hj ho hn
end KP
/-! the model's row after a wiped line; snapshots; undo -/
theorem upd_ne {f : Nat → Int32} {k x : Nat} {v : Int32} (h : x ≠ k) : upd f k v x = f x := by unfold upd; rw [if_neg h]
section WP
variable {σ : Sh} {η : Hi} {a : Ab}
end WP
