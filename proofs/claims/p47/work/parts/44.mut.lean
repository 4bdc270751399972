/-! changes of the lines: the words, and both sides -/
def aGap (a : Ab) (g : Nat) : Ab := (an a, g, al a, ah a, ab a, ap a)
def aLab (a : Ab) (k : Nat) (b : Int) : Ab := (an a, ag a, al a, ah a, (fun i => if i = k then b else ab a i), ap a)
def aLev (a : Ab) (k l : Nat) : Ab := (an a, ag a, (fun i => if i = k then l else al a i), ah a, ab a, ap a)
def aLine (a : Ab) (l p : Nat) : Ab := (an a + 1, ag a, (fun i => if i = an a then l else al a i), (fun i => if i = an a then 0 else ah a i), (fun i => if i = an a then -1 else ab a i), (fun i j => if i = an a then p else ap a i j))
def aStep (a : Ab) (k p : Nat) : Ab := (an a, ag a, al a, (fun i => if i = k then ah a k + 1 else ah a i), ab a, (fun i j => if i = k ∧ j = ah a k + 1 then p else ap a i j))
def aWipe (a : Ab) (k : Nat) : Ab := (an a - 1, ag a, (fun i => if i < k then al a i else al a (i + 1)), (fun i => if i < k then ah a i else ah a (i + 1)), (fun i => if i < k then ab a i else ab a (i + 1)), (fun i j => if i < k then ap a i j else ap a (i + 1) j))
theorem inv_gap {a : Ab} (I : InvA a) {g : Nat} (h : 1 ≤ g ∧ g ≤ 6) : InvA (aGap a g) := ⟨I.1, h.1, h.2, I.2.2.2.1, I.2.2.2.2.1, I.2.2.2.2.2⟩
theorem inv_lab {a : Ab} (I : InvA a) {k : Nat} {b : Int} (h : b = -1 ∨ (0 ≤ b ∧ b + szA a k ≤ ah a k + 1)) : InvA (aLab a k b) := by
  refine ⟨I.1, I.2.1, I.2.2.1, fun i hi => ?_, I.2.2.2.2.1, I.2.2.2.2.2⟩
  obtain ⟨h1, h2, h3, h4, h5⟩ := I.2.2.2.1 i hi
  refine ⟨h1, h2, ?_, h4, h5⟩
  show (if i = k then b else ab a i) = -1 ∨ (0 ≤ (if i = k then b else ab a i) ∧ (if i = k then b else ab a i) + szA a i ≤ ah a i + 1)
  by_cases q : i = k
  · rw [if_pos q, q]; exact h
  · rw [if_neg q]; exact h3
theorem inv_lev {a : Ab} (I : InvA a) {k l : Nat} (hl : l ≤ 99) (h : ab a k = -1) : InvA (aLev a k l) := by
  refine ⟨I.1, I.2.1, I.2.2.1, fun i hi => ?_, I.2.2.2.2.1, I.2.2.2.2.2⟩
  obtain ⟨h1, h2, h3, h4, h5⟩ := I.2.2.2.1 i hi
  refine ⟨?_, h2, ?_, h4, h5⟩
  · show (if i = k then l else al a i) ≤ 99
    by_cases q : i = k
    · rw [if_pos q]; exact hl
    · rw [if_neg q]; exact h1
  · by_cases q : i = k
    · left; rw [q]; exact h
    · rcases h3 with h3 | h3
      · exact Or.inl h3
      · refine Or.inr ⟨h3.1, ?_⟩
        have e : szA (aLev a k l) i = szA a i := by
          unfold szA
          rw [show al (aLev a k l) i = (if i = k then l else al a i) from rfl, if_neg q]
        rw [e]; exact h3.2
theorem inv_line {a : Ab} (I : InvA a) {l p : Nat} (hn : an a < 8) (hl : l ≤ 99) (hp : p < 384) (ho : ∀ i, i < an a → ¬ onL a i p) : InvA (aLine a l p) := by
  have e1 : ∀ i, i ≠ an a → al (aLine a l p) i = al a i ∧ ah (aLine a l p) i = ah a i ∧ ab (aLine a l p) i = ab a i ∧ ∀ j, ap (aLine a l p) i j = ap a i j := fun i hi => ⟨if_neg hi, if_neg hi, if_neg hi, fun j => if_neg hi⟩
  have e2 : al (aLine a l p) (an a) = l ∧ ah (aLine a l p) (an a) = 0 ∧ ab (aLine a l p) (an a) = -1 ∧ ∀ j, ap (aLine a l p) (an a) j = p := ⟨if_pos rfl, if_pos rfl, if_pos rfl, fun j => if_pos rfl⟩
  refine ⟨hn, I.2.1, I.2.2.1, fun i hi => ?_, fun k i j hk hij hj he => ?_, fun k k' i j hk hk' hi hj he => ?_⟩
  · by_cases q : i = an a
    · subst q
      obtain ⟨f1, f2, f3, f4⟩ := e2
      rw [f1, f2, f3]
      exact ⟨hl, by omega, Or.inl rfl, fun j _ => by rw [f4]; exact hp, fun j hj => absurd hj (by omega)⟩
    · obtain ⟨f1, f2, f3, f4⟩ := e1 i q
      have hi2 : i < an a := by have : i < an a + 1 := hi; omega
      obtain ⟨h1, h2, h3, h4, h5⟩ := I.2.2.2.1 i hi2
      have fs : szA (aLine a l p) i = szA a i := by unfold szA; rw [f1]
      rw [fs, f1, f2, f3]
      exact ⟨h1, h2, h3, fun j hj => by rw [f4]; exact h4 j hj, fun j hj => by rw [f4, f4]; exact h5 j hj⟩
  · by_cases q : k = an a
    · subst q; rw [e2.2.1] at hj; omega
    · obtain ⟨f1, f2, f3, f4⟩ := e1 k q
      have hk2 : k < an a := by have : k < an a + 1 := hk; omega
      rw [f2] at hj ⊢
      rw [f4, f4] at he
      exact I.2.2.2.2.1 k i j hk2 hij hj he
  · have hk2 : k < an a + 1 := hk
    have hk3 : k' < an a + 1 := hk'
    by_cases q : k = an a
    · by_cases q' : k' = an a
      · omega
      · exfalso
        obtain ⟨f1, f2, f3, f4⟩ := e1 k' q'
        subst q
        rw [e2.2.2.2, f4] at he
        rw [f2] at hj
        exact ho k' (by omega) ⟨j, hj, by rw [he]⟩
    · obtain ⟨f1, f2, f3, f4⟩ := e1 k q
      by_cases q' : k' = an a
      · exfalso
        subst q'
        rw [e2.2.2.2, f4] at he
        rw [f2] at hi
        exact ho k (by omega) ⟨i, hi, by rw [he]⟩
      · obtain ⟨g1, g2, g3, g4⟩ := e1 k' q'
        rw [f2] at hi
        rw [g2] at hj
        rw [f4, g4] at he
        exact I.2.2.2.2.2 k k' i j (by omega) (by omega) hi hj he
theorem inv_wipe {a : Ab} (I : InvA a) {k : Nat} (hk : k < an a) : InvA (aWipe a k) := by
  have e : ∀ i, al (aWipe a k) i = al a (if i < k then i else i + 1) ∧ ah (aWipe a k) i = ah a (if i < k then i else i + 1) ∧ ab (aWipe a k) i = ab a (if i < k then i else i + 1) ∧ ∀ j, ap (aWipe a k) i j = ap a (if i < k then i else i + 1) j := by
    intro i
    show (if i < k then al a i else al a (i + 1)) = _ ∧ (if i < k then ah a i else ah a (i + 1)) = _ ∧ (if i < k then ab a i else ab a (i + 1)) = _ ∧ ∀ j, (if i < k then ap a i j else ap a (i + 1) j) = _
    by_cases q : i < k
    · refine ⟨?_, ?_, ?_, fun j => ?_⟩ <;> simp only [if_pos q]
    · refine ⟨?_, ?_, ?_, fun j => ?_⟩ <;> simp only [if_neg q]
  have hb : ∀ i, i < an a - 1 → (if i < k then i else i + 1) < an a := by intro i hi; split <;> omega
  have hi8 := I.1
  refine ⟨by show an a - 1 ≤ 8; omega, I.2.1, I.2.2.1, fun i hi => ?_, fun k2 i j hk2 hij hj he => ?_, fun k2 k' i j hk2 hk' hi hj he => ?_⟩
  · obtain ⟨f1, f2, f3, f4⟩ := e i
    obtain ⟨h1, h2, h3, h4, h5⟩ := I.2.2.2.1 _ (hb i hi)
    have fs : szA (aWipe a k) i = szA a (if i < k then i else i + 1) := by unfold szA; rw [f1]
    rw [fs, f1, f2, f3]
    exact ⟨h1, h2, h3, fun j hj => by rw [f4]; exact h4 j hj, fun j hj => by rw [f4, f4]; exact h5 j hj⟩
  · obtain ⟨f1, f2, f3, f4⟩ := e k2
    rw [f2] at hj ⊢
    rw [f4, f4] at he
    exact I.2.2.2.2.1 _ i j (hb k2 hk2) hij hj he
  · obtain ⟨f1, f2, f3, f4⟩ := e k2
    obtain ⟨g1, g2, g3, g4⟩ := e k'
    rw [f2] at hi
    rw [g2] at hj
    rw [f4, g4] at he
    have := I.2.2.2.2.2 _ _ i j (hb k2 hk2) (hb k' hk') hi hj he
    split at this <;> split at this <;> omega
section MU
variable {σ : Sh} {a : Ab}
theorem sp_putLabel (H : RepS σ a) (I : InvA a) {k : Nat} (hk : k < an a) (b : Int) : ∃ σ', fX4_putLabel σ (iI k) (iI b) = some σ' ∧ RepS σ' (aLab a k b) := by
  have h8 := I.1
  have hn := H.1
  have e0 : (iI (k : Int)).toNatClampNeg = k := by rw [iI_tn (by omega) (by omega)]; omega
  refine ⟨S_lb' σ (upd (S_lb σ) k (iI b)), ?_, H.1, H.2.1, fun i hi => ?_⟩
  · unfold fX4_putLabel
    rw [hn, if_neg (nlt0 (by omega)), if_neg (nle (by omega) (by omega) (by omega)), if_pos (inR_iI (by omega) (by omega) (by omega)), e0]
  · obtain ⟨h1, h2, h3, h4⟩ := H.2.2 i hi
    refine ⟨h1, h2, ?_, h4⟩
    show upd (S_lb σ) k (iI b) i = iI (if i = k then b else ab a i)
    unfold upd
    by_cases q : i = k
    · rw [if_pos q, if_pos q]
    · rw [if_neg q, if_neg q]; exact h3
theorem sp_putLevel (H : RepS σ a) (I : InvA a) {k : Nat} (hk : k < an a) (l : Nat) : ∃ σ', fX4_putLevel σ (iI k) (iI l) = some σ' ∧ RepS σ' (aLev a k l) := by
  have h8 := I.1
  have hn := H.1
  have e0 : (iI (k : Int)).toNatClampNeg = k := by rw [iI_tn (by omega) (by omega)]; omega
  refine ⟨S_lv' σ (upd (S_lv σ) k (iI l)), ?_, H.1, H.2.1, fun i hi => ?_⟩
  · unfold fX4_putLevel
    rw [hn, if_neg (nlt0 (by omega)), if_neg (nle (by omega) (by omega) (by omega)), if_pos (inR_iI (by omega) (by omega) (by omega)), e0]
  · obtain ⟨h1, h2, h3, h4⟩ := H.2.2 i hi
    refine ⟨?_, h2, h3, h4⟩
    show upd (S_lv σ) k (iI l) i = iI ((if i = k then l else al a i : Nat) : Int)
    unfold upd
    by_cases q : i = k
    · rw [if_pos q, if_pos q]
    · rw [if_neg q, if_neg q]; exact h1
theorem sp_putGap (H : RepS σ a) (g : Nat) : ∃ σ', fX4_putGap σ (iI g) = some σ' ∧ RepS σ' (aGap a g) := ⟨S_gap' σ (iI g), rfl, H.1, rfl, H.2.2⟩
theorem sp_addLine (H : RepS σ a) (I : InvA a) (hn8 : an a < 8) (l p : Nat) : ∃ σ', fX4_addLine σ (iI l) (iI p) = some (iI (an a), σ') ∧ RepS σ' (aLine a l p) := by
  have hn := H.1
  have e0 : (iI (an a : Int)).toNatClampNeg = an a := by rw [iI_tn (by omega) (by omega)]; omega
  have e1 : iI (an a : Int) * (61 : Int32) = iI ((61 * an a : Nat) : Int) := by rw [L61, iI_mul]; exact congrArg iI (by omega)
  have e2 : (iI ((61 * an a : Nat) : Int)).toNatClampNeg = 61 * an a := by rw [iI_tn (by omega) (by omega)]; omega
  refine ⟨S_n' (S_pt' (S_lb' (S_sc' (S_lv' σ (upd (S_lv σ) (an a) (iI l))) (upd (S_sc σ) (an a) (0 : Int32))) (upd (S_lb σ) (an a) (-1 : Int32))) (upd (S_pt σ) (61 * an a) (iI p))) (iI ((an a + 1 : Nat) : Int)), ?_, rfl, H.2.1, fun i hi => ?_⟩
  · unfold fX4_addLine
    rw [hn, e1, if_pos (by rw [L8]; exact ylt (by omega) (by omega) (by omega)), if_pos (inR_iI (by omega) (by omega) (by omega)), if_pos (inR_iI (by omega) (by omega) (by omega)), e0, e2, iI_s]
  · show upd (S_lv σ) (an a) (iI l) i = iI ((if i = an a then l else al a i : Nat) : Int) ∧ upd (S_sc σ) (an a) (0 : Int32) i = iI ((if i = an a then 0 else ah a i : Nat) : Int) ∧ upd (S_lb σ) (an a) (-1 : Int32) i = iI (if i = an a then -1 else ab a i) ∧ ∀ j, j ≤ (if i = an a then 0 else ah a i) → upd (S_pt σ) (61 * an a) (iI p) (61 * i + j) = iI ((if i = an a then p else ap a i j : Nat) : Int)
    unfold upd
    by_cases q : i = an a
    · refine ⟨(if_pos q).trans (congrArg (fun z : Nat => iI (z : Int)) (if_pos q).symm), (if_pos q).trans (congrArg (fun z : Nat => iI (z : Int)) (if_pos q).symm), (if_pos q).trans (show (-1 : Int32) = iI (if i = an a then -1 else ab a i) from by rw [if_pos q]; rfl), fun j hj => ?_⟩
      rw [if_pos q] at hj
      rw [if_pos (by omega), if_pos q]
    · have hi2 : i < an a := by have : i < an a + 1 := hi; omega
      obtain ⟨h1, h2, h3, h4⟩ := H.2.2 i hi2
      have h60 := (I.2.2.2.1 i hi2).2.1
      simp only [if_neg q]
      refine ⟨h1, h2, h3, fun j hj => ?_⟩
      rw [if_neg (by omega)]; exact h4 j hj
theorem sp_addStep (H : RepS σ a) (I : InvA a) {k : Nat} (hk : k < an a) (h60 : ah a k < 60) {d : Int} (hd : 0 ≤ d ∧ d ≤ 7) {p : Nat} (hp : besI (ap a k (ah a k)) d = p) : ∃ σ', fX4_addStep σ (iI k) (iI d) = some σ' ∧ RepS σ' (aStep a k p) := by
  have h8 := I.1
  have hlast := (I.2.2.2.1 k hk).2.2.2.1 (ah a k) (Nat.le_refl _)
  have e0 : (iI (k : Int)).toNatClampNeg = k := by rw [iI_tn (by omega) (by omega)]; omega
  have e1 : iI (k : Int) * (61 : Int32) + iI (ah a k : Int) + (1 : Int32) = iI ((61 * k + ah a k + 1 : Nat) : Int) := by rw [L61, L1, iI_mul, iI_add, iI_add]; exact congrArg iI (by omega)
  have e2 : (iI ((61 * k + ah a k + 1 : Nat) : Int)).toNatClampNeg = 61 * k + ah a k + 1 := by rw [iI_tn (by omega) (by omega)]; omega
  refine ⟨S_sc' (S_pt' σ (upd (S_pt σ) (61 * k + ah a k + 1) (iI p))) (upd (S_sc σ) k (iI ((ah a k + 1 : Nat) : Int))), ?_, H.1, H.2.1, fun i hi => ?_⟩
  · unfold fX4_addStep
    rw [sp_stepCount H I hk]
    simp only [Option.bind_some]
    rw [if_neg (nlt0 (by omega)), if_pos (by rw [L60]; exact ylt (by omega) (by omega) (by omega)), sp_pointAt H I hk (Nat.le_refl _)]
    simp only [Option.bind_some]
    rw [sp_pointBeside (by omega) hd, hp]
    simp only [Option.bind_some]
    rw [e1, if_pos (inR_iI (by omega) (by omega) (by omega)), if_pos (inR_iI (by omega) (by omega) (by omega)), e2, e0, iI_s]
  · obtain ⟨h1, h2, h3, h4⟩ := H.2.2 i hi
    have hi60 := (I.2.2.2.1 i hi).2.1
    refine ⟨h1, ?_, h3, fun j hj => ?_⟩
    · show upd (S_sc σ) k (iI ((ah a k + 1 : Nat) : Int)) i = iI ((if i = k then ah a k + 1 else ah a i : Nat) : Int)
      unfold upd
      by_cases q : i = k
      · rw [if_pos q, if_pos q]
      · rw [if_neg q, if_neg q]; exact h2
    · have hj' : j ≤ (if i = k then ah a k + 1 else ah a i) := hj
      show upd (S_pt σ) (61 * k + ah a k + 1) (iI p) (61 * i + j) = iI ((if i = k ∧ j = ah a k + 1 then p else ap a i j : Nat) : Int)
      unfold upd
      by_cases q : i = k
      · rw [if_pos q] at hj'
        by_cases r : j = ah a k + 1
        · rw [if_pos (by rw [q, r]; omega), if_pos ⟨q, r⟩]
        · rw [if_neg (by rw [q]; omega), if_neg (fun t => r t.2)]; exact h4 j (by rw [q]; omega)
      · rw [if_neg q] at hj'
        rw [if_neg (by omega), if_neg (fun t => q t.1)]; exact h4 j hj'
theorem inv_step (I : InvA a) {k : Nat} (hk : k < an a) {d : Int} (hd : 0 ≤ d ∧ d ≤ 7) {p : Nat} (hp : besI (ap a k (ah a k)) d = p) (hw : whyA a k d = 0) : ah a k < 60 ∧ InvA (aStep a k p) := by
  have h8 := I.1
  have a1 := ac_rng d
  have a2 := dn_rng d
  have hl := (I.2.2.2.1 k hk).2.2.2.1 (ah a k) (Nat.le_refl _)
  have h60 := (I.2.2.2.1 k hk).2.1
  unfold whyA at hw
  rw [hp] at hw
  have c1 : ¬ ringA a k := fun q => by rw [cIf_pos q] at hw; omega
  rw [cIf_neg c1] at hw
  have c2 : ¬ ah a k = 60 := fun q => by rw [cIf_pos q] at hw; omega
  rw [cIf_neg c2] at hw
  have c3 : ¬ (p : Int) = -1 := fun q => by omega
  rw [cIf_neg c3] at hw
  have c4 : ¬ (¬ (3 ≤ ah a k ∧ (p : Int) = ap a k 0) ∧ ∃ k', k' < an a ∧ onL a k' p) := fun q => by rw [cIf_pos q] at hw; omega
  have hq : ∀ k' j, k' < an a → j ≤ ah a k' → ap a k' j = p → k' = k ∧ j = 0 ∧ 3 ≤ ah a k := by
    intro k' j hk' hj he
    have h1 : 3 ≤ ah a k ∧ (p : Int) = ap a k 0 := Classical.byContradiction (fun t => c4 ⟨t, k', hk', j, hj, by rw [he]⟩)
    have h2 := I.2.2.2.2.2 k' k j 0 hk' hk hj (Nat.zero_le _) (by omega)
    subst h2
    refine ⟨rfl, ?_, h1.1⟩
    rcases Nat.eq_zero_or_pos j with z | z
    · exact z
    · have := I.2.2.2.2.1 k' 0 j hk z hj (by omega)
      exact absurd ⟨this.2.2, by rw [← this.2.1]; omega⟩ c1
  have hbes : 0 ≤ (ap a k (ah a k) : Int) % 24 + acI d ∧ (ap a k (ah a k) : Int) % 24 + acI d < 24 ∧ 0 ≤ (ap a k (ah a k) : Int) / 24 + dnI d ∧ (ap a k (ah a k) : Int) / 24 + dnI d < 16 := by
    refine Classical.byContradiction (fun t => ?_)
    unfold besI at hp
    rw [if_neg t] at hp
    omega
  have hpv : (p : Int) = ap a k (ah a k) + 24 * dnI d + acI d := by
    unfold besI at hp
    rw [if_pos hbes] at hp
    omega
  have eh : ∀ i, ah (aStep a k p) i = if i = k then ah a k + 1 else ah a i := fun _ => rfl
  have ep : ∀ i j, ap (aStep a k p) i j = if i = k ∧ j = ah a k + 1 then p else ap a i j := fun _ _ => rfl
  refine ⟨by omega, h8, I.2.1, I.2.2.1, fun i hi => ?_, fun k2 i j hk2 hij hj he => ?_, fun k2 k' i j hk2 hk' hi hj he => ?_⟩
  · obtain ⟨h1, h2, h3, h4, h5⟩ := I.2.2.2.1 i hi
    have h3' : ab a i = -1 ∨ (0 ≤ ab a i ∧ ab a i + szA a i ≤ ah a i + 1) := h3
    by_cases q : i = k
    · subst q
      rw [eh, if_pos rfl]
      refine ⟨h1, by omega, ?_, fun j hj => ?_, fun j hj => ?_⟩
      · rcases h3' with z | z
        · exact Or.inl z
        · exact Or.inr ⟨z.1, by show ab a i + szA a i ≤ ((ah a i + 1 : Nat) : Int) + 1; omega⟩
      · rw [ep]
        by_cases r : j = ah a i + 1
        · rw [if_pos ⟨rfl, r⟩]; omega
        · rw [if_neg (fun t => r t.2)]; exact h4 j (by omega)
      · rw [ep, ep, if_neg (fun t => by omega)]
        by_cases r : j + 1 = ah a i + 1
        · rw [if_pos ⟨rfl, r⟩, show j = ah a i by omega]
          exact ⟨d, hd.1, hd.2, hpv, hbes⟩
        · rw [if_neg (fun t => r t.2)]; exact h5 j (by omega)
    · rw [eh, if_neg q]
      refine ⟨h1, h2, h3, fun j hj => ?_, fun j hj => ?_⟩
      · rw [ep, if_neg (fun t => q t.1)]; exact h4 j hj
      · rw [ep, ep, if_neg (fun t => q t.1), if_neg (fun t => q t.1)]; exact h5 j hj
  · rw [eh] at hj ⊢
    rw [ep, ep] at he
    by_cases q : k2 = k
    · subst q
      rw [if_pos rfl] at hj ⊢
      rw [if_neg (fun t => by omega)] at he
      by_cases r : j = ah a k2 + 1
      · rw [if_pos ⟨rfl, r⟩] at he
        have := hq k2 i hk2 (by omega) he
        exact ⟨this.2.1, r, by omega⟩
      · rw [if_neg (fun t => r t.2)] at he
        have := I.2.2.2.2.1 k2 i j hk2 hij (by omega) he
        exact absurd ⟨this.2.2, by rw [← this.2.1, ← he, this.1]⟩ c1
    · rw [if_neg q] at hj ⊢
      rw [if_neg (fun t => q t.1), if_neg (fun t => q t.1)] at he
      exact I.2.2.2.2.1 k2 i j hk2 hij hj he
  · rw [eh] at hi hj
    rw [ep, ep] at he
    by_cases q : k2 = k ∧ i = ah a k + 1
    · rw [if_pos q] at he
      by_cases q' : k' = k ∧ j = ah a k + 1
      · omega
      · rw [if_neg q'] at he
        have hj2 : j ≤ ah a k' := by
          by_cases z : k' = k
          · rw [if_pos z] at hj
            have : ¬ j = ah a k + 1 := fun t => q' ⟨z, t⟩
            rw [z]; omega
          · rw [if_neg z] at hj; exact hj
        have := hq k' j hk' hj2 he.symm
        omega
    · rw [if_neg q] at he
      have hi2 : i ≤ ah a k2 := by
        by_cases z : k2 = k
        · rw [if_pos z] at hi
          have : ¬ i = ah a k + 1 := fun t => q ⟨z, t⟩
          rw [z]; omega
        · rw [if_neg z] at hi; exact hi
      by_cases q' : k' = k ∧ j = ah a k + 1
      · rw [if_pos q'] at he
        have := hq k2 i hk2 hi2 he
        omega
      · rw [if_neg q'] at he
        have hj2 : j ≤ ah a k' := by
          by_cases z : k' = k
          · rw [if_pos z] at hj
            have : ¬ j = ah a k + 1 := fun t => q' ⟨z, t⟩
            rw [z]; omega
          · rw [if_neg z] at hj; exact hj
        exact I.2.2.2.2.2 k2 k' i j hk2 hk' hi2 hj2 he
end MU
