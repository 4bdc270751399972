/-! lines round lines: parity beside a line, chains of lines, the innermost -/
section BK
variable {n : Nat} {c r : Nat → Int} {V : Type} {f : Int → Int → V}
theorem blk (C : Cv n c r) {x y : Int} (hx : 0 ≤ x ∧ x ≤ 23 ∧ 0 ≤ y ∧ y ≤ 15) (hp : ∀ j, j ≤ n → ¬ (c j = x ∧ r j = y)) {u v : Int} (hu : -1 ≤ u ∧ u ≤ 1) (hv : -1 ≤ v ∧ v ≤ 1) : Fr n c r (3 * x + 1 + u) (3 * y + 1 + v) := by
  refine ⟨by omega, by omega, by omega, by omega, ?_⟩
  rintro ⟨j, hj, h⟩
  have s := C.2.2.2.2.1 j hj
  have p1 := hp j (by omega)
  have p2 := hp (j + 1) (by omega)
  rcases h with h | h | h <;> omega
theorem blk_ev (C : Cv n c r) (O : Okf n c r f) {x y : Int} (hx : 0 ≤ x ∧ x ≤ 23 ∧ 0 ≤ y ∧ y ≤ 15) (hp : ∀ j, j ≤ n → ¬ (c j = x ∧ r j = y)) {u v : Int} (hu : -1 ≤ u ∧ u ≤ 1) (hv : -1 ≤ v ∧ v ≤ 1) : f (3 * x + 1) (3 * y + 1) = f (3 * x + 1 + u) (3 * y + 1 + v) := by
  have e1 : f (3 * x + 1) (3 * y + 1) = f (3 * x + 1 + u) (3 * y + 1) := by
    by_cases q : u = 0
    · subst q; rw [Int.add_zero]
    · have a1 := blk C hx hp (u := 0) (v := 0) (by omega) (by omega)
      have a2 := blk C hx hp (u := u) (v := 0) hu (by omega)
      rw [Int.add_zero] at a1 a2
      rw [Int.add_zero] at a1
      exact okf O a1 a2 (by omega)
  rw [e1]
  by_cases q : v = 0
  · subst q; rw [Int.add_zero]
  · have a1 := blk C hx hp (u := u) (v := 0) hu (by omega)
    have a2 := blk C hx hp (u := u) (v := v) hu hv
    rw [Int.add_zero] at a1
    exact okf O a1 a2 (by omega)
theorem mv_pt (C : Cv n c r) (O : Okf n c r f) {x y u v : Int} (hx : 0 ≤ x ∧ x ≤ 23 ∧ 0 ≤ y ∧ y ≤ 15) (hy : 0 ≤ x + u ∧ x + u ≤ 23 ∧ 0 ≤ y + v ∧ y + v ≤ 15) (hp : ∀ j, j ≤ n → ¬ (c j = x ∧ r j = y)) (hq : ∀ j, j ≤ n → ¬ (c j = x + u ∧ r j = y + v)) (hu : -1 ≤ u ∧ u ≤ 1) (hv : -1 ≤ v ∧ v ≤ 1) (hd : u ≠ 0 → v ≠ 0 → ¬ Ed n c r (x + u) y (-u) v) : f (3 * x + 1) (3 * y + 1) = f (3 * (x + u) + 1) (3 * (y + v) + 1) := by
  rw [blk_ev C O hx hp hu hv, blk_ev C O hy hq (u := -u) (v := -v) (by omega) (by omega)]
  have a1 := blk C hx hp hu hv
  have a2 := blk C hy hq (u := -u) (v := -v) (by omega) (by omega)
  by_cases q : u = 0
  · by_cases q2 : v = 0
    · subst q q2; congr 1 <;> omega
    · exact okf O a1 a2 (by omega)
  · by_cases q2 : v = 0
    · exact okf O a1 a2 (by omega)
    · have a3 : Fr n c r (3 * x + 1 + u + u) (3 * y + 1 + v) := fr_of C (x := x + u) (y := y) (u := -u) (v := v) (by omega) (by omega) (by omega) hv (by omega) (by omega) (hd q q2)
      rw [okf O a1 a3 (by omega)]
      exact okf O a3 a2 (by omega)
end BK
def NoXX (a : Ab) : Prop := ∀ k k' i j, k < an a → k' < an a → i < ah a k → j < ah a k' → drA a k i % 2 = 1 → ¬ jnA a k' ((ap a k i : Int) + acI (drA a k i)) ((ap a k i : Int) + 24 * dnI (drA a k i)) j
theorem NoXX.one {a : Ab} (N : NoXX a) : NoX a := fun k i j hk hi hj ho => N k k i j hk hk hi hj ho
def GX (a : Ab) : Prop := InvA a ∧ NoXX a
section NE
variable {a : Ab}
theorem evA_c {k p : Nat} {x y : Int} (hx : x = ((p % 24 : Nat) : Int)) (hy : y = ((p / 24 : Nat) : Int)) : evP (ah a k) (cA a k) (rA a k) (3 * x + 1) (3 * y + 1) = evA a k p := by subst hx hy; rfl
theorem off_pt {k p : Nat} (h : ¬ onL a k p) : ∀ j, j ≤ ah a k → ¬ (cA a k j = ((p % 24 : Nat) : Int) ∧ rA a k j = ((p / 24 : Nat) : Int)) := by
  rintro j hj ⟨h1, h2⟩
  have := ap_cr a k j
  exact h ⟨j, hj, by omega⟩
theorem ev_ok {n : Nat} {c r : Nat → Int} (C : Cv n c r) : Okf n c r (evP n c r) := ⟨fun _ _ _ h' => propext (ev_hor C h'), fun _ _ h h' => propext (ev_ver C h h')⟩
theorem mv_h (G : GX a) {k : Nat} (hk : k < an a) (hr : ringA a k) {p : Nat} (hp : p < 384) (hc : p % 24 < 23) (h1 : ¬ onL a k p) (h2 : ¬ onL a k ((p + 1 : Nat) : Int)) : evA a k p ↔ evA a k (p + 1) := by
  have C := cv_of G.1 G.2.one hk hr
  have e := mv_pt C (ev_ok C) (x := ((p % 24 : Nat) : Int)) (y := ((p / 24 : Nat) : Int)) (u := 1) (v := 0) (by omega) (by omega) (off_pt h1) (fun j hj q => off_pt h2 j hj (by omega)) (by omega) (by omega) (fun _ w => absurd rfl w)
  rw [evA_c rfl rfl, evA_c (p := p + 1) (by omega) (by omega)] at e
  exact Iff.of_eq e
theorem off_line (I : InvA a) {i k j : Nat} (hi : i < an a) (hk : k < an a) (hne : i ≠ k) (hj : j ≤ ah a i) : ¬ onL a k (ap a i j) := by
  rintro ⟨y, hy, e⟩
  exact hne (I.2.2.2.2.2 i k j y hi hk hj hy (by omega))
theorem mv_step (G : GX a) {i k : Nat} (hi : i < an a) (hk : k < an a) (hr : ringA a k) (hne : i ≠ k) {j : Nat} (hj : j < ah a i) : evA a k (ap a i j) ↔ evA a k (ap a i (j + 1)) := by
  have I := G.1
  have C := cv_of I G.2.one hk hr
  have p1 := p384 I hi (j := j) (by omega)
  have p2 := p384 I hi (j := j + 1) (by omega)
  obtain ⟨s1, s2⟩ := st_c I hi hj
  have r1 := ac_rng (drA a i j)
  have r2 := dn_rng (drA a i j)
  have q1 := ap_cr a i j
  have q2 := ap_cr a i (j + 1)
  have o1 := off_line I hi hk hne (j := j) (by omega)
  have o2 := off_line I hi hk hne (j := j + 1) (by omega)
  have e := mv_pt C (ev_ok C) (x := cA a i j) (y := rA a i j) (u := acI (drA a i j)) (v := dnI (drA a i j)) (by omega) (by omega) (fun y hy q => off_pt o1 y hy (by omega)) (fun y hy q => off_pt o2 y hy (by omega)) r1 r2 (by
    rintro hu hv ⟨y, hy, w⟩
    have ho := (ac_odd (dr_all a i j)).1.mpr ⟨hu, hv⟩
    have c1 := ap_cr a k y
    have c2 := ap_cr a k (y + 1)
    refine G.2 i k j y hi hk hj hy ho ?_
    unfold jnA
    rcases w with w | w
    · left; omega
    · right; omega)
  rw [evA_c (p := ap a i j) (by omega) (by omega), evA_c (p := ap a i (j + 1)) (by omega) (by omega)] at e
  exact Iff.of_eq e
theorem mv_line (G : GX a) {i k : Nat} (hi : i < an a) (hk : k < an a) (hr : ringA a k) (hne : i ≠ k) : ∀ j, j ≤ ah a i → (evA a k (ap a i j) ↔ evA a k (ap a i 0)) := by
  intro j
  induction j with
  | zero => intro _; exact Iff.rfl
  | succ j ih => intro hj; exact (mv_step G hi hk hr hne (by omega)).symm.trans (ih (by omega))
theorem ins_line (G : GX a) {i k : Nat} (hi : i < an a) (hk : k < an a) (hne : i ≠ k) {j : Nat} (hj : j ≤ ah a i) : insA a k (ap a i j) ↔ insA a k (ap a i 0) := by
  unfold insA
  constructor
  · rintro ⟨h1, h2, h3⟩; exact ⟨h1, off_line G.1 hi hk hne (Nat.zero_le _), fun q => h3 ((mv_line G hi hk h1 hne j hj).mpr q)⟩
  · rintro ⟨h1, h2, h3⟩; exact ⟨h1, off_line G.1 hi hk hne hj, fun q => h3 ((mv_line G hi hk h1 hne j hj).mp q)⟩
theorem ev_edge (k p : Nat) (hc : p % 24 = 23) : evA a k p := by
  rw [ev_ct]
  have e : smI (ctA a k p) (ah a k) 0 = smI (fun _ => 0) (ah a k) 0 := smI_congr _ 0 (fun j _ _ => by
    unfold ctA
    rw [if_neg]
    have c1 := ap_cr a k j
    have c2 := ap_cr a k (j + 1)
    rintro (⟨w1, w2, w3⟩ | ⟨w1, w2, w3⟩) <;> omega)
  rw [e, smI_zero]
  rfl
theorem ev_low (k p : Nat) (h : ∀ j, j ≤ ah a k → rA a k j ≤ ((p / 24 : Nat) : Int)) : evA a k p := by
  rw [ev_ct]
  have e : smI (ctA a k p) (ah a k) 0 = smI (fun _ => 0) (ah a k) 0 := smI_congr _ 0 (fun j _ hj => by
    unfold ctA
    rw [if_neg]
    have c1 := h j (by omega)
    have c2 := h (j + 1) (by omega)
    rintro (⟨w1, w2, w3⟩ | ⟨w1, w2, w3⟩) <;> omega)
  rw [e, smI_zero]
  rfl
theorem walk_r (G : GX a) {A B : Nat} (hA : A < an a) (hB : B < an a) (hne : A ≠ B) (rA' : ringA a A) (rB' : ringA a B) : ∀ (d p : Nat), p % 24 + d = 23 → p < 384 → ¬ onL a A p → ¬ onL a B p → ¬ evA a A p →
    ∃ q : Nat, q < 384 ∧ ((onL a A q ∧ ¬ onL a B q ∧ (evA a B q ↔ evA a B p)) ∨ (onL a B q ∧ ¬ onL a A q ∧ (evA a A q ↔ evA a A p))) := by
  have I := G.1
  intro d
  induction d with
  | zero => intro p h1 h2 h3 h4 h5; exact absurd (ev_edge A p (by omega)) h5
  | succ d ih =>
    intro p h1 h2 h3 h4 h5
    by_cases c1 : onL a A ((p + 1 : Nat) : Int)
    · have c2 : ¬ onL a B ((p + 1 : Nat) : Int) := fun w => hne (own_uniq I hB hA w c1)
      exact ⟨p + 1, by omega, Or.inl ⟨c1, c2, (mv_h G hB rB' h2 (by omega) h4 c2).symm⟩⟩
    · by_cases c2 : onL a B ((p + 1 : Nat) : Int)
      · exact ⟨p + 1, by omega, Or.inr ⟨c2, c1, (mv_h G hA rA' h2 (by omega) h3 c1).symm⟩⟩
      · have m1 := mv_h G hA rA' h2 (by omega) h3 c1
        have m2 := mv_h G hB rB' h2 (by omega) h4 c2
        obtain ⟨q, hq, w⟩ := ih (p + 1) (by omega) (by omega) c1 c2 (fun z => h5 (m1.mpr z))
        refine ⟨q, hq, ?_⟩
        rcases w with ⟨w1, w2, w3⟩ | ⟨w1, w2, w3⟩
        · exact Or.inl ⟨w1, w2, w3.trans m2.symm⟩
        · exact Or.inr ⟨w1, w2, w3.trans m1.symm⟩
theorem ins_on {k : Nat} {p : Nat} (h : insA a k p) : ¬ onL a k p := h.2.1
theorem ins_self (k : Nat) : ¬ insA a k (ap a k 0) := fun h => h.2.1 ⟨0, Nat.zero_le _, rfl⟩
theorem max_row (f : Nat → Int) : ∀ n : Nat, ∃ j, j ≤ n ∧ ∀ i, i ≤ n → f i ≤ f j := by
  intro n
  induction n with
  | zero => exact ⟨0, Nat.le_refl _, fun i hi => by obtain rfl : i = 0 := by omega
                                                    exact Int.le_refl _⟩
  | succ n ih =>
    obtain ⟨j, hj, h⟩ := ih
    by_cases q : f j ≤ f (n + 1)
    · refine ⟨n + 1, Nat.le_refl _, fun i hi => ?_⟩
      rcases Nat.lt_or_ge i (n + 1) with w | w
      · exact Int.le_trans (h i (by omega)) q
      · obtain rfl : i = n + 1 := by omega
        exact Int.le_refl _
    · refine ⟨j, by omega, fun i hi => ?_⟩
      rcases Nat.lt_or_ge i (n + 1) with w | w
      · exact h i (by omega)
      · obtain rfl : i = n + 1 := by omega
        omega
theorem not_both (G : GX a) {A B : Nat} (hA : A < an a) (hB : B < an a) (hne : A ≠ B) (h1 : insA a B (ap a A 0)) (h2 : insA a A (ap a B 0)) : False := by
  obtain ⟨i, hi, mi⟩ := max_row (rA a A) (ah a A)
  obtain ⟨j, hj, mj⟩ := max_row (rA a B) (ah a B)
  rcases Int.le_total (rA a B j) (rA a A i) with w | w
  · have h := (ins_line G hA hB hne hi).mpr h1
    refine h.2.2 (ev_low B (ap a A i) (fun y hy => ?_))
    have := mj y hy
    have e := ap_cr a A i
    omega
  · have h := (ins_line G hB hA (Ne.symm hne) hj).mpr h2
    refine h.2.2 (ev_low A (ap a B j) (fun y hy => ?_))
    have := mi y hy
    have e := ap_cr a B j
    omega
theorem nest_tot (G : GX a) {A B s : Nat} (hA : A < an a) (hB : B < an a) (hne : A ≠ B) (hs : s < 384) (h1 : insA a A s) (h2 : insA a B s) : insA a B (ap a A 0) ∨ insA a A (ap a B 0) := by
  obtain ⟨q, hq, w⟩ := walk_r G hA hB hne h1.1 h2.1 (23 - s % 24) s (by omega) hs h1.2.1 h2.2.1 h1.2.2
  rcases w with ⟨⟨j, hj, e⟩, w2, w3⟩ | ⟨⟨j, hj, e⟩, w2, w3⟩
  · have e' : ap a A j = q := by omega
    refine Or.inl ((ins_line G hA hB hne hj).mp ?_)
    rw [e']
    exact ⟨h2.1, w2, fun z => h2.2.2 (w3.mp z)⟩
  · have e' : ap a B j = q := by omega
    refine Or.inr ((ins_line G hB hA (Ne.symm hne) hj).mp ?_)
    rw [e']
    exact ⟨h1.1, w2, fun z => h1.2.2 (w3.mp z)⟩
theorem nest_trans (G : GX a) {A B x : Nat} (hA : A < an a) (hB : B < an a) (hx : x < 384) (h1 : insA a A x) (h2 : insA a B (ap a A 0)) : insA a B x := by
  have hne : A ≠ B := fun q => by subst q; exact ins_self A h2
  by_cases c1 : onL a B x
  · obtain ⟨j, hj, e⟩ := c1
    have e' : ap a B j = x := by omega
    rw [← e'] at h1
    exact (not_both G hA hB hne h2 ((ins_line G hB hA (Ne.symm hne) hj).mp h1)).elim
  · by_cases c2 : evA a B x
    · exfalso
      obtain ⟨q, hq, w⟩ := walk_r G hA hB hne h1.1 h2.1 (23 - x % 24) x (by omega) hx h1.2.1 c1 h1.2.2
      rcases w with ⟨⟨j, hj, e⟩, w2, w3⟩ | ⟨⟨j, hj, e⟩, w2, w3⟩
      · have e' : ap a A j = q := by omega
        have h3 := (ins_line G hA hB hne hj).mpr h2
        rw [e'] at h3
        exact h3.2.2 (w3.mpr c2)
      · have e' : ap a B j = q := by omega
        have h3 : insA a A (ap a B j) := by rw [e']; exact ⟨h1.1, w2, fun z => h1.2.2 (w3.mp z)⟩
        exact not_both G hA hB hne h2 ((ins_line G hB hA (Ne.symm hne) hj).mp h3)
    · exact ⟨h2.1, c1, c2⟩
/-- the innermost of the lines round a point -/
def inmA (a : Ab) (s hi : Nat) (x : Int) : Prop := (x = -1 ∧ ∀ j, j < hi → ¬ insA a j s) ∨ ∃ i : Nat, i < hi ∧ x = i ∧ insA a i s ∧ ∀ j, j < hi → insA a j s → j ≠ i → insA a j (ap a i 0)
theorem rd_inm (G : GX a) {k : Nat} (hk : k < an a) : ∀ (m j : Nat) (x : Int), j + m = an a → inmA a (ap a k 0) j x → inmA a (ap a k 0) (an a) (rdA a k m j x) := by
  have I := G.1
  have hs := p384 I hk (Nat.zero_le _)
  intro m
  induction m with
  | zero => intro j x h1 h2; obtain rfl : j = an a := by omega
            exact h2
  | succ m ih =>
    intro j x h1 h2
    have hj : j < an a := by omega
    rw [rdA]
    by_cases c : insA a j (ap a k 0)
    · by_cases c2 : x = -1 ∨ insA a x.toNat (ap a j 0)
      · rw [cIf_pos ⟨c, c2⟩]
        refine ih (j + 1) j (by omega) (Or.inr ⟨j, by omega, rfl, c, fun y hy hi hne => ?_⟩)
        have hyj : y < j := by omega
        rcases h2 with ⟨_, g2⟩ | ⟨i, g1, g2, g3, g4⟩
        · exact absurd hi (g2 y hyj)
        · subst g2
          have c3 : insA a i (ap a j 0) := by
            rcases c2 with c2 | c2
            · omega
            · rw [Int.toNat_natCast] at c2; exact c2
          by_cases q : y = i
          · subst q; exact c3
          · exact nest_trans G (by omega) (by omega) (p384 I hj (Nat.zero_le _)) c3 (g4 y hyj hi q)
      · rw [cIf_neg (fun w => c2 w.2)]
        refine ih (j + 1) x (by omega) ?_
        rcases h2 with ⟨g1, g2⟩ | ⟨i, g1, g2, g3, g4⟩
        · exact absurd (Or.inl g1) c2
        · subst g2
          rw [Int.toNat_natCast] at c2
          refine Or.inr ⟨i, by omega, rfl, g3, fun y hy hi hne => ?_⟩
          rcases Nat.lt_or_ge y j with w | w
          · exact g4 y w hi hne
          · obtain rfl : y = j := by omega
            rcases nest_tot G (A := i) (B := y) (by omega) hj (Ne.symm hne) hs g3 c with z | z
            · exact z
            · exact absurd (Or.inr z) c2
    · rw [cIf_neg (fun w => c w.1)]
      refine ih (j + 1) x (by omega) ?_
      rcases h2 with ⟨g1, g2⟩ | ⟨i, g1, g2, g3, g4⟩
      · exact Or.inl ⟨g1, fun y hy => by
          rcases Nat.lt_or_ge y j with w | w
          · exact g2 y w
          · obtain rfl : y = j := by omega
            exact c⟩
      · refine Or.inr ⟨i, by omega, g2, g3, fun y hy hi hne => ?_⟩
        rcases Nat.lt_or_ge y j with w | w
        · exact g4 y w hi hne
        · obtain rfl : y = j := by omega
          exact absurd hi c
theorem rnd_inm (G : GX a) {k : Nat} (hk : k < an a) : inmA a (ap a k 0) (an a) (rndA a k) := rd_inm G hk (an a) 0 (-1) (by omega) (Or.inl ⟨rfl, fun j hj => by omega⟩)
noncomputable def wcA (a : Ab) (j : Nat) : Int := smI (fun t => iwA a t (ap a j 0)) (an a) 0
theorem smI_le {f g : Nat → Int} : ∀ (m i : Nat), (∀ j, i ≤ j → j < i + m → f j ≤ g j) → smI f m i ≤ smI g m i := by
  intro m
  induction m with
  | zero => intro i _; exact Int.le_refl _
  | succ m ih =>
    intro i h
    have h1 := h i (Nat.le_refl _) (by omega)
    have h2 := ih (i + 1) (fun j a1 a2 => h j (by omega) (by omega))
    rw [smI, smI]; omega
theorem smI_lt {f g : Nat → Int} : ∀ (m i t : Nat), i ≤ t → t < i + m → f t < g t → (∀ j, i ≤ j → j < i + m → f j ≤ g j) → smI f m i < smI g m i := by
  intro m
  induction m with
  | zero => intro i t h1 h2; omega
  | succ m ih =>
    intro i t h1 h2 h3 h
    rw [smI, smI]
    by_cases q : t = i
    · subst q
      have h4 := smI_le (f := f) (g := g) m (t + 1) (fun j a1 a2 => h j (by omega) (by omega))
      omega
    · have h4 := ih (i + 1) t (by omega) (by omega) h3 (fun j a1 a2 => h j (by omega) (by omega))
      have h5 := h i (Nat.le_refl _) (by omega)
      omega
theorem iw_rng (a : Ab) (k p : Nat) : (iwA a k p = 1 ∧ insA a k p) ∨ (iwA a k p = 0 ∧ ¬ insA a k p) := by
  by_cases h : insA a k p
  · exact Or.inl ⟨cIf_pos h, h⟩
  · exact Or.inr ⟨cIf_neg h, h⟩
theorem iw_sum (a : Ab) (g : Nat → Nat) : ∀ (m i : Nat) (f : Nat → Nat → Int), (∀ t, f t (g t) = iwA a t (g t)) → 0 ≤ smI (fun t => iwA a t (g t)) m i ∧ smI (fun t => iwA a t (g t)) m i ≤ m := by
  intro m
  induction m with
  | zero => intro i f _; exact ⟨Int.le_refl _, Int.le_refl _⟩
  | succ m ih =>
    intro i f hf
    have h1 := ih (i + 1) f hf
    have h2 := iw_rng a i (g i)
    rw [smI]
    omega
theorem wc_lt (G : GX a) {i x : Nat} (hi : i < an a) (hx : x < an a) (h : insA a i (ap a x 0)) : wcA a i < wcA a x := by
  have I := G.1
  refine smI_lt (an a) 0 i (Nat.zero_le _) (by omega) ?_ (fun t _ ht => ?_)
  · have e1 : iwA a i (ap a i 0) = 0 := cIf_neg (ins_self i)
    have e2 : iwA a i (ap a x 0) = 1 := cIf_pos h
    show iwA a i (ap a i 0) < iwA a i (ap a x 0)
    omega
  · show iwA a t (ap a i 0) ≤ iwA a t (ap a x 0)
    rcases iw_rng a t (ap a i 0) with ⟨e1, w1⟩ | ⟨e1, _⟩
    · have := nest_trans G hi (by omega) (p384 I hx (Nat.zero_le _)) h w1
      have e2 : iwA a t (ap a x 0) = 1 := cIf_pos this
      omega
    · rcases iw_rng a t (ap a x 0) with ⟨e2, _⟩ | ⟨e2, _⟩ <;> omega
end NE
section SR
variable {ν : Nat → Int32} {ζ : Nat → Int64} {ψ θ : Nat → Int32} {a : Ab} {cap : Nat}
/-- what the law's search knows: the found line has the most lines round it -/
def mstA (a : Ab) (s hi : Nat) (x w : Int) : Prop := (x = -1 ∧ w = -1 ∧ ∀ j, j < hi → ¬ insA a j s) ∨ ∃ i : Nat, i < hi ∧ x = i ∧ w = wcA a i ∧ insA a i s ∧ ∀ j, j < hi → insA a j s → wcA a j ≤ wcA a i
theorem wc_rng (a : Ab) (j : Nat) : 0 ≤ wcA a j ∧ wcA a j ≤ an a := iw_sum a (fun _ => ap a j 0) (an a) 0 (fun t p => iwA a t p) (fun _ => rfl)
theorem sl_round_in (H : RepL ν ζ a) (I : InvA a) {j : Nat} (hj : j < an a) (x : Int32) (y w : Int) (hw : -1 ≤ w ∧ w ≤ 1000) (K : Int32 → Int32 → Int32 → (Nat → Int32) → (Nat → Int32) → Nat → Option Int32) : ∀ (m t fu : Nat) (acc : Int) (ψ θ : Nat → Int32) (n : Nat), t + m = an a → m < fu → 0 ≤ acc → acc ≤ t →
    ∃ θ', fL_round_60 cap ν ζ x (iI y) (iI w) (iI j) K fu (iI acc) (iI t) ψ θ n = (if acc + smI (fun t => iwA a t (ap a j 0)) m t ≤ w then K (iI y) (iI w) (iI ((j + 1 : Nat) : Int)) ψ θ' n else K (iI j) (iI (acc + smI (fun t => iwA a t (ap a j 0)) m t)) (iI ((j + 1 : Nat) : Int)) ψ θ' n) := by
  have h8 := I.1
  intro m
  induction m with
  | zero =>
    intro t fu acc ψ θ n h1 h2 h3 h4
    obtain ⟨f, rfl⟩ : ∃ f, fu = f + 1 := ⟨fu - 1, by omega⟩
    refine ⟨θ, ?_⟩
    rw [fL_round_60, l_n H, if_pos (yle (by omega) (by omega) (by omega)), smI, Int.add_zero]
    unfold fL_round_127
    rw [iI_s]
    by_cases q : acc ≤ w
    · rw [if_pos (yle (by omega) (by omega) q), if_pos (yle (by omega) (by omega) q), if_pos q]
    · rw [if_neg (nle (by omega) (by omega) (by omega)), if_neg (nle (by omega) (by omega) (by omega)), if_neg q]
  | succ m ih =>
    intro t fu acc ψ θ n h1 h2 h3 h4
    obtain ⟨f, rfl⟩ : ∃ f, fu = f + 1 := ⟨fu - 1, by omega⟩
    have ht : t < an a := by omega
    obtain ⟨θ', hwk, P⟩ := sl_walks H I ht θ
    obtain ⟨b, hb, ib⟩ := sl_within H I ht P (p384 I hj (Nat.zero_le _))
    rw [fL_round_60, l_n H, if_neg (nle (by omega) (by omega) (by omega)), hwk, Option.bind_some, if_pos (l_i1 (k8 I hj)).1, l_p0 H I hj, hb, Option.bind_some, iI_s]
    have hs : smI (fun t => iwA a t (ap a j 0)) (m + 1) t = iwA a t (ap a j 0) + smI (fun t => iwA a t (ap a j 0)) m (t + 1) := rfl
    rw [hs]
    rcases iw_rng a t (ap a j 0) with ⟨e1, w1⟩ | ⟨e1, w1⟩
    · rw [if_pos (ib.mpr w1), e1, ← Int.add_assoc, iI_s']
      exact ih (t + 1) f (acc + 1) ψ θ' n (by omega) (by omega) (by omega) (by omega)
    · rw [if_neg (fun z => w1 (ib.mp z)), e1, Int.zero_add, L0, iI_add, Int.add_zero]
      exact ih (t + 1) f acc ψ θ' n (by omega) (by omega) h3 (by omega)
theorem sl_round_loop (H : RepL ν ζ a) (I : InvA a) {k : Nat} (hk : k < an a) : ∀ (m j fu : Nat) (x w : Int) (ψ θ : Nat → Int32) (n : Nat), j + m = an a → m < fu → mstA a (ap a k 0) j x w →
    ∃ r : Int, fL_round_20 cap ν ζ (iI k) fu (iI x) (iI w) (iI j) ψ θ n = some (iI r) ∧ ∃ w', mstA a (ap a k 0) (an a) r w' := by
  have h8 := I.1
  intro m
  induction m with
  | zero =>
    intro j fu x w ψ θ n h1 h2 h3
    obtain ⟨f, rfl⟩ : ∃ f, fu = f + 1 := ⟨fu - 1, by omega⟩
    obtain rfl : j = an a := by omega
    exact ⟨x, by rw [fL_round_20, l_n H, if_pos (yle (by omega) (by omega) (by omega))], w, h3⟩
  | succ m ih =>
    intro j fu x w ψ θ n h1 h2 h3
    obtain ⟨f, rfl⟩ : ∃ f, fu = f + 1 := ⟨fu - 1, by omega⟩
    have hj : j < an a := by omega
    have hwr : -1 ≤ w ∧ w ≤ 1000 := by
      rcases h3 with ⟨_, e, _⟩ | ⟨i, _, _, e, _⟩
      · omega
      · have := wc_rng a i; omega
    obtain ⟨ψ', hwk, P⟩ := sl_walks H I hj ψ
    obtain ⟨b, hb, ib⟩ := sl_within H I hj P (p384 I hk (Nat.zero_le _))
    rw [fL_round_20, l_n H, if_neg (nle (by omega) (by omega) (by omega)), hwk, Option.bind_some, if_pos (l_i1 (k8 I hk)).1, l_p0 H I hk, hb, Option.bind_some]
    by_cases q : insA a j (ap a k 0)
    · obtain ⟨θ', e⟩ := sl_round_in (cap := cap) H I hj (iI k) x w hwr (fL_round_20 cap ν ζ (iI k) f) (an a) 0 FU 0 ψ' θ n (by omega) (FU_gt (by omega)) (by omega) (by omega)
      rw [Z0, Z0', Int.zero_add] at e
      rw [if_pos (ib.mpr q), e]
      have hwc : smI (fun t => iwA a t (ap a j 0)) (an a) 0 = wcA a j := rfl
      rw [hwc]
      have hr := wc_rng a j
      by_cases q2 : wcA a j ≤ w
      · rw [if_pos q2]
        refine ih (j + 1) f x w ψ' θ' n (by omega) (by omega) ?_
        rcases h3 with ⟨_, g2, _⟩ | ⟨i, g1, g2, g3, g4, g5⟩
        · omega
        · refine Or.inr ⟨i, by omega, g2, g3, g4, fun y hy hi => ?_⟩
          rcases Nat.lt_or_ge y j with z | z
          · exact g5 y z hi
          · obtain rfl : y = j := by omega
            omega
      · rw [if_neg q2]
        refine ih (j + 1) f j (wcA a j) ψ' θ' n (by omega) (by omega) (Or.inr ⟨j, by omega, rfl, rfl, q, fun y hy hi => ?_⟩)
        rcases Nat.lt_or_ge y j with z | z
        · rcases h3 with ⟨_, _, g3⟩ | ⟨i, g1, g2, g3, g4, g5⟩
          · exact absurd hi (g3 y z)
          · have := g5 y z hi; omega
        · obtain rfl : y = j := by omega
          exact Int.le_refl _
    · rw [if_neg (fun z => q (ib.mp z)), iI_s]
      refine ih (j + 1) f x w ψ' θ n (by omega) (by omega) ?_
      rcases h3 with ⟨g1, g2, g3⟩ | ⟨i, g1, g2, g3, g4, g5⟩
      · exact Or.inl ⟨g1, g2, fun y hy => by
          rcases Nat.lt_or_ge y j with z | z
          · exact g3 y z
          · obtain rfl : y = j := by omega
            exact q⟩
      · exact Or.inr ⟨i, by omega, g2, g3, g4, fun y hy hi => by
          rcases Nat.lt_or_ge y j with z | z
          · exact g5 y z hi
          · obtain rfl : y = j := by omega
            exact absurd hi q⟩
theorem sl_round (H : RepL ν ζ a) (G : GX a) {k : Nat} (hk : k < an a) (hc : 2 ≤ cap) : fL_round cap ν ζ (iI k) = some (iI (rndA a k)) := by
  have h8 := G.1.1
  obtain ⟨r, e, w, hm⟩ := sl_round_loop (cap := cap) H G.1 hk (an a) 0 FU (-1) (-1) (fun _ => (0 : Int32)) (fun _ => (0 : Int32)) (0 + 1 + 1) (by omega) (FU_gt (by omega)) (Or.inl ⟨rfl, rfl, fun j hj => by omega⟩)
  rw [Z0, Zm1] at e
  unfold fL_round
  rw [if_pos (by omega), if_pos (by omega), e]
  have hin := rnd_inm G hk
  have : r = rndA a k := by
    rcases hm with ⟨g1, _, g3⟩ | ⟨i, g1, g2, g3, g4, g5⟩
    · rcases hin with ⟨f1, _⟩ | ⟨x, f1, f2, f3, _⟩
      · omega
      · exact absurd f3 (g3 x f1)
    · rcases hin with ⟨_, f2⟩ | ⟨x, f1, f2, f3, f4⟩
      · exact absurd g4 (f2 i g1)
      · by_cases q : i = x
        · omega
        · have h1 := wc_lt G g1 f1 (f4 i g1 g4 q)
          have h2 := g5 x f1 f3
          omega
  rw [this]
end SR
