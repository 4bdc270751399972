/-! the model's methods in the same words -/
section SM
variable {μ : Mo} {a : Ab}
theorem sm_of {k j : Nat} (hk : k < 8) (hj : j < 64) : fX7_of μ (iI k) (iI j) = some (M_row μ (2 + 64 * k + j)) := by
  have e : ((2 : Int32) + ((64 : Int32) * iI (k : Int))) + iI (j : Int) = iI ((2 + 64 * k + j : Nat) : Int) := by
    rw [L2, L64, iI_mul, iI_add, iI_add]; exact congrArg iI (by omega)
  unfold fX7_of
  rw [e, if_pos (inR_iI (by omega) (by omega) (by omega)), iI_tn (by omega) (by omega), Int.toNat_natCast]
theorem sm_lev (H : RepM (M_row μ) a) (I : InvA a) {k : Nat} (hk : k < an a) : fX7_of μ (iI k) (0 : Int32) = some (iI (al a k)) := by
  have h8 := I.1
  have h := (H.2.2 k hk).1
  have e : fX7_of μ (iI (k : Int)) (0 : Int32) = some (M_row μ (2 + 64 * k + 0)) := sm_of (j := 0) (by omega) (by omega)
  rw [e, Nat.add_zero, h]
theorem sm_beg (H : RepM (M_row μ) a) (I : InvA a) {k : Nat} (hk : k < an a) : fX7_of μ (iI k) (1 : Int32) = some (iI (ap a k 0)) := by
  have h8 := I.1
  have h := (H.2.2 k hk).2.1
  have e : fX7_of μ (iI (k : Int)) (1 : Int32) = some (M_row μ (2 + 64 * k + 1)) := sm_of (j := 1) (by omega) (by omega)
  rw [e, h]
theorem sm_steps (H : RepM (M_row μ) a) (I : InvA a) {k : Nat} (hk : k < an a) : fX7_of μ (iI k) (2 : Int32) = some (iI (ah a k)) := by
  have h8 := I.1
  have h := (H.2.2 k hk).2.2.1
  have e : fX7_of μ (iI (k : Int)) (2 : Int32) = some (M_row μ (2 + 64 * k + 2)) := sm_of (j := 2) (by omega) (by omega)
  rw [e, h]
theorem sm_lab (H : RepM (M_row μ) a) (I : InvA a) {k : Nat} (hk : k < an a) : fX7_of μ (iI k) (3 : Int32) = some (iI (ab a k)) := by
  have h8 := I.1
  have h := (H.2.2 k hk).2.2.2.1
  have e : fX7_of μ (iI (k : Int)) (3 : Int32) = some (M_row μ (2 + 64 * k + 3)) := sm_of (j := 3) (by omega) (by omega)
  rw [e, h]
theorem sm_dir (H : RepM (M_row μ) a) (I : InvA a) {k : Nat} (hk : k < an a) {j : Nat} (hj : j < ah a k) : fX7_of μ (iI k) ((4 : Int32) + iI j) = some (iI (drA a k j)) := by
  have h8 := I.1
  have h60 := (I.2.2.2.1 k hk).2.1
  have h := (H.2.2 k hk).2.2.2.2 j hj
  have e0 : (4 : Int32) + iI (j : Int) = iI ((4 + j : Nat) : Int) := by rw [L4, iI_add]; exact congrArg iI (by omega)
  rw [e0, sm_of (by omega) (by omega), show 2 + 64 * k + (4 + j) = 2 + 64 * k + 4 + j by omega, h]
  rfl
theorem sm_dir0 (H : RepM (M_row μ) a) (I : InvA a) {k : Nat} (hk : k < an a) (hj : 0 < ah a k) : fX7_of μ (iI k) (4 : Int32) = some (iI (drA a k 0)) := by
  have h8 := I.1
  have h := (H.2.2 k hk).2.2.2.2 0 hj
  have e : fX7_of μ (iI (k : Int)) (4 : Int32) = some (M_row μ (2 + 64 * k + 4)) := sm_of (j := 4) (by omega) (by omega)
  rw [e, ← Nat.add_zero (2 + 64 * k + 4), h]
  rfl
theorem sm_across {d : Int} (h : 0 ≤ d ∧ d ≤ 7) : fX7_across (iI d) = some (iI (acI d)) := by
  rcases d8 h with rfl | rfl | rfl | rfl | rfl | rfl | rfl | rfl <;> first | rfl | decide
theorem sm_down {d : Int} (h : 0 ≤ d ∧ d ≤ 7) : fX7_down (iI d) = some (iI (dnI d)) := by
  rcases d8 h with rfl | rfl | rfl | rfl | rfl | rfl | rfl | rfl <;> first | rfl | decide
theorem sm_in {x y z : Int} (hx : -2147483648 ≤ x ∧ x < 2147483648) (hy : -2147483648 ≤ y ∧ y < 2147483648) (hz : -2147483648 ≤ z ∧ z < 2147483648) : ∃ b, fX7_in (iI x) (iI y) (iI z) = some b ∧ (b = true ↔ y ≤ x ∧ x ≤ z) := by
  unfold fX7_in
  by_cases h1 : x < y
  · rw [if_pos (ylt hx hy h1)]; exact ⟨false, rfl, (fun h => by cases h), (fun h => by omega)⟩
  · rw [if_neg (nlt hx hy (by omega))]
    by_cases h2 : z < x
    · rw [if_pos (ylt hz hx h2)]; exact ⟨false, rfl, (fun h => by cases h), (fun h => by omega)⟩
    · rw [if_neg (nlt hz hx (by omega))]; exact ⟨true, rfl, (fun _ => by omega), (fun _ => rfl)⟩
theorem sm_next {p d : Int} (hp : 0 ≤ p ∧ p < 384) (hd : 0 ≤ d ∧ d ≤ 7) : fX7_next (iI p) (iI d) = some (iI (besI p d)) := by
  have a1 := ac_rng d
  have a2 := dn_rng d
  obtain ⟨b1, e1, i1⟩ := sm_in (x := p % 24 + acI d) (y := 0) (z := 23) (by omega) (by omega) (by omega)
  obtain ⟨b2, e2, i2⟩ := sm_in (x := p / 24 + dnI d) (y := 0) (z := 15) (by omega) (by omega) (by omega)
  have e1' : fX7_in (iI (p % 24 + acI d)) (0 : Int32) (23 : Int32) = some b1 := e1
  have e2' : fX7_in (iI (p / 24 + dnI d)) (0 : Int32) (15 : Int32) = some b2 := e2
  unfold fX7_next besI
  rw [sm_across hd, sm_down hd]
  simp only [Option.bind_some]
  rw [L24, iI_irm (by omega) (by omega), iI_div (by omega) (by omega), iI_add, iI_add, e1']
  simp only [Option.bind_some]
  rw [e2']
  simp only [Option.bind_some]
  rw [iI_mul, iI_add]
  by_cases h1 : 0 ≤ p % 24 + acI d ∧ p % 24 + acI d ≤ 23
  · rw [if_pos (i1.mpr h1)]
    by_cases h2 : 0 ≤ p / 24 + dnI d ∧ p / 24 + dnI d ≤ 15
    · rw [if_pos (i2.mpr h2), if_pos (by omega)]; exact congrArg (fun z => some (iI z)) (by omega)
    · rw [if_neg (fun q => h2 (i2.mp q)), if_neg (by omega)]; rfl
  · rw [if_neg (fun q => h1 (i1.mp q)), if_neg (by omega)]; rfl
theorem ap_next (I : InvA a) {k : Nat} (hk : k < an a) {j : Nat} (hj : j < ah a k) : (ap a k (j + 1) : Int) = ap a k j + 24 * dnI (drA a k j) + acI (drA a k j) :=
  (stp_dir ((I.2.2.2.1 k hk).2.2.2.2 j hj)).2.2.1
theorem sm_at_loop (H : RepM (M_row μ) a) (I : InvA a) {k : Nat} (hk : k < an a) {j : Nat} (hj : j ≤ ah a k) : ∀ (d i fu : Nat), i + d = j → d < fu → fX7_at_10 μ (iI k) (iI j) fu (iI (ap a k i)) (iI i) = some (iI (ap a k j)) := by
  have h60 := (I.2.2.2.1 k hk).2.1
  intro d
  induction d with
  | zero =>
    intro i fu h1 h2
    obtain ⟨f, rfl⟩ : ∃ f, fu = f + 1 := ⟨fu - 1, by omega⟩
    have h3 : i = j := by omega
    subst h3
    rw [fX7_at_10, if_pos (yle (by omega) (by omega) (by omega))]
  | succ d ih =>
    intro i fu h1 h2
    obtain ⟨f, rfl⟩ : ∃ f, fu = f + 1 := ⟨fu - 1, by omega⟩
    have hr := dr_rng I hk (j := i) (by omega)
    have hq := ap_next I hk (j := i) (by omega)
    rw [fX7_at_10, if_neg (nle (by omega) (by omega) (by omega)), sm_dir H I hk (j := i) (by omega)]
    simp only [Option.bind_some]
    rw [sm_down hr]
    simp only [Option.bind_some]
    rw [sm_across hr]
    simp only [Option.bind_some]
    rw [L24, iI_mul, iI_add, iI_add, iI_s, show (ap a k i : Int) + (24 * dnI (drA a k i) + acI (drA a k i)) = ap a k (i + 1) by omega]
    exact ih (i + 1) f (by omega) (by omega)
theorem sm_at (H : RepM (M_row μ) a) (I : InvA a) {k : Nat} (hk : k < an a) {j : Nat} (hj : j ≤ ah a k) : fX7_at μ (iI k) (iI j) = some (iI (ap a k j)) := by
  have h60 := (I.2.2.2.1 k hk).2.1
  unfold fX7_at
  rw [sm_beg H I hk]
  simp only [Option.bind_some]
  have e := sm_at_loop H I hk hj j 0 FU (by omega) (FU_gt (by omega))
  rw [show iI ((0 : Nat) : Int) = (0 : Int32) from rfl] at e
  exact e
theorem sm_last (H : RepM (M_row μ) a) (I : InvA a) {k : Nat} (hk : k < an a) : fX7_last μ (iI k) = some (iI (ap a k (ah a k))) := by
  unfold fX7_last
  rw [sm_steps H I hk]
  simp only [Option.bind_some]
  rw [sm_at H I hk (Nat.le_refl _)]
  rfl
theorem sm_closes (H : RepM (M_row μ) a) (I : InvA a) {k : Nat} (hk : k < an a) : ∃ b, fX7_closes μ (iI k) = some b ∧ (b = true ↔ ringA a k) := by
  obtain ⟨-, h60, -, h384, -⟩ := I.2.2.2.1 k hk
  have h1 := h384 (ah a k) (Nat.le_refl _)
  have h2 := h384 0 (Nat.zero_le _)
  unfold fX7_closes ringA
  rw [sm_steps H I hk, sm_last H I hk, sm_beg H I hk]
  simp only [Option.bind_some]
  by_cases h : ah a k = 0
  · rw [if_pos (by rw [L0]; exact yle (by omega) (by omega) (by omega))]
    exact ⟨false, rfl, (fun h => by cases h), (fun q => by omega)⟩
  · rw [if_neg (by rw [L0]; exact nle (by omega) (by omega) (by omega))]
    by_cases q : ap a k (ah a k) = ap a k 0
    · rw [if_pos (by rw [q])]
      have := I.2.2.2.2.1 k 0 (ah a k) hk (by omega) (Nat.le_refl _) q.symm
      exact ⟨true, rfl, (fun _ => ⟨this.2.2, q⟩), (fun _ => rfl)⟩
    · rw [if_neg (neq (by omega) (by omega) (by omega))]
      exact ⟨false, rfl, (fun h => by cases h), (fun z => absurd z.2 q)⟩
theorem sm_own_in (H : RepM (M_row μ) a) (I : InvA a) {k : Nat} (hk : k < an a) {p : Int} (hp : -1 ≤ p ∧ p < 10000) (K : Int32 → Option Int32) : ∀ (d j fu : Nat) (b : Bool), j + d = ah a k → d < fu →
    fX7_owner_34 μ (iI p) (iI k) K fu (iI (ap a k j)) b (iI j) = cIf (b = true ∨ ∃ i, j < i ∧ i ≤ ah a k ∧ (ap a k i : Int) = p) (some (iI k)) (K (iI k + 1)) := by
  obtain ⟨-, h60, -, h384, -⟩ := I.2.2.2.1 k hk
  intro d
  induction d with
  | zero =>
    intro j fu b h1 h2
    obtain ⟨f, rfl⟩ : ∃ f, fu = f + 1 := ⟨fu - 1, by omega⟩
    rw [fX7_owner_34, sm_steps H I hk]
    simp only [Option.bind_some]
    rw [if_pos (yle (by omega) (by omega) (by omega))]
    by_cases hb : b = true
    · rw [if_pos hb, cIf_pos (Or.inl hb)]
    · rw [if_neg hb, cIf_neg (fun q => q.elim hb (fun ⟨i, q1, q2, _⟩ => absurd q1 (by omega)))]
  | succ d ih =>
    intro j fu b h1 h2
    obtain ⟨f, rfl⟩ : ∃ f, fu = f + 1 := ⟨fu - 1, by omega⟩
    have hr := dr_rng I hk (j := j) (by omega)
    have hq := ap_next I hk (j := j) (by omega)
    have h3 := h384 (j + 1) (by omega)
    rw [fX7_owner_34, sm_steps H I hk]
    simp only [Option.bind_some]
    rw [if_neg (nle (by omega) (by omega) (by omega)), sm_dir H I hk (j := j) (by omega)]
    simp only [Option.bind_some]
    rw [sm_down hr]
    simp only [Option.bind_some]
    rw [sm_across hr]
    simp only [Option.bind_some]
    rw [L24, iI_mul, iI_add, iI_add, iI_s, show (ap a k j : Int) + (24 * dnI (drA a k j) + acI (drA a k j)) = ap a k (j + 1) by omega]
    rw [ih (j + 1) f true (by omega) (by omega), ih (j + 1) f false (by omega) (by omega), cIf_pos (Or.inl rfl)]
    by_cases hb : b = true
    · rw [if_pos hb, cIf_pos (Or.inl hb)]
    · rw [if_neg hb]
      by_cases q : (ap a k (j + 1) : Int) = p
      · rw [if_pos (by rw [q]), cIf_pos (Or.inr ⟨j + 1, by omega, by omega, q⟩)]
      · rw [if_neg (neq (by omega) (by omega) q)]
        have e : (false = true ∨ ∃ i, j + 1 < i ∧ i ≤ ah a k ∧ (ap a k i : Int) = p) = (b = true ∨ ∃ i, j < i ∧ i ≤ ah a k ∧ (ap a k i : Int) = p) := by
          refine propext ⟨fun z => ?_, fun z => ?_⟩
          · rcases z with z | ⟨i, z1, z2, z3⟩
            · cases z
            · exact Or.inr ⟨i, by omega, z2, z3⟩
          · rcases z with z | ⟨i, z1, z2, z3⟩
            · exact absurd z hb
            · refine Or.inr ⟨i, ?_, z2, z3⟩
              rcases Nat.lt_or_ge (j + 1) i with w | w
              · exact w
              · exact absurd (by rw [show j + 1 = i by omega]; exact z3) q
        rw [e]
theorem sm_own0 (H : RepM (M_row μ) a) (I : InvA a) {k : Nat} (hk : k < an a) {p : Int} (hp : -1 ≤ p ∧ p < 10000) (K : Int32 → Option Int32) (b : Bool) :
    fX7_owner_34 μ (iI p) (iI k) K FU (iI (ap a k 0)) b (0 : Int32) = cIf (b = true ∨ ∃ i, 0 < i ∧ i ≤ ah a k ∧ (ap a k i : Int) = p) (some (iI k)) (K (iI k + 1)) :=
  sm_own_in H I hk hp K (ah a k) 0 FU b (by omega) (FU_gt (by have := (I.2.2.2.1 k hk).2.1; omega))
theorem sm_n (H : RepM (M_row μ) a) : M_row μ (Int32.toNatClampNeg (0 : Int32)) = iI (an a : Int) := H.1
theorem sm_g (H : RepM (M_row μ) a) : M_row μ (Int32.toNatClampNeg (1 : Int32)) = iI (ag a : Int) := H.2.1
theorem sm_owner_loop (H : RepM (M_row μ) a) (I : InvA a) {p : Int} (hp : -1 ≤ p ∧ p < 10000) : ∀ (d k fu : Nat), k + d = an a → d < fu → (∀ i, i < k → ¬ onL a i p) →
    ((∀ i, i < an a → ¬ onL a i p) → fX7_owner_2 μ (iI p) fu (iI k) = some (iI (-1))) ∧ (∀ i, i < an a → onL a i p → fX7_owner_2 μ (iI p) fu (iI k) = some (iI i)) := by
  have h8 := I.1
  intro d
  induction d with
  | zero =>
    intro k fu h1 h2 h3
    obtain ⟨f, rfl⟩ : ∃ f, fu = f + 1 := ⟨fu - 1, by omega⟩
    rw [fX7_owner_2, sm_n H, if_pos (yle (by omega) (by omega) (by omega))]
    exact ⟨fun _ => rfl, fun i hi ho => absurd ho (h3 i (by omega))⟩
  | succ d ih =>
    intro k fu h1 h2 h3
    obtain ⟨f, rfl⟩ : ∃ f, fu = f + 1 := ⟨fu - 1, by omega⟩
    have hk : k < an a := by omega
    have h60 := (I.2.2.2.1 k hk).2.1
    have h384 := (I.2.2.2.1 k hk).2.2.2.1 0 (Nat.zero_le _)
    have e : fX7_owner_2 μ (iI p) (f + 1) (iI k) = cIf (onL a k p) (some (iI k)) (fX7_owner_2 μ (iI p) f (iI k + 1)) := by
      rw [fX7_owner_2, sm_n H, if_neg (nle (by omega) (by omega) (by omega)), sm_beg H I hk]
      simp only [Option.bind_some]
      rw [sm_own0 H I hk hp _ true, sm_own0 H I hk hp _ false, cIf_pos (Or.inl rfl)]
      by_cases q : (ap a k 0 : Int) = p
      · rw [if_pos (by rw [q]), cIf_pos ⟨0, Nat.zero_le _, q⟩]
      · rw [if_neg (neq (by omega) (by omega) q)]
        have e2 : (false = true ∨ ∃ i, 0 < i ∧ i ≤ ah a k ∧ (ap a k i : Int) = p) = onL a k p := by
          refine propext ⟨fun z => ?_, fun ⟨i, z1, z2⟩ => ?_⟩
          · rcases z with z | ⟨i, z1, z2, z3⟩
            · cases z
            · exact ⟨i, z2, z3⟩
          · refine Or.inr ⟨i, ?_, z1, z2⟩
            rcases Nat.eq_zero_or_pos i with w | w
            · rw [w] at z2; exact absurd z2 q
            · exact w
        rw [e2]
    rw [e, iI_s]
    by_cases hq : onL a k p
    · rw [cIf_pos hq]
      refine ⟨fun h => absurd hq (h k (by omega)), fun i hi2 ho => ?_⟩
      obtain ⟨j, hj, ej⟩ := hq
      obtain ⟨j', hj', ej'⟩ := ho
      rw [I.2.2.2.2.2 k i j j' (by omega) hi2 hj hj' (by omega)]
    · rw [cIf_neg hq]
      exact ih (k + 1) f (by omega) (by omega) (fun i h4 => by
        rcases Nat.lt_or_ge i k with h | h
        · exact h3 i h
        · rw [show i = k by omega]; exact hq)
theorem sm_owner_none (H : RepM (M_row μ) a) (I : InvA a) {p : Int} (hp : -1 ≤ p ∧ p < 10000) (h : ∀ i, i < an a → ¬ onL a i p) : fX7_owner μ (iI p) = some (iI (-1)) :=
  (sm_owner_loop H I hp (an a) 0 FU (by omega) (FU_gt (by have := I.1; omega)) (fun i hi => by omega)).1 h
theorem sm_owner_some (H : RepM (M_row μ) a) (I : InvA a) {p : Int} (hp : -1 ≤ p ∧ p < 10000) {i : Nat} (hi : i < an a) (h : onL a i p) : fX7_owner μ (iI p) = some (iI i) :=
  (sm_owner_loop H I hp (an a) 0 FU (by omega) (FU_gt (by have := I.1; omega)) (fun i hi => by omega)).2 i hi h
def jnA (a : Ab) (k : Nat) (p q : Int) (i : Nat) : Prop := ((ap a k i : Int) = p ∧ (ap a k (i + 1) : Int) = q) ∨ ((ap a k i : Int) = q ∧ (ap a k (i + 1) : Int) = p)
theorem sm_isStep_in (H : RepM (M_row μ) a) (I : InvA a) {k : Nat} (hk : k < an a) {p q : Int} (hp : -1000 ≤ p ∧ p < 10000) (hq : -1000 ≤ q ∧ q < 10000) (K : Bool → Int32 → Option Bool) : ∀ (d j fu : Nat) (b : Bool), j + d = ah a k → d < fu →
    ∃ b2, fX7_isStep_28 μ (iI p) (iI q) (iI k) K fu b (iI (ap a k j)) (iI j) = K b2 (iI k + 1) ∧ (b2 = true ↔ b = true ∨ ∃ i, j ≤ i ∧ i < ah a k ∧ jnA a k p q i) := by
  obtain ⟨-, h60, -, h384, -⟩ := I.2.2.2.1 k hk
  intro d
  induction d with
  | zero =>
    intro j fu b h1 h2
    obtain ⟨f, rfl⟩ : ∃ f, fu = f + 1 := ⟨fu - 1, by omega⟩
    rw [fX7_isStep_28, sm_steps H I hk]
    simp only [Option.bind_some]
    rw [if_pos (yle (by omega) (by omega) (by omega))]
    refine ⟨b, rfl, Or.inl, fun z => ?_⟩
    rcases z with z | ⟨i, z1, z2, _⟩
    · exact z
    · omega
  | succ d ih =>
    intro j fu b h1 h2
    obtain ⟨f, rfl⟩ : ∃ f, fu = f + 1 := ⟨fu - 1, by omega⟩
    have hr := dr_rng I hk (j := j) (by omega)
    have hn := ap_next I hk (j := j) (by omega)
    have h3 := h384 (j + 1) (by omega)
    have h4 := h384 j (by omega)
    rw [fX7_isStep_28, sm_steps H I hk]
    simp only [Option.bind_some]
    rw [if_neg (nle (by omega) (by omega) (by omega)), sm_dir H I hk (j := j) (by omega)]
    simp only [Option.bind_some]
    rw [sm_down hr]
    simp only [Option.bind_some]
    rw [sm_across hr]
    simp only [Option.bind_some]
    rw [L24, iI_mul, iI_add, iI_add, iI_s, show (ap a k j : Int) + 24 * dnI (drA a k j) + acI (drA a k j) = ap a k (j + 1) by omega]
    unfold fX7_isStep_91
    rw [iI_s]
    obtain ⟨bt, et, it⟩ := ih (j + 1) f true (by omega) (by omega)
    obtain ⟨bf, ef, jf⟩ := ih (j + 1) f false (by omega) (by omega)
    rw [et, ef]
    have hbt : bt = true := it.mpr (Or.inl rfl)
    have hmore : (∃ i, j + 1 ≤ i ∧ i < ah a k ∧ jnA a k p q i) → ∃ i, j ≤ i ∧ i < ah a k ∧ jnA a k p q i := fun ⟨i, z1, z2, z3⟩ => ⟨i, by omega, z2, z3⟩
    by_cases hb : b = true
    · rw [if_pos hb]; exact ⟨bt, rfl, (fun _ => Or.inl hb), (fun _ => hbt)⟩
    · rw [if_neg hb]
      by_cases hj : jnA a k p q j
      · refine ⟨bt, ?_, (fun _ => Or.inr ⟨j, Nat.le_refl _, by omega, hj⟩), (fun _ => hbt)⟩
        by_cases c1 : (ap a k j : Int) = p ∧ (ap a k (j + 1) : Int) = q
        · rw [if_pos (by rw [c1.1]), if_pos (by rw [c1.2])]
        · have c2 : (ap a k j : Int) = q ∧ (ap a k (j + 1) : Int) = p := by
            rcases hj with h | h
            · exact absurd h c1
            · exact h
          by_cases c3 : (ap a k j : Int) = p
          · rw [if_pos (by rw [c3]), if_neg (neq (by omega) (by omega) (by omega)), if_pos (by rw [c2.1]), if_pos (by rw [c2.2])]
          · rw [if_neg (neq (by omega) (by omega) c3), if_pos (by rw [c2.1]), if_pos (by rw [c2.2])]
      · have n1 : ¬ ((ap a k j : Int) = p ∧ (ap a k (j + 1) : Int) = q) := fun z => hj (Or.inl z)
        have n2 : ¬ ((ap a k j : Int) = q ∧ (ap a k (j + 1) : Int) = p) := fun z => hj (Or.inr z)
        have hx : (if iI (ap a k j : Int) = iI q then (if iI (ap a k (j + 1) : Int) = iI p then K bt (iI k + 1) else K bf (iI k + 1)) else K bf (iI k + 1)) = K bf (iI k + 1) := by
          by_cases c3 : (ap a k j : Int) = q
          · rw [if_pos (by rw [c3]), if_neg (neq (by omega) (by omega) (fun z => n2 ⟨c3, z⟩))]
          · rw [if_neg (neq (by omega) (by omega) c3)]
        refine ⟨bf, ?_, jf.trans ⟨fun z => ?_, fun z => ?_⟩⟩
        · rw [hx]
          by_cases c3 : (ap a k j : Int) = p
          · rw [if_pos (by rw [c3]), if_neg (neq (by omega) (by omega) (fun z => n1 ⟨c3, z⟩))]
          · rw [if_neg (neq (by omega) (by omega) c3)]
        · rcases z with z | z
          · cases z
          · exact Or.inr (hmore z)
        · rcases z with z | ⟨i, z1, z2, z3⟩
          · exact absurd z hb
          · refine Or.inr ⟨i, ?_, z2, z3⟩
            rcases Nat.lt_or_ge j i with w | w
            · exact w
            · exact absurd (by rw [show j = i by omega]; exact z3) hj
theorem sm_isStep_loop (H : RepM (M_row μ) a) (I : InvA a) {p q : Int} (hp : -1000 ≤ p ∧ p < 10000) (hq : -1000 ≤ q ∧ q < 10000) : ∀ (d k fu : Nat) (b : Bool), k + d = an a → d < fu →
    ∃ b2, fX7_isStep_5 μ (iI p) (iI q) fu b (iI k) = some b2 ∧ (b2 = true ↔ b = true ∨ ∃ i, k ≤ i ∧ i < an a ∧ joinA a i p q) := by
  have h8 := I.1
  intro d
  induction d with
  | zero =>
    intro k fu b h1 h2
    obtain ⟨f, rfl⟩ : ∃ f, fu = f + 1 := ⟨fu - 1, by omega⟩
    rw [fX7_isStep_5, sm_n H, if_pos (yle (by omega) (by omega) (by omega))]
    refine ⟨b, rfl, Or.inl, fun z => ?_⟩
    rcases z with z | ⟨i, z1, z2, _⟩
    · exact z
    · omega
  | succ d ih =>
    intro k fu b h1 h2
    obtain ⟨f, rfl⟩ : ∃ f, fu = f + 1 := ⟨fu - 1, by omega⟩
    have hk : k < an a := by omega
    have h60 := (I.2.2.2.1 k hk).2.1
    rw [fX7_isStep_5, sm_n H, if_neg (nle (by omega) (by omega) (by omega)), sm_beg H I hk]
    simp only [Option.bind_some]
    obtain ⟨b1, e1, i1⟩ := sm_isStep_in H I hk hp hq (fX7_isStep_5 μ (iI p) (iI q) f) (ah a k) 0 FU b (by omega) (FU_gt (by omega))
    have e1' : fX7_isStep_28 μ (iI p) (iI q) (iI k) (fX7_isStep_5 μ (iI p) (iI q) f) FU b (iI (ap a k 0)) (0 : Int32) = fX7_isStep_5 μ (iI p) (iI q) f b1 (iI k + 1) := e1
    obtain ⟨b2, e2, i2⟩ := ih (k + 1) f b1 (by omega) (by omega)
    refine ⟨b2, by rw [e1', iI_s, e2], i2.trans ⟨fun z => ?_, fun z => ?_⟩⟩
    · rcases z with z | ⟨i, z1, z2, z3⟩
      · rcases i1.mp z with w | ⟨i, _, w2, w3⟩
        · exact Or.inl w
        · exact Or.inr ⟨k, Nat.le_refl _, hk, ⟨i, w2, w3⟩⟩
      · exact Or.inr ⟨i, by omega, z2, z3⟩
    · rcases z with z | ⟨i, z1, z2, z3⟩
      · exact Or.inl (i1.mpr (Or.inl z))
      · rcases Nat.lt_or_ge k i with w | w
        · exact Or.inr ⟨i, w, z2, z3⟩
        · rw [show i = k by omega] at z3
          obtain ⟨j, w2, w3⟩ := z3
          exact Or.inl (i1.mpr (Or.inr ⟨j, Nat.zero_le _, w2, w3⟩))
theorem sm_isStep (H : RepM (M_row μ) a) (I : InvA a) {p q : Int} (hp : -1000 ≤ p ∧ p < 10000) (hq : -1000 ≤ q ∧ q < 10000) : ∃ b, fX7_isStep μ (iI p) (iI q) = some b ∧ (b = true ↔ ∃ i, i < an a ∧ joinA a i p q) := by
  obtain ⟨b, e, i⟩ := sm_isStep_loop H I hp hq (an a) 0 FU false (by omega) (FU_gt (by have := I.1; omega))
  refine ⟨b, e, i.trans ⟨fun z => ?_, fun ⟨j, z1, z2⟩ => Or.inr ⟨j, Nat.zero_le _, z1, z2⟩⟩⟩
  rcases z with z | ⟨j, _, z1, z2⟩
  · cases z
  · exact ⟨j, z1, z2⟩
theorem sm_slant {d : Int} (h : 0 ≤ d ∧ d ≤ 7) : ((irm (iI d) (2 : Int32)) = (1 : Int32)) ↔ d % 2 = 1 := by
  rw [L2, L1, iI_irm (by omega) (by omega), iI_eq (by omega) (by omega)]
theorem sm_why89 (H : RepM (M_row μ) a) (I : InvA a) {p d x : Int} (hp : 0 ≤ p ∧ p < 384) (hd : 0 ≤ d ∧ d ≤ 7) : fX7_whyNot_89 μ (iI x) (iI d) (iI p) = some (iI (cIf (crossA a p d) 5 0)) := by
  have a1 := ac_rng d
  have a2 := dn_rng d
  unfold fX7_whyNot_89
  by_cases ho : d % 2 = 1
  · rw [if_pos ((sm_slant hd).mpr ho), sm_across hd, sm_down hd]
    simp only [Option.bind_some]
    rw [L24, iI_mul, iI_add, iI_add]
    obtain ⟨b, e, i⟩ := sm_isStep H I (p := p + acI d) (q := p + 24 * dnI d) (by omega) (by omega)
    rw [e]
    simp only [Option.bind_some]
    by_cases hc : crossA a p d
    · rw [if_pos (i.mpr hc.2), cIf_pos hc]; rfl
    · rw [if_neg (fun q => hc ⟨ho, i.mp q⟩), cIf_neg hc]; rfl
  · rw [if_neg (fun q => ho ((sm_slant hd).mp q)), cIf_neg (fun q => ho q.1)]; rfl
theorem sm_whyNot (H : RepM (M_row μ) a) (I : InvA a) {k : Nat} (hk : k < an a) {d : Int} (hd : 0 ≤ d ∧ d ≤ 7) : fX7_whyNot μ (iI k) (iI d) = some (iI (whyA a k d)) := by
  have h8 := I.1
  obtain ⟨-, h60, -, h384, -⟩ := I.2.2.2.1 k hk
  obtain ⟨b, hb, ib⟩ := sm_closes H I hk
  have hp := h384 (ah a k) (Nat.le_refl _)
  have hp0 := h384 0 (Nat.zero_le _)
  have hbr := bes_rng (ap a k (ah a k)) d (by omega)
  have hw := sm_why89 H I (p := ap a k (ah a k)) (d := d) (x := k) (by omega) hd
  unfold fX7_whyNot whyA
  rw [hb, sm_steps H I hk, sm_last H I hk, sm_beg H I hk]
  simp only [Option.bind_some]
  by_cases hr : ringA a k
  · rw [if_pos (ib.mpr hr), cIf_pos hr]; rfl
  rw [if_neg (fun q => hr (ib.mp q)), cIf_neg hr]
  by_cases h6 : ah a k = 60
  · rw [if_pos (by rw [h6]; rfl), cIf_pos h6]; rfl
  rw [if_neg (by rw [L60]; exact neq (by omega) (by omega) (by omega)), cIf_neg h6, sm_next (by omega) hd]
  simp only [Option.bind_some]
  generalize hB : besI (ap a k (ah a k)) d = B at hbr
  by_cases h3 : B = -1
  · rw [if_pos (by rw [h3]; rfl), cIf_pos h3]; rfl
  rw [if_neg (by rw [Lm1]; exact neq (by omega) (by omega) h3), cIf_neg h3, hw]
  generalize cIf (crossA a (ap a k (ah a k)) d) (5 : Int) 0 = W
  have ho : (∀ i, i < an a → ¬ onL a i B) → fX7_owner μ (iI B) = some (iI (-1)) := fun q => sm_owner_none H I (by omega) q
  by_cases h4 : B = ap a k 0
  · rw [if_pos (by rw [h4])]
    by_cases h5 : 3 ≤ ah a k
    · rw [if_neg (by rw [L3]; exact nlt (by omega) (by omega) (by omega)), cIf_neg (fun q => q.1 ⟨h5, h4⟩)]
      by_cases q : ∃ k', k' < an a ∧ onL a k' B
      · obtain ⟨k', q1, q2⟩ := q
        rw [sm_owner_some H I (by omega) q1 q2]
        simp only [Option.bind_some, ite_self]
      · rw [ho (fun i hi z => q ⟨i, hi, z⟩)]
        simp only [Option.bind_some, ite_self]
    · rw [if_pos (by rw [L3]; exact ylt (by omega) (by omega) (by omega))]
      by_cases q : ∃ k', k' < an a ∧ onL a k' B
      · rw [cIf_pos ⟨fun z => h5 z.1, q⟩]
        obtain ⟨k', q1, q2⟩ := q
        rw [sm_owner_some H I (by omega) q1 q2]
        simp only [Option.bind_some]
        rw [if_neg (by rw [Lm1]; exact neq (by omega) (by omega) (by omega))]; rfl
      · rw [cIf_neg (fun z => q z.2), ho (fun i hi z => q ⟨i, hi, z⟩)]
        simp only [Option.bind_some]
        rw [if_pos Lm1.symm]
  · rw [if_neg (neq (by omega) (by omega) h4)]
    by_cases q : ∃ k', k' < an a ∧ onL a k' B
    · rw [cIf_pos ⟨fun z => h4 z.2, q⟩]
      obtain ⟨k', q1, q2⟩ := q
      rw [sm_owner_some H I (by omega) q1 q2]
      simp only [Option.bind_some]
      rw [if_neg (by rw [Lm1]; exact neq (by omega) (by omega) (by omega))]; rfl
    · rw [cIf_neg (fun z => q z.2), ho (fun i hi z => q ⟨i, hi, z⟩)]
      simp only [Option.bind_some]
      rw [if_pos Lm1.symm]
theorem sm_apart {x y : Int} (hx : -1000 ≤ x ∧ x ≤ 1000) (hy : -1000 ≤ y ∧ y ≤ 1000) : fX7_apart (iI x) (iI y) = some (iI ((y - x).natAbs : Int)) := by
  unfold fX7_apart
  by_cases h : y ≤ x
  · rw [if_pos (yle (by omega) (by omega) h), iI_sub]; exact congrArg (fun z => some (iI z)) (by omega)
  · rw [if_neg (nle (by omega) (by omega) (by omega)), iI_sub]; exact congrArg (fun z => some (iI z)) (by omega)
theorem sm_turn {x y : Int} (hx : 0 ≤ x ∧ x ≤ 7) (hy : 0 ≤ y ∧ y ≤ 7) : fX7_turn (iI x) (iI y) = some (iI (bndI x y)) := by
  unfold fX7_turn bndI
  rw [sm_apart (by omega) (by omega)]
  simp only [Option.bind_some]
  rw [L8, iI_sub]
  by_cases h : 8 - ((y - x).natAbs : Int) ≤ (y - x).natAbs
  · rw [if_pos (yle (by omega) (by omega) h)]; exact congrArg (fun z => some (iI z)) (by omega)
  · rw [if_neg (nle (by omega) (by omega) (by omega))]; exact congrArg (fun z => some (iI z)) (by omega)
theorem sm_bend (H : RepM (M_row μ) a) (I : InvA a) {k : Nat} (hk : k < an a) {j : Nat} (hj : j ≤ ah a k) : fX7_bend μ (iI k) (iI j) = some (iI (bndA a k j)) := by
  obtain ⟨-, h60, -, h384, -⟩ := I.2.2.2.1 k hk
  obtain ⟨b, hb, ib⟩ := sm_closes H I hk
  have hx : ∀ z : Int32, ¬ (0 < j ∧ j < ah a k) → fX7_bend_38 μ (iI k) z (iI (ah a k)) = some (iI (bndA a k j)) := by
    intro z h1
    unfold fX7_bend_38 bndA
    rw [hb, cIf_neg h1]
    simp only [Option.bind_some]
    by_cases hr : ringA a k
    · have h4 := hr.1
      rw [if_pos (ib.mpr hr), cIf_pos hr]
      have e : (4 : Int32) + iI (ah a k : Int) - (1 : Int32) = (4 : Int32) + iI ((ah a k - 1 : Nat) : Int) := by
        rw [L4, L1, iI_add, iI_sub, iI_add]; exact congrArg iI (by omega)
      rw [e, sm_dir H I hk (by omega), sm_dir0 H I hk (by omega)]
      simp only [Option.bind_some]
      rw [sm_turn (dr_rng I hk (by omega)) (dr_rng I hk (by omega))]
      rfl
    · rw [if_neg (fun q => hr (ib.mp q)), cIf_neg hr]; rfl
  unfold fX7_bend
  rw [sm_steps H I hk]
  simp only [Option.bind_some]
  by_cases h0 : j = 0
  · rw [if_pos (by rw [L0]; exact yle (by omega) (by omega) (by omega)), hx _ (by omega)]
  · rw [if_neg (by rw [L0]; exact nle (by omega) (by omega) (by omega))]
    by_cases h1 : ah a k ≤ j
    · rw [if_pos (yle (by omega) (by omega) (by omega)), hx _ (by omega)]
    · have e : (4 : Int32) + iI (j : Int) - (1 : Int32) = (4 : Int32) + iI ((j - 1 : Nat) : Int) := by
        rw [L4, L1, iI_add, iI_sub, iI_add]; exact congrArg iI (by omega)
      rw [if_neg (nle (by omega) (by omega) (by omega)), e, sm_dir H I hk (j := j - 1) (by omega), sm_dir H I hk (j := j) (by omega)]
      simp only [Option.bind_some]
      rw [sm_turn (dr_rng I hk (by omega)) (dr_rng I hk (by omega))]
      unfold bndA
      rw [cIf_pos (by omega)]; rfl
theorem sm_size (H : RepM (M_row μ) a) (I : InvA a) {k : Nat} (hk : k < an a) : fX7_size μ (iI k) = some (iI (szA a k)) := by
  have h99 := (I.2.2.2.1 k hk).1
  unfold fX7_size szA
  rw [sm_lev H I hk]
  simp only [Option.bind_some]
  by_cases h : al a k < 10
  · rw [if_neg (by rw [L10]; exact nle (by omega) (by omega) (by omega)), if_pos h]; rfl
  · rw [if_pos (by rw [L10]; exact yle (by omega) (by omega) (by omega)), if_neg h]; rfl
theorem sm_isPlace (H : RepM (M_row μ) a) (I : InvA a) {k : Nat} (hk : k < an a) {p : Nat} (hp : p ≤ ah a k) : ∃ b, fX7_isPlace μ (iI k) (iI p) = some b ∧ (b = true ↔ plA a k p) := by
  have h60 := (I.2.2.2.1 k hk).2.1
  have hs := sz_rng a k
  obtain ⟨b, hb, ib⟩ := sm_closes H I hk
  have aux : ∀ t : Int, -10 ≤ t ∧ t ≤ 100 → ∃ b2, (if iI t < iI ((p : Int) + szA a k - 1) then some false else some true) = some b2 ∧ (b2 = true ↔ (p : Int) + szA a k - 1 ≤ t) := by
    intro t ht
    by_cases q : t < (p : Int) + szA a k - 1
    · rw [if_pos (ylt (by omega) (by omega) q)]; exact ⟨false, rfl, (fun h => by cases h), (fun h => by omega)⟩
    · rw [if_neg (nlt (by omega) (by omega) (by omega))]; exact ⟨true, rfl, (fun _ => by omega), (fun _ => rfl)⟩
  unfold fX7_isPlace plA r01
  rw [sm_size H I hk, sm_steps H I hk, hb]
  simp only [Option.bind_some]
  rw [L1, L0, iI_add, iI_sub, iI_sub, iI_sub]
  by_cases hr : ringA a k
  · rw [if_pos (ib.mpr hr), cIf_pos hr]
    obtain ⟨b2, e2, i2⟩ := aux ((ah a k : Int) - 1) (by omega)
    exact ⟨b2, e2, i2.trans (by omega)⟩
  · rw [if_neg (fun q => hr (ib.mp q)), cIf_neg hr]
    obtain ⟨b2, e2, i2⟩ := aux ((ah a k : Int) - 0) (by omega)
    exact ⟨b2, e2, i2.trans (by omega)⟩
theorem sm_bends_loop (H : RepM (M_row μ) a) (I : InvA a) {k : Nat} (hk : k < an a) {p : Nat} (hp : p ≤ 1000) : ∀ (m : Nat) (z acc : Int) (fu : Nat), -2 ≤ z → m ≤ 100 → (p : Int) + szA a k = z + m - 1 → m < fu →
    fX7_bends_7 μ (iI k) (iI p) fu (iI acc) (iI z) = some (iI (acc + bsum a k m z)) := by
  obtain ⟨-, h60, -, -, -⟩ := I.2.2.2.1 k hk
  have hs := sz_rng a k
  intro m
  induction m with
  | zero =>
    intro z acc fu h1 h3 h4 h7
    obtain ⟨f, rfl⟩ : ∃ f, fu = f + 1 := ⟨fu - 1, by omega⟩
    rw [fX7_bends_7, sm_size H I hk]
    simp only [Option.bind_some]
    rw [iI_add, if_pos (ylt (by omega) (by omega) (by omega)), bsum, Int.add_zero]
  | succ m ih =>
    intro z acc fu h1 h3 h4 h7
    obtain ⟨f, rfl⟩ : ∃ f, fu = f + 1 := ⟨fu - 1, by omega⟩
    obtain ⟨c, hc, ic⟩ := sm_in (x := z) (y := 0) (z := ah a k) (by omega) (by omega) (by omega)
    have hc' : fX7_in (iI z) (0 : Int32) (iI (ah a k)) = some c := hc
    rw [fX7_bends_7, sm_size H I hk]
    simp only [Option.bind_some]
    rw [iI_add, if_neg (nlt (by omega) (by omega) (by omega)), sm_steps H I hk]
    simp only [Option.bind_some]
    rw [hc']
    simp only [Option.bind_some]
    rw [iI_s', bsum]
    by_cases q : 0 ≤ z ∧ z ≤ ah a k
    · rw [if_pos (ic.mpr q), cIf_pos q]
      have e1 : fX7_bend μ (iI k) (iI z) = some (iI (bndA a k z.toNat)) := by
        have := sm_bend H I hk (j := z.toNat) (by omega)
        rwa [show ((z.toNat : Nat) : Int) = z by omega] at this
      have hr := bndA_rng I hk (j := z.toNat) (by omega)
      rw [e1]
      simp only [Option.bind_some]
      rw [iI_add, ih (z + 1) (acc + bndA a k z.toNat) f (by omega) (by omega) (by omega) (by omega), Int.add_assoc]
    · rw [if_neg (fun w => q (ic.mp w)), cIf_neg q, L0, iI_add, Int.add_zero, ih (z + 1) acc f (by omega) (by omega) (by omega) (by omega), Int.zero_add]
theorem sm_bends (H : RepM (M_row μ) a) (I : InvA a) {k : Nat} (hk : k < an a) {p : Nat} (hp : p ≤ ah a k) : fX7_bends μ (iI k) (iI p) = some (iI (bopA a k p)) := by
  obtain ⟨-, h60, -, -, -⟩ := I.2.2.2.1 k hk
  have hs := sz_rng a k
  unfold fX7_bends bopA
  rw [L1, iI_sub, L0, sm_bends_loop H I hk (by omega) (szA a k + 2) ((p : Int) - 1) 0 FU (by omega) (by omega) (by omega) (FU_gt (by omega)), Int.zero_add]
theorem sm_far {p q : Int} (hp : 0 ≤ p ∧ p < 384) (hq : 0 ≤ q ∧ q < 384) : fX7_far μ (iI p) (iI q) = some (iI (dstI p q)) := by
  unfold fX7_far dstI
  rw [L24, iI_irm (by omega) (by omega), iI_irm (by omega) (by omega), iI_div (by omega) (by omega), iI_div (by omega) (by omega), sm_apart (by omega) (by omega), sm_apart (by omega) (by omega)]
  simp only [Option.bind_some]
  by_cases h : ((q % 24 - p % 24).natAbs : Int) ≤ (q / 24 - p / 24).natAbs
  · rw [if_pos (yle (by omega) (by omega) h)]; exact congrArg (fun z => some (iI z)) (by omega)
  · rw [if_neg (nle (by omega) (by omega) (by omega))]; exact congrArg (fun z => some (iI z)) (by omega)
theorem sm_bt_in (H : RepM (M_row μ) a) (I : InvA a) {k k2 : Nat} (hk : k < an a) (hk2 : k2 < an a) {i p2 : Nat} (hi : i ≤ ah a k) (hp2 : p2 + szA a k2 ≤ ah a k2 + 1) (x : Int32) (K : Int32 → Int32 → Option Int32) : ∀ (m j fu : Nat) (acc : Int), j + m = p2 + szA a k2 → 0 ≤ acc → acc ≤ 99 → m < fu →
    fX7_between_23 μ (iI k) x (iI k2) (iI p2) (iI i) K fu (iI acc) (iI j) = K (iI (minJ (fun j => dstI (ap a k i) (ap a k2 j)) m j acc)) (iI i + 1) := by
  have h384 := (I.2.2.2.1 k hk).2.2.2.1
  have h384b := (I.2.2.2.1 k2 hk2).2.2.2.1
  have h60 := (I.2.2.2.1 k2 hk2).2.1
  have hs := sz_rng a k2
  intro m
  induction m with
  | zero =>
    intro j fu acc h1 h2 h3 h4
    obtain ⟨f, rfl⟩ : ∃ f, fu = f + 1 := ⟨fu - 1, by omega⟩
    rw [fX7_between_23, sm_size H I hk2]
    simp only [Option.bind_some]
    rw [iI_add, if_pos (yle (by omega) (by omega) (by omega))]; rfl
  | succ m ih =>
    intro j fu acc h1 h2 h3 h4
    obtain ⟨f, rfl⟩ : ∃ f, fu = f + 1 := ⟨fu - 1, by omega⟩
    have e1 := h384 i hi
    have e2 := h384b j (by omega)
    have e3 := dst_rng (p := ap a k i) (q := ap a k2 j) (by omega) (by omega)
    rw [fX7_between_23, sm_size H I hk2]
    simp only [Option.bind_some]
    rw [iI_add, if_neg (nle (by omega) (by omega) (by omega)), sm_at H I hk hi, sm_at H I hk2 (j := j) (by omega)]
    simp only [Option.bind_some]
    rw [sm_far (by omega) (by omega)]
    simp only [Option.bind_some]
    rw [iI_s, minJ]
    by_cases q : acc ≤ dstI (ap a k i) (ap a k2 j)
    · rw [if_pos (yle (by omega) (by omega) q), ih (j + 1) f acc (by omega) (by omega) (by omega) (by omega), show min acc (dstI (ap a k i) (ap a k2 j)) = acc by omega]
    · rw [if_neg (nle (by omega) (by omega) (by omega)), ih (j + 1) f _ (by omega) (by omega) (by omega) (by omega), show min acc (dstI (ap a k i) (ap a k2 j)) = dstI (ap a k i) (ap a k2 j) by omega]
theorem sm_bt_out (H : RepM (M_row μ) a) (I : InvA a) {k k2 : Nat} (hk : k < an a) (hk2 : k2 < an a) {p p2 : Nat} (hp : p + szA a k ≤ ah a k + 1) (hp2 : p2 + szA a k2 ≤ ah a k2 + 1) : ∀ (m i fu : Nat) (acc : Int), i + m = p + szA a k → 0 ≤ acc → acc ≤ 99 → m < fu →
    fX7_between_7 μ (iI k) (iI p) (iI k2) (iI p2) fu (iI acc) (iI i) = some (iI (minI (fun i j => dstI (ap a k i) (ap a k2 j)) (szA a k2) p2 m i acc)) := by
  have h384 := (I.2.2.2.1 k hk).2.2.2.1
  have h384b := (I.2.2.2.1 k2 hk2).2.2.2.1
  have h60 := (I.2.2.2.1 k hk).2.1
  have h60b := (I.2.2.2.1 k2 hk2).2.1
  have hs := sz_rng a k
  have hs2 := sz_rng a k2
  intro m
  induction m with
  | zero =>
    intro i fu acc h1 h2 h3 h4
    obtain ⟨f, rfl⟩ : ∃ f, fu = f + 1 := ⟨fu - 1, by omega⟩
    rw [fX7_between_7, sm_size H I hk]
    simp only [Option.bind_some]
    rw [iI_add, if_pos (yle (by omega) (by omega) (by omega))]; rfl
  | succ m ih =>
    intro i fu acc h1 h2 h3 h4
    obtain ⟨f, rfl⟩ : ∃ f, fu = f + 1 := ⟨fu - 1, by omega⟩
    have hr := minJ_rng (fun j => dstI (ap a k i) (ap a k2 j)) (szA a k2) p2 acc h2 h3 (fun j h5 h6 => (dst_rng (by have := h384 i (by omega); omega) (by have := h384b j (by omega); omega)).1)
    rw [fX7_between_7, sm_size H I hk]
    simp only [Option.bind_some]
    rw [iI_add, if_neg (nle (by omega) (by omega) (by omega)), sm_bt_in H I hk hk2 (by omega) hp2 _ _ (szA a k2) p2 FU acc (by omega) h2 h3 (FU_gt (by omega)), iI_s, ih (i + 1) f _ (by omega) hr.1 hr.2 (by omega)]
    rfl
theorem sm_between (H : RepM (M_row μ) a) (I : InvA a) {k k2 : Nat} (hk : k < an a) (hk2 : k2 < an a) {p p2 : Nat} (hp : p + szA a k ≤ ah a k + 1) (hp2 : p2 + szA a k2 ≤ ah a k2 + 1) : fX7_between μ (iI k) (iI p) (iI k2) (iI p2) = some (iI (dlA a k p k2 p2)) :=
  sm_bt_out H I hk hk2 hp hp2 (szA a k) p FU 99 (by omega) (by omega) (by omega) (FU_gt (by have := sz_rng a k; omega))
end SM
