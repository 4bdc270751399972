/-! each change, on both sides -/
section AC
variable {σ : Sh} {μ : Mo} {a : Ab}
theorem Z1 : iI ((1 : Nat) : Int) = (1 : Int32) := rfl
theorem Z2 : iI ((2 : Nat) : Int) = (2 : Int32) := rfl
theorem Z3 : iI ((3 : Nat) : Int) = (3 : Int32) := rfl
theorem upd_eq {f : Nat → Int32} {k : Nat} {v : Int32} : upd f k v k = v := by unfold upd; rw [if_pos rfl]
theorem sm_puts0 {k : Nat} (hk : k < 8) (v : Int32) : fX7_puts μ (iI k) (0 : Int32) v = some (M_row' μ (upd (M_row μ) (2 + 64 * k + 0) v)) := by
  have e := sm_puts (μ := μ) hk (j := 0) (by omega) v
  rw [Z0] at e; exact e
theorem sm_puts1 {k : Nat} (hk : k < 8) (v : Int32) : fX7_puts μ (iI k) (1 : Int32) v = some (M_row' μ (upd (M_row μ) (2 + 64 * k + 1) v)) := by
  have e := sm_puts (μ := μ) hk (j := 1) (by omega) v
  rw [Z1] at e; exact e
theorem sm_puts2 {k : Nat} (hk : k < 8) (v : Int32) : fX7_puts μ (iI k) (2 : Int32) v = some (M_row' μ (upd (M_row μ) (2 + 64 * k + 2) v)) := by
  have e := sm_puts (μ := μ) hk (j := 2) (by omega) v
  rw [Z2] at e; exact e
theorem sm_puts3 {k : Nat} (hk : k < 8) (v : Int32) : fX7_puts μ (iI k) (3 : Int32) v = some (M_row' μ (upd (M_row μ) (2 + 64 * k + 3) v)) := by
  have e := sm_puts (μ := μ) hk (j := 3) (by omega) v
  rw [Z3] at e; exact e
theorem sm_of2 {k : Nat} (hk : k < 8) : fX7_of μ (iI k) (2 : Int32) = some (M_row μ (2 + 64 * k + 2)) := by
  have e := sm_of (μ := μ) hk (j := 2) (by omega)
  rw [Z2] at e; exact e
theorem sm_of3 {k : Nat} (hk : k < 8) : fX7_of μ (iI k) (3 : Int32) = some (M_row μ (2 + 64 * k + 3)) := by
  have e := sm_of (μ := μ) hk (j := 3) (by omega)
  rw [Z3] at e; exact e
/-- a label is put -/
theorem jn_lab (H : RepS σ a) (M : RepM (M_row μ) a) (G : GoodA a) {k : Nat} (hk : k < an a) {b : Int} (hb : b = -1 ∨ (0 ≤ b ∧ b + szA a k ≤ ah a k + 1)) :
    ∃ σ', fX4_putLabel σ (iI k) (iI b) = some σ' ∧ RepS σ' (aLab a k b) ∧ fX7_puts μ (iI k) (3 : Int32) (iI b) = some (M_row' μ (upd (M_row μ) (2 + 64 * k + 3) (iI b))) ∧ RepM (upd (M_row μ) (2 + 64 * k + 3) (iI b)) (aLab a k b) ∧ GoodA (aLab a k b) := by
  have h8 := G.1.1
  obtain ⟨σ', e, R⟩ := sp_putLabel H G.1 hk b
  exact ⟨σ', e, R, sm_puts3 (by omega) _, rm_lab M G.1 hk b, inv_lab G.1 hb, nox_lab G.2 k b⟩
/-- all labels are taken away -/
theorem jn_clear (h8 : an a ≤ 8) : ∀ (m j fu fu' : Nat) (σ : Sh) (μ : Mo) (a' : Ab), j + m = an a → m < fu → m < fu' → an a' = an a → RepS σ a' → RepM (M_row μ) a' → GoodA a' →
    ∃ σ' g b, an b = an a ∧ GoodA b ∧ RepS σ' b ∧ RepM g b ∧ fX2_setAll_7 (iI (an a)) fu (iI j) σ = fX2_setAll_26 (iI (an a)) FU (0 : Int32) σ' ∧ fX7_labelsAll_2 fu' (iI j) μ = fX7_labelsAll_27 FU (0 : Int32) (M_row' μ g) := by
  intro m
  induction m with
  | zero =>
    intro j fu fu' σ μ a' h1 h2 h3 h4 H M G
    obtain ⟨f, rfl⟩ : ∃ f, fu = f + 1 := ⟨fu - 1, by omega⟩
    obtain ⟨f', rfl⟩ : ∃ f, fu' = f + 1 := ⟨fu' - 1, by omega⟩
    refine ⟨σ, M_row μ, a', h4, G, H, M, ?_, ?_⟩
    · rw [fX2_setAll_7, if_pos (yle (by omega) (by omega) (by omega))]
    · rw [fX7_labelsAll_2, sm_n M, if_pos (yle (by omega) (by omega) (by omega))]
  | succ m ih =>
    intro j fu fu' σ μ a' h1 h2 h3 h4 H M G
    obtain ⟨f, rfl⟩ : ∃ f, fu = f + 1 := ⟨fu - 1, by omega⟩
    obtain ⟨f', rfl⟩ : ∃ f, fu' = f + 1 := ⟨fu' - 1, by omega⟩
    obtain ⟨σ', e1, R, e2, R2, G2⟩ := jn_lab H M G (k := j) (by omega) (b := -1) (Or.inl rfl)
    rw [Zm1] at e1 e2 R2
    obtain ⟨σ2, g, b, b1, b2, b3, b4, b5, b6⟩ := ih (j + 1) f f' σ' (M_row' μ (upd (M_row μ) (2 + 64 * j + 3) (-1 : Int32))) (aLab a' j (-1)) (by omega) (by omega) (by omega) h4 R R2 G2
    refine ⟨σ2, g, b, b1, b2, b3, b4, ?_, ?_⟩
    · rw [fX2_setAll_7, if_neg (nle (by omega) (by omega) (by omega)), e1, Option.bind_some, iI_s, b5]
    · rw [fX7_labelsAll_2, sm_n M, if_neg (nle (by omega) (by omega) (by omega)), e2, Option.bind_some, iI_s, b6]
/-- line by line in the order of levels: the best place -/
theorem jn_each (h8 : an a ≤ 8) : ∀ (m v fu fu' : Nat) (σ : Sh) (μ : Mo) (a' : Ab), v + m = an a → m < fu → m < fu' → an a' = an a → RepS σ a' → RepM (M_row μ) a' → GoodA a' →
    ∃ σ' g b, an b = an a ∧ GoodA b ∧ RepS σ' b ∧ RepM g b ∧ fX2_setAll_26 (iI (an a)) fu (iI v) σ = some σ' ∧ fX7_labelsAll_27 fu' (iI v) μ = some (iI (lbA b (an b) 0 0), M_row' μ g) := by
  intro m
  induction m with
  | zero =>
    intro v fu fu' σ μ a' h1 h2 h3 h4 H M G
    obtain ⟨f, rfl⟩ : ∃ f, fu = f + 1 := ⟨fu - 1, by omega⟩
    obtain ⟨f', rfl⟩ : ∃ f, fu' = f + 1 := ⟨fu' - 1, by omega⟩
    refine ⟨σ, M_row μ, a', h4, G, H, M, ?_, ?_⟩
    · rw [fX2_setAll_26, if_pos (yle (by omega) (by omega) (by omega))]
    · rw [fX7_labelsAll_27, sm_n M, if_pos (yle (by omega) (by omega) (by omega)), sm_labelled M G.1, Option.bind_some]
  | succ m ih =>
    intro v fu fu' σ μ a' h1 h2 h3 h4 H M G
    obtain ⟨f, rfl⟩ : ∃ f, fu = f + 1 := ⟨fu - 1, by omega⟩
    obtain ⟨f', rfl⟩ : ∃ f, fu' = f + 1 := ⟨fu' - 1, by omega⟩
    obtain ⟨i, hi, hr⟩ := rank_sur (a := a') (v := v) (by omega)
    have k1 := sp_lineOfRank H G.1 hi
    have k2 := sm_byLevel M G.1 hi
    rw [hr] at k1 k2
    have hb : bestA a' i = -1 ∨ (0 ≤ bestA a' i ∧ bestA a' i + szA a' i ≤ ah a' i + 1) := by
      rcases best_pl a' i with h | ⟨p, p1, p2, p3⟩
      · exact Or.inl h
      · rw [p1]; exact Or.inr (whl_lab p3)
    obtain ⟨σ', e1, R, e2, R2, G2⟩ := jn_lab H M G hi hb
    obtain ⟨σ2, g, b, b1, b2, b3, b4, b5, b6⟩ := ih (v + 1) f f' σ' (M_row' μ (upd (M_row μ) (2 + 64 * i + 3) (iI (bestA a' i)))) (aLab a' i (bestA a' i)) (by omega) (by omega) (by omega) h4 R R2 G2
    refine ⟨σ2, g, b, b1, b2, b3, b4, ?_, ?_⟩
    · rw [fX2_setAll_26, if_neg (nle (by omega) (by omega) (by omega)), k1, Option.bind_some, sp_best H G.1 hi, Option.bind_some, e1, Option.bind_some, iI_s, b5]
    · rw [fX7_labelsAll_27, sm_n M, if_neg (nle (by omega) (by omega) (by omega)), k2, Option.bind_some, sm_best M G.1 hi, Option.bind_some, e2, Option.bind_some, iI_s, b6]
theorem jn_all (H : RepS σ a) (M : RepM (M_row μ) a) (G : GoodA a) (x y : Int32) : ∃ σ' g b z, GoodA b ∧ RepS σ' b ∧ RepM g b ∧ fX2_setAll σ = some σ' ∧ fX7_does μ (97 : Int32) x y = some (z, M_row' μ g) ∧ fX4_labelCount σ' = some z := by
  have h8 := G.1.1
  obtain ⟨σ1, g1, b1, c1, c2, c3, c4, c5, c6⟩ := jn_clear h8 (an a) 0 FU FU σ μ a (by omega) (FU_gt (by omega)) (FU_gt (by omega)) rfl H M G
  obtain ⟨σ2, g2, b2, d1, d2, d3, d4, d5, d6⟩ := jn_each h8 (an a) 0 FU FU σ1 (M_row' μ g1) b1 (by omega) (FU_gt (by omega)) (FU_gt (by omega)) c1 c3 c4 c2
  rw [Z0] at c5 c6 d5 d6
  refine ⟨σ2, g2, b2, iI (lbA b2 (an b2) 0 0), d2, d3, d4, ?_, ?_, sp_labelCount d3 d2.1⟩
  · unfold fX2_setAll
    rw [sp_lineCount H, Option.bind_some, c5, d5]
  · unfold fX7_does
    rw [if_pos (by decide)]
    unfold fX7_labelsAll
    rw [c6, d6, Option.bind_some]
theorem jn_best (H : RepS σ a) (M : RepM (M_row μ) a) (G : GoodA a) {k : Nat} (hk : k < an a) (hb : ¬ bestA a k = -1) (y : Int32) : ∃ σ' g b, GoodA b ∧ RepS σ' b ∧ RepM g b ∧ fX4_putLabel σ (iI k) (iI (bestA a k)) = some σ' ∧ fX7_does μ (98 : Int32) (iI k) y = some (iI (bestA a k), M_row' μ g) := by
  have h8 := G.1.1
  have hb' : bestA a k = -1 ∨ (0 ≤ bestA a k ∧ bestA a k + szA a k ≤ ah a k + 1) := by
    rcases best_pl a k with h | ⟨p, p1, p2, p3⟩
    · exact Or.inl h
    · rw [p1]; exact Or.inr (whl_lab p3)
  obtain ⟨σ', e1, R, e2, R2, G2⟩ := jn_lab H M G hk hb'
  refine ⟨σ', _, _, G2, R, R2, e1, ?_⟩
  unfold fX7_does
  rw [if_neg (by decide), if_pos (by decide), sm_best M G.1 hk, Option.bind_some, e2, Option.bind_some, sm_of3 (by omega), Option.bind_some]
  show some (upd (M_row μ) (2 + 64 * k + 3) (iI (bestA a k)) (2 + 64 * k + 3), M_row' μ (upd (M_row μ) (2 + 64 * k + 3) (iI (bestA a k)))) = _
  rw [upd_eq]
theorem jn_label (H : RepS σ a) (M : RepM (M_row μ) a) (G : GoodA a) {k : Nat} (hk : k < an a) {p : Nat} (hp : p ≤ ah a k) (hw : whlA a k p = 0) : ∃ σ' g b z, GoodA b ∧ RepS σ' b ∧ RepM g b ∧ fX4_putLabel σ (iI k) (iI p) = some σ' ∧ fX2_bendOfPlace σ' (iI k) (iI p) = some z ∧ fX7_does μ (108 : Int32) (iI k) (iI p) = some (z, M_row' μ g) := by
  have h8 := G.1.1
  obtain ⟨σ', e1, R, e2, R2, G2⟩ := jn_lab H M G hk (Or.inr (whl_lab hw))
  have pl0 : plA a k p := shp_pl (whl_shp hw).1
  have pl : plA (aLab a k p) k p := pl0
  have sb := sp_bendOfPlace R G2.1 (k := k) hk (p := p) hp
  rw [cIf_pos pl] at sb
  refine ⟨σ', _, _, _, G2, R, R2, e1, sb, ?_⟩
  unfold fX7_does
  rw [if_neg (by decide), if_neg (by decide), if_pos (by decide), e2, Option.bind_some, sm_bends (μ := M_row' μ (upd (M_row μ) (2 + 64 * k + 3) (iI (p : Int)))) R2 G2.1 (k := k) hk (p := p) hp, Option.bind_some]
theorem jn_unlab (H : RepS σ a) (M : RepM (M_row μ) a) (G : GoodA a) {k : Nat} (hk : k < an a) (y : Int32) : ∃ σ' g b, GoodA b ∧ RepS σ' b ∧ RepM g b ∧ fX4_putLabel σ (iI k) (-1 : Int32) = some σ' ∧ fX7_does μ (117 : Int32) (iI k) y = some (iI (ab a k), M_row' μ g) := by
  have h8 := G.1.1
  obtain ⟨σ', e1, R, e2, R2, G2⟩ := jn_lab H M G hk (b := -1) (Or.inl rfl)
  rw [Zm1] at e1 e2 R2
  refine ⟨σ', _, _, G2, R, R2, e1, ?_⟩
  unfold fX7_does
  rw [if_neg (by decide), if_neg (by decide), if_neg (by decide), if_neg (by decide), if_neg (by decide), if_pos (by decide), sm_lab M G.1 hk, Option.bind_some, e2, Option.bind_some]
theorem jn_gap (H : RepS σ a) (M : RepM (M_row μ) a) (G : GoodA a) {g : Nat} (hg : 1 ≤ g ∧ g ≤ 6) (y : Int32) : ∃ σ' r b, GoodA b ∧ RepS σ' b ∧ RepM r b ∧ fX4_putGap σ (iI g) = some σ' ∧ fX7_does μ (103 : Int32) (iI g) y = some (iI (ag a), M_row' μ r) := by
  obtain ⟨σ', e1, R⟩ := sp_putGap H g
  refine ⟨σ', _, _, ⟨inv_gap G.1 hg, nox_gap G.2 g⟩, R, rm_gap M G.1 g, e1, ?_⟩
  unfold fX7_does
  rw [if_neg (by decide), if_neg (by decide), if_neg (by decide), if_neg (by decide), if_neg (by decide), if_neg (by decide), if_neg (by decide), sm_g M]
  rfl
theorem jn_wipe (H : RepS σ a) (M : RepM (M_row μ) a) (G : GoodA a) {k : Nat} (hk : k < an a) (y : Int32) : ∃ σ' r b, GoodA b ∧ RepS σ' b ∧ RepM r b ∧ fX4_removeLine σ (iI k) = some (true, σ') ∧ fX4_lineCount σ' = some (iI ((an a - 1 : Nat) : Int)) ∧ fX7_does μ (119 : Int32) (iI k) y = some (iI ((an a - 1 : Nat) : Int), M_row' μ r) := by
  obtain ⟨σ', e1, R⟩ := sp_removeLine H G.1 hk
  obtain ⟨r, e2, R2⟩ := sm_wipes M G.1 hk
  refine ⟨σ', r, _, ⟨inv_wipe G.1 hk, nox_wipe G.2 hk⟩, R, R2, e1, sp_lineCount R, ?_⟩
  unfold fX7_does
  rw [if_neg (by decide), if_neg (by decide), if_neg (by decide), if_neg (by decide), if_neg (by decide), if_neg (by decide), if_pos (by decide), e2, Option.bind_some]
theorem jn_begin (H : RepS σ a) (M : RepM (M_row μ) a) (G : GoodA a) (hn : an a < 8) {l p : Nat} (hl : l ≤ 99) (hp : p < 384) (ho : ∀ i, i < an a → ¬ onL a i p) : ∃ σ' r b, GoodA b ∧ RepS σ' b ∧ RepM r b ∧ fX4_addLine σ (iI l) (iI p) = some (iI (an a), σ') ∧ fX7_does μ (110 : Int32) (iI l) (iI p) = some (iI (an a), M_row' μ r) := by
  obtain ⟨σ', e1, R⟩ := sp_addLine H G.1 hn l p
  have hn0 := sm_n M
  refine ⟨σ', upd (upd (upd (upd (upd (M_row μ) 0 (iI ((an a + 1 : Nat) : Int))) (2 + 64 * an a + 0) (iI l)) (2 + 64 * an a + 1) (iI p)) (2 + 64 * an a + 2) (0 : Int32)) (2 + 64 * an a + 3) (-1 : Int32), aLine a l p, ⟨inv_line G.1 hn hl hp ho, nox_line G.2 l p⟩, R, ?_, e1, ?_⟩
  · refine rm_line M G.1 ?_ ?_ ?_ ?_ ?_ (fun x h1 h2 => ?_)
    · rw [upd_ne (by omega), upd_ne (by omega), upd_ne (by omega), upd_ne (by omega), upd_eq]
    · rw [upd_ne (by omega), upd_ne (by omega), upd_ne (by omega)]; exact upd_eq
    · rw [upd_ne (by omega), upd_ne (by omega), upd_eq]
    · rw [upd_ne (by omega), upd_eq]; rfl
    · rw [upd_eq]; rfl
    · rw [upd_ne (by omega), upd_ne (by omega), upd_ne (by omega), upd_ne (by omega), upd_ne (by omega)]
  · unfold fX7_does
    rw [if_neg (by decide), if_neg (by decide), if_neg (by decide), if_pos (by decide), hn0, sm_puts0 hn, Option.bind_some, sm_puts1 hn, Option.bind_some, sm_puts2 hn, Option.bind_some, sm_puts3 hn, Option.bind_some, iI_s]
    rfl
theorem jn_step0 (H : RepS σ a) (M : RepM (M_row μ) a) (G : GoodA a) {k : Nat} (hk : k < an a) {d : Int} (hd : 0 ≤ d ∧ d ≤ 7) (hw : whyA a k d = 0) : ∃ σ' r b c, an b = an a ∧ GoodA b ∧ RepS σ' b ∧ RepM r b ∧ fX4_addStep σ (iI k) (iI d) = some σ' ∧ fX4_isRing σ' (iI k) = some c ∧ fX7_does μ (115 : Int32) (iI k) (iI d) = some ((if c = true then (1 : Int32) else (0 : Int32)), M_row' μ r) := by
  have h8 := G.1.1
  have hbe : ¬ besI (ap a k (ah a k)) d = -1 := by
    intro q
    have hw' := hw
    unfold whyA at hw'
    have c1 : ¬ ringA a k := fun q => by rw [cIf_pos q] at hw'; omega
    rw [cIf_neg c1] at hw'
    have c2 : ¬ ah a k = 60 := fun q => by rw [cIf_pos q] at hw'; omega
    rw [cIf_neg c2, cIf_pos q] at hw'
    omega
  have hl := (G.1.2.2.2.1 k hk).2.2.2.1 (ah a k) (Nat.le_refl _)
  have a1 := ac_rng d
  have a2 := dn_rng d
  obtain ⟨p, hp⟩ : ∃ p : Nat, besI (ap a k (ah a k)) d = p := by
    refine ⟨(besI (ap a k (ah a k)) d).toNat, ?_⟩
    unfold besI at hbe ⊢
    by_cases t : 0 ≤ (ap a k (ah a k) : Int) % 24 + acI d ∧ (ap a k (ah a k) : Int) % 24 + acI d < 24 ∧ 0 ≤ (ap a k (ah a k) : Int) / 24 + dnI d ∧ (ap a k (ah a k) : Int) / 24 + dnI d < 16
    · rw [if_pos t]; omega
    · rw [if_neg t] at hbe; exact absurd rfl hbe
  obtain ⟨h60, I2⟩ := inv_step G.1 hk hd hp hw
  obtain ⟨hpv, -⟩ := step_pt G.1 hk hp hw
  obtain ⟨σ', e1, R⟩ := sp_addStep H G.1 hk h60 hd hp
  have R2 := rm_step M G.1 hk h60 hd hpv
  obtain ⟨c, hc, ic⟩ := sp_isRing R I2 (k := k) hk
  obtain ⟨c', hc', ic'⟩ := sm_closes (μ := M_row' μ (upd (upd (M_row μ) (2 + 64 * k + (4 + ah a k)) (iI d)) (2 + 64 * k + 2) (iI ((ah a k + 1 : Nat) : Int)))) R2 I2 (k := k) hk
  have cc : c = c' := by
    cases c <;> cases c'
    · rfl
    · exact absurd (ic.mpr (ic'.mp rfl)) (by decide)
    · exact absurd (ic'.mpr (ic.mp rfl)) (by decide)
    · rfl
  subst cc
  refine ⟨σ', _, aStep a k p, c, rfl, ⟨I2, nox_step G.1 G.2 hk hd hp hw⟩, R, R2, e1, hc, ?_⟩
  have e4 : (4 : Int32) + iI (ah a k : Int) = iI ((4 + ah a k : Nat) : Int) := by rw [L4, iI_add]; exact congrArg iI (by omega)
  unfold fX7_does
  rw [if_neg (by decide), if_neg (by decide), if_neg (by decide), if_neg (by decide), if_pos (by decide), sm_steps M G.1 hk, Option.bind_some, e4, sm_puts (by omega) (by omega), Option.bind_some, sm_of2 (by omega), Option.bind_some, sm_puts2 (by omega), Option.bind_some]
  have e5 : upd (M_row μ) (2 + 64 * k + (4 + ah a k)) (iI d) (2 + 64 * k + 2) + (1 : Int32) = iI ((ah a k + 1 : Nat) : Int) := by
    rw [upd_ne (by omega), (M.2.2 k hk).2.2.1, iI_s]
  have e6 : M_row' (M_row' μ (upd (M_row μ) (2 + 64 * k + (4 + ah a k)) (iI d))) (upd (M_row (M_row' μ (upd (M_row μ) (2 + 64 * k + (4 + ah a k)) (iI d)))) (2 + 64 * k + 2) (M_row (M_row' μ (upd (M_row μ) (2 + 64 * k + (4 + ah a k)) (iI d))) (2 + 64 * k + 2) + (1 : Int32))) = M_row' μ (upd (upd (M_row μ) (2 + 64 * k + (4 + ah a k)) (iI d)) (2 + 64 * k + 2) (iI ((ah a k + 1 : Nat) : Int))) := by
    show M_row' μ (upd (upd (M_row μ) (2 + 64 * k + (4 + ah a k)) (iI d)) (2 + 64 * k + 2) (upd (M_row μ) (2 + 64 * k + (4 + ah a k)) (iI d) (2 + 64 * k + 2) + (1 : Int32))) = _
    rw [e5]
  rw [e6, hc', Option.bind_some]
  cases c
  · rw [if_neg (show ¬ (false = true) from by decide), if_neg (show ¬ (false = true) from by decide)]
  · rw [if_pos (rfl : true = true), if_pos (rfl : true = true)]
theorem jn_step (H : RepS σ a) (M : RepM (M_row μ) a) (G : GoodA a) {k : Nat} (hk : k < an a) {d : Int} (hd : 0 ≤ d ∧ d ≤ 7) (hw : whyA a k d = 0) : ∃ σ' r b c, GoodA b ∧ RepS σ' b ∧ RepM r b ∧ fX4_addStep σ (iI k) (iI d) = some σ' ∧ fX4_isRing σ' (iI k) = some c ∧ fX7_does μ (115 : Int32) (iI k) (iI d) = some ((if c = true then (1 : Int32) else (0 : Int32)), M_row' μ r) := by
  obtain ⟨σ', r, b, c, -, h⟩ := jn_step0 H M G hk hd hw
  exact ⟨σ', r, b, c, h⟩
end AC
