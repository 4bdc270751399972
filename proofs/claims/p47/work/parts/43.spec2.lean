/-! places, distances to the others, the best place: both sides -/
def stdA (a : Ab) (k p : Nat) : Prop := (((ap a k (p + szA a k - 1) : Int) % 24 - (ap a k p : Int) % 24).natAbs : Int) < (((ap a k (p + szA a k - 1) : Int) / 24 - (ap a k p : Int) / 24).natAbs : Int)
noncomputable def shpA (a : Ab) (k p : Nat) : Int := cIf (plA a k p) (if bopA a k p ≤ 1 then cIf (stdA a k p) 3 0 else 2) 1
def frA (a : Ab) (k p : Nat) : Nat → Nat → Int → Int
  | 0, _, acc => acc
  | m + 1, i, acc => frA a k p m (i + 1) (if i = k ∨ ab a i = -1 then acc else min acc (dlA a k p i (ab a i).toNat))
def freeA (a : Ab) (k p : Nat) : Int := frA a k p (an a) 0 99
noncomputable def whlA (a : Ab) (k p : Nat) : Int := if shpA a k p = 0 then (if (ag a : Int) ≤ freeA a k p then 0 else 4) else shpA a k p
noncomputable def cntA (a : Ab) (k : Nat) : Nat → Nat → Int → Int
  | 0, _, acc => acc
  | m + 1, j, acc => cntA a k m (j + 1) (if whlA a k j = 0 then acc + 1 else acc)
noncomputable def bstA (a : Ab) (k : Nat) : Nat → Nat → Int → Int → Int → Int
  | 0, _, x, _, _ => x
  | m + 1, j, x, y, z => cIf (whlA a k j = 0 ∧ (x = -1 ∨ bopA a k j < y ∨ (bopA a k j = y ∧ z < freeA a k j))) (bstA a k m (j + 1) j (bopA a k j) (freeA a k j)) (bstA a k m (j + 1) x y z)
noncomputable def bestA (a : Ab) (k : Nat) : Int := bstA a k (ah a k + 1) 0 (-1) 0 0
theorem minI_rng (f : Nat → Nat → Int) (mj j0 : Nat) : ∀ (m i : Nat) (acc : Int), 0 ≤ acc → acc ≤ 99 → (∀ x y, i ≤ x → x < i + m → j0 ≤ y → y < j0 + mj → 0 ≤ f x y) → 0 ≤ minI f mj j0 m i acc ∧ minI f mj j0 m i acc ≤ 99 := by
  intro m
  induction m with
  | zero => intro i acc h1 h2 _; exact ⟨h1, h2⟩
  | succ m ih =>
    intro i acc h1 h2 h3
    have := minJ_rng (f i) mj j0 acc h1 h2 (fun y h4 h5 => h3 i y (Nat.le_refl _) (by omega) h4 h5)
    exact ih (i + 1) _ this.1 this.2 (fun x y h4 h5 h6 h7 => h3 x y (by omega) (by omega) h6 h7)
theorem Z0 : iI ((0 : Nat) : Int) = (0 : Int32) := rfl
theorem Z0' : iI 0 = (0 : Int32) := rfl
theorem Z99 : iI 99 = (99 : Int32) := rfl
theorem Zm1 : iI (-1) = (-1 : Int32) := rfl
section S2
variable {σ : Sh} {a : Ab}
theorem dl_rng (I : InvA a) {k k2 p p2 : Nat} (hk : k < an a) (hk2 : k2 < an a) (hp : p + szA a k ≤ ah a k + 1) (hp2 : p2 + szA a k2 ≤ ah a k2 + 1) : 0 ≤ dlA a k p k2 p2 ∧ dlA a k p k2 p2 ≤ 99 := by
  have h1 := (I.2.2.2.1 k hk).2.2.2.1
  have h2 := (I.2.2.2.1 k2 hk2).2.2.2.1
  refine minI_rng _ _ _ _ _ _ (by omega) (by omega) (fun x y h3 h4 h5 h6 => ?_)
  have h7 := h1 x (by omega)
  have h8 := h2 y (by omega)
  exact (dst_rng (by omega) (by omega)).1
theorem lab_pl (I : InvA a) {i : Nat} (hi : i < an a) (h : ¬ ab a i = -1) : 0 ≤ ab a i ∧ (ab a i).toNat + szA a i ≤ ah a i + 1 ∧ ab a i ≤ 60 ∧ (((ab a i).toNat : Nat) : Int) = ab a i := by
  have h1 := (I.2.2.2.1 i hi).2.2.1
  have h2 := (I.2.2.2.1 i hi).2.1
  have h3 := sz_rng a i
  omega
theorem lab_rng (I : InvA a) {i : Nat} (hi : i < an a) : -1 ≤ ab a i ∧ ab a i ≤ 60 := by
  have h1 := (I.2.2.2.1 i hi).2.2.1
  have h2 := (I.2.2.2.1 i hi).2.1
  have h3 := sz_rng a i
  omega
theorem bop_rng (I : InvA a) {k : Nat} (hk : k < an a) (p : Nat) : 0 ≤ bopA a k p ∧ bopA a k p ≤ 20 := by
  have h := bsum_rng I hk (szA a k + 2) ((p : Int) - 1)
  have hs := sz_rng a k
  unfold bopA
  omega
theorem frA_rng (I : InvA a) {k p : Nat} (hk : k < an a) (hp : p + szA a k ≤ ah a k + 1) : ∀ (m i : Nat) (acc : Int), i + m = an a → 0 ≤ acc → acc ≤ 99 → 0 ≤ frA a k p m i acc ∧ frA a k p m i acc ≤ 99 := by
  intro m
  induction m with
  | zero => intro i acc _ h1 h2; exact ⟨h1, h2⟩
  | succ m ih =>
    intro i acc h0 h1 h2
    unfold frA
    by_cases q : i = k ∨ ab a i = -1
    · rw [if_pos q]; exact ih (i + 1) acc (by omega) h1 h2
    · rw [if_neg q]
      have h3 := lab_pl I (i := i) (by omega) (fun z => q (Or.inr z))
      have h4 := dl_rng I hk (k2 := i) (by omega) hp h3.2.1
      exact ih (i + 1) _ (by omega) (by omega) (by omega)
theorem free_rng (I : InvA a) {k p : Nat} (hk : k < an a) (hp : p + szA a k ≤ ah a k + 1) : 0 ≤ freeA a k p ∧ freeA a k p ≤ 99 := frA_rng I hk hp (an a) 0 99 (by omega) (by omega) (by omega)
theorem pl_le {k p : Nat} (h : plA a k p) : p + szA a k ≤ ah a k + 1 := by unfold plA at h; omega
theorem shp_pl {k p : Nat} (h : shpA a k p = 0) : plA a k p := by
  refine Classical.byContradiction (fun q => ?_)
  unfold shpA at h
  rw [cIf_neg q] at h
  omega
theorem shp_rng (a : Ab) (k p : Nat) : 0 ≤ shpA a k p ∧ shpA a k p ≤ 3 := by
  unfold shpA
  by_cases q : plA a k p
  · rw [cIf_pos q]
    by_cases r : bopA a k p ≤ 1
    · rw [if_pos r]
      by_cases s : stdA a k p
      · rw [cIf_pos s]; omega
      · rw [cIf_neg s]; omega
    · rw [if_neg r]; omega
  · rw [cIf_neg q]; omega
theorem whl_rng (a : Ab) (k p : Nat) : 0 ≤ whlA a k p ∧ whlA a k p ≤ 4 := by
  have := shp_rng a k p
  unfold whlA
  split
  · split <;> omega
  · omega
theorem whl_shp {k p : Nat} (h : whlA a k p = 0) : shpA a k p = 0 ∧ (ag a : Int) ≤ freeA a k p := by
  unfold whlA at h
  by_cases q : shpA a k p = 0
  · rw [if_pos q] at h
    refine ⟨q, ?_⟩
    by_cases r : (ag a : Int) ≤ freeA a k p
    · exact r
    · rw [if_neg r] at h; omega
  · rw [if_neg q] at h; exact absurd h q
theorem sp_lineCount (H : RepS σ a) : fX4_lineCount σ = some (iI (an a)) := by unfold fX4_lineCount; rw [H.1]
theorem sp_gapWidth (H : RepS σ a) : fX4_gapWidth σ = some (iI (ag a)) := by unfold fX4_gapWidth; rw [H.2.1]
theorem sp_stands (H : RepS σ a) (I : InvA a) {k : Nat} (hk : k < an a) {p : Nat} (hp : p + szA a k ≤ ah a k + 1) : ∃ b, fX2_stands σ (iI k) (iI p) = some b ∧ (b = true ↔ stdA a k p) := by
  obtain ⟨-, h60, -, h384, -⟩ := I.2.2.2.1 k hk
  have hs := sz_rng a k
  have h1 := h384 p (by omega)
  have h2 := h384 (p + szA a k - 1) (by omega)
  unfold fX2_stands stdA
  rw [sp_pointAt H I hk (j := p) (by omega), Option.bind_some, sp_lastNumber H I hk, Option.bind_some, show ((p : Int) + szA a k - 1) = ((p + szA a k - 1 : Nat) : Int) by omega, sp_pointAt H I hk (j := p + szA a k - 1) (by omega), Option.bind_some]
  generalize ap a k (p + szA a k - 1) = y at h2
  generalize ap a k p = x at h1
  rw [sp_rowOf (p := y) (by omega), Option.bind_some, sp_rowOf (p := x) (by omega), Option.bind_some, sp_columnOf (p := y) (by omega), Option.bind_some, sp_columnOf (p := x) (by omega), Option.bind_some, iI_sub, iI_sub, iabs_iI (by omega), iabs_iI (by omega)]
  by_cases q : (((y : Int) % 24 - (x : Int) % 24).natAbs : Int) < (((y : Int) / 24 - (x : Int) / 24).natAbs : Int)
  · rw [if_neg (nle (by omega) (by omega) q)]; exact ⟨true, rfl, (fun _ => q), (fun _ => rfl)⟩
  · rw [if_pos (yle (by omega) (by omega) (by omega))]; exact ⟨false, rfl, (fun h => by cases h), (fun h => absurd h q)⟩
theorem sp_shape (H : RepS σ a) (I : InvA a) {k : Nat} (hk : k < an a) {p : Nat} (hp : p ≤ ah a k) : fX2_reasonOfShape σ (iI k) (iI p) = some (iI (shpA a k p)) := by
  obtain ⟨b, hb, ib⟩ := sp_isPlace H I hk hp
  have hr := bop_rng I hk p
  unfold fX2_reasonOfShape shpA
  rw [hb]
  simp only [Option.bind_some]
  by_cases h : plA a k p
  · rw [if_pos (ib.mpr h), cIf_pos h, sp_bendOfPlace H I hk hp, cIf_pos h]
    simp only [Option.bind_some]
    obtain ⟨c, hc, ic⟩ := sp_stands H I hk (pl_le h)
    by_cases q : bopA a k p ≤ 1
    · rw [if_pos (by rw [L1]; exact yle (by omega) (by omega) q), if_pos q, hc]
      simp only [Option.bind_some]
      by_cases s : stdA a k p
      · rw [if_pos (ic.mpr s), cIf_pos s]; rfl
      · rw [if_neg (fun z => s (ic.mp z)), cIf_neg s]; rfl
    · rw [if_neg (by rw [L1]; exact nle (by omega) (by omega) (by omega)), if_neg q]; rfl
  · rw [if_neg (fun q => h (ib.mp q)), cIf_neg h]; rfl
theorem sp_dto_loop (H : RepS σ a) (I : InvA a) {k p : Nat} (hk : k < an a) (hp : p + szA a k ≤ ah a k + 1) : ∀ (m i fu : Nat) (acc : Int), i + m = an a → 0 ≤ acc → acc ≤ 99 → m < fu →
    fX2_distanceToOthers_6 σ (iI k) (iI p) fu (iI acc) (iI i) = some (iI (frA a k p m i acc)) := by
  have h8 := I.1
  intro m
  induction m with
  | zero =>
    intro i fu acc h1 h2 h3 h4
    obtain ⟨f, rfl⟩ : ∃ f, fu = f + 1 := ⟨fu - 1, by omega⟩
    rw [fX2_distanceToOthers_6, sp_lineCount H]
    simp only [Option.bind_some]
    rw [if_pos (yle (by omega) (by omega) (by omega))]; rfl
  | succ m ih =>
    intro i fu acc h1 h2 h3 h4
    obtain ⟨f, rfl⟩ : ∃ f, fu = f + 1 := ⟨fu - 1, by omega⟩
    have hi : i < an a := by omega
    have hl := lab_rng I hi
    rw [fX2_distanceToOthers_6, sp_lineCount H]
    simp only [Option.bind_some]
    rw [if_neg (nle (by omega) (by omega) (by omega)), sp_labelIn H I hi]
    simp only [Option.bind_some]
    rw [iI_s, frA]
    by_cases q1 : i = k
    · rw [if_pos (by rw [q1]), if_pos (Or.inl q1)]; exact ih (i + 1) f acc (by omega) h2 h3 (by omega)
    · rw [if_neg (neq (by omega) (by omega) (by omega))]
      by_cases q2 : ab a i = -1
      · rw [if_pos (by rw [q2]; rfl), if_pos (Or.inr q2)]; exact ih (i + 1) f acc (by omega) h2 h3 (by omega)
      · have h5 := lab_pl I hi q2
        have h6 := dl_rng I hk hi hp h5.2.1
        rw [if_neg (by rw [Lm1]; exact neq (by omega) (by omega) q2), if_neg (fun z => z.elim q1 q2), sp_distanceToLabel H I hk hi hp h5.1]
        simp only [Option.bind_some]
        rw [imin_iI (by omega) (by omega)]
        exact ih (i + 1) f _ (by omega) (by omega) (by omega) (by omega)
theorem sp_dto (H : RepS σ a) (I : InvA a) {k p : Nat} (hk : k < an a) (hp : p + szA a k ≤ ah a k + 1) : fX2_distanceToOthers σ (iI k) (iI p) = some (iI (freeA a k p)) := by
  have e := sp_dto_loop H I hk hp (an a) 0 FU 99 (by omega) (by omega) (by omega) (FU_gt (by have := I.1; omega))
  rw [Z0, Z99] at e
  unfold fX2_distanceToOthers
  exact e
theorem sp_reason (H : RepS σ a) (I : InvA a) {k : Nat} (hk : k < an a) {p : Nat} (hp : p ≤ ah a k) : fX2_reasonAgainst σ (iI k) (iI p) = some (iI (whlA a k p)) := by
  have h1 := shp_rng a k p
  have hg := I.2.2.1
  unfold fX2_reasonAgainst whlA
  rw [sp_shape H I hk hp]
  simp only [Option.bind_some]
  by_cases q : shpA a k p = 0
  · have h2 := free_rng I hk (pl_le (shp_pl q))
    rw [if_pos (by rw [q]; rfl), if_pos q, sp_dto H I hk (pl_le (shp_pl q)), sp_gapWidth H]
    simp only [Option.bind_some]
    by_cases r : (ag a : Int) ≤ freeA a k p
    · rw [if_pos (yle (by omega) (by omega) r), if_pos r]; rfl
    · rw [if_neg (nle (by omega) (by omega) (by omega)), if_neg r]; rfl
  · rw [if_neg (by rw [L0]; exact neq (by omega) (by omega) q), if_neg q]
theorem sp_cnt_loop (H : RepS σ a) (I : InvA a) {k : Nat} (hk : k < an a) : ∀ (m j fu : Nat) (acc : Int), j + m = ah a k + 1 → m < fu →
    fX2_countPlaces_11 σ (iI k) (iI (ah a k)) fu (iI acc) (iI j) = some (iI (cntA a k m j acc)) := by
  have h60 := (I.2.2.2.1 k hk).2.1
  intro m
  induction m with
  | zero =>
    intro j fu acc h1 h4
    obtain ⟨f, rfl⟩ : ∃ f, fu = f + 1 := ⟨fu - 1, by omega⟩
    rw [fX2_countPlaces_11, if_pos (ylt (by omega) (by omega) (by omega))]; rfl
  | succ m ih =>
    intro j fu acc h1 h4
    obtain ⟨f, rfl⟩ : ∃ f, fu = f + 1 := ⟨fu - 1, by omega⟩
    have hw := whl_rng a k j
    rw [fX2_countPlaces_11, if_neg (nlt (by omega) (by omega) (by omega)), sp_reason H I hk (by omega)]
    simp only [Option.bind_some]
    rw [iI_s, iI_s', cntA]
    by_cases q : whlA a k j = 0
    · rw [if_pos (by rw [q]; rfl), if_pos q]
      exact ih (j + 1) f (acc + 1) (by omega) (by omega)
    · rw [if_neg (by rw [L0]; exact neq (by omega) (by omega) q), if_neg q]
      exact ih (j + 1) f acc (by omega) (by omega)
theorem sp_countPlaces (H : RepS σ a) (I : InvA a) {k : Nat} (hk : k < an a) : fX2_countPlaces σ (iI k) = some (iI (cntA a k (ah a k + 1) 0 0)) := by
  have h60 := (I.2.2.2.1 k hk).2.1
  unfold fX2_countPlaces
  rw [sp_stepCount H I hk]
  simp only [Option.bind_some]
  have e := sp_cnt_loop H I hk (ah a k + 1) 0 FU 0 (by omega) (FU_gt (by omega))
  rw [Z0, Z0'] at e
  exact e
theorem sp_best_loop (H : RepS σ a) (I : InvA a) {k : Nat} (hk : k < an a) : ∀ (m j fu : Nat) (x y z : Int), j + m = ah a k + 1 → -1 ≤ x → x ≤ 1000 → 0 ≤ y → y ≤ 1000 → 0 ≤ z → z ≤ 1000 → m < fu →
    fX2_best_17 σ (iI k) (iI (ah a k)) fu (iI x) (iI y) (iI z) (iI j) = some (iI (bstA a k m j x y z)) := by
  have h60 := (I.2.2.2.1 k hk).2.1
  have hg := I.2.2.1
  intro m
  induction m with
  | zero =>
    intro j fu x y z h1 h2 h3 h4 h5 h6 h7 h8
    obtain ⟨f, rfl⟩ : ∃ f, fu = f + 1 := ⟨fu - 1, by omega⟩
    rw [fX2_best_17, if_pos (ylt (by omega) (by omega) (by omega))]; rfl
  | succ m ih =>
    intro j fu x y z h1 h2 h3 h4 h5 h6 h7 h8
    obtain ⟨f, rfl⟩ : ∃ f, fu = f + 1 := ⟨fu - 1, by omega⟩
    have hj : j ≤ ah a k := by omega
    have hs := shp_rng a k j
    have hb := bop_rng I hk j
    rw [fX2_best_17, if_neg (nlt (by omega) (by omega) (by omega)), sp_shape H I hk hj]
    simp only [Option.bind_some]
    rw [bstA]
    unfold fX2_best_85
    rw [sp_gapWidth H, iI_s]
    simp only [Option.bind_some]
    by_cases q : shpA a k j = 0
    · have hp := shp_pl q
      have hf := free_rng I hk (pl_le hp)
      have i1 := ih (j + 1) f x y z (by omega) h2 h3 h4 h5 h6 h7 (by omega)
      have i2 := ih (j + 1) f j (bopA a k j) (freeA a k j) (by omega) (by omega) (by omega) (by omega) (by omega) (by omega) (by omega) (by omega)
      rw [if_pos (by rw [q]; rfl), sp_bendOfPlace H I hk hj, cIf_pos hp, sp_dto H I hk (pl_le hp)]
      simp only [Option.bind_some]
      rw [i1, i2]
      simp only [if_pos]
      have hc : (if iI (freeA a k j) < iI (ag a : Int) then some (iI (bstA a k m (j + 1) x y z)) else some (iI (bstA a k m (j + 1) j (bopA a k j) (freeA a k j)))) = some (iI (cIf (whlA a k j = 0) (bstA a k m (j + 1) j (bopA a k j) (freeA a k j)) (bstA a k m (j + 1) x y z))) := by
        unfold whlA
        rw [if_pos q]
        by_cases r : (ag a : Int) ≤ freeA a k j
        · rw [if_neg (nlt (by omega) (by omega) (by omega)), if_pos r, cIf_pos rfl]
        · rw [if_pos (ylt (by omega) (by omega) (by omega)), if_neg r, cIf_neg (by omega)]
      have hd : ∀ P : Prop, P → some (iI (cIf (whlA a k j = 0) (bstA a k m (j + 1) j (bopA a k j) (freeA a k j)) (bstA a k m (j + 1) x y z))) = some (iI (cIf (whlA a k j = 0 ∧ P) (bstA a k m (j + 1) j (bopA a k j) (freeA a k j)) (bstA a k m (j + 1) x y z))) := by
        intro P hP
        rw [show (whlA a k j = 0 ∧ P) = (whlA a k j = 0) from propext ⟨fun t => t.1, fun t => ⟨t, hP⟩⟩]
      rw [hc]
      by_cases c1 : x = -1
      · rw [if_pos (by rw [c1]; rfl)]; exact hd _ (Or.inl c1)
      · rw [if_neg (by rw [Lm1]; exact neq (by omega) (by omega) c1)]
        by_cases c2 : bopA a k j < y
        · rw [if_pos (ylt (by omega) (by omega) c2)]; exact hd _ (Or.inr (Or.inl c2))
        · rw [if_neg (nlt (by omega) (by omega) (by omega))]
          by_cases c3 : bopA a k j = y
          · rw [if_pos (by rw [c3])]
            by_cases c4 : z < freeA a k j
            · rw [if_neg (nle (by omega) (by omega) c4)]; exact hd _ (Or.inr (Or.inr ⟨c3, c4⟩))
            · rw [if_pos (yle (by omega) (by omega) (by omega)), if_neg (show ¬ (false = true) from by decide), cIf_neg (fun t => t.2.elim c1 (fun t => t.elim c2 (fun t => c4 t.2)))]
          · rw [if_neg (neq (by omega) (by omega) c3), if_neg (show ¬ (false = true) from by decide), cIf_neg (fun t => t.2.elim c1 (fun t => t.elim c2 (fun t => c3 t.1)))]
    · rw [if_neg (by rw [L0]; exact neq (by omega) (by omega) q), cIf_neg (fun t => q (whl_shp t.1).1)]
      exact ih (j + 1) f x y z (by omega) h2 h3 h4 h5 h6 h7 (by omega)
theorem sp_best (H : RepS σ a) (I : InvA a) {k : Nat} (hk : k < an a) : fX2_best σ (iI k) = some (iI (bestA a k)) := by
  have h60 := (I.2.2.2.1 k hk).2.1
  unfold fX2_best
  rw [sp_stepCount H I hk]
  simp only [Option.bind_some]
  have e := sp_best_loop H I hk (ah a k + 1) 0 FU (-1) 0 0 (by omega) (by omega) (by omega) (by omega) (by omega) (by omega) (by omega) (FU_gt (by omega))
  rw [Z0, Z0', Zm1] at e
  exact e
/-! the model's side -/
end S2
