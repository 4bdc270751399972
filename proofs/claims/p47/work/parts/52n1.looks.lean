/-! lengths, ends of labels, lines round lines, points within, places: both look alike -/
noncomputable def rdA (a : Ab) (k : Nat) : Nat → Nat → Int → Int
  | 0, _, x => x
  | m + 1, j, x => rdA a k m (j + 1) (cIf (insA a j (ap a k 0) ∧ (x = -1 ∨ insA a x.toNat (ap a j 0))) j x)
noncomputable def rndA (a : Ab) (k : Nat) : Int := rdA a k (an a) 0 (-1)
noncomputable def iwA (a : Ab) (k p : Nat) : Int := cIf (insA a k p) 1 0
def lefA (a : Ab) (k p : Nat) : Prop := ap a k (p + szA a k - 1) % 24 < ap a k p % 24
def lsA (a : Ab) (k : Nat) : Nat → Nat → UInt64 → UInt64
  | 0, _, x => x
  | m + 1, j, x => lsA a k m (j + 1) (FP.dadd x (if drA a k j % 2 = 1 then (0x3ff6a09e667f3bcd : UInt64) else (0x3ff0000000000000 : UInt64)))
theorem rd_rng (a : Ab) (k : Nat) : ∀ (m j : Nat) (x : Int), j + m = an a → -1 ≤ x → x < an a → -1 ≤ rdA a k m j x ∧ rdA a k m j x < an a := by
  intro m
  induction m with
  | zero => intro j x _ h1 h2; exact ⟨h1, h2⟩
  | succ m ih =>
    intro j x h0 h1 h2
    rw [rdA]
    by_cases q : insA a j (ap a k 0) ∧ (x = -1 ∨ insA a x.toNat (ap a j 0))
    · rw [cIf_pos q]; exact ih (j + 1) j (by omega) (by omega) (by omega)
    · rw [cIf_neg q]; exact ih (j + 1) x (by omega) h1 h2
theorem rnd_rng (a : Ab) (k : Nat) : -1 ≤ rndA a k ∧ rndA a k < an a := rd_rng a k (an a) 0 (-1) (by omega) (by omega) (by omega)
section LK
variable {σ : Sh} {a : Ab}
theorem dr_dir (H : RepS σ a) (I : InvA a) {k : Nat} (hk : k < an a) {j : Nat} (hj : j < ah a k) : fX4_directionAt σ (iI k) (iI j) = some (iI (drA a k j)) := sp_directionAt H I hk hj
theorem sl_sum (a : Ab) (k : Nat) : ∀ (m j : Nat), 0 ≤ smI (fun i => drA a k i % 2) m j ∧ smI (fun i => drA a k i % 2) m j ≤ m := by
  intro m
  induction m with
  | zero => intro i; exact ⟨Int.le_refl _, Int.le_refl _⟩
  | succ m ih =>
    intro i
    have h1 := ih (i + 1)
    rw [smI]
    omega
theorem sp_kinds_loop (H : RepS σ a) (I : InvA a) {k : Nat} (hk : k < an a) : ∀ (m j fu : Nat) (acc : Int), j + m = ah a k → m < fu → 0 ≤ acc → acc ≤ j →
    fX6_lengthByKinds_19 σ (iI k) (iI (ah a k)) fu (iI acc) (iI j) = some (.ok (FP.dadd (FP.i2d (iI ((ah a k : Int) - (acc + smI (fun i => drA a k i % 2) m j)))) (FP.dmul (FP.i2d (iI (acc + smI (fun i => drA a k i % 2) m j))) (0x3ff6a09e667f3bcd : UInt64)))) := by
  have h60 := (I.2.2.2.1 k hk).2.1
  intro m
  induction m with
  | zero =>
    intro j fu acc h1 h2 h3 h4
    obtain ⟨f, rfl⟩ : ∃ f, fu = f + 1 := ⟨fu - 1, by omega⟩
    have nn := nn_kinds (s := acc) (t := (ah a k : Int) - acc) (by omega) (by omega)
    rw [fX6_lengthByKinds_19, if_pos (yle (by omega) (by omega) (by omega)), show fX6_slantingLength = some (0x3ff6a09e667f3bcd : UInt64) from rfl, Option.bind_some, iI_sub, if_pos nn.1, if_pos nn.2, smI, Int.add_zero]
  | succ m ih =>
    intro j fu acc h1 h2 h3 h4
    obtain ⟨f, rfl⟩ : ∃ f, fu = f + 1 := ⟨fu - 1, by omega⟩
    have g := dr_rng I hk (j := j) (by omega)
    obtain ⟨b, hb, ib⟩ := sp_isSlanting g
    rw [fX6_lengthByKinds_19, if_neg (nle (by omega) (by omega) (by omega)), dr_dir H I hk (by omega), Option.bind_some, hb, Option.bind_some, iI_s, iI_s', smI]
    by_cases q : drA a k j % 2 = 1
    · rw [if_pos (ib.mpr q), ih (j + 1) f (acc + 1) (by omega) (by omega) (by omega) (by omega), q, Int.add_assoc]
    · rw [if_neg (fun w => q (ib.mp w)), ih (j + 1) f acc (by omega) (by omega) (by omega) (by omega), show drA a k j % 2 = 0 from by omega, Int.zero_add]
theorem sp_lsteps_loop (H : RepS σ a) (I : InvA a) {k : Nat} (hk : k < an a) : ∀ (m j fu : Nat) (x : UInt64), j + m = ah a k → m < fu → nN x →
    fX6_lengthBySteps_19 σ (iI k) (iI (ah a k)) fu x (iI j) = some (.ok (lsA a k m j x)) := by
  have h60 := (I.2.2.2.1 k hk).2.1
  intro m
  induction m with
  | zero =>
    intro j fu x h1 h2 h3
    obtain ⟨f, rfl⟩ : ∃ f, fu = f + 1 := ⟨fu - 1, by omega⟩
    rw [fX6_lengthBySteps_19, if_pos (yle (by omega) (by omega) (by omega)), lsA]
  | succ m ih =>
    intro j fu x h1 h2 h3
    obtain ⟨f, rfl⟩ : ∃ f, fu = f + 1 := ⟨fu - 1, by omega⟩
    have g := dr_rng I hk (j := j) (by omega)
    obtain ⟨b, hb, ib⟩ := sp_isSlanting g
    have n1 := nn_add h3 isF_r2
    have n2 := nn_add h3 isF_one
    rw [fX6_lengthBySteps_19, if_neg (nle (by omega) (by omega) (by omega)), dr_dir H I hk (by omega), Option.bind_some, hb, Option.bind_some, iI_s, lsA]
    by_cases q : drA a k j % 2 = 1
    · rw [if_pos (ib.mpr q), show fX6_slantingLength = some (0x3ff6a09e667f3bcd : UInt64) from rfl, Option.bind_some, if_pos n1, if_pos q, ih (j + 1) f _ (by omega) (by omega) n1]
    · rw [if_neg (fun w => q (ib.mp w)), if_pos n2, if_neg q, ih (j + 1) f _ (by omega) (by omega) n2]
theorem sp_goesLeft (H : RepS σ a) (I : InvA a) {k : Nat} (hk : k < an a) {p : Nat} (hp : p + szA a k ≤ ah a k + 1) : ∃ b, fX2_goesLeft σ (iI k) (iI p) = some b ∧ (b = true ↔ lefA a k p) := by
  obtain ⟨-, h60, -, h384, -⟩ := I.2.2.2.1 k hk
  have hs := sz_rng a k
  have p1 := h384 p (by omega)
  have p2 := h384 (p + szA a k - 1) (by omega)
  have e : (p : Int) + szA a k - 1 = ((p + szA a k - 1 : Nat) : Int) := by omega
  have e2 : ((ap a k p : Int) % 24) = ((ap a k p % 24 : Nat) : Int) := by omega
  have e3 : ((ap a k (p + szA a k - 1) : Int) % 24) = ((ap a k (p + szA a k - 1) % 24 : Nat) : Int) := by omega
  unfold fX2_goesLeft lefA
  rw [sp_pointAt H I hk (j := p) (by omega), Option.bind_some, sp_lastNumber H I hk, Option.bind_some, e, sp_pointAt H I hk (j := p + szA a k - 1) (by omega), Option.bind_some, sp_columnOf (by omega), Option.bind_some, sp_columnOf (by omega), Option.bind_some, e2, e3]
  by_cases q : ap a k (p + szA a k - 1) % 24 < ap a k p % 24
  · rw [if_neg (nle (by omega) (by omega) (by omega))]; exact ⟨true, rfl, (fun _ => q), (fun _ => rfl)⟩
  · rw [if_pos (yle (by omega) (by omega) (by omega))]; exact ⟨false, rfl, (fun h => by cases h), (fun h => absurd h q)⟩
theorem sp_round_loop (H : RepS σ a) (I : InvA a) {k : Nat} (hk : k < an a) (y : Int32) : ∀ (m j fu : Nat) (x : Int), j + m = an a → m < fu → -1 ≤ x → x < an a →
    fX5_innermostRound_12 σ y (iI (ap a k 0)) fu (iI x) (iI j) = some (iI (rdA a k m j x)) := by
  have h8 := I.1
  have p0 := (I.2.2.2.1 k hk).2.2.2.1 0 (Nat.zero_le _)
  intro m
  induction m with
  | zero =>
    intro j fu x h1 h2 h3 h4
    obtain ⟨f, rfl⟩ : ∃ f, fu = f + 1 := ⟨fu - 1, by omega⟩
    rw [fX5_innermostRound_12, sp_lineCount H, Option.bind_some, if_pos (yle (by omega) (by omega) (by omega)), rdA]
  | succ m ih =>
    intro j fu x h1 h2 h3 h4
    obtain ⟨f, rfl⟩ : ∃ f, fu = f + 1 := ⟨fu - 1, by omega⟩
    have hj : j < an a := by omega
    obtain ⟨b, hb, ib⟩ := sp_goesRound H I hj p0
    rw [fX5_innermostRound_12, sp_lineCount H, Option.bind_some, if_neg (nle (by omega) (by omega) (by omega)), hb, Option.bind_some, iI_s, rdA]
    by_cases q : insA a j (ap a k 0)
    · rw [if_pos (ib.mpr q)]
      by_cases q1 : x = -1
      · rw [if_pos (by rw [q1]; rfl), cIf_pos ⟨q, Or.inl q1⟩]
        exact ih (j + 1) f j (by omega) (by omega) (by omega) (by omega)
      · have ep := sp_pointAt H I hj (j := 0) (Nat.zero_le _)
        rw [Z0] at ep
        have q0 := (I.2.2.2.1 j hj).2.2.2.1 0 (Nat.zero_le _)
        obtain ⟨c, hc, ic⟩ := sp_goesRound H I (k := x.toNat) (by omega) q0
        rw [show ((x.toNat : Nat) : Int) = x by omega] at hc
        rw [if_neg (by rw [Lm1]; exact neq (by omega) (by omega) q1), ep, Option.bind_some, hc, Option.bind_some]
        by_cases q2 : insA a x.toNat (ap a j 0)
        · rw [if_pos (ic.mpr q2), cIf_pos ⟨q, Or.inr q2⟩]
          exact ih (j + 1) f j (by omega) (by omega) (by omega) (by omega)
        · rw [if_neg (fun w => q2 (ic.mp w)), cIf_neg (fun w => w.2.elim q1 q2)]
          exact ih (j + 1) f x (by omega) (by omega) h3 h4
    · rw [if_neg (fun w => q (ib.mp w)), cIf_neg (fun w => q w.1)]
      exact ih (j + 1) f x (by omega) (by omega) h3 h4
theorem sp_round (H : RepS σ a) (I : InvA a) {k : Nat} (hk : k < an a) : fX5_innermostRound σ (iI k) = some (iI (rndA a k)) := by
  have h8 := I.1
  have ep := sp_pointAt H I hk (j := 0) (Nat.zero_le _)
  have e := sp_round_loop H I hk (iI k) (an a) 0 FU (-1) (by omega) (FU_gt (by omega)) (by omega) (by omega)
  rw [Z0] at ep
  rw [Z0, Zm1] at e
  unfold fX5_innermostRound
  rw [ep, Option.bind_some]
  exact e
theorem sp_within_loop (H : RepS σ a) (I : InvA a) {k : Nat} (hk : k < an a) : ∀ (m p fu : Nat) (acc : Int), p + m = 384 → m < fu →
    fX6_pointsWithin_9 σ (iI k) fu (iI acc) (iI p) = some (.ok (iI (acc + smI (iwA a k) m p))) := by
  intro m
  induction m with
  | zero =>
    intro p fu acc h1 h2
    obtain ⟨f, rfl⟩ : ∃ f, fu = f + 1 := ⟨fu - 1, by omega⟩
    rw [fX6_pointsWithin_9, L384, if_pos (yle (by omega) (by omega) (by omega)), smI, Int.add_zero]
  | succ m ih =>
    intro p fu acc h1 h2
    obtain ⟨f, rfl⟩ : ∃ f, fu = f + 1 := ⟨fu - 1, by omega⟩
    obtain ⟨b, hb, ib⟩ := sp_goesRound H I hk (p := p) (by omega)
    rw [fX6_pointsWithin_9, L384, if_neg (nle (by omega) (by omega) (by omega)), hb, Option.bind_some, iI_s, iI_s', smI]
    by_cases q : insA a k p
    · rw [if_pos (ib.mpr q), ih (p + 1) f (acc + 1) (by omega) (by omega), show iwA a k p = 1 from cIf_pos q, Int.add_assoc]
    · rw [if_neg (fun w => q (ib.mp w)), ih (p + 1) f acc (by omega) (by omega), show iwA a k p = 0 from cIf_neg q, Int.zero_add]
end LK
