/-! THE LINES AS NUMBERS: n lines, gap, levels, steps, labels, points; and how the sheet and the model's row hold them -/
abbrev Ab : Type := Nat × Nat × (Nat → Nat) × (Nat → Nat) × (Nat → Int) × (Nat → Nat → Nat)
abbrev an (a : Ab) : Nat := a.1
abbrev ag (a : Ab) : Nat := a.2.1
abbrev al (a : Ab) : Nat → Nat := a.2.2.1
abbrev ah (a : Ab) : Nat → Nat := a.2.2.2.1
abbrev ab (a : Ab) : Nat → Int := a.2.2.2.2.1
abbrev ap (a : Ab) : Nat → Nat → Nat := a.2.2.2.2.2
def acI (d : Int) : Int := if d = 0 ∨ d = 1 ∨ d = 7 then 1 else if d = 2 ∨ d = 6 then 0 else -1
def dnI (d : Int) : Int := if d = 1 ∨ d = 2 ∨ d = 3 then 1 else if d = 0 ∨ d = 4 then 0 else -1
/-- the direction of a step, by the difference of its points -/
def dirD (z : Int) : Int := if z = -25 then 5 else if z = -24 then 6 else if z = -1 then 4 else if z = 1 then 0 else if z = 23 then 3 else if z = 24 then 2 else if z = 25 then 1 else 7
/-- a step goes from p to q -/
def stp (p q : Nat) : Prop := ∃ d : Int, 0 ≤ d ∧ d ≤ 7 ∧ (q : Int) = p + 24 * dnI d + acI d ∧ 0 ≤ (p : Int) % 24 + acI d ∧ (p : Int) % 24 + acI d < 24 ∧ 0 ≤ (p : Int) / 24 + dnI d ∧ (p : Int) / 24 + dnI d < 16
def szA (a : Ab) (k : Nat) : Nat := if al a k < 10 then 2 else 3
/-- what a map with lines always is -/
def InvA (a : Ab) : Prop :=
  an a ≤ 8 ∧ 1 ≤ ag a ∧ ag a ≤ 6 ∧
  (∀ k, k < an a → al a k ≤ 99 ∧ ah a k ≤ 60 ∧ (ab a k = -1 ∨ (0 ≤ ab a k ∧ ab a k + szA a k ≤ ah a k + 1)) ∧
    (∀ j, j ≤ ah a k → ap a k j < 384) ∧ (∀ j, j < ah a k → stp (ap a k j) (ap a k (j + 1)))) ∧
  (∀ k i j, k < an a → i < j → j ≤ ah a k → ap a k i = ap a k j → i = 0 ∧ j = ah a k ∧ 4 ≤ ah a k) ∧
  (∀ k k' i j, k < an a → k' < an a → i ≤ ah a k → j ≤ ah a k' → ap a k i = ap a k' j → k = k')
def RepS (σ : Sh) (a : Ab) : Prop :=
  S_n σ = iI (an a : Int) ∧ S_gap σ = iI (ag a : Int) ∧
  ∀ k, k < an a → S_lv σ k = iI (al a k : Int) ∧ S_sc σ k = iI (ah a k : Int) ∧ S_lb σ k = iI (ab a k) ∧ ∀ j, j ≤ ah a k → S_pt σ (61 * k + j) = iI (ap a k j : Int)
def RepM (f : Nat → Int32) (a : Ab) : Prop :=
  f 0 = iI (an a : Int) ∧ f 1 = iI (ag a : Int) ∧
  ∀ k, k < an a → f (2 + 64 * k) = iI (al a k : Int) ∧ f (2 + 64 * k + 1) = iI (ap a k 0 : Int) ∧ f (2 + 64 * k + 2) = iI (ah a k : Int) ∧ f (2 + 64 * k + 3) = iI (ab a k) ∧ ∀ j, j < ah a k → f (2 + 64 * k + 4 + j) = iI (dirD ((ap a k (j + 1) : Int) - ap a k j))
theorem stp_dir {p q : Nat} (h : stp p q) : 0 ≤ dirD ((q : Int) - p) ∧ dirD ((q : Int) - p) ≤ 7 ∧ (q : Int) = p + 24 * dnI (dirD ((q : Int) - p)) + acI (dirD ((q : Int) - p)) ∧ 0 ≤ (p : Int) % 24 + acI (dirD ((q : Int) - p)) ∧ (p : Int) % 24 + acI (dirD ((q : Int) - p)) < 24 ∧ 0 ≤ (p : Int) / 24 + dnI (dirD ((q : Int) - p)) ∧ (p : Int) / 24 + dnI (dirD ((q : Int) - p)) < 16 := by
  obtain ⟨d, h0, h7, hq, h1, h2, h3, h4⟩ := h
  have hd : dirD ((q : Int) - p) = d := by
    have : d = 0 ∨ d = 1 ∨ d = 2 ∨ d = 3 ∨ d = 4 ∨ d = 5 ∨ d = 6 ∨ d = 7 := by omega
    rcases this with rfl | rfl | rfl | rfl | rfl | rfl | rfl | rfl <;> rw [hq] <;> simp [dirD, dnI, acI] <;> omega
  rw [hd]
  exact ⟨h0, h7, hq, h1, h2, h3, h4⟩
theorem L0 : (0 : Int32) = iI 0 := rfl
theorem L1 : (1 : Int32) = iI 1 := rfl
theorem L2 : (2 : Int32) = iI 2 := rfl
theorem L3 : (3 : Int32) = iI 3 := rfl
theorem L4 : (4 : Int32) = iI 4 := rfl
theorem L5 : (5 : Int32) = iI 5 := rfl
theorem L6 : (6 : Int32) = iI 6 := rfl
theorem L7 : (7 : Int32) = iI 7 := rfl
theorem L8 : (8 : Int32) = iI 8 := rfl
theorem L10 : (10 : Int32) = iI 10 := rfl
theorem L23 : (23 : Int32) = iI 23 := rfl
theorem L24 : (24 : Int32) = iI 24 := rfl
theorem L25 : (25 : Int32) = iI 25 := rfl
theorem L48 : (48 : Int32) = iI 48 := rfl
theorem L60 : (60 : Int32) = iI 60 := rfl
theorem L61 : (61 : Int32) = iI 61 := rfl
theorem L64 : (64 : Int32) = iI 64 := rfl
theorem L99 : (99 : Int32) = iI 99 := rfl
theorem L384 : (384 : Int32) = iI 384 := rfl
theorem L383 : (383 : Int32) = iI 383 := rfl
theorem L16 : (16 : Int32) = iI 16 := rfl
theorem Lm1 : (-1 : Int32) = iI (-1) := rfl
theorem Lm24 : (-24 : Int32) = iI (-24) := rfl
theorem Lm25 : (-25 : Int32) = iI (-25) := rfl
noncomputable def cIf {α : Type} (P : Prop) (x y : α) : α := @ite α P (Classical.propDecidable P) x y
theorem cIf_pos {α : Type} {P : Prop} {x y : α} (h : P) : cIf P x y = x := if_pos h
theorem cIf_neg {α : Type} {P : Prop} {x y : α} (h : ¬ P) : cIf P x y = y := if_neg h
theorem iI_s (j : Nat) : iI (j : Int) + 1 = iI ((j + 1 : Nat) : Int) := by rw [L1, iI_add]; rfl
theorem iI_s' (j : Int) : iI j + 1 = iI (j + 1) := by rw [L1, iI_add]
def onL (a : Ab) (k : Nat) (p : Int) : Prop := ∃ j, j ≤ ah a k ∧ (ap a k j : Int) = p
def ringA (a : Ab) (k : Nat) : Prop := 4 ≤ ah a k ∧ ap a k (ah a k) = ap a k 0
def joinA (a : Ab) (k : Nat) (p q : Int) : Prop := ∃ j, j < ah a k ∧ (((ap a k j : Int) = p ∧ (ap a k (j + 1) : Int) = q) ∨ ((ap a k j : Int) = q ∧ (ap a k (j + 1) : Int) = p))
def besI (p d : Int) : Int := if 0 ≤ p % 24 + acI d ∧ p % 24 + acI d < 24 ∧ 0 ≤ p / 24 + dnI d ∧ p / 24 + dnI d < 16 then p + 24 * dnI d + acI d else -1
def crossA (a : Ab) (p d : Int) : Prop := d % 2 = 1 ∧ ∃ k, k < an a ∧ joinA a k (p + acI d) (p + 24 * dnI d)
noncomputable def whyA (a : Ab) (k : Nat) (d : Int) : Int :=
  cIf (ringA a k) 1 (cIf (ah a k = 60) 2 (cIf (besI (ap a k (ah a k)) d = -1) 3
    (cIf (¬ (3 ≤ ah a k ∧ besI (ap a k (ah a k)) d = ap a k 0) ∧ ∃ k', k' < an a ∧ onL a k' (besI (ap a k (ah a k)) d)) 4 (cIf (crossA a (ap a k (ah a k)) d) 5 0))))
def bndI (x y : Int) : Int := min (y - x).natAbs (8 - ((y - x).natAbs : Int))
section SP
variable {σ : Sh} {a : Ab}
theorem sp_stepCount (H : RepS σ a) (I : InvA a) {k : Nat} (hk : k < an a) : fX4_stepCount σ (iI k) = some (iI (ah a k)) := by
  have h8 := I.1
  have hn := H.1
  have h2 := (H.2.2 k hk).2.1
  unfold fX4_stepCount
  simp (disch := omega) only [hn, L0, iI_lt, iI_le, inR_iff, iI_tn, Int.toNat_natCast, h2]
  rw [if_neg (by omega), if_neg (by omega), if_pos (by omega)]
theorem sp_pointAt (H : RepS σ a) (I : InvA a) {k : Nat} (hk : k < an a) {j : Nat} (hj : j ≤ ah a k) : fX4_pointAt σ (iI k) (iI j) = some (iI (ap a k j)) := by
  have h8 := I.1
  have hn := H.1
  obtain ⟨-, h2, -, h4⟩ := H.2.2 k hk
  have h60 := (I.2.2.2.1 k hk).2.1
  have h5 := h4 j hj
  have e1 : ((k : Int) * 61 + j).toNat = 61 * k + j := by omega
  unfold fX4_pointAt
  simp (disch := omega) only [hn, L0, L61, Lm1, iI_lt, iI_le, iI_mul, iI_add, inR_iff, iI_tn, Int.toNat_natCast, h2, e1, h5]
  rw [if_neg (by omega), if_neg (by omega), if_neg (by omega), if_pos (by omega), if_pos (by omega), if_pos (by omega)]
theorem sp_pointAt_out (H : RepS σ a) (I : InvA a) {k : Nat} (hk : k < an a) {z : Int} (hz : (-100 ≤ z ∧ z < 0) ∨ (ah a k < z ∧ z ≤ 1000)) : fX4_pointAt σ (iI k) (iI z) = some (iI (-1)) := by
  have h8 := I.1
  have hn := H.1
  obtain ⟨-, h2, -, h4⟩ := H.2.2 k hk
  have h60 := (I.2.2.2.1 k hk).2.1
  unfold fX4_pointAt
  simp (disch := omega) only [hn, L0, L61, Lm1, iI_lt, iI_le, iI_mul, iI_add, inR_iff, iI_tn, Int.toNat_natCast, h2]
  rw [if_neg (by omega), if_neg (by omega)]
  by_cases h : z < 0
  · rw [if_pos h]
  · rw [if_neg h, if_pos (by omega), if_neg (by omega)]
theorem sp_directionAt (H : RepS σ a) (I : InvA a) {k : Nat} (hk : k < an a) {j : Nat} (hj : j < ah a k) : fX4_directionAt σ (iI k) (iI j) = some (iI (dirD ((ap a k (j + 1) : Int) - ap a k j))) := by
  have h8 := I.1
  have hn := H.1
  obtain ⟨-, h2, -, h4⟩ := H.2.2 k hk
  obtain ⟨-, h60, -, h384, -⟩ := I.2.2.2.1 k hk
  have h5 := h4 j (by omega)
  have h6 := h4 (j + 1) (by omega)
  have h7 := h384 j (by omega)
  have h9 := h384 (j + 1) (by omega)
  have e1 : ((k : Int) * 61 + j).toNat = 61 * k + j := by omega
  have e2 : ((k : Int) * 61 + j + 1).toNat = 61 * k + (j + 1) := by omega
  unfold fX4_directionAt
  simp (disch := omega) only [hn, L0, L1, L2, L3, L4, L5, L6, L7, L23, L24, L25, L61, Lm1, Lm24, Lm25, iI_lt, iI_le, iI_mul, iI_add, iI_sub, iI_eq, inR_iff, iI_tn, Int.toNat_natCast, h2, e1, e2, h5, h6]
  rw [if_neg (by omega), if_neg (by omega), if_neg (by omega), if_pos (by omega), if_pos (by omega), if_pos (by omega), if_pos (by omega)]
  unfold dirD
  repeat' split
  all_goals first | rfl | omega
theorem sp_directionAt_out (H : RepS σ a) (I : InvA a) {k : Nat} (hk : k < an a) {z : Int} (hz : (-100 ≤ z ∧ z < 0) ∨ (ah a k ≤ z ∧ z ≤ 1000)) : fX4_directionAt σ (iI k) (iI z) = some (iI (-1)) := by
  have h8 := I.1
  have hn := H.1
  obtain ⟨-, h2, -, h4⟩ := H.2.2 k hk
  have h60 := (I.2.2.2.1 k hk).2.1
  unfold fX4_directionAt
  simp (disch := omega) only [hn, L0, Lm1, iI_lt, iI_le, inR_iff, iI_tn, Int.toNat_natCast, h2]
  rw [if_neg (by omega), if_neg (by omega)]
  by_cases h : z < 0
  · rw [if_pos h]
  · rw [if_neg h, if_pos (by omega), if_neg (by omega)]
theorem sp_isOn_loop (H : RepS σ a) (I : InvA a) {k : Nat} (hk : k < an a) {p : Int} (hp : -1 ≤ p ∧ p < 10000) : ∀ (d j fu : Nat), j + d = ah a k + 1 → d < fu →
    ∃ b, fX4_isOn_9 σ (iI k) (iI p) (iI (ah a k)) fu (iI j) = some b ∧ (b = true ↔ ∃ i, j ≤ i ∧ i ≤ ah a k ∧ (ap a k i : Int) = p) := by
  obtain ⟨-, h60, -, h384, -⟩ := I.2.2.2.1 k hk
  intro d
  induction d with
  | zero =>
    intro j fu h1 h2
    obtain ⟨f, rfl⟩ : ∃ f, fu = f + 1 := ⟨fu - 1, by omega⟩
    refine ⟨false, ?_, ?_⟩
    · rw [fX4_isOn_9, if_pos ((iI_lt (by omega) (by omega)).mpr (by omega))]
    · exact ⟨fun h => by cases h, fun ⟨i, h3, h4, _⟩ => by omega⟩
  | succ d ih =>
    intro j fu h1 h2
    obtain ⟨f, rfl⟩ : ∃ f, fu = f + 1 := ⟨fu - 1, by omega⟩
    have h3 := h384 j (by omega)
    rw [fX4_isOn_9, if_neg (fun h => by have := (iI_lt (by omega) (by omega)).mp h; omega), sp_pointAt H I hk (by omega)]
    simp only [Option.bind_some]
    by_cases hq : (ap a k j : Int) = p
    · exact ⟨true, by rw [if_pos (by rw [hq])], fun _ => ⟨j, by omega, by omega, hq⟩, fun _ => rfl⟩
    · rw [if_neg (fun h => hq ((iI_eq (by omega) (by omega)).mp h)), iI_s]
      obtain ⟨b, hb, hi⟩ := ih (j + 1) f (by omega) (by omega)
      refine ⟨b, hb, hi.trans ⟨fun ⟨i, h4, h5, h6⟩ => ⟨i, by omega, h5, h6⟩, fun ⟨i, h4, h5, h6⟩ => ⟨i, ?_, h5, h6⟩⟩⟩
      rcases Nat.lt_or_ge j i with h | h
      · exact h
      · exact absurd (by rw [show j = i by omega]; exact h6) hq
theorem FU_gt {n : Nat} (h : n < 10000) : n < FU := h
theorem sp_isOn (H : RepS σ a) (I : InvA a) {k : Nat} (hk : k < an a) {p : Int} (hp : -1 ≤ p ∧ p < 10000) : ∃ b, fX4_isOn σ (iI k) (iI p) = some b ∧ (b = true ↔ onL a k p) := by
  have h60 := (I.2.2.2.1 k hk).2.1
  unfold fX4_isOn
  rw [sp_stepCount H I hk]
  simp only [Option.bind_some]
  obtain ⟨b, hb, hi⟩ := sp_isOn_loop H I hk hp (ah a k + 1) 0 FU (by omega) (FU_gt (by omega))
  exact ⟨b, hb, hi.trans ⟨fun ⟨i, _, h5, h6⟩ => ⟨i, h5, h6⟩, fun ⟨i, h5, h6⟩ => ⟨i, Nat.zero_le _, h5, h6⟩⟩⟩
theorem sp_lineOn_loop (H : RepS σ a) (I : InvA a) {p : Int} (hp : -1 ≤ p ∧ p < 10000) : ∀ (d k fu : Nat), k + d = an a → d < fu → (∀ i, i < k → ¬ onL a i p) →
    ((∀ i, i < an a → ¬ onL a i p) → fX4_lineOn_2 σ (iI p) fu (iI k) = some (iI (-1))) ∧ (∀ i, i < an a → onL a i p → fX4_lineOn_2 σ (iI p) fu (iI k) = some (iI i)) := by
  have h8 := I.1
  intro d
  induction d with
  | zero =>
    intro k fu h1 h2 h3
    obtain ⟨f, rfl⟩ : ∃ f, fu = f + 1 := ⟨fu - 1, by omega⟩
    rw [fX4_lineOn_2, H.1, if_pos ((iI_le (by omega) (by omega)).mpr (by omega))]
    exact ⟨fun _ => rfl, fun i hi ho => absurd ho (h3 i (by omega))⟩
  | succ d ih =>
    intro k fu h1 h2 h3
    obtain ⟨f, rfl⟩ : ∃ f, fu = f + 1 := ⟨fu - 1, by omega⟩
    obtain ⟨b, hb, hi⟩ := sp_isOn H I (k := k) (by omega) hp
    rw [fX4_lineOn_2, H.1, if_neg (fun h => by have := (iI_le (by omega) (by omega)).mp h; omega), hb]
    simp only [Option.bind_some]
    by_cases hq : onL a k p
    · rw [if_pos (hi.mpr hq)]
      refine ⟨fun h => absurd hq (h k (by omega)), fun i hi2 ho => ?_⟩
      obtain ⟨j, hj, ej⟩ := hq
      obtain ⟨j', hj', ej'⟩ := ho
      rw [I.2.2.2.2.2 k i j j' (by omega) hi2 hj hj' (by omega)]
    · rw [if_neg (fun h => hq (hi.mp h)), iI_s]
      exact ih (k + 1) f (by omega) (by omega) (fun i h4 => by
        rcases Nat.lt_or_ge i k with h | h
        · exact h3 i h
        · rw [show i = k by omega]; exact hq)
theorem sp_lineOn_none (H : RepS σ a) (I : InvA a) {p : Int} (hp : -1 ≤ p ∧ p < 10000) (h : ∀ i, i < an a → ¬ onL a i p) : fX4_lineOn σ (iI p) = some (iI (-1)) :=
  (sp_lineOn_loop H I hp (an a) 0 FU (by omega) (FU_gt (by have := I.1; omega)) (fun i hi => by omega)).1 h
theorem sp_lineOn_some (H : RepS σ a) (I : InvA a) {p : Int} (hp : -1 ≤ p ∧ p < 10000) {i : Nat} (hi : i < an a) (h : onL a i p) : fX4_lineOn σ (iI p) = some (iI i) :=
  (sp_lineOn_loop H I hp (an a) 0 FU (by omega) (FU_gt (by have := I.1; omega)) (fun i hi => by omega)).2 i hi h
theorem sp_isRing (H : RepS σ a) (I : InvA a) {k : Nat} (hk : k < an a) : ∃ b, fX4_isRing σ (iI k) = some b ∧ (b = true ↔ ringA a k) := by
  have h8 := I.1
  have hn := H.1
  obtain ⟨-, h2, -, h4⟩ := H.2.2 k hk
  obtain ⟨-, h60, -, h384, -⟩ := I.2.2.2.1 k hk
  have h5 := h4 (ah a k) (by omega)
  have h6 := h4 0 (by omega)
  have h7 := h384 (ah a k) (by omega)
  have h9 := h384 0 (by omega)
  have e1 : ((k : Int) * 61 + (ah a k : Int)).toNat = 61 * k + ah a k := by omega
  have e2 : ((k : Int) * 61).toNat = 61 * k + 0 := by omega
  unfold fX4_isRing ringA
  simp (disch := omega) only [hn, L0, L4, L61, iI_lt, iI_le, iI_mul, iI_add, iI_eq, inR_iff, iI_tn, Int.toNat_natCast, h2, e1, e2, h5, h6]
  rw [if_neg (by omega), if_neg (by omega), if_pos (by omega)]
  by_cases h : (4 : Int) ≤ ah a k
  · rw [if_pos h, if_pos (by omega), if_pos (by omega)]
    by_cases q : (ap a k (ah a k) : Int) = ap a k 0
    · rw [if_pos q]; exact ⟨true, rfl, fun _ => ⟨by omega, by omega⟩, fun _ => rfl⟩
    · rw [if_neg q]; exact ⟨false, rfl, fun h => (by cases h), fun h => absurd (by omega) q⟩
  · rw [if_neg h]; exact ⟨false, rfl, fun h => (by cases h), fun h => absurd (by omega) h⟩
theorem sp_levelIn (H : RepS σ a) (I : InvA a) {k : Nat} (hk : k < an a) : fX4_levelIn σ (iI k) = some (iI (al a k)) := by
  have h8 := I.1
  have hn := H.1
  have h2 := (H.2.2 k hk).1
  unfold fX4_levelIn
  simp (disch := omega) only [hn, L0, iI_lt, iI_le, inR_iff, iI_tn, Int.toNat_natCast, h2]
  rw [if_neg (by omega), if_neg (by omega), if_pos (by omega)]
theorem sp_labelIn (H : RepS σ a) (I : InvA a) {k : Nat} (hk : k < an a) : fX4_labelIn σ (iI k) = some (iI (ab a k)) := by
  have h8 := I.1
  have hn := H.1
  have h2 := (H.2.2 k hk).2.2.1
  unfold fX4_labelIn
  simp (disch := omega) only [hn, L0, iI_lt, iI_le, inR_iff, iI_tn, Int.toNat_natCast, h2]
  rw [if_neg (by omega), if_neg (by omega), if_pos (by omega)]
theorem sp_sizeIn (H : RepS σ a) (I : InvA a) {k : Nat} (hk : k < an a) : fX4_sizeIn σ (iI k) = some (iI (szA a k)) := by
  have h8 := I.1
  have hn := H.1
  have h2 := (H.2.2 k hk).1
  have h99 := (I.2.2.2.1 k hk).1
  unfold fX4_sizeIn szA
  simp (disch := omega) only [hn, L0, L2, L3, L10, iI_lt, iI_le, inR_iff, iI_tn, Int.toNat_natCast, h2]
  rw [if_neg (by omega), if_neg (by omega), if_pos (by omega)]
  by_cases h : al a k < 10
  · rw [if_pos (by omega), if_pos h]; rfl
  · rw [if_neg (by omega), if_neg h]; rfl
theorem sp_hasLine (H : RepS σ a) (I : InvA a) {z : Int} (hz : -2147483648 ≤ z ∧ z < 2147483648) : ∃ b, fX4_hasLine σ (iI z) = some b ∧ (b = true ↔ 0 ≤ z ∧ z < an a) := by
  have h8 := I.1
  have hn := H.1
  unfold fX4_hasLine
  simp (disch := omega) only [hn, L0, iI_lt, iI_le]
  by_cases h1 : z < 0
  · rw [if_pos h1]; exact ⟨false, rfl, fun h => (by cases h), fun h => by omega⟩
  · by_cases h2 : (an a : Int) ≤ z
    · rw [if_neg h1, if_pos h2]; exact ⟨false, rfl, fun h => (by cases h), fun h => by omega⟩
    · rw [if_neg h1, if_neg h2]; exact ⟨true, rfl, fun _ => by omega, fun _ => rfl⟩
theorem sp_hasNumber (H : RepS σ a) (I : InvA a) {z w : Int} (hz : -2147483648 ≤ z ∧ z < 2147483648) (hw : -2147483648 ≤ w ∧ w < 2147483648) : ∃ b, fX4_hasNumber σ (iI z) (iI w) = some b ∧ (b = true ↔ (0 ≤ z ∧ z < an a) ∧ 0 ≤ w ∧ w ≤ ah a z.toNat) := by
  have h8 := I.1
  have hn := H.1
  unfold fX4_hasNumber
  simp (disch := omega) only [hn, L0, iI_lt, iI_le]
  by_cases h1 : z < 0
  · rw [if_pos h1]; exact ⟨false, rfl, fun h => (by cases h), fun h => by omega⟩
  · by_cases h2 : (an a : Int) ≤ z
    · rw [if_neg h1, if_pos h2]; exact ⟨false, rfl, fun h => (by cases h), fun h => by omega⟩
    · rw [if_neg h1, if_neg h2]
      obtain ⟨k, rfl⟩ : ∃ k : Nat, z = k := ⟨z.toNat, by omega⟩
      have hk : k < an a := by omega
      have h3 := (H.2.2 k hk).2.1
      have h60 := (I.2.2.2.1 k hk).2.1
      simp (disch := omega) only [inR_iff, iI_tn, Int.toNat_natCast, h3, iI_lt]
      by_cases h4 : w < 0
      · rw [if_pos h4]; exact ⟨false, rfl, fun h => (by cases h), fun h => by omega⟩
      · rw [if_neg h4, if_pos (by omega)]
        by_cases h5 : (ah a k : Int) < w
        · rw [if_pos h5]; exact ⟨false, rfl, fun h => (by cases h), fun h => by omega⟩
        · rw [if_neg h5]; exact ⟨true, rfl, fun _ => by omega, fun _ => rfl⟩
theorem sp_hasRoomAt (H : RepS σ a) (I : InvA a) {p : Int} (hp : -1 ≤ p ∧ p < 10000) : ∃ b, fX4_hasRoomAt σ (iI p) = some b ∧ (b = true ↔ an a < 8 ∧ ∀ i, i < an a → ¬ onL a i p) := by
  have h8 := I.1
  unfold fX4_hasRoomAt
  rw [H.1, L8]
  by_cases h : an a < 8
  · rw [if_neg (fun q => by have := (iI_le (by omega) (by omega)).mp q; omega)]
    by_cases q : ∃ i, i < an a ∧ onL a i p
    · obtain ⟨i, hi, ho⟩ := q
      rw [sp_lineOn_some H I hp hi ho]
      simp only [Option.bind_some]
      rw [if_neg (fun q => by rw [Lm1] at q; have := (iI_eq (by omega) (by omega)).mp q; omega)]
      exact ⟨false, rfl, fun h => (by cases h), fun h => absurd ho (h.2 i hi)⟩
    · have q2 : ∀ i, i < an a → ¬ onL a i p := fun i hi ho => q ⟨i, hi, ho⟩
      rw [sp_lineOn_none H I hp q2]
      simp only [Option.bind_some]
      rw [if_pos Lm1.symm]
      exact ⟨true, rfl, fun _ => ⟨h, q2⟩, fun _ => rfl⟩
  · rw [if_pos ((iI_le (by omega) (by omega)).mpr (by omega))]
    exact ⟨false, rfl, fun h => (by cases h), fun q => absurd q.1 h⟩
theorem sp_joins_loop (H : RepS σ a) (I : InvA a) {k : Nat} (hk : k < an a) {p q : Int} (hp : -1000 ≤ p ∧ p < 10000) (hq : -1000 ≤ q ∧ q < 10000) : ∀ (d j fu : Nat), j + d = ah a k → d < fu →
    ∃ b, fX4_joins_10 σ (iI k) (iI p) (iI q) (iI (ah a k)) fu (iI j) = some b ∧ (b = true ↔ ∃ i, j ≤ i ∧ i < ah a k ∧ (((ap a k i : Int) = p ∧ (ap a k (i + 1) : Int) = q) ∨ ((ap a k i : Int) = q ∧ (ap a k (i + 1) : Int) = p))) := by
  obtain ⟨-, h60, -, h384, -⟩ := I.2.2.2.1 k hk
  intro d
  induction d with
  | zero =>
    intro j fu h1 h2
    obtain ⟨f, rfl⟩ : ∃ f, fu = f + 1 := ⟨fu - 1, by omega⟩
    refine ⟨false, ?_, ?_⟩
    · rw [fX4_joins_10, if_pos ((iI_le (by omega) (by omega)).mpr (by omega))]
    · exact ⟨fun h => by cases h, fun ⟨i, h3, h4, _⟩ => by omega⟩
  | succ d ih =>
    intro j fu h1 h2
    obtain ⟨f, rfl⟩ : ∃ f, fu = f + 1 := ⟨fu - 1, by omega⟩
    have h3 := h384 j (by omega)
    have h4 := h384 (j + 1) (by omega)
    rw [fX4_joins_10, if_neg (fun h => by have := (iI_le (by omega) (by omega)).mp h; omega), sp_pointAt H I hk (by omega), L1, iI_add, show ((j : Int) + 1) = ((j + 1 : Nat) : Int) from rfl, sp_pointAt H I hk (by omega)]
    simp only [Option.bind_some]
    simp (disch := omega) only [iI_eq]
    obtain ⟨b, hb, hi⟩ := ih (j + 1) f (by omega) (by omega)
    by_cases hh : ((ap a k j : Int) = p ∧ (ap a k (j + 1) : Int) = q) ∨ ((ap a k j : Int) = q ∧ (ap a k (j + 1) : Int) = p)
    · refine ⟨true, ?_, fun _ => ⟨j, by omega, by omega, hh⟩, fun _ => rfl⟩
      repeat' split
      all_goals first | rfl | omega
    · refine ⟨b, ?_, hi.trans ⟨fun ⟨i, h4, h5, h6⟩ => ⟨i, by omega, h5, h6⟩, fun ⟨i, h4, h5, h6⟩ => ⟨i, ?_, h5, h6⟩⟩⟩
      · repeat' split
        all_goals first | exact hb | omega
      · rcases Nat.lt_or_ge j i with h | h
        · exact h
        · exact absurd (by rw [show j = i by omega]; exact h6) hh
theorem sp_joins (H : RepS σ a) (I : InvA a) {k : Nat} (hk : k < an a) {p q : Int} (hp : -1000 ≤ p ∧ p < 10000) (hq : -1000 ≤ q ∧ q < 10000) : ∃ b, fX4_joins σ (iI k) (iI p) (iI q) = some b ∧ (b = true ↔ joinA a k p q) := by
  have h60 := (I.2.2.2.1 k hk).2.1
  unfold fX4_joins
  rw [sp_stepCount H I hk]
  simp only [Option.bind_some]
  obtain ⟨b, hb, hi⟩ := sp_joins_loop H I hk hp hq (ah a k) 0 FU (by omega) (FU_gt (by omega))
  exact ⟨b, hb, hi.trans ⟨fun ⟨i, _, h5, h6⟩ => ⟨i, h5, h6⟩, fun ⟨i, h5, h6⟩ => ⟨i, Nat.zero_le _, h5, h6⟩⟩⟩
theorem d8 {d : Int} (h : 0 ≤ d ∧ d ≤ 7) : d = 0 ∨ d = 1 ∨ d = 2 ∨ d = 3 ∨ d = 4 ∨ d = 5 ∨ d = 6 ∨ d = 7 := by omega
theorem tac_iI {d : Int} (h : 0 ≤ d ∧ d ≤ 7) : tac (iI d) = iI (acI d) := by rcases d8 h with rfl | rfl | rfl | rfl | rfl | rfl | rfl | rfl <;> rfl
theorem tdn_iI {d : Int} (h : 0 ≤ d ∧ d ≤ 7) : tdn (iI d) = iI (dnI d) := by rcases d8 h with rfl | rfl | rfl | rfl | rfl | rfl | rfl | rfl <;> rfl
theorem ac_rng (d : Int) : -1 ≤ acI d ∧ acI d ≤ 1 := by unfold acI; split <;> [omega; (split <;> omega)]
theorem dn_rng (d : Int) : -1 ≤ dnI d ∧ dnI d ≤ 1 := by unfold dnI; split <;> [omega; (split <;> omega)]
theorem sp_isDirection {d : Int} (h : -2147483648 ≤ d ∧ d < 2147483648) : ∃ b, fX6_isDirection (iI d) = some b ∧ (b = true ↔ 0 ≤ d ∧ d ≤ 7) := by
  unfold fX6_isDirection
  simp (disch := omega) only [L0, L8, iI_lt, iI_le]
  by_cases h1 : d < 0
  · rw [if_pos h1]; exact ⟨false, rfl, fun h => (by cases h), fun h => by omega⟩
  · by_cases h2 : 8 ≤ d
    · rw [if_neg h1, if_pos h2]; exact ⟨false, rfl, fun h => (by cases h), fun h => by omega⟩
    · rw [if_neg h1, if_neg h2]; exact ⟨true, rfl, fun _ => by omega, fun _ => rfl⟩
theorem sp_isSlanting {d : Int} (h : 0 ≤ d ∧ d ≤ 7) : ∃ b, fX6_isSlanting (iI d) = some b ∧ (b = true ↔ d % 2 = 1) := by
  rcases d8 h with rfl | rfl | rfl | rfl | rfl | rfl | rfl | rfl <;> exact ⟨_, rfl, by decide⟩
theorem sp_isOnMap {p : Int} (h : -2147483648 ≤ p ∧ p < 2147483648) : ∃ b, fX6_isOnMap (iI p) = some b ∧ (b = true ↔ 0 ≤ p ∧ p ≤ 383) := by
  unfold fX6_isOnMap
  simp (disch := omega) only [L0, L384, iI_lt, iI_le]
  by_cases h1 : p < 0
  · rw [if_pos h1]; exact ⟨false, rfl, fun h => (by cases h), fun h => by omega⟩
  · by_cases h2 : 384 ≤ p
    · rw [if_neg h1, if_pos h2]; exact ⟨false, rfl, fun h => (by cases h), fun h => by omega⟩
    · rw [if_neg h1, if_neg h2]; exact ⟨true, rfl, fun _ => by omega, fun _ => rfl⟩
theorem sp_columnOf {p : Int} (h : 0 ≤ p ∧ p < 2147483648) : fX6_columnOf (iI p) = some (iI (p % 24)) := by unfold fX6_columnOf; rw [L24, iI_irm h (by omega)]
theorem sp_rowOf {p : Int} (h : 0 ≤ p ∧ p < 2147483648) : fX6_rowOf (iI p) = some (iI (p / 24)) := by unfold fX6_rowOf; rw [L24, iI_div h (by omega)]
theorem sp_pointBeside {p d : Int} (hp : 0 ≤ p ∧ p < 384) (hd : 0 ≤ d ∧ d ≤ 7) : fX6_pointBeside (iI p) (iI d) = some (iI (besI p d)) := by
  obtain ⟨b1, e1, i1⟩ := sp_isOnMap (p := p) (by omega)
  obtain ⟨b2, e2, i2⟩ := sp_isDirection (d := d) (by omega)
  have a1 := ac_rng d
  have a2 := dn_rng d
  unfold fX6_pointBeside
  rw [e1, e2]
  simp only [Option.bind_some]
  rw [if_pos (i1.mpr (by omega)), if_pos (i2.mpr (by omega)), sp_columnOf (by omega), sp_rowOf (by omega)]
  simp (disch := omega) only [Option.bind_some, tac_iI, tdn_iI, iI_add, iI_mul, L0, L24, L16, Lm1, iI_lt, iI_le, inR_iff]
  unfold besI
  repeat' split
  all_goals first | rfl | omega | (congr 2; omega)
end SP
