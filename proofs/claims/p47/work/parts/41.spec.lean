/-! THE LINES AS NUMBERS: n lines, gap, levels, steps, labels, points; and how the sheet and the model's row hold them -/
abbrev Ab : Type := Nat × Nat × (Nat → Nat) × (Nat → Nat) × (Nat → Int) × (Nat → Nat → Nat)
abbrev an (a : Ab) : Nat := a.1
abbrev ag (a : Ab) : Nat := a.2.1
abbrev al (a : Ab) : Nat → Nat := a.2.2.1
abbrev ah (a : Ab) : Nat → Nat := a.2.2.2.1
abbrev ab (a : Ab) : Nat → Int := a.2.2.2.2.1
abbrev ap (a : Ab) : Nat → Nat → Nat := a.2.2.2.2.2
def acI (d : Int) : Int := if d = 0 ∨ d = 1 ∨ d = 7 then 1 else if d = 2 ∨ d = 6 then 0 else -1
def dnI (d : Int) : Int := if d = 1 ∨ d = 2 ∨ d = 3 then 1 else if d = 0 ∨ d = 4 then 0 else -1
/-- the direction of a step, by the difference of its points -/
def dirD (z : Int) : Int := if z = -25 then 5 else if z = -24 then 6 else if z = -1 then 4 else if z = 1 then 0 else if z = 23 then 3 else if z = 24 then 2 else if z = 25 then 1 else 7
/-- a step goes from p to q -/
def stp (p q : Nat) : Prop := ∃ d : Int, 0 ≤ d ∧ d ≤ 7 ∧ (q : Int) = p + 24 * dnI d + acI d ∧ 0 ≤ (p : Int) % 24 + acI d ∧ (p : Int) % 24 + acI d < 24 ∧ 0 ≤ (p : Int) / 24 + dnI d ∧ (p : Int) / 24 + dnI d < 16
def szA (a : Ab) (k : Nat) : Nat := if al a k < 10 then 2 else 3
/-- what a map with lines always is -/
def InvA (a : Ab) : Prop :=
  an a ≤ 8 ∧ 1 ≤ ag a ∧ ag a ≤ 6 ∧
  (∀ k, k < an a → al a k ≤ 99 ∧ ah a k ≤ 60 ∧ (ab a k = -1 ∨ (0 ≤ ab a k ∧ ab a k + szA a k ≤ ah a k + 1)) ∧
    (∀ j, j ≤ ah a k → ap a k j < 384) ∧ (∀ j, j < ah a k → stp (ap a k j) (ap a k (j + 1)))) ∧
  (∀ k i j, k < an a → i < j → j ≤ ah a k → ap a k i = ap a k j → i = 0 ∧ j = ah a k ∧ 4 ≤ ah a k) ∧
  (∀ k k' i j, k < an a → k' < an a → i ≤ ah a k → j ≤ ah a k' → ap a k i = ap a k' j → k = k')
def RepS (σ : Sh) (a : Ab) : Prop :=
  S_n σ = iI (an a : Int) ∧ S_gap σ = iI (ag a : Int) ∧
  ∀ k, k < an a → S_lv σ k = iI (al a k : Int) ∧ S_sc σ k = iI (ah a k : Int) ∧ S_lb σ k = iI (ab a k) ∧ ∀ j, j ≤ ah a k → S_pt σ (61 * k + j) = iI (ap a k j : Int)
theorem stp_dir {p q : Nat} (h : stp p q) : 0 ≤ dirD ((q : Int) - p) ∧ dirD ((q : Int) - p) ≤ 7 ∧ (q : Int) = p + 24 * dnI (dirD ((q : Int) - p)) + acI (dirD ((q : Int) - p)) ∧ 0 ≤ (p : Int) % 24 + acI (dirD ((q : Int) - p)) ∧ (p : Int) % 24 + acI (dirD ((q : Int) - p)) < 24 ∧ 0 ≤ (p : Int) / 24 + dnI (dirD ((q : Int) - p)) ∧ (p : Int) / 24 + dnI (dirD ((q : Int) - p)) < 16 := by
  obtain ⟨d, h0, h7, hq, h1, h2, h3, h4⟩ := h
  have hd : dirD ((q : Int) - p) = d := by
    have : d = 0 ∨ d = 1 ∨ d = 2 ∨ d = 3 ∨ d = 4 ∨ d = 5 ∨ d = 6 ∨ d = 7 := by omega
    rcases this with rfl | rfl | rfl | rfl | rfl | rfl | rfl | rfl <;> rw [hq] <;> simp [dirD, dnI, acI] <;> omega
  rw [hd]
  exact ⟨h0, h7, hq, h1, h2, h3, h4⟩
theorem L0 : (0 : Int32) = iI 0 := rfl
theorem L1 : (1 : Int32) = iI 1 := rfl
theorem L2 : (2 : Int32) = iI 2 := rfl
theorem L3 : (3 : Int32) = iI 3 := rfl
theorem L4 : (4 : Int32) = iI 4 := rfl
theorem L5 : (5 : Int32) = iI 5 := rfl
theorem L6 : (6 : Int32) = iI 6 := rfl
theorem L7 : (7 : Int32) = iI 7 := rfl
theorem L8 : (8 : Int32) = iI 8 := rfl
theorem L10 : (10 : Int32) = iI 10 := rfl
theorem L23 : (23 : Int32) = iI 23 := rfl
theorem L24 : (24 : Int32) = iI 24 := rfl
theorem L25 : (25 : Int32) = iI 25 := rfl
theorem L48 : (48 : Int32) = iI 48 := rfl
theorem L60 : (60 : Int32) = iI 60 := rfl
theorem L61 : (61 : Int32) = iI 61 := rfl
theorem L64 : (64 : Int32) = iI 64 := rfl
theorem L99 : (99 : Int32) = iI 99 := rfl
theorem L384 : (384 : Int32) = iI 384 := rfl
theorem L383 : (383 : Int32) = iI 383 := rfl
theorem L16 : (16 : Int32) = iI 16 := rfl
theorem Lm1 : (-1 : Int32) = iI (-1) := rfl
theorem Lm24 : (-24 : Int32) = iI (-24) := rfl
theorem Lm25 : (-25 : Int32) = iI (-25) := rfl
noncomputable def cIf {α : Type} (P : Prop) (x y : α) : α := @ite α P (Classical.propDecidable P) x y
theorem cIf_pos {α : Type} {P : Prop} {x y : α} (h : P) : cIf P x y = x := if_pos h
theorem cIf_neg {α : Type} {P : Prop} {x y : α} (h : ¬ P) : cIf P x y = y := if_neg h
theorem iI_s (j : Nat) : iI (j : Int) + 1 = iI ((j + 1 : Nat) : Int) := by rw [L1, iI_add]; rfl
theorem iI_s' (j : Int) : iI j + 1 = iI (j + 1) := by rw [L1, iI_add]
def onL (a : Ab) (k : Nat) (p : Int) : Prop := ∃ j, j ≤ ah a k ∧ (ap a k j : Int) = p
def ringA (a : Ab) (k : Nat) : Prop := 4 ≤ ah a k ∧ ap a k (ah a k) = ap a k 0
def joinA (a : Ab) (k : Nat) (p q : Int) : Prop := ∃ j, j < ah a k ∧ (((ap a k j : Int) = p ∧ (ap a k (j + 1) : Int) = q) ∨ ((ap a k j : Int) = q ∧ (ap a k (j + 1) : Int) = p))
def besI (p d : Int) : Int := if 0 ≤ p % 24 + acI d ∧ p % 24 + acI d < 24 ∧ 0 ≤ p / 24 + dnI d ∧ p / 24 + dnI d < 16 then p + 24 * dnI d + acI d else -1
def crossA (a : Ab) (p d : Int) : Prop := d % 2 = 1 ∧ ∃ k, k < an a ∧ joinA a k (p + acI d) (p + 24 * dnI d)
noncomputable def whyA (a : Ab) (k : Nat) (d : Int) : Int :=
  cIf (ringA a k) 1 (cIf (ah a k = 60) 2 (cIf (besI (ap a k (ah a k)) d = -1) 3
    (cIf (¬ (3 ≤ ah a k ∧ besI (ap a k (ah a k)) d = ap a k 0) ∧ ∃ k', k' < an a ∧ onL a k' (besI (ap a k (ah a k)) d)) 4 (cIf (crossA a (ap a k (ah a k)) d) 5 0))))
def bndI (x y : Int) : Int := min (y - x).natAbs (8 - ((y - x).natAbs : Int))
section SP
variable {σ : Sh} {a : Ab}
theorem sp_stepCount (H : RepS σ a) (I : InvA a) {k : Nat} (hk : k < an a) : fX4_stepCount σ (iI k) = some (iI (ah a k)) := by
  have h8 := I.1
  have hn := H.1
  have h2 := (H.2.2 k hk).2.1
  unfold fX4_stepCount
  simp (disch := omega) only [hn, L0, iI_lt, iI_le, inR_iff, iI_tn, Int.toNat_natCast, h2]
  rw [if_neg (by omega), if_neg (by omega), if_pos (by omega)]
theorem sp_pointAt (H : RepS σ a) (I : InvA a) {k : Nat} (hk : k < an a) {j : Nat} (hj : j ≤ ah a k) : fX4_pointAt σ (iI k) (iI j) = some (iI (ap a k j)) := by
  have h8 := I.1
  have hn := H.1
  obtain ⟨-, h2, -, h4⟩ := H.2.2 k hk
  have h60 := (I.2.2.2.1 k hk).2.1
  have h5 := h4 j hj
  have e1 : ((k : Int) * 61 + j).toNat = 61 * k + j := by omega
  unfold fX4_pointAt
  simp (disch := omega) only [hn, L0, L61, Lm1, iI_lt, iI_le, iI_mul, iI_add, inR_iff, iI_tn, Int.toNat_natCast, h2, e1, h5]
  rw [if_neg (by omega), if_neg (by omega), if_neg (by omega), if_pos (by omega), if_pos (by omega), if_pos (by omega)]
theorem sp_pointAt_out (H : RepS σ a) (I : InvA a) {k : Nat} (hk : k < an a) {z : Int} (hz : (-100 ≤ z ∧ z < 0) ∨ (ah a k < z ∧ z ≤ 1000)) : fX4_pointAt σ (iI k) (iI z) = some (iI (-1)) := by
  have h8 := I.1
  have hn := H.1
  obtain ⟨-, h2, -, h4⟩ := H.2.2 k hk
  have h60 := (I.2.2.2.1 k hk).2.1
  unfold fX4_pointAt
  simp (disch := omega) only [hn, L0, L61, Lm1, iI_lt, iI_le, iI_mul, iI_add, inR_iff, iI_tn, Int.toNat_natCast, h2]
  rw [if_neg (by omega), if_neg (by omega)]
  by_cases h : z < 0
  · rw [if_pos h]
  · rw [if_neg h, if_pos (by omega), if_neg (by omega)]
theorem nlt0 {z : Int} (h : 0 ≤ z ∧ z < 2147483648) : ¬ iI z < 0 := by rw [L0, iI_lt (by omega) (by omega)]; omega
theorem nle {x y : Int} (hx : -2147483648 ≤ x ∧ x < 2147483648) (hy : -2147483648 ≤ y ∧ y < 2147483648) (h : y < x) : ¬ iI x ≤ iI y := by rw [iI_le hx hy]; omega
theorem nlt {x y : Int} (hx : -2147483648 ≤ x ∧ x < 2147483648) (hy : -2147483648 ≤ y ∧ y < 2147483648) (h : y ≤ x) : ¬ iI x < iI y := by rw [iI_lt hx hy]; omega
theorem ylt {x y : Int} (hx : -2147483648 ≤ x ∧ x < 2147483648) (hy : -2147483648 ≤ y ∧ y < 2147483648) (h : x < y) : iI x < iI y := (iI_lt hx hy).mpr h
theorem yle {x y : Int} (hx : -2147483648 ≤ x ∧ x < 2147483648) (hy : -2147483648 ≤ y ∧ y < 2147483648) (h : x ≤ y) : iI x ≤ iI y := (iI_le hx hy).mpr h
theorem neq {x y : Int} (hx : -2147483648 ≤ x ∧ x < 2147483648) (hy : -2147483648 ≤ y ∧ y < 2147483648) (h : x ≠ y) : ¬ iI x = iI y := by rw [iI_eq hx hy]; exact h
theorem dirI (z : Int) (hz : -10000 ≤ z ∧ z ≤ 10000) : (if iI z = (-25 : Int32) then (some (5 : Int32)) else (if iI z = (-24 : Int32) then (some (6 : Int32)) else (if iI z = (-1 : Int32) then (some (4 : Int32)) else (if iI z = (1 : Int32) then (some (0 : Int32)) else (if iI z = (23 : Int32) then (some (3 : Int32)) else (if iI z = (24 : Int32) then (some (2 : Int32)) else (if iI z = (25 : Int32) then (some (1 : Int32)) else (some (7 : Int32))))))))) = some (iI (dirD z)) := by
  have e : ∀ (y : Int), -10000 ≤ y ∧ y ≤ 10000 → ((iI z = iI y) ↔ z = y) := fun y hy => iI_eq (by omega) (by omega)
  have e1 := e (-25) (by omega)
  have e2 := e (-24) (by omega)
  have e3 := e (-1) (by omega)
  have e4 := e 1 (by omega)
  have e5 := e 23 (by omega)
  have e6 := e 24 (by omega)
  have e7 := e 25 (by omega)
  rw [Lm25, Lm24, Lm1, L1, L23, L24, L25]
  simp only [e1, e2, e3, e4, e5, e6, e7]
  unfold dirD
  repeat' split
  all_goals first | rfl | omega
theorem sp_directionAt (H : RepS σ a) (I : InvA a) {k : Nat} (hk : k < an a) {j : Nat} (hj : j < ah a k) : fX4_directionAt σ (iI k) (iI j) = some (iI (dirD ((ap a k (j + 1) : Int) - ap a k j))) := by
  have h8 := I.1
  have hn := H.1
  obtain ⟨-, h2, -, h4⟩ := H.2.2 k hk
  obtain ⟨-, h60, -, h384, -⟩ := I.2.2.2.1 k hk
  have h5 := h4 j (by omega)
  have h6 := h4 (j + 1) (by omega)
  have h7 := h384 j (by omega)
  have h9 := h384 (j + 1) (by omega)
  have e0 : (iI (k : Int)).toNatClampNeg = k := by rw [iI_tn (by omega) (by omega)]; omega
  have e1 : iI (k : Int) * 61 + iI (j : Int) = iI ((61 * k + j : Nat) : Int) := by rw [L61, iI_mul, iI_add]; congr 1; omega
  have e2 : iI ((61 * k + j : Nat) : Int) + 1 = iI ((61 * k + (j + 1) : Nat) : Int) := by rw [L1, iI_add]; rfl
  have e3 : (iI ((61 * k + j : Nat) : Int)).toNatClampNeg = 61 * k + j := by rw [iI_tn (by omega) (by omega)]; omega
  have e4 : (iI ((61 * k + (j + 1) : Nat) : Int)).toNatClampNeg = 61 * k + (j + 1) := by rw [iI_tn (by omega) (by omega)]; omega
  unfold fX4_directionAt
  simp only [hn, e0, h2, e1, e2, e3, e4, h5, h6, iI_sub]
  rw [if_neg (nlt0 (by omega)), if_neg (nle (by omega) (by omega) (by omega)), if_neg (nlt0 (by omega)), if_pos (inR_iI (by omega) (by omega) (by omega)), if_pos (ylt (by omega) (by omega) (by omega)), if_pos (inR_iI (by omega) (by omega) (by omega)), if_pos (inR_iI (by omega) (by omega) (by omega))]
  exact dirI _ (by omega)
theorem sp_directionAt_out (H : RepS σ a) (I : InvA a) {k : Nat} (hk : k < an a) {z : Int} (hz : (-100 ≤ z ∧ z < 0) ∨ (ah a k ≤ z ∧ z ≤ 1000)) : fX4_directionAt σ (iI k) (iI z) = some (iI (-1)) := by
  have h8 := I.1
  have hn := H.1
  obtain ⟨-, h2, -, h4⟩ := H.2.2 k hk
  have h60 := (I.2.2.2.1 k hk).2.1
  have e0 : (iI (k : Int)).toNatClampNeg = k := by rw [iI_tn (by omega) (by omega)]; omega
  unfold fX4_directionAt
  simp only [hn, e0, h2]
  rw [if_neg (nlt0 (by omega)), if_neg (nle (by omega) (by omega) (by omega))]
  by_cases h : z < 0
  · rw [if_pos (by rw [L0]; exact ylt (by omega) (by omega) h)]; rfl
  · rw [if_neg (nlt0 (by omega)), if_pos (inR_iI (by omega) (by omega) (by omega)), if_neg (nlt (by omega) (by omega) (by omega))]; rfl
theorem sp_isOn_loop (H : RepS σ a) (I : InvA a) {k : Nat} (hk : k < an a) {p : Int} (hp : -1 ≤ p ∧ p < 10000) : ∀ (d j fu : Nat), j + d = ah a k + 1 → d < fu →
    ∃ b, fX4_isOn_9 σ (iI k) (iI p) (iI (ah a k)) fu (iI j) = some b ∧ (b = true ↔ ∃ i, j ≤ i ∧ i ≤ ah a k ∧ (ap a k i : Int) = p) := by
  obtain ⟨-, h60, -, h384, -⟩ := I.2.2.2.1 k hk
  intro d
  induction d with
  | zero =>
    intro j fu h1 h2
    obtain ⟨f, rfl⟩ : ∃ f, fu = f + 1 := ⟨fu - 1, by omega⟩
    refine ⟨false, ?_, ?_⟩
    · rw [fX4_isOn_9, if_pos ((iI_lt (by omega) (by omega)).mpr (by omega))]
    · exact ⟨(fun h => by cases h), (fun ⟨i, h3, h4, _⟩ => by omega)⟩
  | succ d ih =>
    intro j fu h1 h2
    obtain ⟨f, rfl⟩ : ∃ f, fu = f + 1 := ⟨fu - 1, by omega⟩
    have h3 := h384 j (by omega)
    rw [fX4_isOn_9, if_neg (fun h => by have := (iI_lt (by omega) (by omega)).mp h; omega), sp_pointAt H I hk (by omega)]
    simp only [Option.bind_some]
    by_cases hq : (ap a k j : Int) = p
    · exact ⟨true, by rw [if_pos (by rw [hq])], fun _ => ⟨j, by omega, by omega, hq⟩, fun _ => rfl⟩
    · rw [if_neg (fun h => hq ((iI_eq (by omega) (by omega)).mp h)), iI_s]
      obtain ⟨b, hb, hi⟩ := ih (j + 1) f (by omega) (by omega)
      refine ⟨b, hb, hi.trans ⟨fun ⟨i, h4, h5, h6⟩ => ⟨i, by omega, h5, h6⟩, fun ⟨i, h4, h5, h6⟩ => ⟨i, ?_, h5, h6⟩⟩⟩
      rcases Nat.lt_or_ge j i with h | h
      · exact h
      · exact absurd (by rw [show j = i by omega]; exact h6) hq
theorem FU_gt {n : Nat} (h : n < 10000) : n < FU := h
theorem sp_isOn (H : RepS σ a) (I : InvA a) {k : Nat} (hk : k < an a) {p : Int} (hp : -1 ≤ p ∧ p < 10000) : ∃ b, fX4_isOn σ (iI k) (iI p) = some b ∧ (b = true ↔ onL a k p) := by
  have h60 := (I.2.2.2.1 k hk).2.1
  unfold fX4_isOn
  rw [sp_stepCount H I hk]
  simp only [Option.bind_some]
  obtain ⟨b, hb, hi⟩ := sp_isOn_loop H I hk hp (ah a k + 1) 0 FU (by omega) (FU_gt (by omega))
  exact ⟨b, hb, hi.trans ⟨fun ⟨i, _, h5, h6⟩ => ⟨i, h5, h6⟩, fun ⟨i, h5, h6⟩ => ⟨i, Nat.zero_le _, h5, h6⟩⟩⟩
theorem sp_lineOn_loop (H : RepS σ a) (I : InvA a) {p : Int} (hp : -1 ≤ p ∧ p < 10000) : ∀ (d k fu : Nat), k + d = an a → d < fu → (∀ i, i < k → ¬ onL a i p) →
    ((∀ i, i < an a → ¬ onL a i p) → fX4_lineOn_2 σ (iI p) fu (iI k) = some (iI (-1))) ∧ (∀ i, i < an a → onL a i p → fX4_lineOn_2 σ (iI p) fu (iI k) = some (iI i)) := by
  have h8 := I.1
  intro d
  induction d with
  | zero =>
    intro k fu h1 h2 h3
    obtain ⟨f, rfl⟩ : ∃ f, fu = f + 1 := ⟨fu - 1, by omega⟩
    rw [fX4_lineOn_2, H.1, if_pos ((iI_le (by omega) (by omega)).mpr (by omega))]
    exact ⟨fun _ => rfl, fun i hi ho => absurd ho (h3 i (by omega))⟩
  | succ d ih =>
    intro k fu h1 h2 h3
    obtain ⟨f, rfl⟩ : ∃ f, fu = f + 1 := ⟨fu - 1, by omega⟩
    obtain ⟨b, hb, hi⟩ := sp_isOn H I (k := k) (by omega) hp
    rw [fX4_lineOn_2, H.1, if_neg (fun h => by have := (iI_le (by omega) (by omega)).mp h; omega), hb]
    simp only [Option.bind_some]
    by_cases hq : onL a k p
    · rw [if_pos (hi.mpr hq)]
      refine ⟨fun h => absurd hq (h k (by omega)), fun i hi2 ho => ?_⟩
      obtain ⟨j, hj, ej⟩ := hq
      obtain ⟨j', hj', ej'⟩ := ho
      rw [I.2.2.2.2.2 k i j j' (by omega) hi2 hj hj' (by omega)]
    · rw [if_neg (fun h => hq (hi.mp h)), iI_s]
      exact ih (k + 1) f (by omega) (by omega) (fun i h4 => by
        rcases Nat.lt_or_ge i k with h | h
        · exact h3 i h
        · rw [show i = k by omega]; exact hq)
theorem sp_lineOn_none (H : RepS σ a) (I : InvA a) {p : Int} (hp : -1 ≤ p ∧ p < 10000) (h : ∀ i, i < an a → ¬ onL a i p) : fX4_lineOn σ (iI p) = some (iI (-1)) :=
  (sp_lineOn_loop H I hp (an a) 0 FU (by omega) (FU_gt (by have := I.1; omega)) (fun i hi => by omega)).1 h
theorem sp_lineOn_some (H : RepS σ a) (I : InvA a) {p : Int} (hp : -1 ≤ p ∧ p < 10000) {i : Nat} (hi : i < an a) (h : onL a i p) : fX4_lineOn σ (iI p) = some (iI i) :=
  (sp_lineOn_loop H I hp (an a) 0 FU (by omega) (FU_gt (by have := I.1; omega)) (fun i hi => by omega)).2 i hi h
theorem sp_isRing (H : RepS σ a) (I : InvA a) {k : Nat} (hk : k < an a) : ∃ b, fX4_isRing σ (iI k) = some b ∧ (b = true ↔ ringA a k) := by
  have h8 := I.1
  have hn := H.1
  obtain ⟨-, h2, -, h4⟩ := H.2.2 k hk
  obtain ⟨-, h60, -, h384, -⟩ := I.2.2.2.1 k hk
  have h5 := h4 (ah a k) (by omega)
  have h6 := h4 0 (by omega)
  have h7 := h384 (ah a k) (by omega)
  have h9 := h384 0 (by omega)
  have e1 : ((k : Int) * 61 + (ah a k : Int)).toNat = 61 * k + ah a k := by omega
  have e2 : ((k : Int) * 61).toNat = 61 * k + 0 := by omega
  unfold fX4_isRing ringA
  simp (disch := omega) only [hn, L0, L4, L61, iI_lt, iI_le, iI_mul, iI_add, iI_eq, inR_iff, iI_tn, Int.toNat_natCast, h2, e1, e2, h5, h6]
  rw [if_neg (by omega), if_neg (by omega), if_pos (by omega)]
  by_cases h : (4 : Int) ≤ ah a k
  · rw [if_pos h, if_pos (by omega), if_pos (by omega)]
    by_cases q : (ap a k (ah a k) : Int) = ap a k 0
    · rw [if_pos q]; exact ⟨true, rfl, fun _ => ⟨by omega, by omega⟩, fun _ => rfl⟩
    · rw [if_neg q]; exact ⟨false, rfl, (fun h => by cases h), (fun h => absurd (by omega) q)⟩
  · rw [if_neg h]; exact ⟨false, rfl, (fun h => by cases h), (fun h9 => absurd (by omega) h)⟩
theorem sp_levelIn (H : RepS σ a) (I : InvA a) {k : Nat} (hk : k < an a) : fX4_levelIn σ (iI k) = some (iI (al a k)) := by
  have h8 := I.1
  have hn := H.1
  have h2 := (H.2.2 k hk).1
  unfold fX4_levelIn
  simp (disch := omega) only [hn, L0, iI_lt, iI_le, inR_iff, iI_tn, Int.toNat_natCast, h2]
  rw [if_neg (by omega), if_neg (by omega), if_pos (by omega)]
theorem sp_labelIn (H : RepS σ a) (I : InvA a) {k : Nat} (hk : k < an a) : fX4_labelIn σ (iI k) = some (iI (ab a k)) := by
  have h8 := I.1
  have hn := H.1
  have h2 := (H.2.2 k hk).2.2.1
  unfold fX4_labelIn
  simp (disch := omega) only [hn, L0, iI_lt, iI_le, inR_iff, iI_tn, Int.toNat_natCast, h2]
  rw [if_neg (by omega), if_neg (by omega), if_pos (by omega)]
theorem sp_sizeIn (H : RepS σ a) (I : InvA a) {k : Nat} (hk : k < an a) : fX4_sizeIn σ (iI k) = some (iI (szA a k)) := by
  have h8 := I.1
  have hn := H.1
  have h2 := (H.2.2 k hk).1
  have h99 := (I.2.2.2.1 k hk).1
  unfold fX4_sizeIn szA
  simp (disch := omega) only [hn, L0, L2, L3, L10, iI_lt, iI_le, inR_iff, iI_tn, Int.toNat_natCast, h2]
  rw [if_neg (by omega), if_neg (by omega), if_pos (by omega)]
  by_cases h : al a k < 10
  · rw [if_pos (by omega), if_pos h]; rfl
  · rw [if_neg (by omega), if_neg h]; rfl
theorem sp_hasLine (H : RepS σ a) (I : InvA a) {z : Int} (hz : -2147483648 ≤ z ∧ z < 2147483648) : ∃ b, fX4_hasLine σ (iI z) = some b ∧ (b = true ↔ 0 ≤ z ∧ z < an a) := by
  have h8 := I.1
  have hn := H.1
  unfold fX4_hasLine
  simp (disch := omega) only [hn, L0, iI_lt, iI_le]
  by_cases h1 : z < 0
  · rw [if_pos h1]; exact ⟨false, rfl, fun h => (by cases h), fun h => by omega⟩
  · by_cases h2 : (an a : Int) ≤ z
    · rw [if_neg h1, if_pos h2]; exact ⟨false, rfl, fun h => (by cases h), fun h => by omega⟩
    · rw [if_neg h1, if_neg h2]; exact ⟨true, rfl, fun _ => by omega, fun _ => rfl⟩
theorem sp_hasNumber (H : RepS σ a) (I : InvA a) {z w : Int} (hz : -2147483648 ≤ z ∧ z < 2147483648) (hw : -2147483648 ≤ w ∧ w < 2147483648) : ∃ b, fX4_hasNumber σ (iI z) (iI w) = some b ∧ (b = true ↔ (0 ≤ z ∧ z < an a) ∧ 0 ≤ w ∧ w ≤ ah a z.toNat) := by
  have h8 := I.1
  have hn := H.1
  unfold fX4_hasNumber
  simp (disch := omega) only [hn, L0, iI_lt, iI_le]
  by_cases h1 : z < 0
  · rw [if_pos h1]; exact ⟨false, rfl, fun h => (by cases h), fun h => by omega⟩
  · by_cases h2 : (an a : Int) ≤ z
    · rw [if_neg h1, if_pos h2]; exact ⟨false, rfl, fun h => (by cases h), fun h => by omega⟩
    · rw [if_neg h1, if_neg h2]
      obtain ⟨k, rfl⟩ : ∃ k : Nat, z = k := ⟨z.toNat, by omega⟩
      have hk : k < an a := by omega
      have h3 := (H.2.2 k hk).2.1
      have h60 := (I.2.2.2.1 k hk).2.1
      simp (disch := omega) only [inR_iff, iI_tn, Int.toNat_natCast, h3, iI_lt]
      by_cases h4 : w < 0
      · rw [if_pos h4]; exact ⟨false, rfl, fun h => (by cases h), fun h => by omega⟩
      · rw [if_neg h4, if_pos (by omega)]
        by_cases h5 : (ah a k : Int) < w
        · rw [if_pos h5]; exact ⟨false, rfl, fun h => (by cases h), fun h => by omega⟩
        · rw [if_neg h5]; exact ⟨true, rfl, fun _ => by omega, fun _ => rfl⟩
theorem sp_hasRoomAt (H : RepS σ a) (I : InvA a) {p : Int} (hp : -1 ≤ p ∧ p < 10000) : ∃ b, fX4_hasRoomAt σ (iI p) = some b ∧ (b = true ↔ an a < 8 ∧ ∀ i, i < an a → ¬ onL a i p) := by
  have h8 := I.1
  unfold fX4_hasRoomAt
  rw [H.1, L8]
  by_cases h : an a < 8
  · rw [if_neg (fun q => by have := (iI_le (by omega) (by omega)).mp q; omega)]
    by_cases q : ∃ i, i < an a ∧ onL a i p
    · obtain ⟨i, hi, ho⟩ := q
      rw [sp_lineOn_some H I hp hi ho]
      simp only [Option.bind_some]
      rw [if_neg (fun q => by rw [Lm1] at q; have := (iI_eq (by omega) (by omega)).mp q; omega)]
      exact ⟨false, rfl, fun h => (by cases h), fun h => absurd ho (h.2 i hi)⟩
    · have q2 : ∀ i, i < an a → ¬ onL a i p := fun i hi ho => q ⟨i, hi, ho⟩
      rw [sp_lineOn_none H I hp q2]
      simp only [Option.bind_some]
      rw [if_pos Lm1.symm]
      exact ⟨true, rfl, fun _ => ⟨h, q2⟩, fun _ => rfl⟩
  · rw [if_pos ((iI_le (by omega) (by omega)).mpr (by omega))]
    exact ⟨false, rfl, fun h => (by cases h), fun q => absurd q.1 h⟩
theorem sp_joins_loop (H : RepS σ a) (I : InvA a) {k : Nat} (hk : k < an a) {p q : Int} (hp : -1000 ≤ p ∧ p < 10000) (hq : -1000 ≤ q ∧ q < 10000) : ∀ (d j fu : Nat), j + d = ah a k → d < fu →
    ∃ b, fX4_joins_10 σ (iI k) (iI p) (iI q) (iI (ah a k)) fu (iI j) = some b ∧ (b = true ↔ ∃ i, j ≤ i ∧ i < ah a k ∧ (((ap a k i : Int) = p ∧ (ap a k (i + 1) : Int) = q) ∨ ((ap a k i : Int) = q ∧ (ap a k (i + 1) : Int) = p))) := by
  obtain ⟨-, h60, -, h384, -⟩ := I.2.2.2.1 k hk
  intro d
  induction d with
  | zero =>
    intro j fu h1 h2
    obtain ⟨f, rfl⟩ : ∃ f, fu = f + 1 := ⟨fu - 1, by omega⟩
    refine ⟨false, ?_, ?_⟩
    · rw [fX4_joins_10, if_pos ((iI_le (by omega) (by omega)).mpr (by omega))]
    · exact ⟨(fun h => by cases h), (fun ⟨i, h3, h4, _⟩ => by omega)⟩
  | succ d ih =>
    intro j fu h1 h2
    obtain ⟨f, rfl⟩ : ∃ f, fu = f + 1 := ⟨fu - 1, by omega⟩
    have h3 := h384 j (by omega)
    have h4 := h384 (j + 1) (by omega)
    rw [fX4_joins_10, if_neg (fun h => by have := (iI_le (by omega) (by omega)).mp h; omega), sp_pointAt H I hk (by omega), iI_s, sp_pointAt H I hk (by omega)]
    simp only [Option.bind_some]
    simp (disch := omega) only [iI_eq]
    obtain ⟨b, hb, hi⟩ := ih (j + 1) f (by omega) (by omega)
    by_cases hh : ((ap a k j : Int) = p ∧ (ap a k (j + 1) : Int) = q) ∨ ((ap a k j : Int) = q ∧ (ap a k (j + 1) : Int) = p)
    · refine ⟨true, ?_, fun _ => ⟨j, by omega, by omega, hh⟩, fun _ => rfl⟩
      repeat' split
      all_goals first | rfl | omega
    · refine ⟨b, ?_, hi.trans ⟨fun ⟨i, h4, h5, h6⟩ => ⟨i, by omega, h5, h6⟩, fun ⟨i, h4, h5, h6⟩ => ⟨i, ?_, h5, h6⟩⟩⟩
      · repeat' split
        all_goals first | exact hb | omega
      · rcases Nat.lt_or_ge j i with h | h
        · exact h
        · exact absurd (by rw [show j = i by omega]; exact h6) hh
theorem sp_joins (H : RepS σ a) (I : InvA a) {k : Nat} (hk : k < an a) {p q : Int} (hp : -1000 ≤ p ∧ p < 10000) (hq : -1000 ≤ q ∧ q < 10000) : ∃ b, fX4_joins σ (iI k) (iI p) (iI q) = some b ∧ (b = true ↔ joinA a k p q) := by
  have h60 := (I.2.2.2.1 k hk).2.1
  unfold fX4_joins
  rw [sp_stepCount H I hk]
  simp only [Option.bind_some]
  obtain ⟨b, hb, hi⟩ := sp_joins_loop H I hk hp hq (ah a k) 0 FU (by omega) (FU_gt (by omega))
  exact ⟨b, hb, hi.trans ⟨fun ⟨i, _, h5, h6⟩ => ⟨i, h5, h6⟩, fun ⟨i, h5, h6⟩ => ⟨i, Nat.zero_le _, h5, h6⟩⟩⟩
theorem d8 {d : Int} (h : 0 ≤ d ∧ d ≤ 7) : d = 0 ∨ d = 1 ∨ d = 2 ∨ d = 3 ∨ d = 4 ∨ d = 5 ∨ d = 6 ∨ d = 7 := by omega
theorem tac_iI {d : Int} (h : 0 ≤ d ∧ d ≤ 7) : tac (iI d) = iI (acI d) := by rcases d8 h with rfl | rfl | rfl | rfl | rfl | rfl | rfl | rfl <;> rfl
theorem tdn_iI {d : Int} (h : 0 ≤ d ∧ d ≤ 7) : tdn (iI d) = iI (dnI d) := by rcases d8 h with rfl | rfl | rfl | rfl | rfl | rfl | rfl | rfl <;> rfl
theorem ac_rng (d : Int) : -1 ≤ acI d ∧ acI d ≤ 1 := by unfold acI; (repeat' split) <;> omega
theorem dn_rng (d : Int) : -1 ≤ dnI d ∧ dnI d ≤ 1 := by unfold dnI; (repeat' split) <;> omega
theorem sp_isDirection {d : Int} (h : -2147483648 ≤ d ∧ d < 2147483648) : ∃ b, fX6_isDirection (iI d) = some b ∧ (b = true ↔ 0 ≤ d ∧ d ≤ 7) := by
  unfold fX6_isDirection
  simp (disch := omega) only [L0, L8, iI_lt, iI_le]
  by_cases h1 : d < 0
  · rw [if_pos h1]; exact ⟨false, rfl, fun h => (by cases h), fun h => by omega⟩
  · by_cases h2 : 8 ≤ d
    · rw [if_neg h1, if_pos h2]; exact ⟨false, rfl, fun h => (by cases h), fun h => by omega⟩
    · rw [if_neg h1, if_neg h2]; exact ⟨true, rfl, fun _ => by omega, fun _ => rfl⟩
theorem sp_isSlanting {d : Int} (h : 0 ≤ d ∧ d ≤ 7) : ∃ b, fX6_isSlanting (iI d) = some b ∧ (b = true ↔ d % 2 = 1) := by
  rcases d8 h with rfl | rfl | rfl | rfl | rfl | rfl | rfl | rfl <;> exact ⟨_, rfl, by decide⟩
theorem sp_isOnMap {p : Int} (h : -2147483648 ≤ p ∧ p < 2147483648) : ∃ b, fX6_isOnMap (iI p) = some b ∧ (b = true ↔ 0 ≤ p ∧ p ≤ 383) := by
  unfold fX6_isOnMap
  simp (disch := omega) only [L0, L384, iI_lt, iI_le]
  by_cases h1 : p < 0
  · rw [if_pos h1]; exact ⟨false, rfl, fun h => (by cases h), fun h => by omega⟩
  · by_cases h2 : 384 ≤ p
    · rw [if_neg h1, if_pos h2]; exact ⟨false, rfl, fun h => (by cases h), fun h => by omega⟩
    · rw [if_neg h1, if_neg h2]; exact ⟨true, rfl, fun _ => by omega, fun _ => rfl⟩
theorem sp_columnOf {p : Int} (h : 0 ≤ p ∧ p < 2147483648) : fX6_columnOf (iI p) = some (iI (p % 24)) := by unfold fX6_columnOf; rw [L24, iI_irm h (by omega)]
theorem sp_rowOf {p : Int} (h : 0 ≤ p ∧ p < 2147483648) : fX6_rowOf (iI p) = some (iI (p / 24)) := by unfold fX6_rowOf; rw [L24, iI_div h (by omega)]
theorem sp_pointBeside {p d : Int} (hp : 0 ≤ p ∧ p < 384) (hd : 0 ≤ d ∧ d ≤ 7) : fX6_pointBeside (iI p) (iI d) = some (iI (besI p d)) := by
  obtain ⟨b1, e1, i1⟩ := sp_isOnMap (p := p) (by omega)
  obtain ⟨b2, e2, i2⟩ := sp_isDirection (d := d) (by omega)
  have a1 := ac_rng d
  have a2 := dn_rng d
  unfold fX6_pointBeside
  rw [e1, e2]
  simp only [Option.bind_some]
  rw [if_pos (i1.mpr (by omega)), if_pos (i2.mpr (by omega)), sp_columnOf (by omega), sp_rowOf (by omega)]
  simp (disch := omega) only [Option.bind_some, tac_iI, tdn_iI, iI_add, iI_mul, L0, L24, L16, Lm1, iI_lt, iI_le, inR_iff]
  unfold besI
  repeat' split
  all_goals first | rfl | omega | (congr 2; omega)
theorem bes_rng (p d : Int) (hp : 0 ≤ p ∧ p < 384) : -1 ≤ besI p d ∧ besI p d < 384 := by
  have a1 := ac_rng d
  have a2 := dn_rng d
  unfold besI
  split <;> omega
theorem sp_crosses_loop (H : RepS σ a) (I : InvA a) {x y p q : Int} (hp : -1000 ≤ p ∧ p < 10000) (hq : -1000 ≤ q ∧ q < 10000) : ∀ (e k fu : Nat), k + e = an a → e < fu →
    ∃ b, fX4_crosses_39 σ (iI x) (iI y) (iI p) (iI q) fu (iI k) = some b ∧ (b = true ↔ ∃ i, k ≤ i ∧ i < an a ∧ joinA a i p q) := by
  have h8 := I.1
  intro e
  induction e with
  | zero =>
    intro k fu h1 h2
    obtain ⟨f, rfl⟩ : ∃ f, fu = f + 1 := ⟨fu - 1, by omega⟩
    refine ⟨false, ?_, ?_⟩
    · rw [fX4_crosses_39, H.1, if_pos (yle (by omega) (by omega) (by omega))]
    · exact ⟨(fun h => by cases h), (fun ⟨i, h3, h4, _⟩ => by omega)⟩
  | succ e ih =>
    intro k fu h1 h2
    obtain ⟨f, rfl⟩ : ∃ f, fu = f + 1 := ⟨fu - 1, by omega⟩
    obtain ⟨b, hb, hi⟩ := sp_joins H I (k := k) (by omega) hp hq
    rw [fX4_crosses_39, H.1, if_neg (nle (by omega) (by omega) (by omega)), hb]
    simp only [Option.bind_some]
    by_cases hh : joinA a k p q
    · rw [if_pos (hi.mpr hh)]
      exact ⟨true, rfl, fun _ => ⟨k, by omega, by omega, hh⟩, fun _ => rfl⟩
    · rw [if_neg (fun z => hh (hi.mp z)), iI_s]
      obtain ⟨b2, hb2, hi2⟩ := ih (k + 1) f (by omega) (by omega)
      refine ⟨b2, hb2, hi2.trans ⟨fun ⟨i, h4, h5, h6⟩ => ⟨i, by omega, h5, h6⟩, fun ⟨i, h4, h5, h6⟩ => ⟨i, ?_, h5, h6⟩⟩⟩
      rcases Nat.lt_or_ge k i with h | h
      · exact h
      · exact absurd (by rw [show k = i by omega]; exact h6) hh
theorem sp_crosses (H : RepS σ a) (I : InvA a) {p d : Int} (hp : 0 ≤ p ∧ p < 384) (hd : 0 ≤ d ∧ d ≤ 7) : ∃ b, fX4_crosses σ (iI p) (iI d) = some b ∧ (b = true ↔ crossA a p d) := by
  have a1 := ac_rng d
  have a2 := dn_rng d
  have h8 := I.1
  obtain ⟨b1, e1, i1⟩ := sp_isDirection (d := d) (by omega)
  obtain ⟨b2, e2, i2⟩ := sp_isSlanting hd
  unfold fX4_crosses
  rw [e1, e2]
  simp only [Option.bind_some]
  rw [if_pos (i1.mpr hd)]
  by_cases ho : d % 2 = 1
  · rw [if_pos (i2.mpr ho), if_pos (inR_iI (by omega) (by omega) (by omega)), tac_iI hd, tdn_iI hd, L24, iI_mul, iI_add, iI_add]
    obtain ⟨b, hb, hi⟩ := sp_crosses_loop (x := p) (y := d) H I (p := p + acI d) (q := p + 24 * dnI d) (by omega) (by omega) (an a) 0 FU (by omega) (FU_gt (by omega))
    exact ⟨b, hb, hi.trans ⟨fun ⟨i, _, h5, h6⟩ => ⟨ho, i, h5, h6⟩, fun ⟨_, i, h5, h6⟩ => ⟨i, Nat.zero_le _, h5, h6⟩⟩⟩
  · rw [if_neg (fun q => ho (i2.mp q))]
    exact ⟨false, rfl, (fun h => by cases h), (fun h => absurd h.1 ho)⟩
theorem sp_why (H : RepS σ a) (I : InvA a) {k : Nat} (hk : k < an a) {d : Int} (hd : 0 ≤ d ∧ d ≤ 7) : fX4_reasonAgainstStep σ (iI k) (iI d) = some (iI (whyA a k d)) := by
  obtain ⟨-, h60, -, h384, -⟩ := I.2.2.2.1 k hk
  obtain ⟨b, hb, ib⟩ := sp_isRing H I hk
  have hp := h384 (ah a k) (Nat.le_refl _)
  have hp0 := h384 0 (Nat.zero_le _)
  obtain ⟨c, hc, ic⟩ := sp_crosses H I (p := ap a k (ah a k)) (d := d) (by omega) hd
  have hbr := bes_rng (ap a k (ah a k)) d (by omega)
  unfold fX4_reasonAgainstStep whyA
  rw [hb]
  simp only [Option.bind_some]
  by_cases hr : ringA a k
  · rw [if_pos (ib.mpr hr), cIf_pos hr]; rfl
  rw [if_neg (fun q => hr (ib.mp q)), cIf_neg hr, sp_stepCount H I hk]
  simp only [Option.bind_some]
  by_cases h6 : ah a k = 60
  · rw [if_neg (by rw [L60]; exact nlt (by omega) (by omega) (by omega)), cIf_pos h6]; rfl
  rw [if_pos (by rw [L60]; exact ylt (by omega) (by omega) (by omega)), cIf_neg h6, sp_pointAt H I hk (Nat.le_refl _)]
  simp only [Option.bind_some]
  rw [sp_pointBeside (by omega) hd]
  simp only [Option.bind_some]
  generalize hB : besI (ap a k (ah a k)) d = B at hbr
  by_cases h3 : B = -1
  · rw [if_pos (by rw [h3]; rfl), cIf_pos h3]; rfl
  rw [if_neg (by rw [Lm1]; exact neq (by omega) (by omega) h3), cIf_neg h3]
  have tail : ∀ t : Bool, (t = true ↔ (3 ≤ ah a k ∧ B = ap a k 0)) → fX4_reasonAgainstStep_71 σ (iI k) (iI d) (iI (ap a k (ah a k))) (iI B) t = some (iI (cIf (¬ (3 ≤ ah a k ∧ B = ap a k 0) ∧ ∃ k', k' < an a ∧ onL a k' B) 4 (cIf (crossA a (ap a k (ah a k)) d) 5 0))) := by
    intro t ht
    have hX : (if c = true then some (5 : Int32) else some (0 : Int32)) = some (iI (cIf (crossA a (ap a k (ah a k)) d) 5 0)) := by
      by_cases q : crossA a (ap a k (ah a k)) d
      · rw [if_pos (ic.mpr q), cIf_pos q]; rfl
      · rw [if_neg (fun z => q (ic.mp z)), cIf_neg q]; rfl
    unfold fX4_reasonAgainstStep_71
    rw [hc]
    simp only [Option.bind_some]
    rw [hX]
    generalize cIf (crossA a (ap a k (ah a k)) d) (5 : Int) 0 = W
    cases t with
    | true => rw [if_pos rfl, cIf_neg (fun q => q.1 (ht.mp rfl))]
    | false =>
      have hn : ¬ (3 ≤ ah a k ∧ B = ap a k 0) := fun q => by have := ht.mpr q; cases this
      rw [if_neg (by decide)]
      by_cases q : ∃ k', k' < an a ∧ onL a k' B
      · rw [cIf_pos ⟨hn, q⟩]
        obtain ⟨k', hk', ho⟩ := q
        have h8 := I.1
        rw [sp_lineOn_some H I (by omega) hk' ho]
        simp only [Option.bind_some]
        rw [if_neg (by rw [Lm1]; exact neq (by omega) (by omega) (by omega))]; rfl
      · rw [cIf_neg (fun z => q z.2), sp_lineOn_none H I (by omega) (fun i hi ho => q ⟨i, hi, ho⟩)]
        simp only [Option.bind_some]
        rw [if_pos Lm1.symm]
  have e1 : fX4_pointAt σ (iI (k : Int)) (0 : Int32) = some (iI (ap a k 0)) := sp_pointAt H I hk (Nat.zero_le _)
  rw [iI_s, L4, e1]
  simp only [Option.bind_some]
  by_cases h3 : 3 ≤ ah a k
  · rw [if_neg (nlt (by omega) (by omega) (by omega))]
    by_cases q : B = ap a k 0
    · rw [if_pos (by rw [q])]; exact tail true ⟨fun _ => ⟨h3, q⟩, fun _ => rfl⟩
    · rw [if_neg (neq (by omega) (by omega) q)]; exact tail false ⟨(fun h => by cases h), (fun h => absurd h.2 q)⟩
  · rw [if_pos (ylt (by omega) (by omega) (by omega))]; exact tail false ⟨(fun h => by cases h), (fun h => absurd h.1 h3)⟩
def drA (a : Ab) (k j : Nat) : Int := dirD ((ap a k (j + 1) : Int) - ap a k j)
noncomputable def bndA (a : Ab) (k j : Nat) : Int := cIf (0 < j ∧ j < ah a k) (bndI (drA a k (j - 1)) (drA a k j)) (cIf (ringA a k) (bndI (drA a k (ah a k - 1)) (drA a k 0)) 0)
theorem dr_rng (I : InvA a) {k : Nat} (hk : k < an a) {j : Nat} (hj : j < ah a k) : 0 ≤ drA a k j ∧ drA a k j ≤ 7 := by
  have h := stp_dir ((I.2.2.2.1 k hk).2.2.2.2 j hj)
  exact ⟨h.1, h.2.1⟩
theorem sp_bend63 {x y p q : Int} (hx : 0 ≤ x ∧ x ≤ 7) (hy : 0 ≤ y ∧ y ≤ 7) : fX4_bendThere_63 σ (iI p) (iI q) (iI x) (iI y) = some (iI (bndI x y)) := by
  unfold fX4_bendThere_63
  rw [Lm1, if_neg (neq (by omega) (by omega) (by omega)), if_neg (neq (by omega) (by omega) (by omega)), iI_sub, iabs_iI (by omega), L8, iI_sub, imin_iI (by omega) (by omega)]
  rfl
theorem sp_bend63a {y p q : Int} : fX4_bendThere_63 σ (iI p) (iI q) (iI (-1)) (iI y) = some (iI 0) := by
  unfold fX4_bendThere_63
  rw [if_pos Lm1.symm]; rfl
theorem sp_bend63b {x p q : Int} (hx : 0 ≤ x ∧ x ≤ 7) : fX4_bendThere_63 σ (iI p) (iI q) (iI x) (iI (-1)) = some (iI 0) := by
  unfold fX4_bendThere_63
  rw [Lm1, if_neg (neq (by omega) (by omega) (by omega)), if_pos rfl]; rfl
theorem sp_bendThere (H : RepS σ a) (I : InvA a) {k : Nat} (hk : k < an a) {j : Nat} (hj : j ≤ ah a k) : fX4_bendThere σ (iI k) (iI j) = some (iI (bndA a k j)) := by
  obtain ⟨-, h60, -, h384, -⟩ := I.2.2.2.1 k hk
  obtain ⟨b, hb, ib⟩ := sp_isRing H I hk
  unfold fX4_bendThere bndA
  rw [hb, sp_stepCount H I hk]
  simp only [Option.bind_some]
  rw [L1, iI_sub, iI_sub]
  by_cases h1 : 0 < j ∧ j < ah a k
  · rw [cIf_pos h1, show ((j : Int) - 1) = ((j - 1 : Nat) : Int) by omega, sp_directionAt H I hk (j := j - 1) (by omega), sp_directionAt H I hk h1.2]
    simp only [Option.bind_some]
    have e1 := dr_rng I hk (j := j - 1) (by omega)
    have e2 := dr_rng I hk h1.2
    have e3 := sp_bend63 (σ := σ) (p := k) (q := j) e1 e2
    unfold drA at e3
    rw [L0, if_neg (neq (by omega) (by omega) (by omega)), if_neg (neq (by omega) (by omega) (by omega))]
    rw [e3, ite_self]; rfl
  · rw [cIf_neg h1]
    by_cases hr : ringA a k
    · have h4 := hr.1
      have e1 := dr_rng I hk (j := ah a k - 1) (by omega)
      have e2 := dr_rng I hk (j := 0) (by omega)
      have e3 := sp_bend63 (σ := σ) (p := k) (q := j) e1 e2
      have d1 : fX4_directionAt σ (iI (k : Int)) (iI ((ah a k : Int) - 1)) = some (iI (drA a k (ah a k - 1))) := by
        rw [show ((ah a k : Int) - 1) = ((ah a k - 1 : Nat) : Int) by omega]; exact sp_directionAt H I hk (by omega)
      have d2 : fX4_directionAt σ (iI (k : Int)) (iI 0) = some (iI (drA a k 0)) := sp_directionAt H I hk (j := 0) (by omega)
      rw [cIf_pos hr]
      simp only [if_pos (ib.mpr hr)]
      by_cases h0 : j = 0
      · subst h0
        have d3 : fX4_directionAt σ (iI (k : Int)) (iI ((0 : Nat) : Int)) = some (iI (drA a k 0)) := d2
        rw [sp_directionAt_out H I hk (by omega), d3, d1]
        simp only [Option.bind_some]
        rw [if_pos (show iI ((0 : Nat) : Int) = (0 : Int32) from rfl)]
        exact e3
      · have hjh : j = ah a k := by omega
        subst hjh
        rw [d1, sp_directionAt_out H I hk (by omega)]
        simp only [Option.bind_some]
        rw [L0, if_neg (neq (by omega) (by omega) (by omega)), if_pos trivial, d2]
        simp only [Option.bind_some]
        exact e3
    · rw [cIf_neg hr]
      simp only [if_neg (show ¬ b = true from fun q => hr (ib.mp q))]
      by_cases h0 : j = 0
      · subst h0
        rw [sp_directionAt_out H I hk (by omega)]
        cases hh : fX4_directionAt σ (iI (k : Int)) (iI ((0 : Nat) : Int)) with
        | none =>
          exfalso
          by_cases q : 0 < ah a k
          · rw [sp_directionAt H I hk q] at hh; cases hh
          · rw [sp_directionAt_out H I hk (by omega)] at hh; cases hh
        | some y =>
          simp only [Option.bind_some]
          obtain ⟨z, -, -, rfl⟩ := iI_of y
          exact sp_bend63a
      · have e1 := dr_rng I hk (j := j - 1) (by omega)
        rw [show ((j : Int) - 1) = ((j - 1 : Nat) : Int) by omega, sp_directionAt H I hk (j := j - 1) (by omega), sp_directionAt_out H I hk (by omega)]
        simp only [Option.bind_some]
        exact sp_bend63b e1
noncomputable def r01 (a : Ab) (k : Nat) : Nat := cIf (ringA a k) 1 0
theorem r01_le (a : Ab) (k : Nat) : r01 a k ≤ 1 := by
  unfold r01
  by_cases h : ringA a k
  · rw [cIf_pos h]; omega
  · rw [cIf_neg h]; omega
def plA (a : Ab) (k p : Nat) : Prop := p + szA a k + r01 a k ≤ ah a k + 1
noncomputable def bsum (a : Ab) (k : Nat) : Nat → Int → Int
  | 0, _ => 0
  | m + 1, z => cIf (0 ≤ z ∧ z ≤ ah a k) (bndA a k z.toNat) 0 + bsum a k m (z + 1)
noncomputable def bopA (a : Ab) (k p : Nat) : Int := bsum a k (szA a k + 2) ((p : Int) - 1)
theorem sz_rng (a : Ab) (k : Nat) : szA a k = 2 ∨ szA a k = 3 := by unfold szA; split <;> omega
theorem bndI_rng {x y : Int} (hx : 0 ≤ x ∧ x ≤ 7) (hy : 0 ≤ y ∧ y ≤ 7) : 0 ≤ bndI x y ∧ bndI x y ≤ 4 := by unfold bndI; omega
theorem bndA_rng (I : InvA a) {k : Nat} (hk : k < an a) {j : Nat} (hj : j ≤ ah a k) : 0 ≤ bndA a k j ∧ bndA a k j ≤ 4 := by
  unfold bndA
  by_cases h1 : 0 < j ∧ j < ah a k
  · rw [cIf_pos h1]; exact bndI_rng (dr_rng I hk (by omega)) (dr_rng I hk h1.2)
  · rw [cIf_neg h1]
    by_cases hr : ringA a k
    · have := hr.1
      rw [cIf_pos hr]; exact bndI_rng (dr_rng I hk (by omega)) (dr_rng I hk (by omega))
    · rw [cIf_neg hr]; omega
theorem bsum_rng (I : InvA a) {k : Nat} (hk : k < an a) : ∀ (m : Nat) (z : Int), 0 ≤ bsum a k m z ∧ bsum a k m z ≤ 4 * m := by
  intro m
  induction m with
  | zero => intro z; exact ⟨Int.le_refl _, by simp [bsum]⟩
  | succ m ih =>
    intro z
    have h := ih (z + 1)
    unfold bsum
    by_cases q : 0 ≤ z ∧ z ≤ ah a k
    · rw [cIf_pos q]
      have := bndA_rng I hk (j := z.toNat) (by omega)
      omega
    · rw [cIf_neg q]; omega
theorem sp_lastNumber (H : RepS σ a) (I : InvA a) {k : Nat} (hk : k < an a) (z : Int) : fX2_lastNumber σ (iI k) (iI z) = some (iI (z + szA a k - 1)) := by
  unfold fX2_lastNumber
  rw [sp_sizeIn H I hk]
  simp only [Option.bind_some]
  rw [L1, iI_add, iI_sub]
theorem sp_isPlace (H : RepS σ a) (I : InvA a) {k : Nat} (hk : k < an a) {p : Nat} (hp : p ≤ ah a k) : ∃ b, fX2_isPlace σ (iI k) (iI p) = some b ∧ (b = true ↔ plA a k p) := by
  obtain ⟨-, h60, -, -, -⟩ := I.2.2.2.1 k hk
  have hs := sz_rng a k
  obtain ⟨b, hb, ib⟩ := sp_isRing H I hk
  obtain ⟨c, hc, ic⟩ := sp_hasNumber H I (z := k) (w := p) (by have := I.1; omega) (by omega)
  have hct : c = true := ic.mpr (by refine ⟨⟨by omega, by omega⟩, by omega, ?_⟩; rw [Int.toNat_natCast]; omega)
  subst hct
  have aux : ∀ (t : Int), -10 ≤ t ∧ t ≤ 100 → ∃ b2, fX2_isPlace_19 σ (iI k) (iI p) (iI t) = some b2 ∧ (b2 = true ↔ (p : Int) + szA a k ≤ t) := by
    intro t ht
    unfold fX2_isPlace_19
    rw [hc, sp_sizeIn H I hk]
    simp only [Option.bind_some]
    rw [if_pos trivial, iI_add]
    by_cases q : t < (p : Int) + szA a k
    · rw [if_pos (ylt (by omega) (by omega) q)]; exact ⟨false, rfl, (fun h => by cases h), (fun h => by omega)⟩
    · rw [if_neg (nlt (by omega) (by omega) (by omega))]; exact ⟨true, rfl, fun _ => by omega, fun _ => rfl⟩
  unfold fX2_isPlace
  rw [sp_stepCount H I hk, hb]
  simp only [Option.bind_some]
  by_cases hr : ringA a k
  · rw [if_pos (ib.mpr hr), Lm1, L1, iI_add, iI_add]
    obtain ⟨b2, hb2, i2⟩ := aux ((ah a k : Int) + 1 + -1) (by omega)
    refine ⟨b2, hb2, i2.trans ?_⟩
    unfold plA r01
    rw [cIf_pos hr]
    omega
  · rw [if_neg (fun q => hr (ib.mp q)), L1, iI_add]
    obtain ⟨b2, hb2, i2⟩ := aux ((ah a k : Int) + 1) (by omega)
    refine ⟨b2, hb2, i2.trans ?_⟩
    unfold plA r01
    rw [cIf_neg hr]
    omega
theorem sp_bop_loop (H : RepS σ a) (I : InvA a) {k : Nat} (hk : k < an a) (x : Int) : ∀ (m : Nat) (z acc lim : Int) (fu : Nat), -2 ≤ z → z ≤ 1000 - m → m ≤ 100 → lim = z + m - 1 → m < fu →
    fX2_bendOfPlace_28 σ (iI k) (iI x) (iI lim) fu (iI acc) (iI z) = some (iI (acc + bsum a k m z)) := by
  have h8 := I.1
  obtain ⟨-, h60, -, -, -⟩ := I.2.2.2.1 k hk
  intro m
  induction m with
  | zero =>
    intro z acc lim fu h1 h2 h3 h4 h7
    obtain ⟨f, rfl⟩ : ∃ f, fu = f + 1 := ⟨fu - 1, by omega⟩
    rw [fX2_bendOfPlace_28, if_pos (ylt (by omega) (by omega) (by omega)), bsum, Int.add_zero]
  | succ m ih =>
    intro z acc lim fu h1 h2 h3 h4 h7
    obtain ⟨f, rfl⟩ : ∃ f, fu = f + 1 := ⟨fu - 1, by omega⟩
    obtain ⟨c, hc, ic⟩ := sp_hasNumber H I (z := k) (w := z) (by omega) (by omega)
    rw [Int.toNat_natCast] at ic
    rw [fX2_bendOfPlace_28, if_neg (nlt (by omega) (by omega) (by omega)), hc]
    simp only [Option.bind_some]
    rw [iI_s', bsum]
    by_cases q : 0 ≤ z ∧ z ≤ ah a k
    · rw [if_pos (ic.mpr ⟨⟨by omega, by omega⟩, q⟩), cIf_pos q]
      have e1 : fX4_bendThere σ (iI k) (iI z) = some (iI (bndA a k z.toNat)) := by
        have := sp_bendThere H I hk (j := z.toNat) (by omega)
        rwa [show ((z.toNat : Nat) : Int) = z by omega] at this
      have hr := bndA_rng I hk (j := z.toNat) (by omega)
      rw [e1]
      simp only [Option.bind_some]
      rw [iI_add, ih (z + 1) (acc + bndA a k z.toNat) lim f (by omega) (by omega) (by omega) (by omega) (by omega), Int.add_assoc]
    · rw [if_neg (fun w => q (ic.mp w).2), cIf_neg q, ih (z + 1) acc lim f (by omega) (by omega) (by omega) (by omega) (by omega), Int.zero_add]
theorem sp_bendOfPlace (H : RepS σ a) (I : InvA a) {k : Nat} (hk : k < an a) {p : Nat} (hp : p ≤ ah a k) : fX2_bendOfPlace σ (iI k) (iI p) = some (iI (cIf (plA a k p) (bopA a k p) (-1))) := by
  obtain ⟨-, h60, -, -, -⟩ := I.2.2.2.1 k hk
  have hs := sz_rng a k
  obtain ⟨b, hb, ib⟩ := sp_isPlace H I hk hp
  unfold fX2_bendOfPlace
  rw [hb]
  simp only [Option.bind_some]
  by_cases h : plA a k p
  · rw [if_pos (ib.mpr h), cIf_pos h, sp_lastNumber H I hk]
    simp only [Option.bind_some]
    rw [L1, iI_add, iI_sub, L0, sp_bop_loop H I hk p (szA a k + 2) ((p : Int) - 1) 0 ((p : Int) + szA a k - 1 + 1) FU (by omega) (by omega) (by omega) (by omega) (FU_gt (by omega)), Int.zero_add]
    rfl
  · rw [if_neg (fun q => h (ib.mp q)), cIf_neg h]; rfl
def dstI (p q : Int) : Int := max ((p % 24 - q % 24).natAbs : Int) ((p / 24 - q / 24).natAbs : Int)
theorem dst_rng {p q : Int} (hp : 0 ≤ p ∧ p < 384) (hq : 0 ≤ q ∧ q < 384) : 0 ≤ dstI p q ∧ dstI p q ≤ 23 := by unfold dstI; omega
theorem sp_distance {p q : Int} (hp : 0 ≤ p ∧ p < 384) (hq : 0 ≤ q ∧ q < 384) : fX6_distance (iI p) (iI q) = some (iI (dstI p q)) := by
  unfold fX6_distance
  rw [sp_columnOf (by omega), sp_columnOf (by omega), sp_rowOf (by omega), sp_rowOf (by omega)]
  simp only [Option.bind_some]
  rw [iI_sub, iI_sub, iabs_iI (by omega), iabs_iI (by omega), imax_iI (by omega) (by omega)]
  rfl
/-- the least of some numbers, one by one -/
def minJ (f : Nat → Int) : Nat → Nat → Int → Int
  | 0, _, acc => acc
  | m + 1, j, acc => minJ f m (j + 1) (min acc (f j))
def minI (f : Nat → Nat → Int) (mj j0 : Nat) : Nat → Nat → Int → Int
  | 0, _, acc => acc
  | m + 1, i, acc => minI f mj j0 m (i + 1) (minJ (f i) mj j0 acc)
def dlA (a : Ab) (k p k2 p2 : Nat) : Int := minI (fun i j => dstI (ap a k i) (ap a k2 j)) (szA a k2) p2 (szA a k) p 99
theorem minJ_s (f : Nat → Int) (m j : Nat) (acc : Int) : minJ f (m + 1) j acc = minJ f m (j + 1) (min acc (f j)) := rfl
theorem minJ_rng (f : Nat → Int) : ∀ (m j : Nat) (acc : Int), 0 ≤ acc → acc ≤ 99 → (∀ i, j ≤ i → i < j + m → 0 ≤ f i) → 0 ≤ minJ f m j acc ∧ minJ f m j acc ≤ 99 := by
  intro m
  induction m with
  | zero => intro j acc h1 h2 _; exact ⟨h1, h2⟩
  | succ m ih =>
    intro j acc h1 h2 h3
    have := h3 j (Nat.le_refl _) (by omega)
    exact ih (j + 1) _ (by omega) (by omega) (fun i h4 h5 => h3 i (by omega) (by omega))
theorem sp_dl_in (H : RepS σ a) (I : InvA a) {k k2 : Nat} (hk : k < an a) (hk2 : k2 < an a) {i last : Nat} (hi : i ≤ ah a k) (hlast : last ≤ ah a k2) (x1 x2 x3 x4 x5 : Int32) (K : Int32 → Int32 → Option Int32) : ∀ (m j fu : Nat) (acc : Int), j + m = last + 1 → 0 ≤ acc → acc ≤ 99 → m < fu →
    fX2_distanceToLabel_51 σ x1 x2 (iI k2) x3 x4 (iI last) x5 (iI (ap a k i)) K fu (iI acc) (iI j) = K (iI (minJ (fun j => dstI (ap a k i) (ap a k2 j)) m j acc)) (x5 + 1) := by
  have h384 := (I.2.2.2.1 k hk).2.2.2.1
  have h384b := (I.2.2.2.1 k2 hk2).2.2.2.1
  have h60 := (I.2.2.2.1 k2 hk2).2.1
  intro m
  induction m with
  | zero =>
    intro j fu acc h1 h2 h3 h4
    obtain ⟨f, rfl⟩ : ∃ f, fu = f + 1 := ⟨fu - 1, by omega⟩
    rw [fX2_distanceToLabel_51, if_pos (ylt (by omega) (by omega) (by omega)), minJ]
  | succ m ih =>
    intro j fu acc h1 h2 h3 h4
    obtain ⟨f, rfl⟩ : ∃ f, fu = f + 1 := ⟨fu - 1, by omega⟩
    have e1 := h384 i hi
    have e2 := h384b j (by omega)
    have e3 := dst_rng (p := ap a k i) (q := ap a k2 j) (by omega) (by omega)
    rw [fX2_distanceToLabel_51, if_neg (nlt (by omega) (by omega) (by omega)), sp_pointAt H I hk2 (j := j) (by omega), Option.bind_some, sp_distance (p := ap a k i) (q := ap a k2 j) (by omega) (by omega), Option.bind_some, imin_iI (by omega) (by omega), iI_s, minJ_s]
    generalize dstI (ap a k i) (ap a k2 j) = D at e3
    exact ih (j + 1) f (min acc D) (by omega) (by omega) (by omega) (by omega)
theorem sp_dl_out (H : RepS σ a) (I : InvA a) {k k2 : Nat} (hk : k < an a) (hk2 : k2 < an a) {p2 last last2 : Nat} (hlast : last ≤ ah a k) (hlast2 : last2 ≤ ah a k2) (hp2 : p2 ≤ last2 + 1) (x : Int32) : ∀ (m i fu : Nat) (acc : Int), i + m = last + 1 → 0 ≤ acc → acc ≤ 99 → m < fu →
    fX2_distanceToLabel_31 σ (iI k) x (iI k2) (iI p2) (iI last) (iI last2) fu (iI acc) (iI i) = some (iI (minI (fun i j => dstI (ap a k i) (ap a k2 j)) (last2 + 1 - p2) p2 m i acc)) := by
  have h384 := (I.2.2.2.1 k hk).2.2.2.1
  have h384b := (I.2.2.2.1 k2 hk2).2.2.2.1
  have h60 := (I.2.2.2.1 k hk).2.1
  have h60b := (I.2.2.2.1 k2 hk2).2.1
  intro m
  induction m with
  | zero =>
    intro i fu acc h1 h2 h3 h4
    obtain ⟨f, rfl⟩ : ∃ f, fu = f + 1 := ⟨fu - 1, by omega⟩
    rw [fX2_distanceToLabel_31, if_pos (ylt (by omega) (by omega) (by omega))]; rfl
  | succ m ih =>
    intro i fu acc h1 h2 h3 h4
    obtain ⟨f, rfl⟩ : ∃ f, fu = f + 1 := ⟨fu - 1, by omega⟩
    have hr := minJ_rng (fun j => dstI (ap a k i) (ap a k2 j)) (last2 + 1 - p2) p2 acc h2 h3 (fun j h5 h6 => (dst_rng (by have := h384 i (by omega); omega) (by have := h384b j (by omega); omega)).1)
    rw [fX2_distanceToLabel_31, if_neg (nlt (by omega) (by omega) (by omega)), sp_pointAt H I hk (by omega)]
    simp only [Option.bind_some]
    rw [sp_dl_in H I hk hk2 (by omega) hlast2 _ _ _ _ _ _ (last2 + 1 - p2) p2 FU acc (by omega) h2 h3 (FU_gt (by omega)), iI_s, ih (i + 1) f _ (by omega) hr.1 hr.2 (by omega)]
    rfl
theorem sp_distanceToLabel (H : RepS σ a) (I : InvA a) {k k2 p : Nat} (hk : k < an a) (hk2 : k2 < an a) (hp : p + szA a k ≤ ah a k + 1) (hl : 0 ≤ ab a k2) : fX2_distanceToLabel σ (iI k) (iI p) (iI k2) = some (iI (dlA a k p k2 (ab a k2).toNat)) := by
  have h60 := (I.2.2.2.1 k hk).2.1
  have h60b := (I.2.2.2.1 k2 hk2).2.1
  have hs := sz_rng a k
  have hs2 := sz_rng a k2
  have hlb := (I.2.2.2.1 k2 hk2).2.2.1
  unfold fX2_distanceToLabel
  rw [sp_labelIn H I hk2]
  simp only [Option.bind_some]
  rw [sp_lastNumber H I hk, sp_lastNumber H I hk2]
  simp only [Option.bind_some]
  have := sp_dl_out H I hk hk2 (p2 := (ab a k2).toNat) (last := p + szA a k - 1) (last2 := (ab a k2).toNat + szA a k2 - 1) (by omega) (by omega) (by omega) (iI p) (szA a k) p FU 99 (by omega) (by omega) (by omega) (FU_gt (by omega))
  rw [show (((ab a k2).toNat : Nat) : Int) = ab a k2 by omega, show ((p + szA a k - 1 : Nat) : Int) = (p : Int) + szA a k - 1 by omega, show (((ab a k2).toNat + szA a k2 - 1 : Nat) : Int) = ab a k2 + szA a k2 - 1 by omega, show (ab a k2).toNat + szA a k2 - 1 + 1 - (ab a k2).toNat = szA a k2 by omega] at this
  exact this
end SP
