/-! rays: the steps to the right of a point, counted by both -/
abbrev crA (a : Ab) (k : Nat) (p : Nat) (i : Nat) : Prop := (rA a k (i + 1) = rA a k i + 1 ∧ rA a k i = ((p / 24 : Nat) : Int) ∧ ((p % 24 : Nat) : Int) < cA a k i) ∨ (rA a k i = rA a k (i + 1) + 1 ∧ rA a k (i + 1) = ((p / 24 : Nat) : Int) ∧ ((p % 24 : Nat) : Int) < cA a k (i + 1))
def ctA (a : Ab) (k p i : Nat) : Int := if crA a k p i then 1 else 0
theorem rc_pt {c0 r0 c1 r1 A B : Int} : rc c0 r0 c1 r1 (3 * A + 1) (3 * B + 1) ↔ (r1 = r0 + 1 ∧ r0 = B ∧ A < c0) := by
  constructor
  · rintro ⟨h, w | w | w⟩ <;> omega
  · rintro ⟨h, w1, w2⟩
    exact ⟨h, Or.inl ⟨by omega, by omega⟩⟩
theorem cn_pt (a : Ab) (k p i : Nat) : cN (cA a k) (rA a k) (3 * ((p % 24 : Nat) : Int) + 1) (3 * ((p / 24 : Nat) : Int) + 1) i = ctA a k p i := by
  rw [cN_rc]
  unfold ctA
  by_cases h : crA a k p i
  · rw [if_pos h, if_pos (h.imp rc_pt.mpr rc_pt.mpr)]
  · rw [if_neg h, if_neg (fun w => h (w.imp rc_pt.mp rc_pt.mp))]
theorem ct_rng (a : Ab) (k p i : Nat) : 0 ≤ ctA a k p i ∧ ctA a k p i ≤ 1 := by unfold ctA; split <;> omega
theorem ct_sum (a : Ab) (k p : Nat) : ∀ (m i : Nat), 0 ≤ smI (ctA a k p) m i ∧ smI (ctA a k p) m i ≤ m := by
  intro m
  induction m with
  | zero => intro i; exact ⟨Int.le_refl _, Int.le_refl _⟩
  | succ m ih =>
    intro i
    have h1 := ih (i + 1)
    have h2 := ct_rng a k p i
    rw [smI]
    omega
theorem ev_ct (a : Ab) (k p : Nat) : evA a k p ↔ smI (ctA a k p) (ah a k) 0 % 2 = 0 := by
  have e : smI (cN (cA a k) (rA a k) (3 * ((p % 24 : Nat) : Int) + 1) (3 * ((p / 24 : Nat) : Int) + 1)) (ah a k) 0 = smI (ctA a k p) (ah a k) 0 := smI_congr _ 0 (fun j _ _ => cn_pt a k p j)
  unfold evA evP
  rw [e]
def insA (a : Ab) (k p : Nat) : Prop := ringA a k ∧ ¬ onL a k p ∧ ¬ evA a k p
section RAY
variable {σ : Sh} {a : Ab}
theorem sp_71 {x1 x2 : Int32} {R C P Q u : Nat} {acc z : Int} {y : Int32} {K : Int32 → Int32 → Option Int32} (hR : R < 1000) (hC : C < 1000) (hP : P < 384) (hQ : Q < 384) (hu : u < 384) :
    fX5_stepsToTheRight_71 σ x1 x2 (iI (R : Int)) (iI (C : Int)) y K (iI acc) (iI z) (iI (P : Int)) (iI (Q : Int)) (iI (u : Int)) = if u / 24 = R ∧ P / 24 ≠ Q / 24 ∧ C < u % 24 then K (iI acc + 1) (iI z + 1) else K (iI acc) (iI z + 1) := by
  have e1 : ((u : Int) / 24) = ((u / 24 : Nat) : Int) := by omega
  have e2 : ((P : Int) / 24) = ((P / 24 : Nat) : Int) := by omega
  have e3 : ((Q : Int) / 24) = ((Q / 24 : Nat) : Int) := by omega
  have e4 : ((u : Int) % 24) = ((u % 24 : Nat) : Int) := by omega
  unfold fX5_stepsToTheRight_71
  rw [sp_rowOf (by omega), Option.bind_some, e1]
  by_cases h1 : u / 24 = R
  · rw [if_pos (by rw [h1]), sp_rowOf (by omega), Option.bind_some, sp_rowOf (by omega), Option.bind_some, e2, e3]
    by_cases h2 : P / 24 = Q / 24
    · rw [if_pos (by rw [h2]), if_neg (fun w => w.2.1 h2)]
      unfold fX5_stepsToTheRight_100
      rw [if_neg (show ¬ (false = true) from by decide)]
    · rw [if_neg (neq (by omega) (by omega) (by omega))]
      unfold fX5_stepsToTheRight_100
      rw [if_pos (rfl : true = true), sp_columnOf (by omega), Option.bind_some, e4]
      by_cases h3 : C < u % 24
      · rw [if_neg (nle (by omega) (by omega) (by omega)), if_pos ⟨h1, h2, h3⟩]
      · rw [if_pos (yle (by omega) (by omega) (by omega)), if_neg (fun w => h3 w.2.2)]
  · rw [if_neg (neq (by omega) (by omega) (by omega)), if_neg (fun w => h1 w.1)]
    unfold fX5_stepsToTheRight_100
    rw [if_neg (show ¬ (false = true) from by decide)]
/-- the upper end by rows, or by points -/
theorem up_rc (I : InvA a) {k : Nat} (hk : k < an a) {j : Nat} (hj : j < ah a k) {p u : Nat} (hu : (u = ap a k j ∨ u = ap a k (j + 1)) ∧ (ap a k j / 24 < ap a k (j + 1) / 24 → u = ap a k j) ∧ (ap a k (j + 1) / 24 < ap a k j / 24 → u = ap a k (j + 1))) :
    (u / 24 = p / 24 ∧ ap a k j / 24 ≠ ap a k (j + 1) / 24 ∧ p % 24 < u % 24) ↔ crA a k p j := by
  have s := st_c I hk hj
  have a2 := dn_rng (drA a k j)
  have q1 : ((ap a k j / 24 : Nat) : Int) = rA a k j := by unfold rA; omega
  have q2 : ((ap a k j % 24 : Nat) : Int) = cA a k j := by unfold cA; omega
  have q3 : ((ap a k (j + 1) / 24 : Nat) : Int) = rA a k (j + 1) := by unfold rA; omega
  have q4 : ((ap a k (j + 1) % 24 : Nat) : Int) = cA a k (j + 1) := by unfold cA; omega
  obtain ⟨h0, h1, h2⟩ := hu
  have s2 := s.2
  rcases Nat.lt_trichotomy (ap a k j / 24) (ap a k (j + 1) / 24) with w | w | w
  · rw [h1 w]
    constructor
    · rintro ⟨b1, b2, b3⟩; exact Or.inl ⟨by omega, by omega, by omega⟩
    · rintro (⟨b1, b2, b3⟩ | ⟨b1, b2, b3⟩)
      · exact ⟨by omega, by omega, by omega⟩
      · omega
  · constructor
    · rintro ⟨b1, b2, b3⟩; exact absurd w b2
    · rintro (⟨b1, b2, b3⟩ | ⟨b1, b2, b3⟩) <;> omega
  · rw [h2 w]
    constructor
    · rintro ⟨b1, b2, b3⟩; exact Or.inr ⟨by omega, by omega, by omega⟩
    · rintro (⟨b1, b2, b3⟩ | ⟨b1, b2, b3⟩)
      · omega
      · exact ⟨by omega, by omega, by omega⟩
theorem sp_right_loop (H : RepS σ a) (I : InvA a) {k : Nat} (hk : k < an a) {p : Nat} (hp : p < 384) (x : Int32) : ∀ (m j fu : Nat) (acc : Int), j + m = ah a k → m < fu →
    fX5_stepsToTheRight_24 σ (iI k) x (iI ((p / 24 : Nat) : Int)) (iI ((p % 24 : Nat) : Int)) (iI (ah a k)) fu (iI acc) (iI j) = some (iI (acc + smI (ctA a k p) m j)) := by
  obtain ⟨-, h60, -, h384, -⟩ := I.2.2.2.1 k hk
  intro m
  induction m with
  | zero =>
    intro j fu acc h1 h2
    obtain ⟨f, rfl⟩ : ∃ f, fu = f + 1 := ⟨fu - 1, by omega⟩
    rw [fX5_stepsToTheRight_24, if_pos (yle (by omega) (by omega) (by omega)), smI, Int.add_zero]
  | succ m ih =>
    intro j fu acc h1 h2
    obtain ⟨f, rfl⟩ : ∃ f, fu = f + 1 := ⟨fu - 1, by omega⟩
    have p1 := h384 j (by omega)
    have p2 := h384 (j + 1) (by omega)
    have e2 : ((ap a k j : Int) / 24) = ((ap a k j / 24 : Nat) : Int) := by omega
    have e3 : ((ap a k (j + 1) : Int) / 24) = ((ap a k (j + 1) / 24 : Nat) : Int) := by omega
    rw [fX5_stepsToTheRight_24, if_neg (nle (by omega) (by omega) (by omega)), sp_pointAt H I hk (j := j) (by omega), Option.bind_some, iI_s, sp_pointAt H I hk (j := j + 1) (by omega), Option.bind_some, sp_rowOf (by omega), Option.bind_some, sp_rowOf (by omega), Option.bind_some, e2, e3, smI]
    have fin : ∀ u : Nat, (u = ap a k j ∨ u = ap a k (j + 1)) ∧ (ap a k j / 24 < ap a k (j + 1) / 24 → u = ap a k j) ∧ (ap a k (j + 1) / 24 < ap a k j / 24 → u = ap a k (j + 1)) →
        fX5_stepsToTheRight_71 σ (iI k) x (iI ((p / 24 : Nat) : Int)) (iI ((p % 24 : Nat) : Int)) (iI (ah a k)) (fX5_stepsToTheRight_24 σ (iI k) x (iI ((p / 24 : Nat) : Int)) (iI ((p % 24 : Nat) : Int)) (iI (ah a k)) f) (iI acc) (iI (j : Int)) (iI (ap a k j : Int)) (iI (ap a k (j + 1) : Int)) (iI (u : Int)) = some (iI (acc + (ctA a k p j + smI (ctA a k p) m (j + 1)))) := by
      intro u hu
      have hu3 : u < 384 := by rcases hu.1 with w | w <;> omega
      rw [sp_71 (by omega) (by omega) p1 p2 hu3, iI_s, iI_s']
      have up := up_rc I hk (j := j) (by omega) (p := p) hu
      by_cases q : u / 24 = p / 24 ∧ ap a k j / 24 ≠ ap a k (j + 1) / 24 ∧ p % 24 < u % 24
      · have c1 : ctA a k p j = 1 := by unfold ctA; rw [if_pos (up.mp q)]
        rw [if_pos q, ih (j + 1) f (acc + 1) (by omega) (by omega), c1, Int.add_assoc]
      · have c1 : ctA a k p j = 0 := by unfold ctA; rw [if_neg (fun w => q (up.mpr w))]
        rw [if_neg q, ih (j + 1) f acc (by omega) (by omega), c1, Int.zero_add]
    by_cases q : ap a k (j + 1) / 24 ≤ ap a k j / 24
    · rw [if_pos (yle (by omega) (by omega) (by omega))]
      exact fin _ ⟨Or.inr rfl, fun w => by omega, fun _ => rfl⟩
    · rw [if_neg (nle (by omega) (by omega) (by omega))]
      exact fin _ ⟨Or.inl rfl, fun _ => rfl, fun w => by omega⟩
theorem and1 : ∀ m : Fin 61, ((iI (m.val : Int)) &&& (1 : Int32) = 0) ↔ m.val % 2 = 0 := by decide
theorem sp_goesRound (H : RepS σ a) (I : InvA a) {k : Nat} (hk : k < an a) {p : Nat} (hp : p < 384) : ∃ b, fX5_goesRound σ (iI k) (iI p) = some b ∧ (b = true ↔ insA a k p) := by
  have h60 := (I.2.2.2.1 k hk).2.1
  obtain ⟨b, hb, ib⟩ := sp_isRing H I hk
  obtain ⟨c, hc, ic⟩ := sp_isOn H I hk (p := p) (by omega)
  have e2 : ((p : Int) / 24) = ((p / 24 : Nat) : Int) := by omega
  have e3 : ((p : Int) % 24) = ((p % 24 : Nat) : Int) := by omega
  have e := sp_right_loop H I hk hp (iI p) (ah a k) 0 FU 0 (by omega) (FU_gt (by omega))
  have hs := ct_sum a k p (ah a k) 0
  rw [Z0, Z0', Int.zero_add] at e
  unfold fX5_goesRound insA
  rw [hb, Option.bind_some]
  by_cases hr : ringA a k
  · rw [if_pos (ib.mpr hr), hc, Option.bind_some]
    by_cases ho : onL a k p
    · rw [if_pos (ic.mpr ho)]; exact ⟨false, rfl, (fun h => by cases h), (fun h => absurd ho h.2.1)⟩
    · have e4 : fX5_stepsToTheRight σ (iI k) (iI p) = some (iI (smI (ctA a k p) (ah a k) 0)) := by
        unfold fX5_stepsToTheRight
        rw [sp_rowOf (by omega), Option.bind_some, sp_columnOf (by omega), Option.bind_some, sp_stepCount H I hk, Option.bind_some, e2, e3]
        exact e
      rw [if_neg (fun w => ho (ic.mp w)), e4, Option.bind_some]
      have a1 := and1 ⟨(smI (ctA a k p) (ah a k) 0).toNat, by omega⟩
      have e5 : (((smI (ctA a k p) (ah a k) 0).toNat : Nat) : Int) = smI (ctA a k p) (ah a k) 0 := by omega
      simp only [e5] at a1
      have ev := ev_ct a k p
      by_cases q : smI (ctA a k p) (ah a k) 0 % 2 = 0
      · rw [if_pos (a1.mpr (by omega))]; exact ⟨false, rfl, (fun h => by cases h), (fun h => absurd (ev.mpr q) h.2.2)⟩
      · rw [if_neg (fun w => q (by have := a1.mp w; omega))]; exact ⟨true, rfl, (fun _ => ⟨hr, ho, fun w => q (ev.mp w)⟩), (fun _ => rfl)⟩
  · rw [if_neg (fun w => hr (ib.mp w))]; exact ⟨false, rfl, (fun h => by cases h), (fun h => absurd h.1 hr)⟩
theorem b2i_eq (b c : Bool) : (b2i b = b2i c) ↔ b = c := by cases b <;> cases c <;> decide
theorem own_uniq (I : InvA a) {k i : Nat} (hk : k < an a) (hi : i < an a) {p : Int} (h1 : onL a k p) (h2 : onL a i p) : i = k := by
  obtain ⟨j, hj, e1⟩ := h1
  obtain ⟨j', hj', e2⟩ := h2
  exact I.2.2.2.2.2 i k j' j hi hk hj' hj (by omega)
end RAY
