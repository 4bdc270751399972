/-! points within, told by the steps to the left from the row above -/
abbrev glA (a : Ab) (k : Nat) (p : Nat) (i : Nat) : Prop := (rA a k (i + 1) = rA a k i + 1 ∧ rA a k (i + 1) = ((p / 24 : Nat) : Int) ∧ cA a k (i + 1) < ((p % 24 : Nat) : Int)) ∨ (rA a k i = rA a k (i + 1) + 1 ∧ rA a k i = ((p / 24 : Nat) : Int) ∧ cA a k i < ((p % 24 : Nat) : Int))
def gtA (a : Ab) (k p i : Nat) : Int := if glA a k p i then 1 else 0
def abA (a : Ab) (k p i : Nat) : Int := if rA a k i < ((p / 24 : Nat) : Int) ∨ (rA a k i = ((p / 24 : Nat) : Int) ∧ ((p % 24 : Nat) : Int) < cA a k i) then 1 else 0
theorem if01 {P : Prop} [Decidable P] : ((if P then (1 : Int) else 0) = 1 ∧ P) ∨ ((if P then (1 : Int) else 0) = 0 ∧ ¬ P) := by
  by_cases h : P
  · exact Or.inl ⟨if_pos h, h⟩
  · exact Or.inr ⟨if_neg h, h⟩
theorem ab_or (a : Ab) (k p i : Nat) : (abA a k p i = 1 ∧ (rA a k i < ((p / 24 : Nat) : Int) ∨ (rA a k i = ((p / 24 : Nat) : Int) ∧ ((p % 24 : Nat) : Int) < cA a k i))) ∨ (abA a k p i = 0 ∧ ¬ (rA a k i < ((p / 24 : Nat) : Int) ∨ (rA a k i = ((p / 24 : Nat) : Int) ∧ ((p % 24 : Nat) : Int) < cA a k i))) := if01
section WL
variable {ν : Nat → Int32} {ζ : Nat → Int64} {ψ θ : Nat → Int32} {a : Ab} {cap : Nat}
theorem cr_ne {k p i : Nat} (h : ap a k i ≠ p) : ¬ (rA a k i = ((p / 24 : Nat) : Int) ∧ cA a k i = ((p % 24 : Nat) : Int)) := by
  rintro ⟨h1, h2⟩
  have := ap_cr a k i
  omega
theorem lr_par (I : InvA a) {k : Nat} (hk : k < an a) {p : Nat} (hr : ringA a k) (ho : ¬ onL a k p) : (smI (ctA a k p) (ah a k) 0 + smI (gtA a k p) (ah a k) 0) % 2 = 0 := by
  have e := par_sum (f := ctA a k p) (g := gtA a k p) (h := abA a k p) (k := fun _ => 0) (ah a k) (fun i hi => by
    obtain ⟨s1, s2⟩ := st_c I hk hi
    have r1 := ac_rng (drA a k i)
    have r2 := dn_rng (drA a k i)
    have n1 := cr_ne (a := a) (k := k) (p := p) (i := i) (fun q => ho ⟨i, by omega, by omega⟩)
    have n2 := cr_ne (a := a) (k := k) (p := p) (i := i + 1) (fun q => ho ⟨i + 1, by omega, by omega⟩)
    have F1 : (ctA a k p i = 1 ∧ ((rA a k (i + 1) = rA a k i + 1 ∧ rA a k i = ((p / 24 : Nat) : Int) ∧ ((p % 24 : Nat) : Int) < cA a k i) ∨ (rA a k i = rA a k (i + 1) + 1 ∧ rA a k (i + 1) = ((p / 24 : Nat) : Int) ∧ ((p % 24 : Nat) : Int) < cA a k (i + 1)))) ∨ (ctA a k p i = 0 ∧ ¬ ((rA a k (i + 1) = rA a k i + 1 ∧ rA a k i = ((p / 24 : Nat) : Int) ∧ ((p % 24 : Nat) : Int) < cA a k i) ∨ (rA a k i = rA a k (i + 1) + 1 ∧ rA a k (i + 1) = ((p / 24 : Nat) : Int) ∧ ((p % 24 : Nat) : Int) < cA a k (i + 1)))) := if01 (P := crA a k p i)
    have F2 : (gtA a k p i = 1 ∧ ((rA a k (i + 1) = rA a k i + 1 ∧ rA a k (i + 1) = ((p / 24 : Nat) : Int) ∧ cA a k (i + 1) < ((p % 24 : Nat) : Int)) ∨ (rA a k i = rA a k (i + 1) + 1 ∧ rA a k i = ((p / 24 : Nat) : Int) ∧ cA a k i < ((p % 24 : Nat) : Int)))) ∨ (gtA a k p i = 0 ∧ ¬ ((rA a k (i + 1) = rA a k i + 1 ∧ rA a k (i + 1) = ((p / 24 : Nat) : Int) ∧ cA a k (i + 1) < ((p % 24 : Nat) : Int)) ∨ (rA a k i = rA a k (i + 1) + 1 ∧ rA a k i = ((p / 24 : Nat) : Int) ∧ cA a k i < ((p % 24 : Nat) : Int)))) := if01 (P := glA a k p i)
    have F3 := ab_or a k p i
    have F4 := ab_or a k p (i + 1)
    rcases F1 with ⟨e1, w1⟩ | ⟨e1, w1⟩ <;> rcases F2 with ⟨e2, w2⟩ | ⟨e2, w2⟩ <;> rcases F3 with ⟨e3, w3⟩ | ⟨e3, w3⟩ <;> rcases F4 with ⟨e4, w4⟩ | ⟨e4, w4⟩ <;> omega)
  rw [smI_zero] at e
  have ez : abA a k p (ah a k) = abA a k p 0 := by unfold abA rA cA; rw [hr.2]
  rw [ez] at e
  have h2 := ab_or a k p 0
  omega
theorem sl_within_loop (H : RepL ν ζ a) (I : InvA a) {k : Nat} (hk : k < an a) (P : RepP ψ a k) {p : Nat} (hp : p < 384) : ∀ (m j fu : Nat) (b : Bool) (acc : Int), j + m = ah a k → m < fu → (b = true ↔ acc % 2 = 1) →
    ∃ b', fL_isWithin_6 ν ψ (iI k) (iI p) fu b (iI j) = some b' ∧ (b' = true ↔ ringA a k ∧ (∀ i, j ≤ i → i < ah a k → ap a k i ≠ p) ∧ (acc + smI (gtA a k p) m j) % 2 = 1) := by
  have h6 := h60 I hk
  intro m
  induction m with
  | zero =>
    intro j fu b acc h1 h2 h3
    obtain ⟨f, rfl⟩ : ∃ f, fu = f + 1 := ⟨fu - 1, by omega⟩
    obtain ⟨c, hc, ic⟩ := sl_closed H I hk P
    rw [fL_isWithin_6, if_pos (l_i2 (k8 I hk)).1, l_st H I hk, if_pos (yle (by omega) (by omega) (by omega)), smI, Int.add_zero]
    cases b with
    | true =>
      rw [if_pos rfl, hc, Option.bind_some]
      by_cases q : ringA a k
      · rw [if_pos (ic.mpr q)]; exact ⟨true, rfl, fun _ => ⟨q, fun i hi1 hi2 => by omega, h3.mp rfl⟩, fun _ => rfl⟩
      · rw [if_neg (fun w => q (ic.mp w))]; exact ⟨false, rfl, (fun w => by cases w), (fun w => absurd w.1 q)⟩
    | false =>
      rw [if_neg nft]; exact ⟨false, rfl, (fun w => by cases w), (fun w => absurd (h3.mpr w.2.2) nft)⟩
  | succ m ih =>
    intro j fu b acc h1 h2 h3
    obtain ⟨f, rfl⟩ : ∃ f, fu = f + 1 := ⟨fu - 1, by omega⟩
    have p1 := p384 I hk (j := j) (by omega)
    have p2 := p384 I hk (j := j + 1) (by omega)
    rw [fL_isWithin_6, if_pos (l_i2 (k8 I hk)).1, l_st H I hk, if_neg (nle (by omega) (by omega) (by omega)), if_pos (inR_iI (by omega) (by omega) (by omega)), tnN (by omega), P j (by omega)]
    by_cases c0 : ap a k j = p
    · rw [if_pos (by rw [c0])]; exact ⟨false, rfl, (fun w => by cases w), (fun w => absurd c0 (w.2.1 j (Nat.le_refl _) (by omega)))⟩
    · rw [if_neg (neq (by omega) (by omega) (by omega)), iI_s, if_pos (inR_iI (by omega) (by omega) (by omega)), tnN (by omega), P (j + 1) (by omega), L24, iI_div (by omega) (by omega), iI_div (by omega) (by omega)]
      have fin : ∀ (t : Bool), (t = true ↔ glA a k p j) → ∃ b', fL_isWithin_110 ν ψ (iI k) (iI p) (fL_isWithin_6 ν ψ (iI k) (iI p) f) b (iI j) t = some b' ∧ (b' = true ↔ ringA a k ∧ (∀ i, j ≤ i → i < ah a k → ap a k i ≠ p) ∧ (acc + smI (gtA a k p) (m + 1) j) % 2 = 1) := by
        intro t ht
        have go : ∀ (b2 : Bool) (x : Int), gtA a k p j = x → (b2 = true ↔ (acc + x) % 2 = 1) → ∃ b', fL_isWithin_6 ν ψ (iI k) (iI p) f b2 (iI ((j + 1 : Nat) : Int)) = some b' ∧ (b' = true ↔ ringA a k ∧ (∀ i, j ≤ i → i < ah a k → ap a k i ≠ p) ∧ (acc + smI (gtA a k p) (m + 1) j) % 2 = 1) := by
          intro b2 x hx hb
          obtain ⟨b', g1, g2⟩ := ih (j + 1) f b2 (acc + x) (by omega) (by omega) hb
          refine ⟨b', g1, g2.trans ?_⟩
          rw [smI, hx, Int.add_assoc]
          refine and_congr Iff.rfl (and_congr ⟨fun w i hi1 hi2 => ?_, fun w i hi1 hi2 => w i (by omega) hi2⟩ Iff.rfl)
          rcases Nat.lt_or_ge j i with z | z
          · exact w i z hi2
          · rw [show i = j by omega]; exact c0
        unfold fL_isWithin_110
        rw [iI_s]
        cases t with
        | true =>
          have hg : gtA a k p j = 1 := if_pos (ht.mp rfl)
          rw [if_pos rfl]
          cases b with
          | true => rw [if_pos rfl]; exact go false 1 hg ⟨(fun w => by cases w), (fun w => by have := h3.mp rfl; omega)⟩
          | false =>
            have h4 : ¬ acc % 2 = 1 := fun w => nft (h3.mpr w)
            rw [if_neg nft]; exact go true 1 hg ⟨(fun _ => by omega), (fun _ => rfl)⟩
        | false =>
          have hg : gtA a k p j = 0 := if_neg (fun w => nft (ht.mpr w))
          rw [if_neg nft]; exact go b 0 hg (by rw [Int.add_zero]; exact h3)
      obtain ⟨s1, s2⟩ := st_c I hk (j := j) (by omega)
      have r2 := dn_rng (drA a k j)
      have q1 := ap_cr a k j
      have q2 := ap_cr a k (j + 1)
      have mid : ∀ u : Nat, u < 384 → ((ap a k j / 24 ≤ ap a k (j + 1) / 24 ∧ u = ap a k (j + 1)) ∨ (ap a k (j + 1) / 24 < ap a k j / 24 ∧ u = ap a k j)) → ∃ b', fL_isWithin_60 ν ψ (iI k) (iI p) (fL_isWithin_6 ν ψ (iI k) (iI p) f) b (iI j) (iI u) = some b' ∧ (b' = true ↔ ringA a k ∧ (∀ i, j ≤ i → i < ah a k → ap a k i ≠ p) ∧ (acc + smI (gtA a k p) (m + 1) j) % 2 = 1) := by
        intro u hu hh
        unfold fL_isWithin_60
        rw [if_pos (inR_iI (by omega) (by omega) (by omega)), iI_s, if_pos (inR_iI (by omega) (by omega) (by omega)), tnN (by omega), tnN (by omega), P j (by omega), P (j + 1) (by omega), L24, iI_div (by omega) (by omega), iI_div (by omega) (by omega), iI_div (by omega) (by omega), iI_div (by omega) (by omega), iI_irm (by omega) (by omega), iI_irm (by omega) (by omega)]
        by_cases w1 : ap a k j / 24 = ap a k (j + 1) / 24
        · rw [if_pos (by exact congrArg iI (by omega))]; exact fin false ⟨(fun w => by cases w), (fun w => by omega)⟩
        · rw [if_neg (neq (by omega) (by omega) (by omega))]
          by_cases w2 : u / 24 = p / 24
          · rw [if_pos (by exact congrArg iI (by omega))]
            by_cases w3 : p % 24 ≤ u % 24
            · rw [if_pos (yle (by omega) (by omega) (by omega))]; exact fin false ⟨(fun w => by cases w), (fun w => by omega)⟩
            · rw [if_neg (nle (by omega) (by omega) (by omega))]; exact fin true ⟨(fun _ => by omega), (fun _ => rfl)⟩
          · rw [if_neg (neq (by omega) (by omega) (by omega))]; exact fin false ⟨(fun w => by cases w), (fun w => by omega)⟩
      by_cases c1 : ap a k j / 24 ≤ ap a k (j + 1) / 24
      · rw [if_pos (yle (by omega) (by omega) (by omega))]; exact mid _ p2 (Or.inl ⟨c1, rfl⟩)
      · rw [if_neg (nle (by omega) (by omega) (by omega))]; exact mid _ p1 (Or.inr ⟨by omega, rfl⟩)
theorem sl_within (H : RepL ν ζ a) (I : InvA a) {k : Nat} (hk : k < an a) (P : RepP ψ a k) {p : Nat} (hp : p < 384) : ∃ b, fL_isWithin ν ψ (iI k) (iI p) = some b ∧ (b = true ↔ insA a k p) := by
  have h6 := h60 I hk
  obtain ⟨b, e, hb⟩ := sl_within_loop H I hk P hp (ah a k) 0 FU false 0 (by omega) (FU_gt (by omega)) ⟨(fun w => by cases w), (fun w => by omega)⟩
  rw [Z0] at e
  refine ⟨b, e, hb.trans ?_⟩
  unfold insA
  rw [ev_ct, Int.zero_add]
  constructor
  · rintro ⟨g1, g2, g3⟩
    have ho : ¬ onL a k p := by
      rintro ⟨j, hj, hjp⟩
      have h4 := g1.1
      rcases Nat.lt_or_ge j (ah a k) with w | w
      · exact g2 j (Nat.zero_le _) w (by omega)
      · obtain rfl : j = ah a k := by omega
        exact g2 0 (Nat.le_refl _) (by omega) (by rw [← g1.2]; omega)
    have := lr_par I hk g1 ho
    exact ⟨g1, ho, by omega⟩
  · rintro ⟨g1, g2, g3⟩
    have := lr_par I hk g1 g2
    exact ⟨g1, fun i _ hi q => g2 ⟨i, by omega, by omega⟩, by omega⟩
end WL
