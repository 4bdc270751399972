/-! the owner of a point; reasons against a step -/
theorem cIf_same {α : Type} {P : Prop} {x : α} : cIf P x x = x := by
  by_cases h : P
  · rw [cIf_pos h]
  · rw [cIf_neg h]
theorem cIf_congr {α : Type} {P Q : Prop} {x y : α} (h : P ↔ Q) : cIf P x y = cIf Q x y := by rw [propext h]
def ownR (a : Ab) (p r : Int) : Prop := (r = -1 ∧ ∀ i, i < an a → ¬ onL a i p) ∨ ∃ i : Nat, i < an a ∧ r = i ∧ onL a i p
section SO
variable {ν : Nat → Int32} {ζ : Nat → Int64} {ψ θ : Nat → Int32} {a : Ab} {cap : Nat}
theorem sl_own_in (H : RepL ν ζ a) (I : InvA a) {k : Nat} (hk : k < an a) (P : RepP ψ a k) {p : Int} (hp : -1 ≤ p ∧ p < 10000) (K : Int32 → Int32 → (Nat → Int32) → Nat → Option Int32) : ∀ (m j fu : Nat) (z : Int) (n : Nat), j + m = ah a k + 1 → m < fu →
    fL_owner_31 cap ν ζ (iI p) (iI k) ψ K fu (iI z) (iI j) n = K (iI (cIf (∃ i, j ≤ i ∧ i ≤ ah a k ∧ (ap a k i : Int) = p) (k : Int) z)) (iI ((k + 1 : Nat) : Int)) ψ n := by
  have h6 := h60 I hk
  intro m
  induction m with
  | zero =>
    intro j fu z n h1 h2
    obtain ⟨f, rfl⟩ : ∃ f, fu = f + 1 := ⟨fu - 1, by omega⟩
    rw [fL_owner_31, if_pos (l_i2 (k8 I hk)).1, l_st H I hk, if_pos (ylt (by omega) (by omega) (by omega)), iI_s, cIf_neg (fun ⟨i, q1, q2, _⟩ => by omega)]
  | succ m ih =>
    intro j fu z n h1 h2
    obtain ⟨f, rfl⟩ : ∃ f, fu = f + 1 := ⟨fu - 1, by omega⟩
    have hj := p384 I hk (j := j) (by omega)
    rw [fL_owner_31, if_pos (l_i2 (k8 I hk)).1, l_st H I hk, if_neg (nlt (by omega) (by omega) (by omega)), if_pos (inR_iI (by omega) (by omega) (by omega)), tnN (by omega), P j (by omega), iI_s]
    by_cases q : (ap a k j : Int) = p
    · rw [if_pos (by rw [q]), ih (j + 1) f k n (by omega) (by omega), cIf_same, cIf_pos ⟨j, Nat.le_refl _, by omega, q⟩]
    · rw [if_neg (neq (by omega) (by omega) q), ih (j + 1) f z n (by omega) (by omega)]
      congr 2
      exact cIf_congr ⟨fun ⟨i, q1, q2, q3⟩ => ⟨i, by omega, q2, q3⟩, fun ⟨i, q1, q2, q3⟩ => ⟨i, (by
        rcases Nat.lt_or_ge j i with w | w
        · exact w
        · exact absurd (by rw [show j = i by omega]; exact q3) q), q2, q3⟩⟩
theorem sl_own_loop (H : RepL ν ζ a) (I : InvA a) {p : Int} (hp : -1 ≤ p ∧ p < 10000) : ∀ (m k fu : Nat) (z : Int) (ψ : Nat → Int32) (n : Nat), k + m = an a → m < fu → ((z = -1 ∧ ∀ i, i < k → ¬ onL a i p) ∨ ∃ i : Nat, i < k ∧ z = i ∧ onL a i p) →
    ∃ r : Int, fL_owner_11 cap ν ζ (iI p) fu (iI z) (iI k) ψ n = some (iI r) ∧ ownR a p r := by
  have h8 := I.1
  intro m
  induction m with
  | zero =>
    intro k fu z ψ n h1 h2 h3
    obtain ⟨f, rfl⟩ : ∃ f, fu = f + 1 := ⟨fu - 1, by omega⟩
    refine ⟨z, ?_, ?_⟩
    · rw [fL_owner_11, l_n H, if_pos (yle (by omega) (by omega) (by omega))]
    · obtain rfl : k = an a := by omega
      exact h3
  | succ m ih =>
    intro k fu z ψ n h1 h2 h3
    obtain ⟨f, rfl⟩ : ∃ f, fu = f + 1 := ⟨fu - 1, by omega⟩
    have hk : k < an a := by omega
    obtain ⟨ψ', hw, P⟩ := sl_walks H I hk ψ
    have h6 := h60 I hk
    have e := sl_own_in (cap := cap) H I hk P hp (fL_owner_11 cap ν ζ (iI p) f) (ah a k + 1) 0 FU z n (by omega) (FU_gt (by omega))
    rw [Z0] at e
    rw [fL_owner_11, l_n H, if_neg (nle (by omega) (by omega) (by omega)), hw, Option.bind_some, e]
    refine ih (k + 1) f _ _ _ (by omega) (by omega) ?_
    by_cases q : onL a k p
    · obtain ⟨j, q1, q2⟩ := q
      rw [cIf_pos ⟨j, Nat.zero_le _, q1, q2⟩]
      exact Or.inr ⟨k, by omega, rfl, j, q1, q2⟩
    · rw [cIf_neg (fun ⟨i, _, q1, q2⟩ => q ⟨i, q1, q2⟩)]
      rcases h3 with ⟨g1, g2⟩ | ⟨i, g1, g2, g3⟩
      · exact Or.inl ⟨g1, fun i hi => by
          rcases Nat.lt_or_ge i k with w | w
          · exact g2 i w
          · rw [show i = k by omega]; exact q⟩
      · exact Or.inr ⟨i, by omega, g2, g3⟩
theorem sl_owner (H : RepL ν ζ a) (I : InvA a) {p : Int} (hp : -1 ≤ p ∧ p < 10000) (hc : 1 ≤ cap) : ∃ r : Int, fL_owner cap ν ζ (iI p) = some (iI r) ∧ ownR a p r := by
  have e := sl_own_loop (cap := cap) H I hp (an a) 0 FU (-1) (fun _ => (0 : Int32)) (0 + 1) (by omega) (FU_gt (by have := I.1; omega)) (Or.inl ⟨rfl, fun i hi => by omega⟩)
  rw [Z0, Zm1] at e
  unfold fL_owner
  rw [if_pos (by omega)]
  exact e
/-- a slanting step with the same middle is the step across -/
theorem mid_cross (I : InvA a) {k : Nat} (hk : k < an a) {d : Int} (hd : 0 ≤ d ∧ d ≤ 7) (ho : d % 2 = 1) (hr : ¬ ringA a k) {t : Int} (ht : t = ap a k (ah a k) + 24 * dnI d + acI d) (h4 : (∃ k', k' < an a ∧ onL a k' t) → 3 ≤ ah a k ∧ t = ap a k 0) {i j : Nat} (hi : i < an a) (hj : j < ah a i) :
    (drA a i j % 2 = 1 ∧ (ap a i j : Int) + ap a i (j + 1) = ap a k (ah a k) + t) ↔ jnA a i ((ap a k (ah a k) : Int) + acI d) ((ap a k (ah a k) : Int) + 24 * dnI d) j := by
  have g := dr_all a i j
  have en := ap_next I hi hj
  have o1 := (ac_odd hd).1.mp ho
  have r1 := ac_rng d
  have r2 := dn_rng d
  have inj := I.2.2.2.2.1 k
  have dis := I.2.2.2.2.2
  constructor
  · rintro ⟨g1, g2⟩
    have o2 := (ac_odd g).1.mp g1
    have s1 := ac_rng (drA a i j)
    have s2 := dn_rng (drA a i j)
    unfold jnA
    by_cases c1 : acI (drA a i j) = acI d
    · by_cases c2 : dnI (drA a i j) = dnI d
      · exfalso
        have e1 : ap a i j = ap a k (ah a k) := by omega
        have e2 : (ap a i (j + 1) : Int) = t := by omega
        have e3 : i = k := dis i k j (ah a k) hi hk (by omega) (Nat.le_refl _) e1
        subst e3
        have e4 := inj j (ah a i) hi hj (Nat.le_refl _) e1
        exact hr ⟨e4.2.2, by rw [← e1, e4.1]⟩
      · exact Or.inr ⟨by omega, by omega⟩
    · by_cases c2 : dnI (drA a i j) = dnI d
      · exact Or.inl ⟨by omega, by omega⟩
      · exfalso
        have e1 : ap a i (j + 1) = ap a k (ah a k) := by omega
        have e2 : (ap a i j : Int) = t := by omega
        have e3 : i = k := dis i k (j + 1) (ah a k) hi hk (by omega) (Nat.le_refl _) e1
        subst e3
        obtain ⟨q1, q2⟩ := h4 ⟨i, hi, j, by omega, e2⟩
        rcases Nat.lt_or_ge (j + 1) (ah a i) with w | w
        · have := inj (j + 1) (ah a i) hi w (Nat.le_refl _) e1; omega
        · have e5 : ap a i 0 = ap a i j := by omega
          have := inj 0 j hi (by omega) (by omega) e5; omega
  · intro q
    unfold jnA at q
    have hz : (ap a i (j + 1) : Int) - ap a i j = 25 ∨ (ap a i (j + 1) : Int) - ap a i j = -25 ∨ (ap a i (j + 1) : Int) - ap a i j = 23 ∨ (ap a i (j + 1) : Int) - ap a i j = -23 := by omega
    refine ⟨?_, by omega⟩
    unfold drA
    rcases hz with h | h | h | h
    · rw [h]; decide
    · rw [h]; decide
    · rw [h]; decide
    · have hs := stp_dir ((I.2.2.2.1 i hi).2.2.2.2 j hj)
      rw [h]; decide
theorem sl_why_in (H : RepL ν ζ a) (I : InvA a) {i : Nat} (hi : i < an a) (P : RepP ψ a i) {d p t : Int} (hd : 0 ≤ d ∧ d ≤ 7) (hp : 0 ≤ p ∧ p < 384) (ht : 0 ≤ t ∧ t < 384) (x : Int32) (K : Bool → Int32 → (Nat → Int32) → Nat → Option Int32) : ∀ (m j fu : Nat) (b : Bool) (n : Nat), j + m = ah a i → m < fu →
    ∃ b', fL_why_161 cap ν ζ x (iI d) (iI p) (iI t) (iI i) ψ K fu b (iI j) n = K b' (iI ((i + 1 : Nat) : Int)) ψ n ∧ (b' = true ↔ b = true ∨ ∃ y, j ≤ y ∧ y < ah a i ∧ d % 2 = 1 ∧ drA a i y % 2 = 1 ∧ (ap a i y : Int) + ap a i (y + 1) = p + t) := by
  have h6 := h60 I hi
  intro m
  induction m with
  | zero =>
    intro j fu b n h1 h2
    obtain ⟨f, rfl⟩ : ∃ f, fu = f + 1 := ⟨fu - 1, by omega⟩
    refine ⟨b, ?_, ⟨Or.inl, fun q => q.elim id (fun ⟨y, q1, q2, _⟩ => by omega)⟩⟩
    rw [fL_why_161, if_pos (l_i2 (k8 I hi)).1, l_st H I hi, if_pos (yle (by omega) (by omega) (by omega)), iI_s]
  | succ m ih =>
    intro j fu b n h1 h2
    obtain ⟨f, rfl⟩ : ∃ f, fu = f + 1 := ⟨fu - 1, by omega⟩
    have e1 := p384 I hi (j := j) (by omega)
    have e2 := p384 I hi (j := j + 1) (by omega)
    have g := dr_all a i j
    have skip : ∀ b2 : Bool, (¬ (d % 2 = 1 ∧ drA a i j % 2 = 1 ∧ (ap a i j : Int) + ap a i (j + 1) = p + t)) → b2 = b →
        ∃ b', fL_why_161 cap ν ζ x (iI d) (iI p) (iI t) (iI i) ψ K f b2 (iI ((j + 1 : Nat) : Int)) n = K b' (iI ((i + 1 : Nat) : Int)) ψ n ∧ (b' = true ↔ b = true ∨ ∃ y, j ≤ y ∧ y < ah a i ∧ d % 2 = 1 ∧ drA a i y % 2 = 1 ∧ (ap a i y : Int) + ap a i (y + 1) = p + t) := by
      intro b2 hn hb
      subst hb
      obtain ⟨b', g1, g2⟩ := ih (j + 1) f b2 n (by omega) (by omega)
      refine ⟨b', g1, g2.trans ⟨fun q => q.elim Or.inl (fun ⟨y, q1, q2, q3⟩ => Or.inr ⟨y, by omega, q2, q3⟩), fun q => q.elim Or.inl (fun ⟨y, q1, q2, q3⟩ => Or.inr ⟨y, ?_, q2, q3⟩)⟩⟩
      rcases Nat.lt_or_ge j y with w | w
      · exact w
      · exact absurd (by rw [show j = y by omega]; exact q3) hn
    have hit : (b = true ∨ (d % 2 = 1 ∧ drA a i j % 2 = 1 ∧ (ap a i j : Int) + ap a i (j + 1) = p + t)) →
        ∃ b', fL_why_161 cap ν ζ x (iI d) (iI p) (iI t) (iI i) ψ K f true (iI ((j + 1 : Nat) : Int)) n = K b' (iI ((i + 1 : Nat) : Int)) ψ n ∧ (b' = true ↔ b = true ∨ ∃ y, j ≤ y ∧ y < ah a i ∧ d % 2 = 1 ∧ drA a i y % 2 = 1 ∧ (ap a i y : Int) + ap a i (y + 1) = p + t) := by
      intro hh
      obtain ⟨b', g1, g2⟩ := ih (j + 1) f true n (by omega) (by omega)
      exact ⟨b', g1, ⟨fun _ => hh.elim Or.inl (fun w => Or.inr ⟨j, Nat.le_refl _, by omega, w⟩), fun _ => g2.mpr (Or.inl rfl)⟩⟩
    rw [fL_why_161, if_pos (l_i2 (k8 I hi)).1, l_st H I hi, if_neg (nle (by omega) (by omega) (by omega)), iI_s]
    cases b with
    | true => rw [if_pos rfl]; exact hit (Or.inl rfl)
    | false =>
      rw [if_neg nft]
      by_cases c1 : d % 2 = 1
      · rw [if_pos ((sm_slant hd).mpr c1), sl_dir H I hi (by omega), Option.bind_some]
        by_cases c2 : drA a i j % 2 = 1
        · rw [if_pos ((sm_slant g).mpr c2), if_pos (inR_iI (by omega) (by omega) (by omega)), if_pos (inR_iI (by omega) (by omega) (by omega)), tnN (by omega), tnN (by omega), P j (by omega), P (j + 1) (by omega), iI_add, iI_add]
          by_cases c3 : (ap a i j : Int) + ap a i (j + 1) = p + t
          · rw [if_pos (by rw [c3])]; exact hit (Or.inr ⟨c1, c2, c3⟩)
          · rw [if_neg (neq (by omega) (by omega) c3)]; exact skip false (fun w => c3 w.2.2) rfl
        · rw [if_neg (fun w => c2 ((sm_slant g).mp w))]; exact skip false (fun w => c2 w.2.1) rfl
      · rw [if_neg (fun w => c1 ((sm_slant hd).mp w))]; exact skip false (fun w => c1 w.1) rfl
theorem sl_why_out (H : RepL ν ζ a) (I : InvA a) {d p t : Int} (hd : 0 ≤ d ∧ d ≤ 7) (hp : 0 ≤ p ∧ p < 384) (ht : 0 ≤ t ∧ t < 384) (x : Int32) : ∀ (m i fu : Nat) (b : Bool) (ψ : Nat → Int32) (n : Nat), i + m = an a → m < fu →
    fL_why_140 cap ν ζ x (iI d) (iI p) (iI t) fu b (iI i) ψ n = some (iI (cIf (b = true ∨ ∃ k y, i ≤ k ∧ k < an a ∧ y < ah a k ∧ d % 2 = 1 ∧ drA a k y % 2 = 1 ∧ (ap a k y : Int) + ap a k (y + 1) = p + t) 5 0)) := by
  have h8 := I.1
  intro m
  induction m with
  | zero =>
    intro i fu b ψ n h1 h2
    obtain ⟨f, rfl⟩ : ∃ f, fu = f + 1 := ⟨fu - 1, by omega⟩
    rw [fL_why_140, l_n H, if_pos (yle (by omega) (by omega) (by omega))]
    cases b with
    | true => rw [if_pos rfl, cIf_pos (Or.inl rfl)]; rfl
    | false => rw [if_neg nft, cIf_neg (fun q => q.elim nft (fun ⟨k, y, q1, q2, _⟩ => by omega))]; rfl
  | succ m ih =>
    intro i fu b ψ n h1 h2
    obtain ⟨f, rfl⟩ : ∃ f, fu = f + 1 := ⟨fu - 1, by omega⟩
    have hi : i < an a := by omega
    obtain ⟨ψ', hw, P⟩ := sl_walks H I hi ψ
    have h6 := h60 I hi
    obtain ⟨b', e, eb⟩ := sl_why_in (cap := cap) H I hi P hd hp ht x (fL_why_140 cap ν ζ x (iI d) (iI p) (iI t) f) (ah a i) 0 FU b n (by omega) (FU_gt (by omega))
    rw [Z0] at e
    rw [fL_why_140, l_n H, if_neg (nle (by omega) (by omega) (by omega)), hw, Option.bind_some, e, ih (i + 1) f b' ψ' n (by omega) (by omega)]
    congr 2
    refine cIf_congr ⟨fun q => ?_, fun q => ?_⟩
    · rcases q with q | ⟨k, y, q1, q2⟩
      · rcases eb.mp q with w | ⟨y, w1, w2, w3⟩
        · exact Or.inl w
        · exact Or.inr ⟨i, y, Nat.le_refl _, hi, w2, w3⟩
      · exact Or.inr ⟨k, y, by omega, q2⟩
    · rcases q with q | ⟨k, y, q1, q2, q3⟩
      · exact Or.inl (eb.mpr (Or.inl q))
      · rcases Nat.lt_or_ge i k with w | w
        · exact Or.inr ⟨k, y, w, q2, q3⟩
        · obtain rfl : i = k := by omega
          exact Or.inl (eb.mpr (Or.inr ⟨y, Nat.zero_le _, q3⟩))
theorem sl_why (H : RepL ν ζ a) (I : InvA a) {k : Nat} (hk : k < an a) {d : Int} (hd : 0 ≤ d ∧ d ≤ 7) (hc : 2 ≤ cap) : fL_why cap ν ζ (iI k) (iI d) = some (iI (whyA a k d)) := by
  have h6 := h60 I hk
  have h8 := I.1
  obtain ⟨ψ, hw, P⟩ := sl_walks H I hk (fun _ => (0 : Int32))
  obtain ⟨b, hb, ib⟩ := sl_closed H I hk P
  have hp := p384 I hk (Nat.le_refl _)
  have hp0 := p384 I hk (Nat.zero_le _)
  have r1 := ac_rng d
  have r2 := dn_rng d
  have e0 : ψ (Int32.toNatClampNeg (0 : Int32)) = iI (ap a k 0 : Int) := P 0 (Nat.zero_le _)
  unfold fL_why whyA
  rw [if_pos (show 0 + 1 ≤ cap by omega), hw, Option.bind_some, if_pos (l_i2 (k8 I hk)).1, hb, Option.bind_some, l_st H I hk]
  by_cases hr : ringA a k
  · rw [if_pos (ib.mpr hr), cIf_pos hr]; rfl
  rw [if_neg (fun q => hr (ib.mp q)), cIf_neg hr, L60]
  by_cases h60' : ah a k = 60
  · rw [if_pos (by rw [h60']; rfl), cIf_pos h60']; rfl
  rw [if_neg (neq (by omega) (by omega) (by omega)), cIf_neg h60', if_pos (inR_iI (by omega) (by omega) (by omega)), sl_right hd, Option.bind_some, Option.bind_some, sl_below hd, Option.bind_some, tnN (by omega), P _ (Nat.le_refl _), e0, L24, iI_irm (by omega) (by omega), iI_add, iI_mul, iI_add, iI_add, L0, L23, L383]
  generalize hpp : ap a k (ah a k) = p at *
  by_cases c1 : (p : Int) % 24 + acI d < 0
  · rw [if_pos (ylt (by omega) (by omega) c1), cIf_pos (by unfold besI; rw [if_neg (by omega)])]; rfl
  rw [if_neg (nlt (by omega) (by omega) (by omega))]
  by_cases c2 : 23 < (p : Int) % 24 + acI d
  · rw [if_pos (ylt (by omega) (by omega) c2), cIf_pos (by unfold besI; rw [if_neg (by omega)])]; rfl
  rw [if_neg (nlt (by omega) (by omega) (by omega))]
  by_cases c3 : (p : Int) + acI d + 24 * dnI d < 0
  · rw [if_pos (ylt (by omega) (by omega) c3), cIf_pos (by unfold besI; rw [if_neg (by omega)])]; rfl
  rw [if_neg (nlt (by omega) (by omega) (by omega))]
  by_cases c4 : (p : Int) + acI d + 24 * dnI d ≤ 383
  case neg => rw [if_neg (nle (by omega) (by omega) (by omega)), cIf_pos (by unfold besI; rw [if_neg (by omega)])]; rfl
  have hB : besI p d = p + acI d + 24 * dnI d := by unfold besI; rw [if_pos (by omega)]; omega
  rw [if_pos (yle (by omega) (by omega) c4), if_pos (show 0 + 1 + 1 ≤ cap by omega), hB]
  generalize ht : (p : Int) + acI d + 24 * dnI d = t at *
  rw [cIf_neg (show ¬ t = -1 by omega)]
  obtain ⟨r, er, hr2⟩ := sl_owner (cap := 1) H I (p := t) (by omega) (Nat.le_refl _)
  have tail : ((∃ k', k' < an a ∧ onL a k' t) → 3 ≤ ah a k ∧ t = ap a k 0) → fL_why_140 cap ν ζ (iI k) (iI d) (iI p) (iI t) FU false (iI 0) ψ (0 + 1 + 1) = some (iI (cIf (crossA a p d) 5 0)) := by
    intro h4
    have e := sl_why_out (cap := cap) H I hd (p := p) (t := t) (by omega) (by omega) (iI k) (an a) 0 FU false ψ (0 + 1 + 1) (by omega) (FU_gt (by omega))
    rw [show iI ((0 : Nat) : Int) = iI 0 from rfl] at e
    rw [e]
    congr 2
    refine cIf_congr ⟨fun q => ?_, fun q => ?_⟩
    · rcases q with q | ⟨i, y, _, q2, q3, q4, q5, q6⟩
      · exact absurd q nft
      · refine ⟨q4, i, q2, y, q3, ?_⟩
        have w := (mid_cross I hk hd q4 hr (t := t) (by rw [hpp]; omega) h4 q2 q3).mp ⟨q5, by rw [hpp]; exact q6⟩
        rw [hpp] at w
        exact w
    · obtain ⟨q4, i, q2, y, q3, w⟩ := q
      have w2 := (mid_cross I hk hd q4 hr (t := t) (by rw [hpp]; omega) h4 q2 q3).mpr (by rw [hpp]; exact w)
      rw [hpp] at w2
      exact Or.inr ⟨i, y, Nat.zero_le _, q2, q3, q4, w2⟩
  have hxx : iI 0 = (0 : Int32) := rfl
  rw [er, Option.bind_some]
  have no4 : ¬ (¬ (3 ≤ ah a k ∧ t = ap a k 0) ∧ ∃ k', k' < an a ∧ onL a k' t) → cIf (¬ (3 ≤ ah a k ∧ t = ap a k 0) ∧ ∃ k', k' < an a ∧ onL a k' t) (4 : Int) (cIf (crossA a p d) 5 0) = cIf (crossA a p d) 5 0 := fun w => cIf_neg w
  rcases hr2 with ⟨rfl, q2⟩ | ⟨i, q1, rfl, q3⟩
  · rw [if_pos (ylt (by omega) (by omega) (by omega)), tail (fun ⟨k', g1, g2⟩ => absurd g2 (q2 k' g1)), no4 (fun ⟨_, k', g1, g2⟩ => q2 k' g1 g2)]
  · rw [if_neg (nlt (by omega) (by omega) (by omega))]
    by_cases c5 : t = ap a k 0
    · rw [if_pos (by rw [c5]), L3]
      by_cases c6 : 3 ≤ ah a k
      · rw [if_pos (yle (by omega) (by omega) (by omega)), tail (fun _ => ⟨c6, c5⟩), no4 (fun w => w.1 ⟨c6, c5⟩)]
      · rw [if_neg (nle (by omega) (by omega) (by omega)), cIf_pos ⟨fun w => c6 w.1, i, q1, q3⟩]; rfl
    · rw [if_neg (neq (by omega) (by omega) c5), cIf_pos ⟨fun w => c5 w.2, i, q1, q3⟩]; rfl
end SO
