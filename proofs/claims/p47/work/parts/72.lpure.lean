/-! the law comes to true, within the room -/
section LP
variable {σ : Sh} {η : Hi} {δ : Dr} {ν : Nat → Int32} {ζ : Nat → Int64} {a : Ab} {L : Nat} {xs : Nat → Int32}
theorem uF_lt (x : Nat) (hx : x < 100) : ∀ (m i : Nat), i + m ≤ 100 → i ≤ x → x < i + m → uFr ν (iI (x : Int)) m i + 1 ≤ m := by
  intro m
  induction m with
  | zero => intro i _ h1 h2; omega
  | succ m ih =>
    intro i h0 h1 h2
    rw [uFr]
    by_cases q : i = x
    · subst q
      have := uF_le (ν := ν) m (iI (i : Int)) (i + 1)
      rw [if_pos (Or.inl (nI_iI i))]; omega
    · have := ih (i + 1) (by omega) (by omega) (by omega)
      split <;> omega
theorem uI_le (H : RepL ν ζ a) (I : InvA a) {k : Nat} (hk : k < an a) : uI ν (iI (k : Int)) ≤ 1285 := by
  have h8 := I.1
  have h6 := h60 I hk
  have h1 : uF ν (iI (k : Int)) + 1 ≤ an a := by rw [uF_e H I]; exact uF_lt k (by omega) (an a) 0 (by omega) (Nat.zero_le _) (by omega)
  have h2 : ah a k * uF ν (iI (k : Int)) ≤ 60 * 7 := Nat.mul_le_mul h6 (by omega)
  unfold uI
  rw [uSt_e H I hk]
  omega
theorem end_pure {cap : Nat} (Q : LA σ η ν ζ a) : ∀ (m i u : Nat) (δ : Dr) (n : Nat), i + m = an a → m < u → n + 1285 * m ≤ cap → fL_law_143 cap u true (iI (i : Int)) σ η δ ν ζ n = some true := by
  have I := Q.1.2.1.1
  have h8 := I.1
  intro m
  induction m with
  | zero =>
    intro i u δ n h1 h2 h3
    obtain ⟨v, rfl⟩ : ∃ v, u = v + 1 := ⟨u - 1, by omega⟩
    rw [fL_law_143, l_n Q.2, if_pos (yle (by omega) (by omega) (by omega))]
  | succ m ih =>
    intro i u δ n h1 h2 h3
    obtain ⟨v, rfl⟩ : ∃ v, u = v + 1 := ⟨u - 1, by omega⟩
    have hi : i < an a := by omega
    have hu := uI_le Q.2 I hi
    obtain ⟨δ', e⟩ := is_line (cap := uI ν (iI (i : Int))) Q.1.1 Q.2 Q.1.2.1 hi ((439041101 : Int32) >>> (iI (i : Int) &&& 31)) δ (Nat.le_refl _)
    rw [fL_law_143, l_n Q.2, if_neg (nle (by omega) (by omega) (by omega)), if_pos rfl, if_pos (by omega), e, Option.bind_some, iI_s]
    exact ih (i + 1) v δ' _ (by omega) (by omega) (by omega)
/-- what turns may have used: t of them, b of them building -/
def bd (t b : Nat) : Nat := 29 + 1314 * t + 138 * b + (t - b) * (204 * b + 1208)
theorem bd_end : ∀ t, t ≤ 30 → ∀ b, b ≤ t → bd t b + 10280 ≤ 119507 := by decide +kernel
theorem bd_b : ∀ t, t < 30 → ∀ b, b ≤ t → bd t b + 138 + 1314 ≤ bd (t + 1) (b + 1) := by decide +kernel
theorem bd_u : ∀ t, t < 30 → ∀ b, b ≤ t → bd t b + (204 * b + 1208) + 1314 ≤ bd (t + 1) b := by decide +kernel
theorem cell_ok (hL : L ≤ 260) {j : Nat} (hj : j < 1000) : ∃ r, fL_cell L xs (iI (j : Int)) = some r := by
  unfold fL_cell
  rw [iI_nat]
  by_cases q : L ≤ j
  · rw [if_pos (yle (by omega) (by omega) (by omega))]; exact ⟨_, rfl⟩
  · rw [if_neg (nle (by omega) (by omega) (by omega)), if_pos (inR_iI (by omega) (by omega) (by omega))]; exact ⟨_, rfl⟩
theorem law_pure (hL : L ≤ 260) : ∀ (m t u : Nat) (σ : Sh) (η : Hi) (δ : Dr) (ν : Nat → Int32) (ζ : Nat → Int64) (a : Ab) (b n : Nat), t + m = 30 → m < u → LA σ η ν ζ a → b ≤ t → tot a ≤ 34 * b → n ≤ bd t b →
    fL_law_35 119507 L xs u true (iI (t : Int)) σ η δ ν ζ n = some true := by
  intro m
  induction m with
  | zero =>
    intro t u σ η δ ν ζ a b n h1 h2 Q h3 h4 h5
    obtain ⟨v, rfl⟩ : ∃ v, u = v + 1 := ⟨u - 1, by omega⟩
    have h8 := Q.1.2.1.1.1
    have he := bd_end t (by omega) b h3
    rw [fL_law_35, show (30 : Int32) = iI 30 from rfl, if_pos (yle (by omega) (by omega) (by omega))]
    have e := end_pure (cap := 119507) Q (an a) 0 FU δ n (by omega) (FU_gt (by omega)) (by omega)
    rw [Z0] at e
    exact e
  | succ m ih =>
    intro t u σ η δ ν ζ a b n h1 h2 Q h3 h4 h5
    obtain ⟨v, rfl⟩ : ∃ v, u = v + 1 := ⟨u - 1, by omega⟩
    have e1 : (2 : Int32) * iI (t : Int) = iI ((2 * t : Nat) : Int) := by rw [L2, iI_mul]; exact congrArg iI (by omega)
    obtain ⟨r3, f3⟩ := cell_ok (xs := xs) hL (j := 2 * t) (by omega)
    obtain ⟨r4, f4⟩ := cell_ok (xs := xs) hL (j := 2 * t + 1) (by omega)
    generalize hcc : r3 ^^^ (r4 <<< ((7 : Int32) &&& 31)) = c
    obtain ⟨σ', η', ν', ζ', a', g1, Q', g3⟩ := l_acts (cap := uK ν c) Q c (Nat.le_refl _)
    have h8 := Q'.1.2.1.1.1
    -- the bounds behind the turn
    obtain ⟨b', hb1, hb2, hb3, hb4⟩ : ∃ b', b' ≤ t + 1 ∧ tot a' ≤ 34 * b' ∧ n + uK ν c + 1314 ≤ bd (t + 1) b' ∧ b' ≤ t + 1 := by
      rcases g3 with ⟨w1, w2⟩ | ⟨w1, w2⟩
      · have := bd_b t (by omega) b h3
        exact ⟨b + 1, by omega, by omega, by omega, by omega⟩
      · have := bd_u t (by omega) b h3
        exact ⟨b, by omega, by omega, by omega, by omega⟩
    have he := bd_end (t + 1) (by omega) b' hb1
    have hal := are_lines (cap := 29) Q'.1.1 Q'.2 Q'.1.2.1.1 (c >>> ((4 : Int32) &&& 31)) (Nat.le_refl _)
    rw [fL_law_35, show (30 : Int32) = iI 30 from rfl, if_neg (nle (by omega) (by omega) (by omega)), if_pos rfl, e1, f3, Option.bind_some, iI_s, f4, Option.bind_some, hcc, if_pos (by omega), g1, Option.bind_some, if_pos rfl, if_pos (by omega), hal, Option.bind_some, if_pos rfl]
    have hnn : ν' (Int32.toNatClampNeg (32 : Int32)) = iI (an a' : Int) := l_n Q'.2
    dsimp only
    rw [iI_s]
    by_cases q : an a' = 0
    · rw [if_pos (show ν' (Int32.toNatClampNeg (32 : Int32)) = 0 from by rw [hnn, q]; rfl)]
      exact ih (t + 1) v σ' η' δ ν' ζ' a' b' _ (by omega) (by omega) Q' hb1 hb2 (by omega)
    · obtain ⟨k, hk, ek⟩ := sl_low (c >>> ((6 : Int32) &&& 31)) (n := an a') (by omega)
      have hu := uI_le Q'.2 Q'.1.2.1.1 hk
      obtain ⟨δ', e⟩ := is_line (cap := uI ν' (iI (k : Int))) Q'.1.1 Q'.2 Q'.1.2.1 hk (c >>> ((1 : Int32) &&& 31)) δ (Nat.le_refl _)
      rw [if_neg (show ¬ ν' (Int32.toNatClampNeg (32 : Int32)) = 0 from by rw [hnn, L0]; exact neq (by omega) (by omega) (by omega)), hnn, ek, Option.bind_some, if_pos (by omega), e, Option.bind_some, if_pos rfl]
      exact ih (t + 1) v σ' η' δ' ν' ζ' a' b' _ (by omega) (by omega) Q' hb1 hb2 (by omega)
end LP
