/-! the law's own lines, as numbers: bits, v and d, points, ends -/
theorem wb_tb (n : Nat) : (lN n).toBitVec = BitVec.ofNat 64 n := rfl
theorem wb_inj {a b : Int64} (h : a.toBitVec = b.toBitVec) : a = b := Int64.toBitVec_inj.mp h
theorem wb_c : ∀ k, k < 64 → ((nI k).toInt64 &&& 63) = lN k := by decide +kernel
theorem wb_sm : ∀ k, k < 64 → (BitVec.ofNat 64 k).smod 64 = BitVec.ofNat 64 k := by decide +kernel
theorem wb_shl (n : Nat) {k : Nat} (hk : k < 64) : lN n <<< ((nI k).toInt64 &&& 63) = lN (n * 2 ^ k) := by
  rw [wb_c k hk]
  apply wb_inj
  rw [Int64.toBitVec_shiftLeft, wb_tb, wb_tb, wb_tb, wb_sm k hk]
  apply BitVec.eq_of_toNat_eq
  rw [BitVec.shiftLeft_eq', BitVec.toNat_shiftLeft, BitVec.toNat_ofNat, BitVec.toNat_ofNat, BitVec.toNat_ofNat, Nat.mod_eq_of_lt (show k < 2 ^ 64 by omega), Nat.shiftLeft_eq, Nat.mul_mod, Nat.mod_mod, ← Nat.mul_mod]
theorem wb_or {a b : Nat} (ha : a < 2 ^ 64) (hb : b < 2 ^ 64) : lN a ||| lN b = lN (a ||| b) := by
  apply wb_inj
  rw [Int64.toBitVec_or, wb_tb, wb_tb, wb_tb]
  apply BitVec.eq_of_toNat_eq
  rw [BitVec.toNat_or, BitVec.toNat_ofNat, BitVec.toNat_ofNat, BitVec.toNat_ofNat, Nat.mod_eq_of_lt ha, Nat.mod_eq_of_lt hb, Nat.mod_eq_of_lt (Nat.or_lt_two_pow ha hb)]
theorem pf_lI {a : Nat} (h : a < 2 ^ 63) : (lN a).toInt = (a : Int) := lg_ofNat_toInt h
theorem pf_shr {a d : Nat} {D : Int64} (hD : (D.toBitVec.smod 64).toNat = d) (h : a < 2 ^ 62) : lN a >>> D = lN (a / 2 ^ d) := by
  have hd : a / 2 ^ d ≤ a := Nat.div_le_self _ _
  apply Int64.toInt_inj.mp
  have e : (lN a >>> D).toInt = (lN a).toInt >>> d := by
    rw [← hD]
    exact BitVec.toInt_sshiftRight ..
  rw [e, Int.shiftRight_eq_div_pow, pf_lI (by omega), pf_lI (by omega)]
  rfl
theorem L9 : (9 : Int32) = iI 9 := rfl
theorem L20 : (20 : Int32) = iI 20 := rfl
theorem L32 : (32 : Int32) = iI 32 := rfl
theorem L33 : (33 : Int32) = iI 33 := rfl
theorem L200 : (200 : Int32) = iI 200 := rfl
/-- directions, three bits each -/
def pkN (f : Nat → Int) : Nat → Nat → Nat
  | 0, _ => 0
  | m + 1, j => (f j).toNat + 8 * pkN f m (j + 1)
theorem pkN_lt {f : Nat → Int} (hf : ∀ j, 0 ≤ f j ∧ f j ≤ 7) : ∀ m j : Nat, pkN f m j < 8 ^ m := by
  intro m
  induction m with
  | zero => intro j; exact Nat.one_pos
  | succ m ih =>
    intro j
    have h := ih (j + 1)
    have h1 := hf j
    rw [pkN, Nat.pow_succ]
    omega
theorem pkN_div {f : Nat → Int} (hf : ∀ j, 0 ≤ f j ∧ f j ≤ 7) : ∀ i m j : Nat, i < m → pkN f m j / 8 ^ i % 8 = (f (j + i)).toNat := by
  intro i
  induction i with
  | zero =>
    intro m j h
    obtain ⟨n, rfl⟩ : ∃ n, m = n + 1 := ⟨m - 1, by omega⟩
    have h1 := hf j
    rw [pkN, Nat.pow_zero, Nat.div_one, show j + 0 = j from rfl]
    omega
  | succ i ih =>
    intro m j h
    obtain ⟨n, rfl⟩ : ∃ n, m = n + 1 := ⟨m - 1, by omega⟩
    have h1 := hf j
    have h2 : ((f j).toNat + 8 * pkN f n (j + 1)) / 8 = pkN f n (j + 1) := by omega
    rw [pkN, Nat.pow_succ, Nat.mul_comm (8 ^ i) 8, ← Nat.div_div_eq_div_mul, h2, ih n (j + 1) (by omega), show j + 1 + i = j + (i + 1) by omega]
theorem pkN_snoc {f : Nat → Int} : ∀ m j : Nat, pkN f (m + 1) j = pkN f m j + (f (j + m)).toNat * 8 ^ m := by
  intro m
  induction m with
  | zero => intro j; simp [pkN]
  | succ m ih =>
    intro j
    rw [pkN, ih (j + 1), pkN, Nat.pow_succ, show j + 1 + m = j + (m + 1) by omega, Nat.mul_add, Nat.add_assoc, ← Nat.mul_assoc, Nat.mul_comm 8 (f (j + (m + 1))).toNat, Nat.mul_assoc, Nat.mul_comm 8 (8 ^ m)]
theorem pkN_congr {f g : Nat → Int} : ∀ m j : Nat, (∀ i, j ≤ i → i < j + m → f i = g i) → pkN f m j = pkN g m j := by
  intro m
  induction m with
  | zero => intro j _; rfl
  | succ m ih =>
    intro j h
    rw [pkN, pkN, h j (Nat.le_refl _) (by omega), ih (j + 1) (fun i h1 h2 => h i (by omega) (by omega))]
theorem dr_all (a : Ab) (k j : Nat) : 0 ≤ drA a k j ∧ drA a k j ≤ 7 := by
  unfold drA dirD
  repeat' split
  all_goals omega
theorem pow8 (i : Nat) : 2 ^ (3 * i) = 8 ^ i := by rw [Nat.pow_mul]
theorem pow8_le {m : Nat} (h : m ≤ 20) : 8 ^ m ≤ 1152921504606846976 := Nat.le_trans (Nat.pow_le_pow_right (by decide) h) (Nat.le_of_ble_eq_true rfl)
/-- how v and d hold the lines -/
def RepL (ν : Nat → Int32) (ζ : Nat → Int64) (a : Ab) : Prop :=
  ν 32 = iI (an a : Int) ∧ ν 33 = iI (ag a : Int) ∧
  ∀ k, k < an a → ν (4 * k) = iI (al a k : Int) ∧ ν (4 * k + 1) = iI (ap a k 0 : Int) ∧ ν (4 * k + 2) = iI (ah a k : Int) ∧ ν (4 * k + 3) = iI (ab a k) ∧ ∀ q, q < 3 → ζ (3 * k + q) = lN (pkN (drA a k) (min 20 (ah a k - 20 * q)) (20 * q))
/-- how a row of points holds a line -/
def RepP (ψ : Nat → Int32) (a : Ab) (k : Nat) : Prop := ∀ j, j ≤ ah a k → ψ j = iI (ap a k j : Int)
theorem nI7 (n : Nat) : nI n &&& 7 = nI (n % 8) := by
  rw [pk_and (nI n) 3 rfl]
  have h : (nI n).toBitVec.toNat = n % 2 ^ 32 := BitVec.toNat_ofNat n 32
  rw [h]
  congr 1
  exact Nat.mod_mod_of_dvd n (by decide)
theorem iI_toNat {z : Int} (h : 0 ≤ z) : nI z.toNat = iI z := by rw [iI_nat]; congr 1; omega
theorem ix {k c : Nat} (hk : k ≤ 8) (hc : c ≤ 3) : (4 : Int32) * iI (k : Int) + iI (c : Int) = iI ((4 * k + c : Nat) : Int) := by
  rw [L4, iI_mul, iI_add]; exact congrArg iI (by omega)
section SL
variable {ν : Nat → Int32} {ζ : Nat → Int64} {ψ θ : Nat → Int32} {a : Ab}
theorem sl_dir (H : RepL ν ζ a) (I : InvA a) {k : Nat} (hk : k < an a) {j : Nat} (hj : j < ah a k) : fL_dir ζ (iI k) (iI j) = some (iI (drA a k j)) := by
  have h8 := I.1
  have h60 := (I.2.2.2.1 k hk).2.1
  have e1 : (3 : Int32) * iI (k : Int) + iI (j : Int) / (20 : Int32) = iI ((3 * k + j / 20 : Nat) : Int) := by
    rw [L3, L20, iI_mul, iI_div (by omega) (by omega), iI_add]; exact congrArg iI (by omega)
  have e2 : (3 : Int32) * irm (iI (j : Int)) (20 : Int32) = nI (3 * (j % 20)) := by
    rw [L3, L20, iI_irm (by omega) (by omega), iI_mul, iI_nat]; exact congrArg iI (by omega)
  have hd := (H.2.2 k hk).2.2.2.2 (j / 20) (by omega)
  have hp := pkN_div (dr_all a k) (j % 20) (min 20 (ah a k - 20 * (j / 20))) (20 * (j / 20)) (by omega)
  have hl := pkN_lt (dr_all a k) (min 20 (ah a k - 20 * (j / 20))) (20 * (j / 20))
  have h20 := pow8_le (m := min 20 (ah a k - 20 * (j / 20))) (by omega)
  unfold fL_dir
  rw [e1, if_pos (inR_iI (by omega) (by omega) (by omega)), tnN (by omega), e2, wb_c _ (by omega), hd]
  rw [pf_shr (d := 3 * (j % 20)) (by rw [wb_tb, wb_sm _ (by omega), BitVec.toNat_ofNat]; exact Nat.mod_eq_of_lt (by omega)) (by omega), lN_i, nI7, pow8, hp, show 20 * (j / 20) + j % 20 = j by omega, iI_toNat (dr_all a k j).1]
theorem sl_right {d : Int} (h : 0 ≤ d ∧ d ≤ 7) : fL_right (iI d) = some (iI (acI d)) := by
  rcases d8 h with rfl | rfl | rfl | rfl | rfl | rfl | rfl | rfl <;> rfl
theorem sl_below {d : Int} (h : 0 ≤ d ∧ d ≤ 7) : fL_below (iI d) = some (iI (dnI d)) := by
  rcases d8 h with rfl | rfl | rfl | rfl | rfl | rfl | rfl | rfl <;> rfl
theorem l_n (H : RepL ν ζ a) : ν (Int32.toNatClampNeg (32 : Int32)) = iI (an a : Int) := H.1
theorem l_g (H : RepL ν ζ a) : ν (Int32.toNatClampNeg (33 : Int32)) = iI (ag a : Int) := H.2.1
theorem l_i0 {k : Nat} (hk : k < 8) : inR ((4 : Int32) * iI (k : Int)) 34 ∧ Int32.toNatClampNeg ((4 : Int32) * iI (k : Int)) = 4 * k := by
  have e : (4 : Int32) * iI (k : Int) = iI ((4 * k : Nat) : Int) := by rw [L4, iI_mul]; congr 1
  rw [e]; exact ⟨inR_iI (by omega) (by omega) (by omega), tnN (by omega)⟩
theorem l_i1 {k : Nat} (hk : k < 8) : inR (((4 : Int32) * iI (k : Int)) + (1 : Int32)) 34 ∧ Int32.toNatClampNeg (((4 : Int32) * iI (k : Int)) + (1 : Int32)) = 4 * k + 1 := by
  rw [L1, show iI 1 = iI ((1 : Nat) : Int) from rfl, ix (by omega) (by omega)]; exact ⟨inR_iI (by omega) (by omega) (by omega), tnN (by omega)⟩
theorem l_i2 {k : Nat} (hk : k < 8) : inR (((4 : Int32) * iI (k : Int)) + (2 : Int32)) 34 ∧ Int32.toNatClampNeg (((4 : Int32) * iI (k : Int)) + (2 : Int32)) = 4 * k + 2 := by
  rw [L2, show iI 2 = iI ((2 : Nat) : Int) from rfl, ix (by omega) (by omega)]; exact ⟨inR_iI (by omega) (by omega) (by omega), tnN (by omega)⟩
theorem l_i3 {k : Nat} (hk : k < 8) : inR (((4 : Int32) * iI (k : Int)) + (3 : Int32)) 34 ∧ Int32.toNatClampNeg (((4 : Int32) * iI (k : Int)) + (3 : Int32)) = 4 * k + 3 := by
  rw [L3, show iI 3 = iI ((3 : Nat) : Int) from rfl, ix (by omega) (by omega)]; exact ⟨inR_iI (by omega) (by omega) (by omega), tnN (by omega)⟩
theorem l_lv (H : RepL ν ζ a) (I : InvA a) {k : Nat} (hk : k < an a) : ν (Int32.toNatClampNeg ((4 : Int32) * iI (k : Int))) = iI (al a k : Int) := by
  rw [(l_i0 (k := k) (by have := I.1; omega)).2]; exact (H.2.2 k hk).1
theorem l_p0 (H : RepL ν ζ a) (I : InvA a) {k : Nat} (hk : k < an a) : ν (Int32.toNatClampNeg (((4 : Int32) * iI (k : Int)) + (1 : Int32))) = iI (ap a k 0 : Int) := by
  rw [(l_i1 (k := k) (by have := I.1; omega)).2]; exact (H.2.2 k hk).2.1
theorem l_st (H : RepL ν ζ a) (I : InvA a) {k : Nat} (hk : k < an a) : ν (Int32.toNatClampNeg (((4 : Int32) * iI (k : Int)) + (2 : Int32))) = iI (ah a k : Int) := by
  rw [(l_i2 (k := k) (by have := I.1; omega)).2]; exact (H.2.2 k hk).2.2.1
theorem l_lb (H : RepL ν ζ a) (I : InvA a) {k : Nat} (hk : k < an a) : ν (Int32.toNatClampNeg (((4 : Int32) * iI (k : Int)) + (3 : Int32))) = iI (ab a k) := by
  rw [(l_i3 (k := k) (by have := I.1; omega)).2]; exact (H.2.2 k hk).2.2.2.1
theorem k8 (I : InvA a) {k : Nat} (hk : k < an a) : k < 8 := by have := I.1; omega
theorem h60 (I : InvA a) {k : Nat} (hk : k < an a) : ah a k ≤ 60 := (I.2.2.2.1 k hk).2.1
theorem p384 (I : InvA a) {k : Nat} (hk : k < an a) {j : Nat} (hj : j ≤ ah a k) : ap a k j < 384 := (I.2.2.2.1 k hk).2.2.2.1 j hj
theorem sl_walks_loop (H : RepL ν ζ a) (I : InvA a) {k : Nat} (hk : k < an a) : ∀ (m j fu : Nat) (ψ : Nat → Int32), j + m = ah a k → m < fu → (∀ i, i ≤ j → ψ i = iI (ap a k i : Int)) →
    ∃ ψ', fL_walks_13 ν ζ (iI k) fu (iI j) ψ = some ψ' ∧ RepP ψ' a k := by
  have h6 := h60 I hk
  intro m
  induction m with
  | zero =>
    intro j fu ψ h1 h2 h3
    obtain ⟨f, rfl⟩ : ∃ f, fu = f + 1 := ⟨fu - 1, by omega⟩
    refine ⟨ψ, ?_, fun i hi => h3 i (by omega)⟩
    rw [fL_walks_13, if_pos (l_i2 (k8 I hk)).1, l_st H I hk, if_pos (yle (by omega) (by omega) (by omega))]
  | succ m ih =>
    intro j fu ψ h1 h2 h3
    obtain ⟨f, rfl⟩ : ∃ f, fu = f + 1 := ⟨fu - 1, by omega⟩
    have g := dr_all a k j
    have e0 := h3 j (Nat.le_refl _)
    have en := ap_next I hk (j := j) (by omega)
    rw [fL_walks_13, if_pos (l_i2 (k8 I hk)).1, l_st H I hk, if_neg (nle (by omega) (by omega) (by omega)), if_pos (inR_iI (by omega) (by omega) (by omega)), sl_dir H I hk (by omega), Option.bind_some, sl_right g, Option.bind_some, Option.bind_some, sl_below g, Option.bind_some, iI_s, if_pos (inR_iI (by omega) (by omega) (by omega)), tnN (by omega), tnN (by omega), e0, L24, iI_mul, iI_add, iI_add]
    refine ih (j + 1) f _ (by omega) (by omega) (fun i hi => ?_)
    by_cases q : i = j + 1
    · subst q
      rw [upd_eq, en]; congr 1; omega
    · rw [upd_ne q]; exact h3 i (by omega)
theorem sl_walks (H : RepL ν ζ a) (I : InvA a) {k : Nat} (hk : k < an a) (ψ : Nat → Int32) : ∃ ψ', fL_walks ν ζ ψ (iI k) = some ψ' ∧ RepP ψ' a k := by
  have h6 := h60 I hk
  unfold fL_walks
  rw [if_pos (l_i1 (k8 I hk)).1, l_p0 H I hk]
  have e := sl_walks_loop H I hk (ah a k) 0 FU (upd ψ (Int32.toNatClampNeg (0 : Int32)) (iI (ap a k 0 : Int))) (by omega) (FU_gt (by omega)) (fun i hi => by
    obtain rfl : i = 0 := by omega
    exact upd_eq)
  rw [Z0] at e
  exact e
theorem sl_closed (H : RepL ν ζ a) (I : InvA a) {k : Nat} (hk : k < an a) (P : RepP ψ a k) : ∃ b, fL_closed ν ψ (iI k) = some b ∧ (b = true ↔ ringA a k) := by
  have h6 := h60 I hk
  have p1 := p384 I hk (Nat.le_refl _)
  have p2 := p384 I hk (Nat.zero_le _)
  have e0 : ψ (Int32.toNatClampNeg (0 : Int32)) = iI (ap a k 0 : Int) := P 0 (Nat.zero_le _)
  unfold fL_closed ringA
  rw [if_pos (l_i2 (k8 I hk)).1, l_st H I hk, L3]
  by_cases q : ah a k ≤ 3
  · rw [if_pos (yle (by omega) (by omega) (by omega))]; exact ⟨false, rfl, (fun h => by cases h), (fun h => by omega)⟩
  · rw [if_neg (nle (by omega) (by omega) (by omega)), if_pos (inR_iI (by omega) (by omega) (by omega)), tnN (by omega), P _ (Nat.le_refl _), e0]
    by_cases q2 : ap a k (ah a k) = ap a k 0
    · rw [if_pos (by rw [q2])]; exact ⟨true, rfl, (fun _ => ⟨by omega, q2⟩), (fun _ => rfl)⟩
    · rw [if_neg (neq (by omega) (by omega) (by omega))]; exact ⟨false, rfl, (fun h => by cases h), (fun h => absurd h.2 q2)⟩
theorem sl_size (H : RepL ν ζ a) (I : InvA a) {k : Nat} (hk : k < an a) : fL_size ν (iI k) = some (iI (szA a k)) := by
  have h99 := (I.2.2.2.1 k hk).1
  unfold fL_size szA
  rw [if_pos (l_i0 (k8 I hk)).1, l_lv H I hk, L9]
  by_cases h : al a k < 10
  · rw [if_pos (yle (by omega) (by omega) (by omega)), if_pos h]; rfl
  · rw [if_neg (nle (by omega) (by omega) (by omega)), if_neg h]; rfl
end SL
