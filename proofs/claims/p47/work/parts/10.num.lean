/-! numbers: Int32 as integers -/
def iI (z : Int) : Int32 := Int32.ofInt z
theorem iI_toInt {z : Int} (h1 : -2147483648 ≤ z) (h2 : z < 2147483648) : (iI z).toInt = z := by
  unfold iI; rw [Int32.toInt_ofInt]; exact Int.bmod_eq_of_le (by have hs : ((Int32.size : Nat) : Int) = 4294967296 := rfl; omega) (by have hs : ((Int32.size : Nat) : Int) = 4294967296 := rfl; omega)
theorem iI_add (a b : Int) : iI a + iI b = iI (a + b) := (Int32.ofInt_add a b).symm
theorem iI_sub (a b : Int) : iI a - iI b = iI (a - b) := (Int32.ofInt_sub a b).symm
theorem iI_mul (a b : Int) : iI a * iI b = iI (a * b) := (Int32.ofInt_mul a b).symm
theorem iI_neg (a : Int) : - iI a = iI (-a) := (Int32.ofInt_neg a).symm
theorem iI_asI (x : Int32) : iI x.toInt = x := Int32.ofInt_toInt x
theorem iI_lt {a b : Int} (ha : -2147483648 ≤ a ∧ a < 2147483648) (hb : -2147483648 ≤ b ∧ b < 2147483648) : iI a < iI b ↔ a < b := by
  rw [Int32.lt_iff_toInt_lt, iI_toInt ha.1 ha.2, iI_toInt hb.1 hb.2]
theorem iI_le {a b : Int} (ha : -2147483648 ≤ a ∧ a < 2147483648) (hb : -2147483648 ≤ b ∧ b < 2147483648) : iI a ≤ iI b ↔ a ≤ b := by
  rw [Int32.le_iff_toInt_le, iI_toInt ha.1 ha.2, iI_toInt hb.1 hb.2]
theorem iI_eq {a b : Int} (ha : -2147483648 ≤ a ∧ a < 2147483648) (hb : -2147483648 ≤ b ∧ b < 2147483648) : iI a = iI b ↔ a = b := by
  rw [← Int32.toInt_inj, iI_toInt ha.1 ha.2, iI_toInt hb.1 hb.2]
theorem iI_nat (n : Nat) : nI n = iI n := by unfold nI iI; rfl
theorem iI_tn {z : Int} (h0 : 0 ≤ z) (h : z < 2147483648) : (iI z).toNatClampNeg = z.toNat := by
  rw [Int32.toNatClampNeg, iI_toInt (by omega) h]
theorem iI_div {a b : Int} (ha : 0 ≤ a ∧ a < 2147483648) (hb : 0 < b ∧ b < 2147483648) : iI a / iI b = iI (a / b) := by
  obtain ⟨x, rfl⟩ : ∃ x : Nat, a = x := ⟨a.toNat, by omega⟩
  obtain ⟨y, rfl⟩ : ∃ y : Nat, b = y := ⟨b.toNat, by omega⟩
  rw [← iI_nat, ← iI_nat, pk_div (by omega) (by omega) (by omega), iI_nat]; rfl
theorem iI_irm {a b : Int} (ha : 0 ≤ a ∧ a < 2147483648) (hb : 0 < b ∧ b < 2147483648) : irm (iI a) (iI b) = iI (a % b) := by
  obtain ⟨x, rfl⟩ : ∃ x : Nat, a = x := ⟨a.toNat, by omega⟩
  obtain ⟨y, rfl⟩ : ∃ y : Nat, b = y := ⟨b.toNat, by omega⟩
  unfold irm
  rw [← iI_nat, ← iI_nat, pk_rem (by omega) (by omega) (by omega), iI_nat]; rfl
theorem iI_of (x : Int32) : ∃ z : Int, -2147483648 ≤ z ∧ z < 2147483648 ∧ x = iI z := ⟨x.toInt, Int32.le_toInt x, Int32.toInt_lt x, (iI_asI x).symm⟩
theorem inR_iI {z : Int} {n : Nat} (h0 : 0 ≤ z) (h1 : z < n) (hn : (n : Int) < 2147483648) : inR (iI z) n := by
  rintro (h | h)
  · rw [show (0 : Int32) = iI 0 from rfl, iI_lt (by omega) (by omega)] at h; omega
  · rw [iI_tn h0 (by omega)] at h; omega
theorem inR_iff {z : Int} {n : Nat} (hz : -2147483648 ≤ z ∧ z < 2147483648) : inR (iI z) n ↔ 0 ≤ z ∧ z < n := by
  constructor
  · intro h
    have h1 : ¬ iI z < 0 := fun q => h (Or.inl q)
    rw [show (0 : Int32) = iI 0 from rfl, iI_lt hz (by omega)] at h1
    have h2 : ¬ n ≤ (iI z).toNatClampNeg := fun q => h (Or.inr q)
    rw [iI_tn (by omega) (by omega)] at h2
    omega
  · rintro ⟨h0, h1⟩ (h | h)
    · rw [show (0 : Int32) = iI 0 from rfl, iI_lt hz (by omega)] at h; omega
    · rw [iI_tn h0 (by omega)] at h; omega
theorem imax_iI {a b : Int} (ha : -2147483648 ≤ a ∧ a < 2147483648) (hb : -2147483648 ≤ b ∧ b < 2147483648) : imax (iI a) (iI b) = iI (max a b) := by
  unfold imax
  by_cases h : a < b
  · rw [if_pos ((iI_lt ha hb).mpr h)]; congr 1; omega
  · rw [if_neg (fun q => h ((iI_lt ha hb).mp q))]; congr 1; omega
theorem imin_iI {a b : Int} (ha : -2147483648 ≤ a ∧ a < 2147483648) (hb : -2147483648 ≤ b ∧ b < 2147483648) : imin (iI a) (iI b) = iI (min a b) := by
  unfold imin
  by_cases h : b < a
  · rw [if_pos ((iI_lt hb ha).mpr h)]; congr 1; omega
  · rw [if_neg (fun q => h ((iI_lt hb ha).mp q))]; congr 1; omega
theorem iabs_iI {a : Int} (ha : -2147483647 ≤ a ∧ a < 2147483648) : iabs (iI a) = iI (a.natAbs : Int) := by
  unfold iabs
  rw [show (0 : Int32) = iI 0 from rfl]
  by_cases h : 0 ≤ a
  · rw [if_pos ((iI_le (by omega) (by omega)).mpr h)]; congr 1; omega
  · rw [if_neg (fun q => h ((iI_le (by omega) (by omega)).mp q)), iI_sub]; congr 1; omega
