/-! sums of doubles are numbers -/
def isF : FP.Core.Datum → Bool
  | .nan => false
  | .inf _ => false
  | .fin _ _ _ => true
def gdD : FP.Core.Datum → Prop
  | .nan => False
  | .inf _ => True
  | .fin _ c q => c < 9007199254740992 ∧ q ≤ 971
theorem nn_iff (a : UInt64) : nN a ↔ a.toNat % 9223372036854775808 ≤ 9218868437227405312 := by
  unfold nN
  rw [UInt64.le_iff_toNat_le, UInt64.toNat_and, show (0x7fffffffffffffff : UInt64).toNat = 2 ^ 63 - 1 from rfl, Nat.and_two_pow_sub_one_eq_mod]
  exact Iff.rfl
theorem tails64 : FP.Core.Fmt.tails FP.Core.b64 = 4503599627370496 := by decide
theorem exps64 : FP.Core.Fmt.exps FP.Core.b64 = 2048 := by decide
theorem qmin64 : FP.Core.Fmt.qmin FP.Core.b64 = -1074 := by decide
theorem qmax64 : FP.Core.Fmt.qmax FP.Core.b64 = 971 := by decide
theorem asm64 (s : Bool) (e t : Nat) : FP.Core.assemble FP.Core.b64 s e t = (s.toNat * 2048 + e) * 4503599627370496 + t := by
  unfold FP.Core.assemble; rw [tails64, exps64]
theorem bool01 (s : Bool) : s.toNat ≤ 1 := by cases s <;> decide
theorem nn_enc {d : FP.Core.Datum} (h : gdD d) : nN (UInt64.ofNat (FP.Core.encode FP.Core.b64 d)) := by
  have key : ∀ n : Nat, (∃ s e t : Nat, s ≤ 1 ∧ n = (s * 2048 + e) * 4503599627370496 + t ∧ e * 4503599627370496 + t ≤ 9218868437227405312) → nN (UInt64.ofNat n) := by
    rintro n ⟨s, e, t, hs, hn, he⟩
    rw [nn_iff, UInt64.toNat_ofNat']
    omega
  cases d with
  | nan => exact h.elim
  | inf s =>
    refine key _ ⟨s.toNat, 2047, 0, bool01 s, ?_, by decide⟩
    show FP.Core.assemble FP.Core.b64 s (FP.Core.b64.exps - 1) 0 = _
    rw [asm64, exps64]
  | fin s c q =>
    obtain ⟨h1, h2⟩ := h
    by_cases hc : c < 4503599627370496
    · refine key _ ⟨s.toNat, 0, c, bool01 s, ?_, by omega⟩
      show (if c < FP.Core.b64.tails then FP.Core.assemble FP.Core.b64 s 0 c else FP.Core.assemble FP.Core.b64 s ((q - FP.Core.b64.qmin).toNat + 1) (c - FP.Core.b64.tails)) = _
      rw [tails64, if_pos hc, asm64]
    · refine key _ ⟨s.toNat, (q + 1074).toNat + 1, c - 4503599627370496, bool01 s, ?_, by omega⟩
      show (if c < FP.Core.b64.tails then FP.Core.assemble FP.Core.b64 s 0 c else FP.Core.assemble FP.Core.b64 s ((q - FP.Core.b64.qmin).toNat + 1) (c - FP.Core.b64.tails)) = _
      rw [tails64, if_neg hc, asm64, qmin64, show q - -1074 = q + 1074 by omega]
theorem gd_bound (s : Bool) {c : Nat} (q : Int) (hc : c < 9007199254740992) : gdD (FP.Core.bound FP.Core.b64 s c q) := by
  unfold FP.Core.bound
  rw [qmax64]
  by_cases h : q ≤ 971
  · rw [if_pos h]; exact ⟨hc, h⟩
  · rw [if_neg h]; trivial
theorem gd_settle (s : Bool) (c : Nat) (q : Int) : gdD (FP.Core.settle FP.Core.b64 s c q) := by
  unfold FP.Core.settle
  have e : 2 ^ FP.Core.b64.p = 9007199254740992 := by decide
  rw [e, tails64]
  by_cases h : c < 9007199254740992
  · rw [if_pos h]; exact gd_bound s q h
  · rw [if_neg h]; exact gd_bound s (q + 1) (by decide)
theorem gd_round {d : FP.Core.Datum} (h : d ≠ .nan) : gdD (FP.Core.round FP.Core.b64 d) := by
  cases d with
  | nan => exact absurd rfl h
  | inf s => exact trivial
  | fin s c q =>
    show gdD (FP.Core.roundRatio FP.Core.b64 s c 1 q)
    unfold FP.Core.roundRatio
    by_cases h0 : c = 0
    · rw [if_pos h0, qmin64]; exact ⟨by decide, by decide⟩
    · rw [if_neg h0]; exact gd_settle s _ _
theorem nn_dec {a : UInt64} (h : nN a) : FP.Core.decode FP.Core.b64 a.toNat ≠ .nan := by
  rw [nn_iff] at h
  unfold FP.Core.decode FP.Core.fieldE FP.Core.fieldT
  rw [tails64, exps64]
  have ha := a.toNat_lt
  by_cases h1 : a.toNat / 4503599627370496 % 2048 = 2048 - 1
  · rw [if_pos h1, if_pos (by omega)]; exact fun q => by cases q
  · rw [if_neg h1]
    by_cases h2 : a.toNat / 4503599627370496 % 2048 = 0
    · rw [if_pos h2]; exact fun q => by cases q
    · rw [if_neg h2]; exact fun q => by cases q
theorem nn_add {a b : UInt64} (ha : nN a) (hb : isF (FP.Core.decode FP.Core.b64 b.toNat) = true) : nN (FP.dadd a b) := by
  have h1 := nn_dec ha
  show nN (UInt64.ofNat (FP.Core.encode FP.Core.b64 (FP.Core.round FP.Core.b64 (FP.Core.exactSum (FP.Core.decode FP.Core.b64 a.toNat) (FP.Core.decode FP.Core.b64 b.toNat)))))
  refine nn_enc (gd_round ?_)
  generalize FP.Core.decode FP.Core.b64 a.toNat = x at h1
  generalize FP.Core.decode FP.Core.b64 b.toNat = y at hb
  cases y with
  | nan => cases hb
  | inf s => cases hb
  | fin s c q =>
    cases x with
    | nan => exact absurd rfl h1
    | inf t => exact fun q => by cases q
    | fin t c' q' => exact fun q => by cases q
theorem isF_r2 : isF (FP.Core.decode FP.Core.b64 (0x3ff6a09e667f3bcd : UInt64).toNat) = true := by decide +kernel
theorem isF_one : isF (FP.Core.decode FP.Core.b64 (0x3ff0000000000000 : UInt64).toNat) = true := by decide +kernel
theorem nn_zero : nN (0 : UInt64) := by decide
theorem nn_i2d : ∀ t : Fin 61, nN (FP.i2d (iI (t.val : Int))) := by decide +kernel
theorem nn_mul : ∀ s : Fin 61, nN (FP.dmul (FP.i2d (iI (s.val : Int))) (0x3ff6a09e667f3bcd : UInt64)) ∧ isF (FP.Core.decode FP.Core.b64 (FP.dmul (FP.i2d (iI (s.val : Int))) (0x3ff6a09e667f3bcd : UInt64)).toNat) = true := by decide +kernel
theorem nn_kinds {s t : Int} (hs : 0 ≤ s ∧ s ≤ 60) (ht : 0 ≤ t ∧ t ≤ 60) : nN (FP.dmul (FP.i2d (iI s)) (0x3ff6a09e667f3bcd : UInt64)) ∧ nN (FP.dadd (FP.i2d (iI t)) (FP.dmul (FP.i2d (iI s)) (0x3ff6a09e667f3bcd : UInt64))) := by
  have a1 := nn_i2d ⟨t.toNat, by omega⟩
  have a2 := nn_mul ⟨s.toNat, by omega⟩
  have e1 : ((t.toNat : Nat) : Int) = t := by omega
  have e2 : ((s.toNat : Nat) : Int) = s := by omega
  simp only [e1] at a1
  simp only [e2] at a2
  exact ⟨a2.1, nn_add a1 a2.2⟩
