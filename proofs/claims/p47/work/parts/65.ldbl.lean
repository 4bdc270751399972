/-! a sum with 0.0 behind it is the sum -/
theorem dec_shape {x : UInt64} (h : nN x) : (∃ s, FP.Core.decode FP.Core.b64 x.toNat = .inf s) ∨ ∃ s c q, FP.Core.decode FP.Core.b64 x.toNat = .fin s c q ∧ c < 9007199254740992 ∧ -1074 ≤ q ∧ q ≤ 971 ∧ (c < 4503599627370496 → q = -1074) := by
  have hn := nn_dec h
  unfold FP.Core.decode FP.Core.fieldE FP.Core.fieldT at hn ⊢
  rw [tails64, exps64, qmin64] at hn ⊢
  have hx := x.toNat_lt
  by_cases h1 : x.toNat / 4503599627370496 % 2048 = 2048 - 1
  · rw [if_pos h1] at hn ⊢
    by_cases h2 : x.toNat % 4503599627370496 = 0
    · rw [if_pos h2]; exact Or.inl ⟨_, rfl⟩
    · rw [if_neg h2] at hn; exact absurd rfl hn
  · rw [if_neg h1]
    by_cases h2 : x.toNat / 4503599627370496 % 2048 = 0
    · rw [if_pos h2]; exact Or.inr ⟨_, _, _, rfl, by omega, by omega, by omega, fun _ => rfl⟩
    · rw [if_neg h2]; exact Or.inr ⟨_, _, _, rfl, by omega, by omega, by omega, fun w => by omega⟩
theorem beq1 {n : Nat} {s : Bool} (h : n % 2 = s.toNat) : (n % 2 == 1) = s := by rw [h]; cases s <;> rfl
set_option maxRecDepth 100000 in
theorem dec_enc {s : Bool} {c : Nat} {q : Int} (hc : c < 9007199254740992) (h1 : -1074 ≤ q) (h2 : q ≤ 971) (h3 : c < 4503599627370496 → q = -1074) :
    FP.Core.decode FP.Core.b64 (UInt64.ofNat (FP.Core.encode FP.Core.b64 (.fin s c q))).toNat = .fin s c q := by
  have hs := bool01 s
  have key : ∀ e t : Nat, e ≤ 2046 → t < 4503599627370496 → (if e = 0 then (t = c ∧ q = -1074) else (4503599627370496 + t = c ∧ q = -1074 + ((e : Int) - 1))) → FP.Core.decode FP.Core.b64 (UInt64.ofNat ((s.toNat * 2048 + e) * 4503599627370496 + t)).toNat = .fin s c q := by
    intro e t he ht hh
    rw [UInt64.toNat_ofNat', Nat.mod_eq_of_lt (show (s.toNat * 2048 + e) * 4503599627370496 + t < 2 ^ 64 by omega)]
    unfold FP.Core.decode FP.Core.fieldE FP.Core.fieldT FP.Core.fieldS
    rw [tails64, exps64, qmin64]
    have e1 : ((s.toNat * 2048 + e) * 4503599627370496 + t) / 4503599627370496 = s.toNat * 2048 + e := by omega
    have e2 : ((s.toNat * 2048 + e) * 4503599627370496 + t) % 4503599627370496 = t := by omega
    have e3 : (s.toNat * 2048 + e) % 2048 = e := by omega
    have e4 : (s.toNat * 2048 + e) / 2048 = s.toNat := by omega
    have e5 : (s.toNat % 2 == 1) = s := beq1 (by omega)
    rw [e1, e2, e3, e4, e5, if_neg (by omega)]
    by_cases h : e = 0
    · rw [if_pos h] at hh ⊢; rw [hh.1, hh.2]
    · rw [if_neg h] at hh ⊢; rw [hh.1, hh.2]
  have een : FP.Core.encode FP.Core.b64 (.fin s c q) = if c < 4503599627370496 then (s.toNat * 2048 + 0) * 4503599627370496 + c else (s.toNat * 2048 + ((q + 1074).toNat + 1)) * 4503599627370496 + (c - 4503599627370496) := by
    show (if c < FP.Core.b64.tails then FP.Core.assemble FP.Core.b64 s 0 c else FP.Core.assemble FP.Core.b64 s ((q - FP.Core.b64.qmin).toNat + 1) (c - FP.Core.b64.tails)) = _
    rw [tails64, asm64, asm64, qmin64, show q - -1074 = q + 1074 by omega]
  rw [een]
  by_cases h : c < 4503599627370496
  · rw [if_pos h]; exact key 0 c (by omega) h (by rw [if_pos rfl]; exact ⟨rfl, h3 h⟩)
  · rw [if_neg h]; exact key _ _ (by omega) (by omega) (by rw [if_neg (by omega)]; exact ⟨by omega, by omega⟩)
theorem rnd_same {s : Bool} {c : Nat} {q : Int} (hc : c < 9007199254740992) (h1 : -1074 ≤ q) (h2 : q ≤ 971) (h3 : c < 4503599627370496 → q = -1074) :
    FP.Core.round FP.Core.b64 (.fin s (c * 2 ^ (q + 1074).toNat) (-1074)) = .fin s c q := by
  show FP.Core.roundRatio FP.Core.b64 s (c * 2 ^ (q + 1074).toNat) 1 (-1074) = _
  obtain ⟨e, he⟩ : ∃ e : Nat, q = (e : Int) - 1074 := ⟨(q + 1074).toNat, by omega⟩
  have e0 : (q + 1074).toNat = e := by omega
  have hpe : 0 < 2 ^ e := Nat.two_pow_pos e
  unfold FP.Core.roundRatio
  rw [e0]
  by_cases c0 : c = 0
  · subst c0
    rw [Nat.zero_mul, if_pos rfl, qmin64, h3 (by omega)]
  · have hC : c * 2 ^ e ≠ 0 := Nat.mul_ne_zero c0 (by omega)
    rw [if_neg hC]
    have lead : FP.Core.leading (c * 2 ^ e) 1 = ((c * 2 ^ e).log2 : Int) := by
      unfold FP.Core.leading
      have l1 : Nat.log2 1 = 0 := by decide
      rw [l1]
      have hle := Nat.log2_self_le hC
      simp only [Int.natCast_zero, Int.sub_zero]
      have t1 : (((c * 2 ^ e).log2 : Nat) : Int).toNat = (c * 2 ^ e).log2 := by omega
      have t2 : (-(((c * 2 ^ e).log2 : Nat) : Int)).toNat = 0 := by omega
      rw [t1, t2, Nat.one_mul, Nat.pow_zero, Nat.mul_one, if_pos hle]
    have quan : FP.Core.quantum FP.Core.b64 (c * 2 ^ e) 1 (-1074) = q := by
      unfold FP.Core.quantum
      have hp : ((FP.Core.b64.p : Nat) : Int) = 53 := rfl
      rw [qmin64, lead, hp]
      by_cases hb : c < 4503599627370496
      · have hq := h3 hb
        have e1 : e = 0 := by omega
        subst e1
        have : (c * 2 ^ 0).log2 < 52 := (Nat.log2_lt hC).mpr (by rw [Nat.pow_zero, Nat.mul_one]; exact hb)
        omega
      · have a1 : (c * 2 ^ e).log2 < 53 + e := (Nat.log2_lt hC).mpr (by rw [Nat.pow_add]; exact Nat.mul_lt_mul_of_pos_right hc hpe)
        have a2 : 52 + e ≤ (c * 2 ^ e).log2 := (Nat.le_log2 hC).mpr (by rw [Nat.pow_add]; exact Nat.mul_le_mul_right _ (by omega))
        omega
    rw [quan]
    unfold FP.Core.roundAt FP.Core.unitsNum FP.Core.unitsDen
    have t1 : (-1074 - q).toNat = 0 := by omega
    have t2 : (q - -1074).toNat = e := by omega
    rw [t1, t2, Nat.pow_zero, Nat.mul_one, Nat.one_mul]
    unfold FP.Core.nearest
    rw [Nat.mul_mod_left, Nat.mul_zero, if_pos hpe, Nat.mul_div_cancel _ hpe]
    unfold FP.Core.settle
    have e53 : 2 ^ FP.Core.b64.p = 9007199254740992 := by decide
    rw [e53, if_pos hc]
    unfold FP.Core.bound
    rw [qmax64, if_pos h2]
theorem cmp_self (z : Int) : compare z z = .eq := by
  show compareOfLessAndEq z z = .eq
  unfold compareOfLessAndEq
  rw [if_neg (by omega), if_pos rfl]
theorem cmp_add0 {x : UInt64} (h : nN x) : Op.cmpValue (FP.dcmp x (FP.dadd x 0)) .l = 0 := by
  have hz : FP.Core.decode FP.Core.b64 (0 : UInt64).toNat = .fin false 0 (-1074) := by decide +kernel
  have key : FP.dcmp x (FP.dadd x 0) = some .eq := by
    show FP.Core.order (FP.Core.decode FP.Core.b64 x.toNat) (FP.Core.decode FP.Core.b64 (UInt64.ofNat (FP.Core.encode FP.Core.b64 (FP.Core.round FP.Core.b64 (FP.Core.exactSum (FP.Core.decode FP.Core.b64 x.toNat) (FP.Core.decode FP.Core.b64 (0 : UInt64).toNat))))).toNat) = some .eq
    rw [hz]
    rcases dec_shape h with ⟨s, e⟩ | ⟨s, c, q, e, h1, h2, h3, h4⟩
    · rw [e]
      cases s <;> decide +kernel
    · rw [e]
      have hsum : ∃ s', (s' = s ∨ c = 0) ∧ FP.Core.exactSum (.fin s c q) (.fin false 0 (-1074)) = .fin s' (c * 2 ^ (q + 1074).toNat) (-1074) := by
        refine ⟨FP.Core.sumSign s false (FP.Core.sumUnits s c q false 0 (-1074) (min q (-1074))), ?_, ?_⟩
        · have hm : min q (-1074) = -1074 := by omega
          rw [hm]
          unfold FP.Core.sumSign FP.Core.sumUnits FP.Core.signed FP.Core.inUnits
          by_cases c0 : c = 0
          · exact Or.inr c0
          · left
            have hpe : 0 < 2 ^ (q - -1074).toNat := Nat.two_pow_pos _
            have hC : 0 < c * 2 ^ (q - -1074).toNat := Nat.mul_pos (by omega) hpe
            generalize c * 2 ^ (q - -1074).toNat = C at hC
            rw [Nat.zero_mul]
            cases s
            · simp only [Bool.false_eq_true, if_false]
              rw [if_neg (by omega)]
              exact decide_eq_false (by omega)
            · simp only [Bool.false_eq_true, if_false, if_true]
              rw [if_neg (by omega)]
              exact decide_eq_true (by omega)
        · have hm : min q (-1074) = -1074 := by omega
          show FP.Core.Datum.fin _ (FP.Core.sumUnits s c q false 0 (-1074) (min q (-1074))).natAbs (min q (-1074)) = _
          rw [hm]
          congr 1
          unfold FP.Core.sumUnits FP.Core.signed FP.Core.inUnits
          rw [Nat.zero_mul, show q - -1074 = q + 1074 by omega]
          generalize c * 2 ^ (q + 1074).toNat = C
          cases s
          · simp only [Bool.false_eq_true, if_false]; omega
          · simp only [Bool.false_eq_true, if_false, if_true]; omega
      obtain ⟨s', hs, e2⟩ := hsum
      rw [e2, rnd_same h1 h2 h3 h4, dec_enc h1 h2 h3 h4]
      show some (compare (FP.Core.signed s (FP.Core.inUnits c q (min q q))) (FP.Core.signed s' (FP.Core.inUnits c q (min q q)))) = some .eq
      rcases hs with rfl | rfl
      · rw [cmp_self]
      · have e3 : ∀ t : Bool, FP.Core.signed t (FP.Core.inUnits 0 q (min q q)) = 0 := by
          intro t
          unfold FP.Core.signed FP.Core.inUnits
          rw [Nat.zero_mul]
          cases t <;> rfl
        rw [e3, e3, cmp_self]
  rw [key]
  rfl
theorem cmp_same {x : UInt64} (h : nN x) : Op.cmpValue (FP.dcmp x x) .l = 0 := by
  have key : FP.dcmp x x = some .eq := by
    show FP.Core.order (FP.Core.decode FP.Core.b64 x.toNat) (FP.Core.decode FP.Core.b64 x.toNat) = some .eq
    rcases dec_shape h with ⟨s, e⟩ | ⟨s, c, q, e, _⟩
    · rw [e]; cases s <;> decide +kernel
    · rw [e]
      show some (compare (FP.Core.signed s (FP.Core.inUnits c q (min q q))) (FP.Core.signed s (FP.Core.inUnits c q (min q q)))) = some .eq
      rw [cmp_self]
  rw [key]
  rfl
