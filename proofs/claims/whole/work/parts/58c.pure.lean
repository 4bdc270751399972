/-! the law's loop answers true, whatever the script -/
theorem nI_iI (n : Nat) : nI n = iI (n : Int) := iI_nat n
set_option maxHeartbeats 40000000 in
set_option maxRecDepth 100000 in
theorem law_pure {L : Nat} (hL : L ≤ 1536) (xs : Nat → Int32) : ∀ (n i : Nat), i ≤ L → L + 3 ≤ i + 3 * n → GoesOn (fL_law_28 L xs n (iI (i : Int))) := by
  intro n
  induction n with
  | zero => intro i h1 h2; omega
  | succ n ih =>
    intro i h1 h2 σ η τ δ μ ω ε R X
    have e3 : iI (i : Int) + (3 : Int32) = iI ((i + 3 : Nat) : Int) := by rw [L3, iI_add]; rfl
    have e1 : iI (i : Int) + (1 : Int32) = iI ((i + 1 : Nat) : Int) := by rw [L1, iI_add]; rfl
    have e2 : iI (i : Int) + (2 : Int32) = iI ((i + 2 : Nat) : Int) := by rw [L2, iI_add]; rfl
    have e0 : nI L - (3 : Int32) = iI ((L : Int) - 3) := by rw [nI_iI, L3, iI_sub]
    rw [fL_law_28, e0]
    by_cases hc : (L : Int) - 3 < i
    · rw [if_pos (ylt (by omega) (by omega) hc)]
    have G := ih (i + 3) (by omega) (by omega)
    rw [if_neg (nlt (by omega) (by omega) (by omega)), if_pos (inR_iI (by omega) (by omega) (by omega)), e3, e1, e2]
    have i1 : inR (iI ((i + 1 : Nat) : Int)) L := inR_iI (by omega) (by omega) (by omega)
    have i2 : inR (iI ((i + 2 : Nat) : Int)) L := inR_iI (by omega) (by omega) (by omega)
    generalize fL_law_28 L xs n (iI ((i + 3 : Nat) : Int)) = N at G ⊢
    generalize xs (Int32.toNatClampNeg (iI ((i + 1 : Nat) : Int))) = p1
    generalize xs (Int32.toNatClampNeg (iI ((i + 2 : Nat) : Int))) = p2
    generalize xs (Int32.toNatClampNeg (iI (i : Int))) &&& (63 : Int32) = q
    by_cases h0 : q = (0 : Int32)
    · rw [if_pos h0, if_pos i1, if_pos i2]; exact case_0 G R X p1 p2
    rw [if_neg h0]
    by_cases h1 : q = (1 : Int32)
    · rw [if_pos h1, if_pos i1, if_pos i2]; exact case_1 G R X p1 p2
    rw [if_neg h1]
    by_cases h2 : q = (2 : Int32)
    · rw [if_pos h2, if_pos i1]; exact case_2 G R X p1
    rw [if_neg h2]
    by_cases h3 : q = (3 : Int32)
    · rw [if_pos h3, if_pos i1, if_pos i2]; exact case_3 G R X p1 p2
    rw [if_neg h3]
    by_cases h4 : q = (4 : Int32)
    · rw [if_pos h4, if_pos i1, if_pos i2]; exact case_4 G R X p1 p2
    rw [if_neg h4]
    by_cases h5 : q = (5 : Int32)
    · rw [if_pos h5, if_pos i1]; exact case_5 G R X p1
    rw [if_neg h5]
    by_cases h6 : q = (6 : Int32)
    · rw [if_pos h6, if_pos i1]; exact case_6 G R X p1
    rw [if_neg h6]
    by_cases h7 : q = (7 : Int32)
    · rw [if_pos h7]; exact case_7 G R X
    rw [if_neg h7]
    by_cases h8 : q = (8 : Int32)
    · rw [if_pos h8, if_pos i1]; exact case_8 G R X p1
    rw [if_neg h8]
    by_cases h9 : q = (9 : Int32)
    · rw [if_pos h9]; exact case_9 G R X
    rw [if_neg h9]
    by_cases h10 : q = (10 : Int32)
    · rw [if_pos h10, if_pos i1]; exact case_10 G R X p1
    rw [if_neg h10]
    by_cases h11 : q = (11 : Int32)
    · rw [if_pos h11, if_pos i1]; exact case_11 G R X p1
    rw [if_neg h11]
    by_cases h12 : q = (12 : Int32)
    · rw [if_pos h12, if_pos i1, if_pos i2]; exact case_12 G R X p1 p2
    rw [if_neg h12]
    by_cases h13 : q = (13 : Int32)
    · rw [if_pos h13, if_pos i1]; exact case_13 G R X p1
    rw [if_neg h13]
    by_cases h14 : q = (14 : Int32)
    · rw [if_pos h14, if_pos i1]; exact case_14 G R X p1
    rw [if_neg h14]
    by_cases h15 : q = (15 : Int32)
    · rw [if_pos h15, if_pos i1, if_pos i2]; exact case_15 G R X p1 p2
    rw [if_neg h15]
    by_cases h16 : q = (16 : Int32)
    · rw [if_pos h16, if_pos i1, if_pos i2]; exact case_16 G R X p1 p2
    rw [if_neg h16]
    by_cases h17 : q = (17 : Int32)
    · rw [if_pos h17, if_pos i1]; exact case_17 G R X p1
    rw [if_neg h17]
    by_cases h18 : q = (18 : Int32)
    · rw [if_pos h18, if_pos i1]; exact case_18 G R X p1
    rw [if_neg h18]
    by_cases h19 : q = (19 : Int32)
    · rw [if_pos h19]; exact case_19 G R X
    rw [if_neg h19]
    by_cases h20 : q = (20 : Int32)
    · rw [if_pos h20]; exact case_20 G R X
    rw [if_neg h20]
    by_cases h21 : q = (21 : Int32)
    · rw [if_pos h21, if_pos i1]; exact case_21 G R X p1
    rw [if_neg h21]
    by_cases h22 : q = (22 : Int32)
    · rw [if_pos h22, if_pos i1]; exact case_22 G R X p1
    rw [if_neg h22]
    by_cases h23 : q = (23 : Int32)
    · rw [if_pos h23, if_pos i1]; exact case_23 G R X p1
    rw [if_neg h23]
    by_cases h24 : q = (24 : Int32)
    · rw [if_pos h24, if_pos i1]; exact case_24 G R X p1
    rw [if_neg h24]
    by_cases h25 : q = (25 : Int32)
    · rw [if_pos h25, if_pos i1, if_pos i2]; exact case_25 G R X p1 p2
    rw [if_neg h25]
    by_cases h26 : q = (26 : Int32)
    · rw [if_pos h26, if_pos i1, if_pos i2]; exact case_26 G R X p1 p2
    rw [if_neg h26]
    by_cases h27 : q = (27 : Int32)
    · rw [if_pos h27, if_pos i1]; exact case_27 G R X p1
    rw [if_neg h27]
    by_cases h28 : q = (28 : Int32)
    · rw [if_pos h28, if_pos i1]; exact case_28 G R X p1
    rw [if_neg h28]
    by_cases h29 : q = (29 : Int32)
    · rw [if_pos h29]; exact case_29 G R X
    rw [if_neg h29]
    by_cases h30 : q = (30 : Int32)
    · rw [if_pos h30, if_pos i1, if_pos i2]; exact case_30 G R X p1 p2
    rw [if_neg h30]
    by_cases h31 : q = (31 : Int32)
    · rw [if_pos h31, if_pos i1, if_pos i2]; exact case_31 G R X p1 p2
    rw [if_neg h31]
    by_cases h32 : q = (32 : Int32)
    · rw [if_pos h32, if_pos i1]; exact case_32 G R X p1
    rw [if_neg h32]
    by_cases h33 : q = (33 : Int32)
    · rw [if_pos h33, if_pos i1]; exact case_33 G R X p1
    rw [if_neg h33]
    by_cases h34 : q = (34 : Int32)
    · rw [if_pos h34, if_pos i1]; exact case_34 G R X p1
    rw [if_neg h34]
    by_cases h35 : q = (35 : Int32)
    · rw [if_pos h35, if_pos i1]; exact case_35 G R X p1
    rw [if_neg h35]
    by_cases h36 : q = (36 : Int32)
    · rw [if_pos h36, if_pos i1]; exact case_36 G R X p1
    rw [if_neg h36]
    by_cases h37 : q = (37 : Int32)
    · rw [if_pos h37]; exact case_37 G R X
    rw [if_neg h37]
    by_cases h38 : q = (38 : Int32)
    · rw [if_pos h38]; exact case_38 G R X
    rw [if_neg h38]
    by_cases h39 : q = (39 : Int32)
    · rw [if_pos h39]; exact case_39 G R X
    rw [if_neg h39]
    by_cases h40 : q = (40 : Int32)
    · rw [if_pos h40]; exact case_40 G R X
    rw [if_neg h40]
    by_cases h41 : q = (41 : Int32)
    · rw [if_pos h41]; exact case_41 G R X
    rw [if_neg h41]
    by_cases h42 : q = (42 : Int32)
    · rw [if_pos h42]; exact case_42 G R X
    rw [if_neg h42]
    by_cases h43 : q = (43 : Int32)
    · rw [if_pos h43]; exact case_43 G R X
    rw [if_neg h43]
    exact G _ _ _ _ _ _ _ R X
