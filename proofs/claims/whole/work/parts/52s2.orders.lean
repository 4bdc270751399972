/-! an order is read: the component -/
theorem k97 : (97 : Int32) = iI 97 := rfl
theorem k98 : (98 : Int32) = iI 98 := rfl
theorem k103 : (103 : Int32) = iI 103 := rfl
theorem k108 : (108 : Int32) = iI 108 := rfl
theorem k110 : (110 : Int32) = iI 110 := rfl
theorem k115 : (115 : Int32) = iI 115 := rfl
theorem k117 : (117 : Int32) = iI 117 := rfl
theorem k119 : (119 : Int32) = iI 119 := rfl
theorem k46 : (46 : Int32) = iI 46 := rfl
theorem k59 : (59 : Int32) = iI 59 := rfl
theorem k64 : (64 : Int32) = iI 64 := rfl
theorem k48 : (48 : Int32) = iI 48 := rfl
theorem k57 : (57 : Int32) = iI 57 := rfl
theorem k55 : (55 : Int32) = iI 55 := rfl
section OS
variable {τ : Tx} {l : Nat} {t : Nat → Int}
/-- what the reader leaves of an order -/
def OrdS (t : Nat → Int) (l : Nat) (x : Nat) (τ : Tx) : Prop := X_kind τ = iI (sgN t l x) ∧ (¬ sgN t l x = 97 → ¬ sgN t l x = 115 → X_fst τ = iI (ordN t l x).2.2.1) ∧ (sgN t l x = 108 ∨ sgN t l x = 110 → X_snd τ = iI (ordN t l x).2.2.2) ∧ (sgN t l x = 115 → X_df τ = iI (ordN t l x).2.2.1 ∧ X_dc τ = iI (ordN t l x).2.2.2)
theorem sp_sing (T : TXs τ l t) (g : TG l t) {least most c : Int} (hm : 0 ≤ least ∧ least ≤ most ∧ most ≤ 383) (hc : 0 ≤ c ∧ c ≤ 1000) {x : Nat} (hs : sgN t l x = c) :
    ((fX3_pass (X_cur' τ (iI x)) (iI c)).bind fun r_5 => (if r_5.1 = true then ((fX3_readFirst r_5.2 (iI least) (iI most)).bind fun r_7 => (if r_7.1 = true then (some (true, r_7.2)) else (some (false, r_7.2)))) else (some (false, r_5.2)))) = some ((singN t l least most (x + 1)).1, X_fst' (X_cur' τ (iI ((singN t l least most (x + 1)).2.1 : Nat))) (iI (singN t l least most (x + 1)).2.2.1)) := by
  have hl := sgN_lt (t := t) (l := l) (x := x) (by omega)
  have h60 := g.1
  rw [sp_pass T g (by omega) (by omega), if_pos hs, Option.bind_some, if_pos (rfl : true = true), sp_readFirst T g hm (x := x + 1) (by omega), Option.bind_some]
  cases h : (numN t l least most (x + 1)).1 with
  | true => rw [if_pos (rfl : true = true)]; unfold singN; rw [h]
  | false => rw [if_neg nft]; unfold singN; rw [h]
theorem sp_pair (T : TXs τ l t) (g : TG l t) {m1 c2 m2 c : Int} (hm : 0 ≤ m1 ∧ m1 ≤ 383) (hm2 : 0 ≤ m2 ∧ m2 ≤ 383) (hc : 0 ≤ c ∧ c ≤ 1000) (hc2 : 0 ≤ c2 ∧ c2 ≤ 1000) {x : Nat} (hs : sgN t l x = c) :
    ∃ τ', ((fX3_pass (X_cur' τ (iI x)) (iI c)).bind fun r_24 => (if r_24.1 = true then ((fX3_readFirst r_24.2 (iI 0) (iI m1)).bind fun r_26 => (if r_26.1 = true then ((fX3_pass r_26.2 (iI c2)).bind fun r_28 => (if r_28.1 = true then ((fX3_readSecond r_28.2 (iI m2)).bind fun r_30 => (if r_30.1 = true then (some (true, r_30.2)) else (some (false, r_30.2)))) else (some (false, r_28.2)))) else (some (false, r_26.2)))) else (some (false, r_24.2)))) = some ((pairN t l m1 c2 m2 (x + 1)).1, τ') ∧
      X_sg τ' = X_sg τ ∧ X_len τ' = X_len τ ∧ X_kind τ' = X_kind τ ∧ X_cur τ' = iI ((pairN t l m1 c2 m2 (x + 1)).2.1 : Nat) ∧ ((pairN t l m1 c2 m2 (x + 1)).1 = true → X_fst τ' = iI (pairN t l m1 c2 m2 (x + 1)).2.2.1 ∧ X_snd τ' = iI (pairN t l m1 c2 m2 (x + 1)).2.2.2) := by
  have hl := sgN_lt (t := t) (l := l) (x := x) (by omega)
  have h60 := g.1
  have e1 := num_end (t := t) (l := l) (least := 0) (most := m1) (x := x + 1) (by omega)
  rw [sp_pass T g (by omega) (by omega), if_pos hs, Option.bind_some, if_pos (rfl : true = true), sp_readFirst T g (least := 0) (most := m1) (by omega) (x := x + 1) (by omega), Option.bind_some]
  unfold pairN
  by_cases h : (numN t l 0 m1 (x + 1)).1 = true
  · rw [if_pos h, if_pos h]
    generalize hn : numN t l 0 m1 (x + 1) = n at h e1
    obtain ⟨n1, n2, n3⟩ := n
    have p := sp_pass (τ := X_fst' τ (iI n2)) T g (x := n3) (by show n3 ≤ 1000; have := e1.2; simp only at this; omega) (c := c2) (by omega)
    have p' : fX3_pass (X_fst' (X_cur' τ (iI (n3 : Int))) (iI n2)) (iI c2) = _ := p
    rw [p']
    by_cases h2 : sgN t l n3 = c2
    · have hl2 := sgN_lt (t := t) (l := l) (x := n3) (by omega)
      rw [if_pos h2, Option.bind_some, if_pos (rfl : true = true), sp_readSecond (τ := X_fst' τ (iI n2)) T g (most := m2) hm2 (x := n3 + 1) (by omega), Option.bind_some, if_pos h2]
      generalize numN t l 0 m2 (n3 + 1) = o
      obtain ⟨o1, o2, o3⟩ := o
      cases o1 with
      | true => rw [if_pos (rfl : true = true)]; exact ⟨_, rfl, rfl, rfl, rfl, rfl, fun _ => ⟨rfl, rfl⟩⟩
      | false => rw [if_neg nft]; exact ⟨_, rfl, rfl, rfl, rfl, rfl, fun w => absurd w nft⟩
    · rw [if_neg h2, Option.bind_some, if_neg nft, if_neg h2]
      exact ⟨_, rfl, rfl, rfl, rfl, rfl, fun w => absurd w nft⟩
  · rw [if_neg h, if_neg h]
    exact ⟨_, rfl, rfl, rfl, rfl, rfl, fun w => absurd w nft⟩
theorem sp_readNext (T : TXs τ l t) (g : TG l t) {x : Nat} (hx : x ≤ l) :
    ∃ τ', fX3_readNext_18 (X_cur' τ (iI x)) = some ((ordN t l x).1, τ') ∧ X_sg τ' = X_sg τ ∧ X_len τ' = X_len τ ∧ X_cur τ' = iI ((ordN t l x).2.1 : Nat) ∧ ((ordN t l x).1 = true → OrdS t l x τ') := by
  have h60 := g.1
  have r := sgN_rng g x
  have es : fX3_signAt (X_cur' τ (iI x)) (X_cur (X_cur' τ (iI x))) = some (iI (sgN t l x)) := sp_signAt (τ := X_cur' τ (iI x)) T g (by omega)
  have sng : ∀ least most : Int, 0 ≤ least ∧ least ≤ most ∧ most ≤ 383 → 0 ≤ sgN t l x → ((fX3_pass (X_kind' (X_cur' τ (iI x)) (iI (sgN t l x))) (iI (sgN t l x))).bind fun r_5 => (if r_5.1 = true then ((fX3_readFirst r_5.2 (iI least) (iI most)).bind fun r_7 => (if r_7.1 = true then (some (true, r_7.2)) else (some (false, r_7.2)))) else (some (false, r_5.2)))) = some ((singN t l least most (x + 1)).1, X_fst' (X_cur' (X_kind' τ (iI (sgN t l x))) (iI ((singN t l least most (x + 1)).2.1 : Nat))) (iI (singN t l least most (x + 1)).2.2.1)) := fun least most hm h0 =>
    sp_sing (τ := X_kind' τ (iI (sgN t l x))) T g hm (c := sgN t l x) (by omega) rfl
  have par : ∀ m1 c2 m2 : Int, 0 ≤ m1 ∧ m1 ≤ 383 → 0 ≤ m2 ∧ m2 ≤ 383 → 0 ≤ c2 ∧ c2 ≤ 1000 → 0 ≤ sgN t l x → _ := fun m1 c2 m2 h1 h2 h3 h0 =>
    sp_pair (τ := X_kind' τ (iI (sgN t l x))) T g (m1 := m1) (c2 := c2) (m2 := m2) (c := sgN t l x) h1 h2 (by omega) h3 (x := x) rfl
  have N : ∀ c : Int, -2147483648 ≤ c ∧ c < 2147483648 → ¬ sgN t l x = c → ¬ iI (sgN t l x) = iI c := fun c hc h => neq (by omega) hc h
  unfold fX3_readNext_18 ordN OrdS
  rw [es, Option.bind_some, k97, k98, k103, k108, k110, k115, k117, k119, L0, L7, L1, L6, k46, k59, L99, k64, L383]
  unfold ordN
  by_cases h1 : sgN t l x = 97
  · rw [if_pos (by rw [h1]), if_pos h1]
    have p := sp_pass (τ := X_kind' τ (iI (sgN t l x))) T g (x := x) (by omega) (c := 97) (by omega)
    rw [if_pos h1] at p
    have p' : fX3_pass (X_kind' (X_cur' τ (iI x)) (iI (sgN t l x))) (iI 97) = _ := p
    rw [p', Option.bind_some]
    exact ⟨_, rfl, rfl, rfl, rfl, fun _ => ⟨rfl, fun w => absurd h1 w, fun w => by omega, fun w => by omega⟩⟩
  rw [if_neg (N 97 (by omega) h1), if_neg h1]
  by_cases h2 : sgN t l x = 98
  · rw [if_pos (by rw [h2]), if_pos h2, sng 0 7 (by omega) (by omega)]
    exact ⟨_, rfl, rfl, rfl, rfl, fun _ => ⟨rfl, fun _ _ => rfl, fun w => by omega, fun w => by omega⟩⟩
  rw [if_neg (N 98 (by omega) h2), if_neg h2]
  by_cases h3 : sgN t l x = 103
  · have s := sng 1 6 (by omega) (by omega)
    rw [if_pos (by rw [h3]), if_pos h3, show (iI 103 : Int32) = iI (sgN t l x) from by rw [h3], s]
    exact ⟨_, rfl, rfl, rfl, rfl, fun _ => ⟨rfl, fun _ _ => rfl, fun w => by omega, fun w => by omega⟩⟩
  rw [if_neg (N 103 (by omega) h3), if_neg h3]
  by_cases h4 : sgN t l x = 108
  · obtain ⟨τ', p1, p2, p3, p4, p5, p6⟩ := par 7 46 59 (by omega) (by omega) (by omega) (by omega)
    rw [if_pos (by rw [h4]), if_pos h4, show (iI 108 : Int32) = iI (sgN t l x) from by rw [h4]]
    exact ⟨τ', p1, p2, p3, p5, fun w => ⟨p4, fun _ _ => (p6 w).1, fun _ => (p6 w).2, fun w => by omega⟩⟩
  rw [if_neg (N 108 (by omega) h4), if_neg h4]
  by_cases h5 : sgN t l x = 110
  · obtain ⟨τ', p1, p2, p3, p4, p5, p6⟩ := par 99 64 383 (by omega) (by omega) (by omega) (by omega)
    rw [if_pos (by rw [h5]), if_pos h5, show (iI 110 : Int32) = iI (sgN t l x) from by rw [h5]]
    exact ⟨τ', p1, p2, p3, p5, fun w => ⟨p4, fun _ _ => (p6 w).1, fun _ => (p6 w).2, fun w => by omega⟩⟩
  rw [if_neg (N 110 (by omega) h5), if_neg h5]
  by_cases h6 : sgN t l x = 115
  · have hl := sgN_lt (t := t) (l := l) (x := x) (by omega)
    rw [if_pos (by rw [h6]), if_pos h6]
    have p := sp_pass (τ := X_kind' τ (iI (sgN t l x))) T g (x := x) (by omega) (c := 115) (by omega)
    rw [if_pos h6] at p
    have p' : fX3_pass (X_kind' (X_cur' τ (iI x)) (iI (sgN t l x))) (iI 115) = _ := p
    have d := sp_dirs (τ := X_df' (X_kind' τ (iI (sgN t l x))) (iI ((x + 1 : Nat) : Int))) T g 20 0 (x + 1) FU (by omega) (FU_gt (by omega)) (by omega)
    rw [Nat.zero_add, Z0] at d
    have d' : fX3_readDirections (X_cur' (X_kind' τ (iI (sgN t l x))) (iI ((x + 1 : Nat) : Int))) = _ := d
    rw [p', Option.bind_some, if_pos (rfl : true = true), d', Option.bind_some]
    by_cases q : 0 < drN t l 20 (x + 1)
    · rw [decide_eq_true q, if_pos (rfl : true = true)]
      exact ⟨_, rfl, rfl, rfl, rfl, fun _ => ⟨rfl, fun _ w => absurd h6 w, fun w => by omega, fun _ => ⟨rfl, rfl⟩⟩⟩
    · rw [decide_eq_false q, if_neg nft]
      exact ⟨_, rfl, rfl, rfl, rfl, fun w => absurd w nft⟩
  rw [if_neg (N 115 (by omega) h6), if_neg h6]
  by_cases h7 : sgN t l x = 117
  · rw [if_pos (by rw [h7]), if_pos h7, sng 0 7 (by omega) (by omega)]
    exact ⟨_, rfl, rfl, rfl, rfl, fun _ => ⟨rfl, fun _ _ => rfl, fun w => by omega, fun w => by omega⟩⟩
  rw [if_neg (N 117 (by omega) h7), if_neg h7]
  by_cases h8 : sgN t l x = 119
  · rw [if_pos (by rw [h8]), if_pos h8, sng 0 7 (by omega) (by omega)]
    exact ⟨_, rfl, rfl, rfl, rfl, fun _ => ⟨rfl, fun _ _ => rfl, fun w => by omega, fun w => by omega⟩⟩
  rw [if_neg (N 119 (by omega) h8), if_neg h8]
  exact ⟨_, rfl, rfl, rfl, rfl, fun w => absurd w nft⟩
end OS
