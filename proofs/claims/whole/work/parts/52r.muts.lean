/-! the calls that change: both answer alike and stay beside each other -/
def RR (σ : Sh) (η : Hi) (μ : Mo) : Prop := (∃ a, GoodA a ∧ RepS σ a ∧ RepM (M_row μ) a) ∧ RepH η μ ∧ RepT η μ
def FX (μ μ' : Mo) : Prop := M_tx μ' = M_tx μ ∧ M_len μ' = M_len μ
def MU {V : Type} (x : Option (Except String (V × Sh × Hi))) (y : Option (V × Mo)) (μ : Mo) (cs : List (String × Int32)) : Prop :=
  (∃ e c v, (e, c) ∈ cs ∧ x = some (.error e) ∧ y = some (v, M_th' μ c)) ∨ (∃ v σ' η' μ', x = some (.ok (v, σ', η')) ∧ y = some (v, μ') ∧ M_th μ' = 0 ∧ RR σ' η' μ' ∧ FX μ μ')
section MUT
variable {σ : Sh} {μ : Mo} {η : Hi} {a : Ab}
theorem rr_th {c : Int32} (h : RR σ η μ) : RR σ η (M_th' μ c) := h
theorem rec_ok (G : GoodA a) (H : RepS σ a) (M : RepM (M_row μ) a) (hH : RepH η μ) (hT : RepT η μ) : ∃ η' ν, fX1_save σ η = some η' ∧ fX7_records μ = some ν ∧ M_row ν = M_row μ ∧ M_th ν = M_th μ ∧ FX μ ν ∧ RepH η' ν ∧ RepT η' ν := by
  obtain ⟨η', sv, c, e1, e2, hH', k1, k2⟩ := save_ok hH H M G.1 G.2
  refine ⟨η', M_sm' (M_sv' μ sv) c, e1, e2, rfl, rfl, ⟨rfl, rfl⟩, hH', ?_⟩
  obtain ⟨t1, t2⟩ := hT
  refine ⟨k1.trans t1, fun q => ?_⟩
  rw [k2]
  exact t2 (k1.symm.trans q)
theorem rr_row {η' : Hi} {ν : Mo} (hH : RepH η' ν) (hT : RepT η' ν) {σ' : Sh} {g : Nat → Int32} {b : Ab} (G : GoodA b) (H : RepS σ' b) (M : RepM g b) : RR σ' η' (M_row' ν g) := ⟨⟨b, G, H, M⟩, hH, hT⟩
theorem rq_lev {z : Int} (hz : -2147483648 ≤ z ∧ z < 2147483648) : (0 ≤ z ∧ z ≤ 99 → fX6_requireLevel (iI z) = some (.ok ())) ∧ (¬ (0 ≤ z ∧ z ≤ 99) → fX6_requireLevel (iI z) = some (.error "java/lang/IllegalArgumentException")) := by
  unfold fX6_requireLevel
  constructor
  · intro h
    rw [if_neg (nlt0 (by omega)), L99, if_pos (yle (by omega) (by omega) (by omega))]
  · intro h
    by_cases q : z < 0
    · rw [if_pos (by rw [L0]; exact ylt (by omega) (by omega) q)]
    · rw [if_neg (nlt0 (by omega)), L99, if_neg (nle (by omega) (by omega) (by omega))]
theorem acts_no {act p1 p2 : Int32} {c : Int} (hc : 0 < c ∧ c ≤ 3) (hr : fX7_refusal μ act p1 p2 = some (iI c)) : fX7_acts μ act p1 p2 = some ((0 : Int32), M_th' μ (iI c)) := by
  unfold fX7_acts
  rw [hr, Option.bind_some, if_neg (show ¬ iI c ≤ (0 : Int32) from by rw [L0]; exact nle (by omega) (by omega) (by omega))]
theorem acts_yes {act p1 p2 z : Int32} {ν ν' : Mo} (hr : fX7_refusal μ act p1 p2 = some (0 : Int32)) (h1 : fX7_records (M_th' μ (0 : Int32)) = some ν) (h2 : fX7_does ν act p1 p2 = some (z, ν')) : fX7_acts μ act p1 p2 = some (z, ν') := by
  unfold fX7_acts
  rw [hr, Option.bind_some, if_pos (by decide), h1, Option.bind_some, h2, Option.bind_some]
theorem n01 : ¬ ((0 : Int32) = 1) := by decide
theorem c1 : (1 : Int32) = iI 1 := rfl
theorem c2 : (2 : Int32) = iI 2 := rfl
theorem c3 : (3 : Int32) = iI 3 := rfl
/-- what refuses a begun line -/
theorem rf_begin (M : RepM (M_row μ) a) (I : InvA a) {z w : Int} (hz : -2147483648 ≤ z ∧ z < 2147483648) (hw : -2147483648 ≤ w ∧ w < 2147483648) :
    (¬ (0 ≤ w ∧ w ≤ 383) → fX7_refusal μ (110 : Int32) (iI z) (iI w) = some (iI 1)) ∧
    ((0 ≤ w ∧ w ≤ 383) → ¬ (0 ≤ z ∧ z ≤ 99) → fX7_refusal μ (110 : Int32) (iI z) (iI w) = some (iI 2)) ∧
    ((0 ≤ w ∧ w ≤ 383) → (0 ≤ z ∧ z ≤ 99) → ¬ (an a < 8 ∧ ∀ i, i < an a → ¬ onL a i w) → fX7_refusal μ (110 : Int32) (iI z) (iI w) = some (iI 3)) ∧
    ((0 ≤ w ∧ w ≤ 383) → (0 ≤ z ∧ z ≤ 99) → (an a < 8 ∧ ∀ i, i < an a → ¬ onL a i w) → fX7_refusal μ (110 : Int32) (iI z) (iI w) = some (0 : Int32)) := by
  have h8 := I.1
  have i := sm_inB (x := z) (y := 0) (z := 99) hz (by omega) (by omega)
  rw [Z0', Z99] at i
  unfold fX7_refusal
  rw [if_neg (by decide), if_neg (by decide), if_neg (by decide), if_pos (by decide)]
  refine ⟨fun h => ?_, fun h h2 => ?_, fun h h2 h3 => ?_, fun h h2 h3 => ?_⟩
  · rw [(sm_isPoint hw).2 h, Option.bind_some, if_neg nft]; rfl
  · rw [(sm_isPoint hw).1 h, Option.bind_some, if_pos (rfl : true = true), i.2 h2, Option.bind_some, if_neg nft]; rfl
  · rw [(sm_isPoint hw).1 h, Option.bind_some, if_pos (rfl : true = true), i.1 h2, Option.bind_some, if_pos (rfl : true = true), sm_n M]
    by_cases q : an a = 8
    · rw [if_pos (show iI (an a : Int) = (8 : Int32) from by rw [q]; rfl)]; rfl
    · rw [if_neg (show ¬ iI (an a : Int) = (8 : Int32) from by rw [L8]; exact neq (by omega) (by omega) (by omega))]
      have ho : ∃ i, i < an a ∧ onL a i w := Classical.byContradiction fun t => h3 ⟨by omega, fun i hi ho => t ⟨i, hi, ho⟩⟩
      obtain ⟨i, hi, ho⟩ := ho
      rw [sm_owner_some M I (by omega) hi ho, Option.bind_some, if_neg (by rw [Lm1]; exact neq (by omega) (by omega) (by omega))]; rfl
  · rw [(sm_isPoint hw).1 h, Option.bind_some, if_pos (rfl : true = true), i.1 h2, Option.bind_some, if_pos (rfl : true = true), sm_n M, if_neg (show ¬ iI (an a : Int) = (8 : Int32) from by rw [L8]; exact neq (by omega) (by omega) (by omega)), sm_owner_none M I (by omega) h3.2, Option.bind_some, if_pos (by rw [Lm1])]
theorem mu_begin (R : RR σ η μ) {z w : Int} (hz : -2147483648 ≤ z ∧ z < 2147483648) (hw : -2147483648 ≤ w ∧ w < 2147483648) :
    MU (fX6_begin σ η (iI z) (iI w)) (fX7_begin μ (iI z) (iI w)) μ [("java/lang/IndexOutOfBoundsException", 1), ("java/lang/IllegalArgumentException", 2), ("java/lang/IllegalStateException", 3)] := by
  obtain ⟨⟨a, G, H, M⟩, hH, hT⟩ := R
  obtain ⟨f1, f2, f3, f4⟩ := rf_begin M G.1 hz hw
  unfold fX6_begin fX7_begin
  by_cases h : 0 ≤ w ∧ w ≤ 383
  · rw [(rq_pt hw).1 h, xth_ok]
    by_cases h2 : 0 ≤ z ∧ z ≤ 99
    · rw [(rq_lev hz).1 h2, xth_ok]
      obtain ⟨b, hb, ib⟩ := sp_hasRoomAt H G.1 (p := w) (by omega)
      rw [hb, Option.bind_some]
      by_cases h3 : an a < 8 ∧ ∀ i, i < an a → ¬ onL a i w
      · obtain ⟨p, rfl⟩ : ∃ p : Nat, w = p := ⟨w.toNat, by omega⟩
        obtain ⟨l, rfl⟩ : ∃ l : Nat, z = l := ⟨z.toNat, by omega⟩
        obtain ⟨η', ν, s1, s2, s3, s4, s5, s6, s7⟩ := rec_ok (μ := M_th' μ (0 : Int32)) G H M hH hT
        have Mν : RepM (M_row ν) a := by rw [s3]; exact M
        obtain ⟨σ', r, b', G', H', M', d1, d2⟩ := jn_begin H Mν G h3.1 (l := l) (p := p) (by omega) (by omega) h3.2
        right
        refine ⟨iI (an a), σ', η', M_row' ν r, ?_, ?_, s4, rr_row s6 s7 G' H' M', s5⟩
        · rw [if_pos (ib.mpr h3), s1, Option.bind_some, d1, Option.bind_some]
        · rw [acts_yes (f4 h h2 h3) s2 d2, Option.bind_some]
      · left
        refine ⟨_, 3, (0 : Int32), List.mem_cons_of_mem _ (List.mem_cons_of_mem _ (List.mem_cons_self ..)), ?_, ?_⟩
        · rw [if_neg (fun w => h3 (ib.mp w))]
        · rw [acts_no (by decide) (f3 h h2 h3), Option.bind_some]; rfl
    · left
      refine ⟨_, 2, (0 : Int32), List.mem_cons_of_mem _ (List.mem_cons_self ..), ?_, ?_⟩
      · rw [(rq_lev hz).2 h2, xth_err]
      · rw [acts_no (by decide) (f2 h h2), Option.bind_some]; rfl
  · left
    refine ⟨_, 1, (0 : Int32), List.mem_cons_self .., ?_, ?_⟩
    · rw [(rq_pt hw).2 h, xth_err]
    · rw [acts_no (by decide) (f1 h), Option.bind_some]; rfl
theorem why_rng (a : Ab) (k : Nat) (d : Int) : 0 ≤ whyA a k d ∧ whyA a k d ≤ 5 := by
  unfold whyA
  by_cases h1 : ringA a k
  · rw [cIf_pos h1]; omega
  · rw [cIf_neg h1]
    by_cases h2 : ah a k = 60
    · rw [cIf_pos h2]; omega
    · rw [cIf_neg h2]
      by_cases h3 : besI (ap a k (ah a k)) d = -1
      · rw [cIf_pos h3]; omega
      · rw [cIf_neg h3]
        by_cases h4 : (¬ (3 ≤ ah a k ∧ besI (ap a k (ah a k)) d = ap a k 0) ∧ ∃ k', k' < an a ∧ onL a k' (besI (ap a k (ah a k)) d))
        · rw [cIf_pos h4]; omega
        · rw [cIf_neg h4]
          by_cases h5 : crossA a (ap a k (ah a k)) d
          · rw [cIf_pos h5]; omega
          · rw [cIf_neg h5]; omega
theorem rf_step (M : RepM (M_row μ) a) (I : InvA a) {z w : Int} (hz : -2147483648 ≤ z ∧ z < 2147483648) (hw : -2147483648 ≤ w ∧ w < 2147483648) :
    (¬ (0 ≤ z ∧ z < an a) → fX7_refusal μ (115 : Int32) (iI z) (iI w) = some (iI 1)) ∧
    ((0 ≤ z ∧ z < an a) → ¬ (0 ≤ w ∧ w ≤ 7) → fX7_refusal μ (115 : Int32) (iI z) (iI w) = some (iI 2)) ∧
    ((0 ≤ z ∧ z < an a) → (0 ≤ w ∧ w ≤ 7) → ¬ whyA a z.toNat w = 0 → fX7_refusal μ (115 : Int32) (iI z) (iI w) = some (iI 3)) ∧
    ((0 ≤ z ∧ z < an a) → (0 ≤ w ∧ w ≤ 7) → whyA a z.toNat w = 0 → fX7_refusal μ (115 : Int32) (iI z) (iI w) = some (0 : Int32)) := by
  have i := sm_inB (x := w) (y := 0) (z := 7) hw (by omega) (by omega)
  rw [Z0', ← L7] at i
  unfold fX7_refusal
  rw [if_neg (by decide), if_neg (by decide), if_neg (by decide), if_neg (by decide), if_pos (by decide)]
  refine ⟨fun h => ?_, fun h h2 => ?_, fun h h2 h3 => ?_, fun h h2 h3 => ?_⟩
  · rw [(sm_isLine M I hz).2 h, Option.bind_some, if_neg nft]; rfl
  · rw [(sm_isLine M I hz).1 h, Option.bind_some, if_pos (rfl : true = true), i.2 h2, Option.bind_some, if_neg nft]; rfl
  · obtain ⟨k, rfl, hk⟩ := natz h
    rw [Int.toNat_natCast] at h3
    have r := why_rng a k w
    rw [(sm_isLine M I hz).1 h, Option.bind_some, if_pos (rfl : true = true), i.1 h2, Option.bind_some, if_pos (rfl : true = true), sm_whyNot M I hk h2, Option.bind_some, if_neg (show ¬ iI (whyA a k w) ≤ (0 : Int32) from by rw [L0]; exact nle (by omega) (by omega) (by omega))]; rfl
  · obtain ⟨k, rfl, hk⟩ := natz h
    rw [Int.toNat_natCast] at h3
    rw [(sm_isLine M I hz).1 h, Option.bind_some, if_pos (rfl : true = true), i.1 h2, Option.bind_some, if_pos (rfl : true = true), sm_whyNot M I hk h2, Option.bind_some, h3, if_pos (by decide)]
theorem mu_step (R : RR σ η μ) {z w : Int} (hz : -2147483648 ≤ z ∧ z < 2147483648) (hw : -2147483648 ≤ w ∧ w < 2147483648) :
    MU (fX6_step σ η (iI z) (iI w)) (fX7_step μ (iI z) (iI w)) μ [("java/lang/IndexOutOfBoundsException", 1), ("java/lang/IllegalArgumentException", 2), ("java/lang/IllegalStateException", 3)] := by
  obtain ⟨⟨a, G, H, M⟩, hH, hT⟩ := R
  obtain ⟨f1, f2, f3, f4⟩ := rf_step M G.1 hz hw
  unfold fX6_step fX7_step
  by_cases h : 0 ≤ z ∧ z < an a
  · rw [(rq_line H G.1 hz).1 h, xth_ok]
    by_cases h2 : 0 ≤ w ∧ w ≤ 7
    · rw [(rq_dir hw).1 h2, xth_ok]
      have h' := h
      obtain ⟨k, rfl, hk⟩ := natz h
      rw [Int.toNat_natCast] at f3 f4
      have r := why_rng a k w
      rw [sp_why H G.1 hk h2, Option.bind_some]
      by_cases h3 : whyA a k w = 0
      · obtain ⟨η', ν, s1, s2, s3, s4, s5, s6, s7⟩ := rec_ok (μ := M_th' μ (0 : Int32)) G H M hH hT
        have Mν : RepM (M_row ν) a := by rw [s3]; exact M
        obtain ⟨σ', r, b', c, G', H', M', d1, d2, d3⟩ := jn_step H Mν G hk h2 h3
        right
        refine ⟨c, σ', η', M_row' ν r, ?_, ?_, s4, rr_row s6 s7 G' H' M', s5⟩
        · rw [h3, if_pos (by decide), s1, Option.bind_some, d1, Option.bind_some, d2, Option.bind_some]
        · rw [acts_yes (f4 h' h2 h3) s2 d3, Option.bind_some]
          cases c
          · rw [if_neg (show ¬ (if false = true then (1 : Int32) else (0 : Int32)) = (1 : Int32) from by decide)]
          · rw [if_pos (show (if true = true then (1 : Int32) else (0 : Int32)) = (1 : Int32) from by decide)]
      · left
        refine ⟨_, 3, false, List.mem_cons_of_mem _ (List.mem_cons_of_mem _ (List.mem_cons_self ..)), ?_, ?_⟩
        · rw [if_neg (by rw [L0]; exact neq (by omega) (by omega) h3)]
        · rw [acts_no (by decide) (f3 h' h2 h3), Option.bind_some, if_neg n01]; rfl
    · left
      refine ⟨_, 2, false, List.mem_cons_of_mem _ (List.mem_cons_self ..), ?_, ?_⟩
      · rw [(rq_dir hw).2 h2, xth_err]
      · rw [acts_no (by decide) (f2 h h2), Option.bind_some, if_neg n01]; rfl
  · left
    refine ⟨_, 1, false, List.mem_cons_self .., ?_, ?_⟩
    · rw [(rq_line H G.1 hz).2 h, xth_err]
    · rw [acts_no (by decide) (f1 h), Option.bind_some, if_neg n01]; rfl
theorem rf_wipe (M : RepM (M_row μ) a) (I : InvA a) {z : Int} (hz : -2147483648 ≤ z ∧ z < 2147483648) (w : Int32) :
    (¬ (0 ≤ z ∧ z < an a) → fX7_refusal μ (119 : Int32) (iI z) w = some (iI 1)) ∧ ((0 ≤ z ∧ z < an a) → fX7_refusal μ (119 : Int32) (iI z) w = some (0 : Int32)) := by
  unfold fX7_refusal
  rw [if_neg (by decide), if_neg (by decide), if_neg (by decide), if_neg (by decide), if_neg (by decide), if_neg (by decide), if_pos (by decide)]
  refine ⟨fun h => ?_, fun h => ?_⟩
  · rw [(sm_isLine M I hz).2 h, Option.bind_some, if_neg nft]; rfl
  · rw [(sm_isLine M I hz).1 h, Option.bind_some, if_pos (rfl : true = true)]
theorem mu_wipe (R : RR σ η μ) {z : Int} (hz : -2147483648 ≤ z ∧ z < 2147483648) : MU (fX6_wipe σ η (iI z)) (fX7_wipe μ (iI z)) μ [("java/lang/IndexOutOfBoundsException", 1)] := by
  obtain ⟨⟨a, G, H, M⟩, hH, hT⟩ := R
  obtain ⟨f1, f2⟩ := rf_wipe M G.1 hz (0 : Int32)
  unfold fX6_wipe fX7_wipe
  by_cases h : 0 ≤ z ∧ z < an a
  · have h' := h
    obtain ⟨k, rfl, hk⟩ := natz h
    obtain ⟨η', ν, s1, s2, s3, s4, s5, s6, s7⟩ := rec_ok (μ := M_th' μ (0 : Int32)) G H M hH hT
    have Mν : RepM (M_row ν) a := by rw [s3]; exact M
    obtain ⟨σ', r, b', G', H', M', d1, d2, d3⟩ := jn_wipe H Mν G hk (0 : Int32)
    right
    refine ⟨iI ((an a - 1 : Nat) : Int), σ', η', M_row' ν r, ?_, ?_, s4, rr_row s6 s7 G' H' M', s5⟩
    · rw [(rq_line H G.1 hz).1 h', xth_ok, s1, Option.bind_some, d1, Option.bind_some, d2, Option.bind_some]
    · rw [acts_yes (f2 h') s2 d3, Option.bind_some]
  · left
    refine ⟨_, 1, (0 : Int32), List.mem_cons_self .., ?_, ?_⟩
    · rw [(rq_line H G.1 hz).2 h, xth_err]
    · rw [acts_no (by decide) (f1 h), Option.bind_some]; rfl
theorem rf_label (M : RepM (M_row μ) a) (I : InvA a) {z w : Int} (hz : -2147483648 ≤ z ∧ z < 2147483648) (hw : -2147483648 ≤ w ∧ w < 2147483648) :
    (¬ ((0 ≤ z ∧ z < an a) ∧ 0 ≤ w ∧ w ≤ ah a z.toNat) → fX7_refusal μ (108 : Int32) (iI z) (iI w) = some (iI 1)) ∧
    ((0 ≤ z ∧ z < an a) ∧ 0 ≤ w ∧ w ≤ ah a z.toNat → ¬ whlA a z.toNat w.toNat = 0 → fX7_refusal μ (108 : Int32) (iI z) (iI w) = some (iI 2)) ∧
    ((0 ≤ z ∧ z < an a) ∧ 0 ≤ w ∧ w ≤ ah a z.toNat → whlA a z.toNat w.toNat = 0 → fX7_refusal μ (108 : Int32) (iI z) (iI w) = some (0 : Int32)) := by
  unfold fX7_refusal
  rw [if_neg (by decide), if_neg (by decide), if_pos (by decide)]
  by_cases h : 0 ≤ z ∧ z < an a
  · have h' := h
    obtain ⟨k, rfl, hk⟩ := natz h
    have h60 := (I.2.2.2.1 k hk).2.1
    have i := sm_inB (x := w) (y := 0) (z := (ah a k : Int)) hw (by omega) (by omega)
    rw [Z0'] at i
    rw [(sm_isLine M I hz).1 h', Option.bind_some, if_pos (rfl : true = true), sm_steps M I hk, Option.bind_some, Int.toNat_natCast]
    refine ⟨fun q => ?_, fun q q2 => ?_, fun q q2 => ?_⟩
    · rw [i.2 (fun t => q ⟨h', t⟩), Option.bind_some, if_neg nft]; rfl
    · obtain ⟨j, rfl⟩ : ∃ j : Nat, w = j := ⟨w.toNat, by omega⟩
      rw [Int.toNat_natCast] at q2
      have r := whl_rng a k j
      rw [i.1 q.2, Option.bind_some, if_pos (rfl : true = true), sm_whl M I hk (by omega), Option.bind_some, if_neg (show ¬ iI (whlA a k j) ≤ (0 : Int32) from by rw [L0]; exact nle (by omega) (by omega) (by omega))]; rfl
    · obtain ⟨j, rfl⟩ : ∃ j : Nat, w = j := ⟨w.toNat, by omega⟩
      rw [Int.toNat_natCast] at q2
      rw [i.1 q.2, Option.bind_some, if_pos (rfl : true = true), sm_whl M I hk (by omega), Option.bind_some, q2, if_pos (by decide)]
  · rw [(sm_isLine M I hz).2 h, Option.bind_some, if_neg nft]
    exact ⟨fun _ => rfl, fun q _ => absurd q.1 h, fun q _ => absurd q.1 h⟩
theorem mu_label (R : RR σ η μ) {z w : Int} (hz : -2147483648 ≤ z ∧ z < 2147483648) (hw : -2147483648 ≤ w ∧ w < 2147483648) :
    MU (fX6_label σ η (iI z) (iI w)) (fX7_label μ (iI z) (iI w)) μ [("java/lang/IndexOutOfBoundsException", 1), ("java/lang/IllegalStateException", 2)] := by
  obtain ⟨⟨a, G, H, M⟩, hH, hT⟩ := R
  obtain ⟨f1, f2, f3⟩ := rf_label M G.1 hz hw
  unfold fX6_label fX7_label
  by_cases h : (0 ≤ z ∧ z < an a) ∧ 0 ≤ w ∧ w ≤ ah a z.toNat
  · have h' := h
    obtain ⟨⟨k, rfl, hk⟩, h2⟩ := And.intro (natz h.1) h.2
    obtain ⟨j, rfl⟩ : ∃ j : Nat, w = j := ⟨w.toNat, by omega⟩
    rw [Int.toNat_natCast] at h2
    rw [Int.toNat_natCast, Int.toNat_natCast] at f2 f3
    have r := whl_rng a k j
    rw [(rq_num H G.1 hz hw).1 h', xth_ok, sp_reason H G.1 hk (by omega), Option.bind_some]
    by_cases h3 : whlA a k j = 0
    · obtain ⟨η', ν, s1, s2, s3, s4, s5, s6, s7⟩ := rec_ok (μ := M_th' μ (0 : Int32)) G H M hH hT
      have Mν : RepM (M_row ν) a := by rw [s3]; exact M
      obtain ⟨σ', r, b', v, G', H', M', d1, d2, d3⟩ := jn_label H Mν G hk (p := j) (by omega) h3
      right
      refine ⟨v, σ', η', M_row' ν r, ?_, ?_, s4, rr_row s6 s7 G' H' M', s5⟩
      · rw [h3, if_pos (by decide), s1, Option.bind_some, d1, Option.bind_some, d2, Option.bind_some]
      · rw [acts_yes (f3 (by rw [← Int.toNat_natCast (n := k)] at h2 ⊢; exact h') h3) s2 d3, Option.bind_some]
    · left
      refine ⟨_, 2, (0 : Int32), List.mem_cons_of_mem _ (List.mem_cons_self ..), ?_, ?_⟩
      · rw [if_neg (by rw [L0]; exact neq (by omega) (by omega) h3)]
      · rw [acts_no (by decide) (f2 (by rw [← Int.toNat_natCast (n := k)] at h2 ⊢; exact h') h3), Option.bind_some]; rfl
  · left
    refine ⟨_, 1, (0 : Int32), List.mem_cons_self .., ?_, ?_⟩
    · rw [(rq_num H G.1 hz hw).2 h, xth_err]
    · rw [acts_no (by decide) (f1 h), Option.bind_some]; rfl
theorem rf_unlab (M : RepM (M_row μ) a) (I : InvA a) {z : Int} (hz : -2147483648 ≤ z ∧ z < 2147483648) (w : Int32) :
    (¬ (0 ≤ z ∧ z < an a) → fX7_refusal μ (117 : Int32) (iI z) w = some (iI 1)) ∧
    ((0 ≤ z ∧ z < an a) → ab a z.toNat = -1 → fX7_refusal μ (117 : Int32) (iI z) w = some (iI 2)) ∧
    ((0 ≤ z ∧ z < an a) → ¬ ab a z.toNat = -1 → fX7_refusal μ (117 : Int32) (iI z) w = some (0 : Int32)) := by
  unfold fX7_refusal
  rw [if_neg (by decide), if_neg (by decide), if_neg (by decide), if_neg (by decide), if_neg (by decide), if_pos (by decide)]
  refine ⟨fun h => ?_, fun h h2 => ?_, fun h h2 => ?_⟩
  · rw [(sm_isLine M I hz).2 h, Option.bind_some, if_neg nft]; rfl
  · have h' := h
    obtain ⟨k, rfl, hk⟩ := natz h
    rw [Int.toNat_natCast] at h2
    rw [(sm_isLine M I hz).1 h', Option.bind_some, if_pos (rfl : true = true), sm_lab M I hk, Option.bind_some, if_pos (by rw [h2]; rfl)]; rfl
  · have h' := h
    obtain ⟨k, rfl, hk⟩ := natz h
    have r := lab_rng I hk
    rw [Int.toNat_natCast] at h2
    rw [(sm_isLine M I hz).1 h', Option.bind_some, if_pos (rfl : true = true), sm_lab M I hk, Option.bind_some, if_neg (by rw [Lm1]; exact neq (by omega) (by omega) h2)]
theorem mu_unlab (R : RR σ η μ) {z : Int} (hz : -2147483648 ≤ z ∧ z < 2147483648) : MU (fX6_unlabel σ η (iI z)) (fX7_unlabel μ (iI z)) μ [("java/lang/IndexOutOfBoundsException", 1), ("java/lang/IllegalStateException", 2)] := by
  obtain ⟨⟨a, G, H, M⟩, hH, hT⟩ := R
  obtain ⟨f1, f2, f3⟩ := rf_unlab M G.1 hz (0 : Int32)
  unfold fX6_unlabel fX7_unlabel
  by_cases h : 0 ≤ z ∧ z < an a
  · have h' := h
    obtain ⟨k, rfl, hk⟩ := natz h
    have r := lab_rng G.1 hk
    rw [Int.toNat_natCast] at f2 f3
    rw [(rq_line H G.1 hz).1 h', xth_ok, sp_labelIn H G.1 hk, Option.bind_some]
    by_cases h3 : ab a k = -1
    · left
      refine ⟨_, 2, (0 : Int32), List.mem_cons_of_mem _ (List.mem_cons_self ..), ?_, ?_⟩
      · rw [if_pos (by rw [h3]; rfl)]
      · rw [acts_no (by decide) (f2 h' h3), Option.bind_some]; rfl
    · obtain ⟨η', ν, s1, s2, s3, s4, s5, s6, s7⟩ := rec_ok (μ := M_th' μ (0 : Int32)) G H M hH hT
      have Mν : RepM (M_row ν) a := by rw [s3]; exact M
      obtain ⟨σ', r, b', G', H', M', d1, d3⟩ := jn_unlab H Mν G hk (0 : Int32)
      right
      refine ⟨iI (ab a k), σ', η', M_row' ν r, ?_, ?_, s4, rr_row s6 s7 G' H' M', s5⟩
      · rw [if_neg (by rw [Lm1]; exact neq (by omega) (by omega) h3), s1, Option.bind_some, d1, Option.bind_some]
      · rw [acts_yes (f3 h' h3) s2 d3, Option.bind_some]
  · left
    refine ⟨_, 1, (0 : Int32), List.mem_cons_self .., ?_, ?_⟩
    · rw [(rq_line H G.1 hz).2 h, xth_err]
    · rw [acts_no (by decide) (f1 h), Option.bind_some]; rfl
theorem best_rng (I : InvA a) {k : Nat} (hk : k < an a) : -1 ≤ bestA a k ∧ bestA a k ≤ 60 := by
  have h60 := (I.2.2.2.1 k hk).2.1
  rcases best_pl a k with h | ⟨p, p1, p2, p3⟩ <;> omega
theorem rf_best (M : RepM (M_row μ) a) (I : InvA a) {z : Int} (hz : -2147483648 ≤ z ∧ z < 2147483648) (w : Int32) :
    (¬ (0 ≤ z ∧ z < an a) → fX7_refusal μ (98 : Int32) (iI z) w = some (iI 1)) ∧
    ((0 ≤ z ∧ z < an a) → bestA a z.toNat = -1 → fX7_refusal μ (98 : Int32) (iI z) w = some (iI 2)) ∧
    ((0 ≤ z ∧ z < an a) → ¬ bestA a z.toNat = -1 → fX7_refusal μ (98 : Int32) (iI z) w = some (0 : Int32)) := by
  unfold fX7_refusal
  rw [if_pos (by decide)]
  refine ⟨fun h => ?_, fun h h2 => ?_, fun h h2 => ?_⟩
  · rw [(sm_isLine M I hz).2 h, Option.bind_some, if_neg nft]; rfl
  · have h' := h
    obtain ⟨k, rfl, hk⟩ := natz h
    rw [Int.toNat_natCast] at h2
    rw [(sm_isLine M I hz).1 h', Option.bind_some, if_pos (rfl : true = true), sm_best M I hk, Option.bind_some, if_pos (by rw [h2]; rfl)]; rfl
  · have h' := h
    obtain ⟨k, rfl, hk⟩ := natz h
    have r := best_rng I hk
    rw [Int.toNat_natCast] at h2
    rw [(sm_isLine M I hz).1 h', Option.bind_some, if_pos (rfl : true = true), sm_best M I hk, Option.bind_some, if_neg (by rw [Lm1]; exact neq (by omega) (by omega) h2)]
theorem mu_best (R : RR σ η μ) {z : Int} (hz : -2147483648 ≤ z ∧ z < 2147483648) : MU (fX6_labelBest σ η (iI z)) (fX7_labelBest μ (iI z)) μ [("java/lang/IndexOutOfBoundsException", 1), ("java/lang/IllegalStateException", 2)] := by
  obtain ⟨⟨a, G, H, M⟩, hH, hT⟩ := R
  obtain ⟨f1, f2, f3⟩ := rf_best M G.1 hz (0 : Int32)
  unfold fX6_labelBest fX7_labelBest
  by_cases h : 0 ≤ z ∧ z < an a
  · have h' := h
    obtain ⟨k, rfl, hk⟩ := natz h
    have r := best_rng G.1 hk
    rw [Int.toNat_natCast] at f2 f3
    rw [(rq_line H G.1 hz).1 h', xth_ok, sp_best H G.1 hk, Option.bind_some]
    by_cases h3 : bestA a k = -1
    · left
      refine ⟨_, 2, (0 : Int32), List.mem_cons_of_mem _ (List.mem_cons_self ..), ?_, ?_⟩
      · rw [if_pos (by rw [h3]; rfl)]
      · rw [acts_no (by decide) (f2 h' h3), Option.bind_some]; rfl
    · obtain ⟨η', ν, s1, s2, s3, s4, s5, s6, s7⟩ := rec_ok (μ := M_th' μ (0 : Int32)) G H M hH hT
      have Mν : RepM (M_row ν) a := by rw [s3]; exact M
      obtain ⟨σ', r, b', G', H', M', d1, d3⟩ := jn_best H Mν G hk h3 (0 : Int32)
      right
      refine ⟨iI (bestA a k), σ', η', M_row' ν r, ?_, ?_, s4, rr_row s6 s7 G' H' M', s5⟩
      · rw [if_neg (by rw [Lm1]; exact neq (by omega) (by omega) h3), s1, Option.bind_some, d1, Option.bind_some]
      · rw [acts_yes (f3 h' h3) s2 d3, Option.bind_some]
  · left
    refine ⟨_, 1, (0 : Int32), List.mem_cons_self .., ?_, ?_⟩
    · rw [(rq_line H G.1 hz).2 h, xth_err]
    · rw [acts_no (by decide) (f1 h), Option.bind_some]; rfl
theorem rf_gap {z : Int} (hz : -2147483648 ≤ z ∧ z < 2147483648) (w : Int32) : (¬ (1 ≤ z ∧ z ≤ 6) → fX7_refusal μ (103 : Int32) (iI z) w = some (iI 1)) ∧ ((1 ≤ z ∧ z ≤ 6) → fX7_refusal μ (103 : Int32) (iI z) w = some (0 : Int32)) := by
  have i := sm_inB (x := z) (y := 1) (z := 6) hz (by omega) (by omega)
  rw [← L1, ← L6] at i
  unfold fX7_refusal
  rw [if_neg (by decide), if_pos (by decide)]
  refine ⟨fun h => ?_, fun h => ?_⟩
  · rw [i.2 h, Option.bind_some, if_neg nft]; rfl
  · rw [i.1 h, Option.bind_some, if_pos (rfl : true = true)]
theorem mu_gap (R : RR σ η μ) {z : Int} (hz : -2147483648 ≤ z ∧ z < 2147483648) : MU (fX6_setGap σ η (iI z)) (fX7_setGap μ (iI z)) μ [("java/lang/IllegalArgumentException", 1)] := by
  obtain ⟨⟨a, G, H, M⟩, hH, hT⟩ := R
  obtain ⟨f1, f2⟩ := rf_gap (μ := μ) hz (0 : Int32)
  unfold fX6_setGap fX7_setGap
  by_cases h : 1 ≤ z ∧ z ≤ 6
  · obtain ⟨η', ν, s1, s2, s3, s4, s5, s6, s7⟩ := rec_ok (μ := M_th' μ (0 : Int32)) G H M hH hT
    have Mν : RepM (M_row ν) a := by rw [s3]; exact M
    have h' := h
    obtain ⟨g, rfl⟩ : ∃ g : Nat, z = g := ⟨z.toNat, by omega⟩
    obtain ⟨σ', r, b', G', H', M', d1, d3⟩ := jn_gap H Mν G (g := g) (by omega) (0 : Int32)
    right
    refine ⟨iI (ag a), σ', η', M_row' ν r, ?_, ?_, s4, rr_row s6 s7 G' H' M', s5⟩
    · rw [if_neg (show ¬ iI (g : Int) < (1 : Int32) from by rw [L1]; exact nlt (by omega) (by omega) (by omega)), if_pos (show iI (g : Int) ≤ (6 : Int32) from by rw [L6]; exact yle (by omega) (by omega) (by omega)), s1, Option.bind_some, sp_gapWidth H, Option.bind_some, d1, Option.bind_some]
    · rw [acts_yes (f2 h') s2 d3, Option.bind_some]
  · left
    refine ⟨_, 1, (0 : Int32), List.mem_cons_self .., ?_, ?_⟩
    · by_cases q : z < 1
      · rw [if_pos (show iI z < (1 : Int32) from by rw [L1]; exact ylt (by omega) (by omega) q)]
      · rw [if_neg (show ¬ iI z < (1 : Int32) from by rw [L1]; exact nlt (by omega) (by omega) (by omega)), if_neg (show ¬ iI z ≤ (6 : Int32) from by rw [L6]; exact nle (by omega) (by omega) (by omega))]
    · rw [acts_no (by decide) (f1 h), Option.bind_some]; rfl
theorem mu_level (R : RR σ η μ) {z w : Int} (hz : -2147483648 ≤ z ∧ z < 2147483648) (hw : -2147483648 ≤ w ∧ w < 2147483648) :
    MU (fX6_setLevel σ η (iI z) (iI w)) (fX7_setLevel μ (iI z) (iI w)) μ [("java/lang/IndexOutOfBoundsException", 1), ("java/lang/IllegalArgumentException", 2)] := by
  obtain ⟨⟨a, G, H, M⟩, hH, hT⟩ := R
  have i := sm_inB (x := w) (y := 0) (z := 99) hw (by omega) (by omega)
  rw [Z0', Z99] at i
  unfold fX6_setLevel fX7_setLevel
  by_cases h : 0 ≤ z ∧ z < an a
  · have h' := h
    obtain ⟨k, rfl, hk⟩ := natz h
    have h8 := G.1.1
    rw [(rq_line H G.1 hz).1 h', xth_ok, (sm_isLine M G.1 hz).1 h', Option.bind_some, if_pos (rfl : true = true)]
    by_cases h2 : 0 ≤ w ∧ w ≤ 99
    · obtain ⟨l, rfl⟩ : ∃ l : Nat, w = l := ⟨w.toNat, by omega⟩
      obtain ⟨η', ν, s1, s2, s3, s4, s5, s6, s7⟩ := rec_ok (μ := M_th' μ (0 : Int32)) G H M hH hT
      have Mν : RepM (M_row ν) a := by rw [s3]; exact M
      obtain ⟨σ1, e1, R1⟩ := sp_putLevel H G.1 hk l
      -- the level first, then the label: as if the label went first
      have I0 := inv_lab G.1 (k := k) (b := -1) (Or.inl rfl)
      have Ilev := inv_lev (a := aLab a k (-1)) I0 (k := k) (l := l) (by omega) (if_pos rfl)
      obtain ⟨σ2, e2, R2⟩ : ∃ σ2, fX4_putLabel σ1 (iI k) (-1 : Int32) = some σ2 ∧ RepS σ2 (aLev (aLab a k (-1)) k l) := by
        have hn : S_n σ1 = iI (an a : Int) := R1.1
        have e0 : (iI (k : Int)).toNatClampNeg = k := by rw [iI_tn (by omega) (by omega)]; omega
        refine ⟨S_lb' σ1 (upd (S_lb σ1) k (-1 : Int32)), ?_, R1.1, R1.2.1, fun i hi => ?_⟩
        · unfold fX4_putLabel
          rw [if_neg (nlt0 (by omega)), hn, if_neg (nle (by omega) (by omega) (by omega)), if_pos (inR_iI (by omega) (by omega) (by omega)), e0]
        · obtain ⟨q1, q2, q3, q4⟩ := R1.2.2 i hi
          refine ⟨q1, q2, ?_, q4⟩
          show upd (S_lb σ1) k (-1 : Int32) i = iI (if i = k then -1 else ab a i)
          by_cases t : i = k
          · rw [if_pos t, t, upd_eq]; rfl
          · rw [if_neg t, upd_ne t]; exact q3
      have M2 : RepM (upd (upd (M_row ν) (2 + 64 * k + 0) (iI l)) (2 + 64 * k + 3) (-1 : Int32)) (aLev (aLab a k (-1)) k l) := by
        have M1 := rm_lev (rm_lab Mν G.1 hk (-1)) I0 (k := k) hk l
        have e : upd (upd (M_row ν) (2 + 64 * k + 0) (iI l)) (2 + 64 * k + 3) (-1 : Int32) = upd (upd (M_row ν) (2 + 64 * k + 3) (iI (-1))) (2 + 64 * k + 0) (iI l) := by
          funext x
          by_cases t : x = 2 + 64 * k + 3
          · rw [t, upd_eq, upd_ne (by omega), upd_eq]; rfl
          · rw [upd_ne t]
            by_cases t2 : x = 2 + 64 * k + 0
            · rw [t2, upd_eq, upd_eq]
            · rw [upd_ne t2, upd_ne t2, upd_ne t]
        rw [e]; exact M1
      right
      refine ⟨iI (al a k), σ2, η', M_row' ν (upd (upd (M_row ν) (2 + 64 * k + 0) (iI l)) (2 + 64 * k + 3) (-1 : Int32)), ?_, ?_, s4, rr_row s6 s7 ⟨Ilev, nox_lev (nox_lab G.2 k (-1)) k l⟩ R2 M2, s5⟩
      · rw [(rq_lev hw).1 h2, xth_ok, s1, Option.bind_some, sp_levelIn H G.1 hk, Option.bind_some, e1, Option.bind_some, e2, Option.bind_some]
      · rw [i.1 h2, Option.bind_some, if_pos (rfl : true = true)]
        unfold fX7_setLevel_28
        rw [if_pos (by decide), s2, Option.bind_some, sm_lev Mν G.1 hk, Option.bind_some, sm_puts0 (by omega), Option.bind_some, sm_puts3 (by omega), Option.bind_some]
    · left
      refine ⟨_, 2, (0 : Int32), List.mem_cons_of_mem _ (List.mem_cons_self ..), ?_, ?_⟩
      · rw [(rq_lev hw).2 h2, xth_err]
      · rw [i.2 h2, Option.bind_some, if_neg nft]
        unfold fX7_setLevel_28
        rw [if_neg (by decide)]
  · left
    refine ⟨_, 1, (0 : Int32), List.mem_cons_self .., ?_, ?_⟩
    · rw [(rq_line H G.1 hz).2 h, xth_err]
    · rw [(sm_isLine M G.1 hz).2 h, Option.bind_some, if_neg nft]
      unfold fX7_setLevel_28
      rw [if_neg (by decide)]
theorem mu_all (R : RR σ η μ) : ∃ v σ' η' μ', fX6_labelAll σ η = some (v, σ', η') ∧ fX7_labelAll μ = some (v, μ') ∧ RR σ' η' μ' ∧ FX μ μ' := by
  obtain ⟨⟨a, G, H, M⟩, hH, hT⟩ := R
  obtain ⟨η', ν, s1, s2, s3, s4, s5, s6, s7⟩ := rec_ok (μ := M_th' μ (0 : Int32)) G H M hH hT
  have Mν : RepM (M_row ν) a := by rw [s3]; exact M
  obtain ⟨σ', g, b, z, G', H', M', d1, d2, d3⟩ := jn_all H Mν G (0 : Int32) (0 : Int32)
  have f : fX7_refusal μ (97 : Int32) (0 : Int32) (0 : Int32) = some (0 : Int32) := by
    unfold fX7_refusal
    rw [if_neg (by decide), if_neg (by decide), if_neg (by decide), if_neg (by decide), if_neg (by decide), if_neg (by decide), if_neg (by decide)]
  refine ⟨z, σ', η', M_row' ν g, ?_, ?_, rr_row s6 s7 G' H' M', s5⟩
  · unfold fX6_labelAll
    rw [s1, Option.bind_some, d1, Option.bind_some, d3, Option.bind_some]
  · unfold fX7_labelAll
    rw [acts_yes f s2 d2, Option.bind_some]
theorem mu_undo (R : RR σ η μ) : MU (fX6_undo σ η) (fX7_undo μ) μ [("java/lang/IllegalStateException", 1)] := by
  obtain ⟨-, hH, hT⟩ := R
  obtain ⟨c, o, A, hc, ho, e1, e2, e3, hA⟩ := hH
  have hH : RepH η μ := ⟨c, o, A, hc, ho, e1, e2, e3, hA⟩
  have sz : ∀ η : Hi, fX1_size η = some (H_cnt η) := fun _ => rfl
  unfold fX6_undo fX7_undo
  rw [sz, Option.bind_some, e1, e3]
  by_cases h0 : c = 0
  · left
    refine ⟨_, 1, (0 : Int32), List.mem_cons_self .., ?_, ?_⟩
    · rw [if_pos (by rw [h0]; rfl)]
    · rw [if_pos (by rw [h0]; rfl)]; rfl
  · obtain ⟨σ', η', g, b, G, u1, u2, u3, u4, u5, u6, u7, u8, u9⟩ := undo_ok hH e3 (by omega) hc σ
    have ec : iI (c : Int) - (1 : Int32) = iI ((c - 1 : Nat) : Int) := by rw [L1, iI_sub]; exact congrArg iI (by omega)
    right
    refine ⟨iI ((c - 1 : Nat) : Int), σ', η', M_row' (M_sm' (M_th' μ (0 : Int32)) (iI ((c - 1 : Nat) : Int))) g, ?_, ?_, rfl, ⟨⟨b, G, u4, u5⟩, u7 _ rfl rfl, ?_⟩, rfl, rfl⟩
    · rw [if_neg (by rw [L0]; exact neq (by omega) (by omega) (by omega)), u1, Option.bind_some, sz, Option.bind_some]
      show some (Except.ok (H_cnt η', σ', η')) = _
      rw [u2]
    · rw [if_neg (by rw [L0]; exact neq (by omega) (by omega) (by omega)), ec]
      exact u6 _ rfl rfl rfl
    · obtain ⟨t1, t2⟩ := hT
      refine ⟨u8.trans t1, fun q => ?_⟩
      rw [u9]
      exact t2 (u8.symm.trans q)
theorem mu_take (R : RR σ η μ) : ∃ v η' μ', fX6_takeSnapshot σ η = some (v, η') ∧ fX7_takeSnapshot μ = some (v, μ') ∧ RR σ η' μ' ∧ FX μ μ' := by
  obtain ⟨⟨a, G, H, M⟩, hH, hT⟩ := R
  obtain ⟨ρ, g1, g2⟩ := sp_copy (σ := H_sn η) H G.1
  have t := sm_take12 514 0 FU (M_ik' (M_th' μ (0 : Int32)) true) (by omega) (FU_gt (by omega))
  rw [Z0] at t
  refine ⟨iI (an a), H_tk' (H_sn' η ρ) true, M_kp' (M_ik' (M_th' μ (0 : Int32)) true) (fun j => if 0 ≤ j ∧ j < 514 then M_row μ j else M_kp μ j), ?_, ?_, ⟨⟨a, G, H, M⟩, ?_, rfl, fun _ => ⟨a, G, g2, ?_⟩⟩, rfl, rfl⟩
  · unfold fX6_takeSnapshot fX1_keepSnapshot
    rw [g1, Option.bind_some, Option.bind_some, sp_lineCount H, Option.bind_some]
  · unfold fX7_takeSnapshot
    rw [t]
    show some (M_row μ 0, _) = _
    rw [M.1]
  · obtain ⟨c, o, A, k1, k2, k3, k4, k5, k6⟩ := hH
    exact ⟨c, o, A, k1, k2, k3, k4, k5, k6⟩
  · refine repM_congr G.1 (fun j hj => ?_) M
    show M_row μ j = (if 0 ≤ j ∧ j < 514 then M_row μ j else M_kp μ j)
    rw [if_pos (by omega)]
theorem mu_restore (R : RR σ η μ) : MU (fX6_restoreSnapshot σ η) (fX7_restoreSnapshot μ) μ [("java/lang/IllegalStateException", 1)] := by
  obtain ⟨⟨a, G, H, M⟩, hH, hT⟩ := R
  have hs : ∀ η : Hi, fX1_hasSnapshot η = some (H_tk η) := fun _ => rfl
  unfold fX6_restoreSnapshot fX7_restoreSnapshot
  rw [hs, Option.bind_some, hT.1]
  by_cases h : M_ik μ = true
  · obtain ⟨η', ν, s1, s2, s3, s4, s5, s6, s7⟩ := rec_ok (μ := M_th' μ (0 : Int32)) G H M hH hT
    have ht : H_tk η' = true := by
      obtain ⟨η2, sv, c, e1, e2, -, k1, k2⟩ := save_ok hH H M G.1 G.2
      rw [s1] at e1
      rw [Option.some.inj e1, k1, hT.1, h]
    obtain ⟨b, Gb, Hb, Mb⟩ := s7.2 ht
    obtain ⟨σ', g1, g2⟩ := sp_copy (σ := σ) Hb Gb.1
    have t := sm_rest24 514 0 FU ν (by omega) (FU_gt (by omega))
    rw [Z0, if_pos (by omega)] at t
    have M2 : RepM (fun j => if 0 ≤ j ∧ j < 514 then M_kp ν j else M_row ν j) b := repM_congr Gb.1 (fun j hj => by rw [if_pos (by omega)]) Mb
    right
    refine ⟨iI (an b), σ', η', M_row' ν (fun j => if 0 ≤ j ∧ j < 514 then M_kp ν j else M_row ν j), ?_, ?_, s4, rr_row s6 s7 Gb g2 M2, s5⟩
    · unfold fX1_giveSnapshot
      rw [if_pos h, s1, Option.bind_some, if_pos ht, g1, Option.bind_some, Option.bind_some, sp_lineCount g2, Option.bind_some]
    · rw [if_pos h, s2, Option.bind_some, t, Mb.1]
  · left
    refine ⟨_, 1, (0 : Int32), List.mem_cons_self .., ?_, ?_⟩
    · rw [if_neg h]
    · rw [if_neg h]; rfl
end MUT
