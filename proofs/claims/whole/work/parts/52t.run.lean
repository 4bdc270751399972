/-! a text: is it one, where does it fail, and what it does -/
def vlN (t : Nat → Int) (l : Nat) : Nat → Nat → Bool × Nat
  | 0, x => (false, x)
  | f + 1, x => if (ordN t l x).1 = true then (if (ordN t l x).2.1 = l then (true, l) else if sgN t l (ordN t l x).2.1 = 59 then vlN t l f ((ordN t l x).2.1 + 1) else (false, (ordN t l x).2.1)) else (false, (ordN t l x).2.1)
theorem nm_ge {t : Nat → Int} {l : Nat} {most : Int} : ∀ (f : Nat) (v : Int) (x : Nat), 0 ≤ v → v ≤ (nmN t l most f v x).1 := by
  intro f
  induction f with
  | zero => intro v x _; exact Int.le_refl _
  | succ f ih =>
    intro v x h
    rw [nmN]
    by_cases q : 0 < v ∧ 0 ≤ dgN t l x ∧ 10 * v + dgN t l x ≤ most
    · rw [if_pos q]; have := ih (10 * v + dgN t l x) (x + 1) (by omega); omega
    · rw [if_neg q]; exact Int.le_refl _
theorem num_ge {t : Nat → Int} {l : Nat} {least most : Int} {x : Nat} (h : (numN t l least most x).1 = true) : least ≤ (numN t l least most x).2.1 := by
  unfold numN at h ⊢
  by_cases q : 0 ≤ dgN t l x ∧ least ≤ dgN t l x ∧ dgN t l x ≤ most
  · rw [if_pos q]
    have := nm_ge (t := t) (l := l) (most := most) 2 (dgN t l x) (x + 1) q.1
    show least ≤ (nmN t l most 2 (dgN t l x) (x + 1)).1
    omega
  · rw [if_neg q] at h; cases h
section RT
variable {σ : Sh} {η : Hi} {τ : Tx} {μ : Mo} {a : Ab} {l : Nat} {t : Nat → Int}
theorem cur_eta {x : Nat} (h : X_cur τ = iI x) : X_cur' τ (iI x) = τ := by rw [← h]
theorem txs_of {τ' : Tx} (T : TXs τ l t) (h1 : X_sg τ' = X_sg τ) (h2 : X_len τ' = X_len τ) : TXs τ' l t := ⟨h2.trans T.1, fun i hi => by rw [h1]; exact T.2 i hi⟩
theorem valid_loop (g : TG l t) : ∀ (f x v n : Nat) (τ : Tx), TXs τ l t → x ≤ l → l < x + f → v ≤ x → l < x + n →
    ∃ τ', ((fX3_readNext_18 (X_cur' τ (iI x))).bind fun r_2 => (if r_2.1 = true then (if (X_cur r_2.2) = (X_len r_2.2) then (some (true, r_2.2)) else fX3_isValid_6 n (iI (v : Int) + 1) r_2.2) else (some (false, r_2.2)))) = some ((vlN t l f x).1, τ') ∧ X_sg τ' = X_sg τ ∧ X_len τ' = X_len τ ∧ X_cur τ' = iI ((vlN t l f x).2 : Nat) := by
  have h60 := g.1
  intro f
  induction f with
  | zero => intro x v n τ _ h1 h2; omega
  | succ f ih =>
    intro x v n τ T h1 h2 h3 h4
    obtain ⟨τ1, e1, s1, s2, s3, -⟩ := sp_readNext T g h1
    have oe := ord_end (t := t) h1
    rw [e1, Option.bind_some, vlN]
    by_cases ok : (ordN t l x).1 = true
    · have oe2 := oe.2.2 ok
      rw [ok, if_pos (rfl : true = true), if_pos (rfl : true = true)]
      by_cases q : (ordN t l x).2.1 = l
      · rw [if_pos (show X_cur τ1 = X_len τ1 from by rw [s3, s2, T.1, q]), if_pos q]
        exact ⟨τ1, rfl, s1, s2, by rw [s3, q]⟩
      · generalize hy : (ordN t l x).2.1 = y at s3 oe oe2 q
        rw [if_neg (show ¬ X_cur τ1 = X_len τ1 from by rw [s3, s2, T.1]; exact neq (by omega) (by omega) (by omega)), if_neg q, iI_s]
        obtain ⟨n', rfl⟩ : ∃ n', n = n' + 1 := ⟨n - 1, by omega⟩
        have T1 : TXs τ1 l t := txs_of T s1 s2
        have p := sp_pass T1 g (x := y) (by omega) (c := 59) (by omega)
        rw [cur_eta s3] at p
        rw [fX3_isValid_6, L60, if_neg (nle (by omega) (by omega) (by omega))]
        unfold fX3_readNext
        rw [if_neg (show ¬ X_cur τ1 ≤ (0 : Int32) from by rw [s3, L0]; exact nle (by omega) (by omega) (by omega)), k59, p]
        by_cases q2 : sgN t l y = 59
        · have hl2 := sgN_lt (t := t) (l := l) (x := y) (by omega)
          rw [if_pos q2, Option.bind_some, if_pos (rfl : true = true), if_pos q2]
          obtain ⟨τ', e2, r1, r2, r3⟩ := ih (y + 1) (v + 1) n' τ1 T1 (by omega) (by omega) (by omega) (by omega)
          exact ⟨τ', e2, r1.trans s1, r2.trans s2, r3⟩
        · rw [if_neg q2, Option.bind_some, if_neg nft, Option.bind_some, if_neg nft, if_neg q2]
          exact ⟨_, rfl, s1, s2, s3⟩
    · rw [if_neg ok]
      have ok' : (ordN t l x).1 = false := by
        cases h : (ordN t l x).1 with
        | true => exact absurd h ok
        | false => rfl
      rw [ok', if_neg nft]
      exact ⟨τ1, rfl, s1, s2, s3⟩
theorem sp_isValid (T : TXs τ l t) (g : TG l t) : ∃ τ', fX3_isValid τ = some ((vlN t l 61 0).1, τ') ∧ X_sg τ' = X_sg τ ∧ X_len τ' = X_len τ ∧ X_cur τ' = iI ((vlN t l 61 0).2 : Nat) := by
  have h60 := g.1
  obtain ⟨τ', e, r⟩ := valid_loop g 61 0 0 9999 τ T (by omega) (by omega) (by omega) (by omega)
  refine ⟨τ', ?_, r⟩
  unfold fX3_isValid
  rw [show fX3_rewind τ = some (X_cur' τ (0 : Int32)) from rfl, Option.bind_some, show FU = 9999 + 1 from rfl, fX3_isValid_6, if_neg (by decide)]
  unfold fX3_readNext
  rw [if_pos (show X_cur (X_cur' τ (0 : Int32)) ≤ 0 from by show (0 : Int32) ≤ 0; decide)]
  rw [Z0] at e
  exact e
theorem text_loop (g : TG l t) : ∀ (f x n : Nat) (μ : Mo), TXm μ l t → M_sp μ = iI x → x ≤ l → l < x + f → l + 1 < x + n →
    ∃ μ', ((fX7_reads μ).bind fun r_6 => fX7_isText_9 n r_6) = some ((vlN t l f x).1, μ') ∧ FrM μ μ' ∧ M_sp μ' = iI ((vlN t l f x).2 : Nat) := by
  have h60 := g.1
  intro f
  induction f with
  | zero => intro x n μ _ _ h1 h2; omega
  | succ f ih =>
    intro x n μ T hx h1 h2 h3
    obtain ⟨ν, e1, f1, f2, f3, -⟩ := sm_reads T g hx h1
    have oe := ord_end (t := t) h1
    obtain ⟨n', rfl⟩ : ∃ n', n = n' + 1 := ⟨n - 1, by omega⟩
    rw [e1, Option.bind_some, vlN, fX7_isText_9]
    by_cases ok : (ordN t l x).1 = true
    · have oe2 := oe.2.2 ok
      have Tν := txm_fr T f1
      rw [if_pos (f3.trans ok), if_pos ok, Tν.1, f2]
      by_cases q : (ordN t l x).2.1 = l
      · rw [if_pos (yle (by omega) (by omega) (by omega)), if_pos q]
        exact ⟨ν, by rw [f3.trans ok], f1, by rw [f2, q]⟩
      · generalize hy : (ordN t l x).2.1 = y at f2 oe oe2 q
        rw [if_neg (nle (by omega) (by omega) (by omega)), if_neg q, k59, sm_needs Tν g (f3.trans ok) (c := 59) (by omega) f2 (by omega), Option.bind_some]
        by_cases q2 : sgN t l y = 59
        · have hl2 := sgN_lt (t := t) (l := l) (x := y) (by omega)
          rw [if_pos q2, if_pos q2, if_pos (show M_iw (M_sp' (M_iw' ν true) (iI ((y + 1 : Nat) : Int))) = true from rfl)]
          obtain ⟨μ', e2, r1, r2⟩ := ih (y + 1) n' (M_sp' (M_iw' ν true) (iI ((y + 1 : Nat) : Int))) Tν rfl (by omega) (by omega) (by omega)
          exact ⟨μ', e2, frM_trans f1 (frM_trans (μ2 := M_sp' (M_iw' ν true) (iI ((y + 1 : Nat) : Int))) ⟨rfl, rfl, rfl, rfl, rfl, rfl, rfl, rfl⟩ r1), r2⟩
        · obtain ⟨n2, rfl⟩ : ∃ n2, n' = n2 + 1 := ⟨n' - 1, by omega⟩
          rw [if_neg q2, if_neg q2, if_neg (show ¬ M_iw (M_sp' (M_iw' ν false) (iI (y : Int))) = true from nft), fX7_isText_9, if_neg (show ¬ M_iw (M_sp' (M_iw' ν false) (iI (y : Int))) = true from nft)]
          exact ⟨_, rfl, frM_trans f1 ⟨rfl, rfl, rfl, rfl, rfl, rfl, rfl, rfl⟩, rfl⟩
    · have ok' : (ordN t l x).1 = false := by
        cases h : (ordN t l x).1 with
        | true => exact absurd h ok
        | false => rfl
      rw [if_neg (show ¬ M_iw ν = true from by rw [f3]; exact ok), if_neg ok]
      exact ⟨ν, by rw [f3.trans ok'], f1, f2⟩
theorem sm_isText (T : TXm μ l t) (g : TG l t) : ∃ μ', fX7_isText μ = some ((vlN t l 61 0).1, μ') ∧ FrM μ μ' ∧ M_sp μ' = iI ((vlN t l 61 0).2 : Nat) := by
  have h60 := g.1
  obtain ⟨μ', e, f1, f2⟩ := text_loop g 61 0 FU (M_sp' μ (0 : Int32)) T rfl (by omega) (by omega) (by show l + 1 < 0 + 10000; omega)
  exact ⟨μ', e, frM_trans (μ2 := M_sp' μ (0 : Int32)) ⟨rfl, rfl, rfl, rfl, rfl, rfl, rfl, rfl⟩ f1, f2⟩
/-! what orders do where there is no such line -/
theorem best_out (H : RepS σ a) (I : InvA a) {z : Int} (hz : (an a : Int) ≤ z ∧ z ≤ 100) : fX2_best σ (iI z) = some (-1 : Int32) := by
  have h8 := I.1
  have e : fX4_stepCount σ (iI z) = some (-1 : Int32) := by
    unfold fX4_stepCount
    rw [if_neg (nlt0 (by omega)), H.1, if_pos (yle (by omega) (by omega) (by omega))]
  unfold fX2_best
  rw [e, Option.bind_some, show FU = 9999 + 1 from rfl, fX2_best_17, if_pos (by decide)]
theorem labelIn_out (H : RepS σ a) (I : InvA a) {z : Int} (hz : (an a : Int) ≤ z ∧ z ≤ 100) : fX4_labelIn σ (iI z) = some (-1 : Int32) := by
  have h8 := I.1
  unfold fX4_labelIn
  rw [if_neg (nlt0 (by omega)), H.1, if_pos (yle (by omega) (by omega) (by omega))]
theorem put_in (H : RepS σ a) (I : InvA a) {k : Nat} (hk : k < an a) {b : Int} (hb : -1 ≤ b ∧ b ≤ 1000) : fX6_orderPut σ (iI k) (iI b) = if b = -1 then some (false, σ) else (fX4_putLabel σ (iI k) (iI b)).bind fun r_4 => some (true, r_4) := by
  have h8 := I.1
  obtain ⟨c, hc, ic⟩ := sp_hasLine H I (z := k) (by omega)
  unfold fX6_orderPut
  rw [hc, Option.bind_some, if_pos (ic.mpr (by omega))]
  by_cases q : b = -1
  · rw [if_pos (by rw [q]; rfl), if_pos q]
  · rw [if_neg (by rw [Lm1]; exact neq (by omega) (by omega) q), if_neg q]
theorem put_out (H : RepS σ a) (I : InvA a) {z : Int} (hz : (an a : Int) ≤ z ∧ z ≤ 100) (b : Int32) : fX6_orderPut σ (iI z) b = some (false, σ) := by
  have h8 := I.1
  obtain ⟨c, hc, ic⟩ := sp_hasLine H I (z := z) (by omega)
  unfold fX6_orderPut
  rw [hc, Option.bind_some, if_neg (fun w => by have := ic.mp w; omega)]
/-- the steps of an order -/
theorem jn_steps (T : TXs τ l t) (g : TG l t) {f0 cnt : Nat} (hd : ∀ i, i < cnt → f0 + i < l ∧ 48 ≤ t (f0 + i) ∧ t (f0 + i) ≤ 55) (h1 : X_df τ = iI f0) (h2 : X_dc τ = iI cnt) (hc : f0 + cnt ≤ 60) : ∀ (m i fu fu' : Nat) (σ : Sh) (μ : Mo) (a : Ab), i + m = cnt → m < fu → m + 1 < fu' → RepS σ a → RepM (M_row μ) a → GoodA a → 0 < an a → TXm μ l t → M_f1 μ = iI f0 → M_f2 μ = iI cnt → M_le μ = (115 : Int32) →
    ∃ b σ' r c, GoodA c ∧ RepS σ' c ∧ RepM r c ∧ fX6_orderSteps_25 τ (iI ((an a - 1 : Nat) : Int)) fu (iI i) σ = some (b, σ') ∧ fX7_carries_83 fu' true (iI ((f0 + i : Nat) : Int)) μ = some (b, M_row' μ r) := by
  intro m
  induction m with
  | zero =>
    intro i fu fu' σ μ a e1 e2 e3 H M G hn Tm m1 m2 m3
    obtain ⟨f, rfl⟩ : ∃ f, fu = f + 1 := ⟨fu - 1, by omega⟩
    obtain ⟨f', rfl⟩ : ∃ f, fu' = f + 1 := ⟨fu' - 1, by omega⟩
    refine ⟨true, σ, M_row μ, a, G, H, M, ?_, ?_⟩
    · rw [fX6_orderSteps_25, show fX3_directionCount τ = some (X_dc τ) from rfl, Option.bind_some, h2, if_pos (yle (by omega) (by omega) (by omega))]
    · rw [fX7_carries_83, m1, m2, iI_add, if_pos (yle (by omega) (by omega) (by omega))]
  | succ m ih =>
    intro i fu fu' σ μ a e1 e2 e3 H M G hn Tm m1 m2 m3
    obtain ⟨f, rfl⟩ : ∃ f, fu = f + 1 := ⟨fu - 1, by omega⟩
    obtain ⟨f', rfl⟩ : ∃ f, fu' = f + 1 := ⟨fu' - 1, by omega⟩
    have h8 := G.1.1
    obtain ⟨hl, d1, d2⟩ := hd i (by omega)
    have hsg : sgN t l (f0 + i) = t (f0 + i) := if_pos hl
    have edir : fX3_directionAt τ (iI i) = some (iI (t (f0 + i) - 48)) := by
      unfold fX3_directionAt
      rw [h1, iI_add]
      have e := sp_digitAt T g (x := f0 + i) (by omega)
      have e' : dgN t l (f0 + i) = t (f0 + i) - 48 := by unfold dgN; rw [hsg, if_pos (by omega)]
      rw [e'] at e
      have e2 : fX3_digitAt τ (iI ((f0 : Int) + (i : Int))) = some (iI (t (f0 + i) - 48)) := e
      rw [e2, Option.bind_some]
    have etx : M_tx μ (f0 + i) - (48 : Int32) = iI (t (f0 + i) - 48) := by rw [Tm.2 _ hl, k48, iI_sub]
    have erow : M_row μ (Int32.toNatClampNeg (0 : Int32)) - (1 : Int32) = iI ((an a - 1 : Nat) : Int) := by rw [sm_n M, L1, iI_sub]; exact congrArg iI (by omega)
    have wr := why_rng a (an a - 1) (t (f0 + i) - 48)
    obtain ⟨-, -, r3, r4⟩ := rf_step (μ := μ) M G.1 (z := ((an a - 1 : Nat) : Int)) (w := t (f0 + i) - 48) (by omega) (by omega)
    rw [Int.toNat_natCast] at r3 r4
    rw [fX6_orderSteps_25, show fX3_directionCount τ = some (X_dc τ) from rfl, Option.bind_some, h2, if_neg (nle (by omega) (by omega) (by omega)), edir, Option.bind_some, sp_why H G.1 (k := an a - 1) (by omega) (by omega), Option.bind_some]
    rw [fX7_carries_83, m1, m2, iI_add, if_neg (nle (by omega) (by omega) (by omega)), if_pos (rfl : true = true), if_pos (inR_iI (by omega) (by omega) (by omega)), tnN (by omega), m3, erow, etx]
    by_cases q : whyA a (an a - 1) (t (f0 + i) - 48) = 0
    · obtain ⟨σ1, r1, b1, c1, hb1, G1, H1, M1, d3, d4, d5⟩ := jn_step0 H M G (k := an a - 1) (by omega) (d := t (f0 + i) - 48) (by omega) q
      obtain ⟨b, σ', r, c, G', H', M', k1, k2⟩ := ih (i + 1) f f' σ1 (M_row' μ r1) b1 (by omega) (by omega) (by omega) H1 M1 G1 (by omega) Tm m1 m2 m3
      rw [hb1] at k1
      refine ⟨b, σ', r, c, G', H', M', ?_, ?_⟩
      · rw [q, if_pos (by decide), d3, Option.bind_some, iI_s]; exact k1
      · rw [r4 (by omega) (by omega) q, Option.bind_some, if_pos (by decide)]
        unfold fX7_carries_133
        rw [if_pos (rfl : true = true), if_pos (inR_iI (by omega) (by omega) (by omega)), tnN (by omega), m3, erow, etx, d5, Option.bind_some, iI_s]
        exact k2
    · refine ⟨false, σ, M_row μ, a, G, H, M, ?_, ?_⟩
      · rw [if_neg (by rw [L0]; exact neq (by omega) (by omega) q)]
      · rw [r3 (by omega) (by omega) q, Option.bind_some, if_neg (by decide)]
        unfold fX7_carries_133
        obtain ⟨f2, rfl⟩ : ∃ f2, f' = f2 + 1 := ⟨f' - 1, by omega⟩
        rw [if_neg nft, fX7_carries_83]
        by_cases w : M_f1 μ + M_f2 μ ≤ iI ((f0 + i : Nat) : Int) + 1
        · rw [if_pos w]
        · rw [if_neg w, if_neg nft]
theorem carr_no {act f1 : Int32} {ν : Mo} (h115 : ¬ M_le ν = (115 : Int32)) (e1 : M_le ν = act) (e2 : M_f1 ν = f1) {c : Int} (hc : 0 < c ∧ c ≤ 3) (hr : fX7_refusal ν act f1 (M_f2 ν) = some (iI c)) : fX7_carries ν = some (false, M_row' ν (M_row ν)) := by
  unfold fX7_carries
  rw [if_neg h115, e1, e2, hr, Option.bind_some, if_neg (show ¬ iI c = (0 : Int32) from by rw [L0]; exact neq (by omega) (by omega) (by omega))]
  rfl
theorem carr_yes {act f1 z : Int32} {ν : Mo} {r : Nat → Int32} (h115 : ¬ M_le ν = (115 : Int32)) (e1 : M_le ν = act) (e2 : M_f1 ν = f1) (hr : fX7_refusal ν act f1 (M_f2 ν) = some (0 : Int32)) (hd : fX7_does ν act f1 (M_f2 ν) = some (z, M_row' ν r)) : fX7_carries ν = some (true, M_row' ν r) := by
  unfold fX7_carries
  rw [if_neg h115, e1, e2, hr, Option.bind_some, if_pos (by decide)]
  unfold fX7_carries_35
  rw [if_pos (rfl : true = true), e1, e2, hd, Option.bind_some]
theorem sing_val {least most : Int} {x : Nat} (hx : x ≤ l) (h : (singN t l least most x).1 = true) : least ≤ (singN t l least most x).2.2.1 ∧ (singN t l least most x).2.2.1 ≤ most := by
  have a1 := num_ge (t := t) (l := l) (least := least) (most := most) (x := x) h
  have a2 := num_ok (t := t) (l := l) (least := least) (most := most) (x := x) h hx
  exact ⟨a1, a2.2.1⟩
theorem pair_val {m1 c m2 : Int} (hc : 0 ≤ c) {x : Nat} (hx : x ≤ l) (h : (pairN t l m1 c m2 x).1 = true) : 0 ≤ (pairN t l m1 c m2 x).2.2.1 ∧ (pairN t l m1 c m2 x).2.2.1 ≤ m1 ∧ 0 ≤ (pairN t l m1 c m2 x).2.2.2 ∧ (pairN t l m1 c m2 x).2.2.2 ≤ m2 := by
  have ne := num_end (t := t) (l := l) (least := 0) (most := m1) hx
  unfold pairN at h ⊢
  by_cases q : (numN t l 0 m1 x).1 = true
  · rw [if_pos q] at h ⊢
    by_cases q2 : sgN t l (numN t l 0 m1 x).2.2 = c
    · rw [if_pos q2] at h ⊢
      have hl2 := sgN_lt (t := t) (l := l) (x := (numN t l 0 m1 x).2.2) (by omega)
      have a1 := num_ok (t := t) (l := l) q hx
      have a2 := num_ok (t := t) (l := l) (x := (numN t l 0 m1 x).2.2 + 1) h (by omega)
      exact ⟨a1.1, a1.2.1, a2.1, a2.2.1⟩
    · rw [if_neg q2] at h; exact absurd h nft
  · rw [if_neg q] at h; exact absurd h nft
theorem jn_carry {ν : Mo} (H : RepS σ a) (M : RepM (M_row ν) a) (G : GoodA a) (T : TXs τ l t) (Tm : TXm ν l t) (g : TG l t) {x : Nat} (hx : x ≤ l) (ok : (ordN t l x).1 = true) (OS : OrdS t l x τ) (OM : OrdM t l x ν) :
    ∃ b σ' r c, GoodA c ∧ RepS σ' c ∧ RepM r c ∧ fX6_carryOutOrder σ τ = some (b, σ') ∧ fX7_carries ν = some (b, M_row' ν r) := by
  have h60 := g.1
  have h8 := G.1.1
  have hl := ((ord_end (t := t) hx).2.2 ok).1
  obtain ⟨s1, s2, s3, s4⟩ := OS
  obtain ⟨o1, o2, o3⟩ := OM
  unfold fX6_carryOutOrder
  rw [show fX3_firstNumber τ = some (X_fst τ) from rfl, Option.bind_some, show fX3_secondNumber τ = some (X_snd τ) from rfl, Option.bind_some, show fX3_kind τ = some (X_kind τ) from rfl, Option.bind_some, s1]
  by_cases h1 : sgN t l x = 97
  · rw [h1] at o1
    obtain ⟨σ', r, c, z, G', H', M', d1, d2, d3⟩ := jn_all H M G (M_f1 ν) (M_f2 ν)
    refine ⟨true, σ', r, c, G', H', M', ?_, ?_⟩
    · rw [h1, if_pos (by decide), d1, Option.bind_some]
    · refine carr_yes (by rw [o1]; decide) o1 rfl ?_ d2
      unfold fX7_refusal
      rw [if_neg (by decide), if_neg (by decide), if_neg (by decide), if_neg (by decide), if_neg (by decide), if_neg (by decide), if_neg (by decide)]
  have no2 := o2 h1
  by_cases h2 : sgN t l x = 98
  · have e : ordN t l x = singN t l 0 7 (x + 1) := by unfold ordN; rw [if_neg h1, if_pos h2]
    have f := s2 h1 (by omega)
    rw [e] at ok f no2
    have v := sing_val (by omega) ok
    generalize (singN t l 0 7 (x + 1)).2.2.1 = z at f no2 v
    rw [h2] at o1
    rw [h2, if_neg (by decide), if_pos (by decide), f]
    obtain ⟨f1, f2, f3⟩ := rf_best (μ := ν) M G.1 (z := z) (by omega) (M_f2 ν)
    by_cases q : z < an a
    · obtain ⟨k, rfl⟩ : ∃ k : Nat, z = k := ⟨z.toNat, by omega⟩
      rw [Int.toNat_natCast] at f2 f3
      have br := best_rng G.1 (k := k) (by omega)
      rw [sp_best H G.1 (k := k) (by omega), Option.bind_some, put_in H G.1 (k := k) (by omega) (by omega)]
      by_cases q2 : bestA a k = -1
      · rw [if_pos q2, Option.bind_some]
        exact ⟨false, σ, M_row ν, a, G, H, M, rfl, carr_no (by rw [o1]; decide) o1 no2 (c := 2) (by decide) (f2 (by omega) q2)⟩
      · obtain ⟨σ', r, c, G', H', M', d1, d2⟩ := jn_best H M G (k := k) (by omega) q2 (M_f2 ν)
        rw [if_neg q2, d1, Option.bind_some, Option.bind_some]
        exact ⟨true, σ', r, c, G', H', M', rfl, carr_yes (by rw [o1]; decide) o1 no2 (f3 (by omega) q2) d2⟩
    · rw [best_out H G.1 (by omega), Option.bind_some, put_out H G.1 (by omega), Option.bind_some]
      exact ⟨false, σ, M_row ν, a, G, H, M, rfl, carr_no (by rw [o1]; decide) o1 no2 (c := 1) (by decide) (f1 (by omega))⟩
  by_cases h3 : sgN t l x = 103
  · have e : ordN t l x = singN t l 1 6 (x + 1) := by unfold ordN; rw [if_neg h1, if_neg h2, if_pos h3]
    have f := s2 h1 (by omega)
    rw [e] at ok f no2
    have v := sing_val (by omega) ok
    generalize (singN t l 1 6 (x + 1)).2.2.1 = z at f no2 v
    rw [h3] at o1
    obtain ⟨k, rfl⟩ : ∃ k : Nat, z = k := ⟨z.toNat, by omega⟩
    rw [h3, if_neg (by decide), if_neg (by decide), if_pos (by decide), f]
    obtain ⟨f1, f2⟩ := rf_gap (μ := ν) (z := (k : Int)) (by omega) (M_f2 ν)
    obtain ⟨σ', r, c, G', H', M', d1, d2⟩ := jn_gap H M G (g := k) (by omega) (M_f2 ν)
    rw [d1, Option.bind_some]
    exact ⟨true, σ', r, c, G', H', M', rfl, carr_yes (by rw [o1]; decide) o1 no2 (f2 (by omega)) d2⟩
  by_cases h4 : sgN t l x = 108
  · have e : ordN t l x = pairN t l 7 46 59 (x + 1) := by unfold ordN; rw [if_neg h1, if_neg h2, if_neg h3, if_pos h4]
    have f := s2 h1 (by omega)
    have f' := s3 (Or.inl h4)
    have no3 := o3 (Or.inl h4)
    rw [e] at ok f f' no2 no3
    have v := pair_val (by omega) (by omega) ok
    generalize (pairN t l 7 46 59 (x + 1)).2.2.1 = z at f no2 v
    generalize (pairN t l 7 46 59 (x + 1)).2.2.2 = w at f' no3 v
    rw [h4] at o1
    obtain ⟨j, rfl⟩ : ∃ j : Nat, w = j := ⟨w.toNat, by omega⟩
    rw [h4, if_neg (by decide), if_neg (by decide), if_neg (by decide), if_pos (by decide), f, f']
    obtain ⟨f1, f2, f3⟩ := rf_label (μ := ν) M G.1 (z := z) (w := (j : Int)) (by omega) (by omega)
    rw [← no3] at f1 f2 f3
    obtain ⟨b, hb, ib⟩ := sp_hasNumber H G.1 (z := z) (w := (j : Int)) (by omega) (by omega)
    unfold fX6_orderLabel
    rw [hb, Option.bind_some]
    by_cases q : (0 ≤ z ∧ z < an a) ∧ 0 ≤ (j : Int) ∧ (j : Int) ≤ ah a z.toNat
    · have q' := q
      obtain ⟨k, rfl⟩ : ∃ k : Nat, z = k := ⟨z.toNat, by omega⟩
      rw [Int.toNat_natCast] at q
      rw [Int.toNat_natCast, Int.toNat_natCast] at f2 f3
      have wr := whl_rng a k j
      rw [if_pos (ib.mpr q'), sp_reason H G.1 (k := k) (by omega) (by omega), Option.bind_some]
      by_cases q2 : whlA a k j = 0
      · obtain ⟨σ', r, c, z', G', H', M', d1, d2, d3⟩ := jn_label H M G (k := k) (by omega) (p := j) (by omega) q2
        rw [q2, if_pos (by decide), put_in H G.1 (k := k) (by omega) (by omega), if_neg (by omega), d1, Option.bind_some, Option.bind_some, Option.bind_some]
        rw [← no3] at d3
        exact ⟨true, σ', r, c, G', H', M', rfl, carr_yes (by rw [o1]; decide) o1 no2 (f3 q' q2) d3⟩
      · rw [if_neg (by rw [L0]; exact neq (by omega) (by omega) q2), Option.bind_some]
        exact ⟨false, σ, M_row ν, a, G, H, M, rfl, carr_no (by rw [o1]; decide) o1 no2 (c := 2) (by decide) (f2 q' q2)⟩
    · rw [if_neg (fun w => q (ib.mp w)), Option.bind_some]
      exact ⟨false, σ, M_row ν, a, G, H, M, rfl, carr_no (by rw [o1]; decide) o1 no2 (c := 1) (by decide) (f1 q)⟩
  by_cases h5 : sgN t l x = 110
  · have e : ordN t l x = pairN t l 99 64 383 (x + 1) := by unfold ordN; rw [if_neg h1, if_neg h2, if_neg h3, if_neg h4, if_pos h5]
    have f := s2 h1 (by omega)
    have f' := s3 (Or.inr h5)
    have no3 := o3 (Or.inr (Or.inl h5))
    rw [e] at ok f f' no2 no3
    have v := pair_val (by omega) (by omega) ok
    generalize (pairN t l 99 64 383 (x + 1)).2.2.1 = z at f no2 v
    generalize (pairN t l 99 64 383 (x + 1)).2.2.2 = w at f' no3 v
    rw [h5] at o1
    obtain ⟨k, rfl⟩ : ∃ k : Nat, z = k := ⟨z.toNat, by omega⟩
    obtain ⟨j, rfl⟩ : ∃ j : Nat, w = j := ⟨w.toNat, by omega⟩
    rw [h5, if_neg (by decide), if_neg (by decide), if_neg (by decide), if_neg (by decide), if_pos (by decide), f, f']
    obtain ⟨f1, f2, f3, f4⟩ := rf_begin (μ := ν) M G.1 (z := (k : Int)) (w := (j : Int)) (by omega) (by omega)
    rw [← no3] at f1 f2 f3 f4
    obtain ⟨b, hb, ib⟩ := sp_hasRoomAt H G.1 (p := (j : Int)) (by omega)
    unfold fX6_orderBegin
    rw [hb, Option.bind_some]
    by_cases q : an a < 8 ∧ ∀ i, i < an a → ¬ onL a i (j : Int)
    · obtain ⟨σ', r, c, G', H', M', d1, d2⟩ := jn_begin H M G q.1 (l := k) (p := j) (by omega) (by omega) q.2
      rw [if_pos (ib.mpr q), d1, Option.bind_some, Option.bind_some]
      rw [← no3] at d2
      exact ⟨true, σ', r, c, G', H', M', rfl, carr_yes (by rw [o1]; decide) o1 no2 (f4 (by omega) (by omega) q) d2⟩
    · rw [if_neg (fun w => q (ib.mp w)), Option.bind_some]
      exact ⟨false, σ, M_row ν, a, G, H, M, rfl, carr_no (by rw [o1]; decide) o1 no2 (c := 3) (by decide) (f3 (by omega) (by omega) q)⟩
  by_cases h6 : sgN t l x = 115
  · have e : ordN t l x = (decide (0 < drN t l 20 (x + 1)), x + 1 + drN t l 20 (x + 1), ((x + 1 : Nat) : Int), ((drN t l 20 (x + 1) : Nat) : Int)) := by unfold ordN; rw [if_neg h1, if_neg h2, if_neg h3, if_neg h4, if_neg h5, if_pos h6]
    have f := s4 h6
    have no3 := o3 (Or.inr (Or.inr h6))
    rw [e] at f no2 no3
    have dl := dr_len (t := t) (l := l) 20 (x + 1) (by omega)
    rw [h6] at o1
    rw [h6, if_neg (by decide), if_neg (by decide), if_neg (by decide), if_neg (by decide), if_neg (by decide), if_pos (by decide)]
    obtain ⟨b, hb, ib⟩ := sp_hasLine H G.1 (z := (an a : Int) - 1) (by omega)
    unfold fX6_orderSteps fX7_carries
    rw [sp_lineCount H, Option.bind_some, L1, iI_sub, hb, Option.bind_some, if_pos (show M_le ν = (115 : Int32) from o1), sm_n M]
    by_cases q : 0 < an a
    · obtain ⟨b', σ', r, c, G', H', M', d1, d2⟩ := jn_steps T g (f0 := x + 1) (cnt := drN t l 20 (x + 1)) (fun i hi => ⟨by omega, dl.2.2 i hi⟩) f.1 f.2 (by omega) (drN t l 20 (x + 1)) 0 FU FU σ ν a (by omega) (FU_gt (by omega)) (by show drN t l 20 (x + 1) + 1 < 10000; omega) H M G q Tm no2 no3 o1
      rw [Z0, show ((an a - 1 : Nat) : Int) = (an a : Int) - 1 by omega] at d1
      rw [if_pos (ib.mpr (by omega)), d1, Option.bind_some, if_neg (show ¬ iI (an a : Int) ≤ (0 : Int32) from by rw [L0]; exact nle (by omega) (by omega) (by omega)), no2]
      exact ⟨b', σ', r, c, G', H', M', rfl, d2⟩
    · rw [if_neg (fun w => by have := ib.mp w; omega), Option.bind_some, if_pos (show iI (an a : Int) ≤ (0 : Int32) from by rw [L0]; exact yle (by omega) (by omega) (by omega)), show FU = 9999 + 1 from rfl, fX7_carries_83]
      refine ⟨false, σ, M_row ν, a, G, H, M, rfl, ?_⟩
      by_cases w : M_f1 ν + M_f2 ν ≤ M_f1 ν
      · rw [if_pos w]
      · rw [if_neg w, if_neg nft]
  by_cases h7 : sgN t l x = 117
  · have e : ordN t l x = singN t l 0 7 (x + 1) := by unfold ordN; rw [if_neg h1, if_neg h2, if_neg h3, if_neg h4, if_neg h5, if_neg h6, if_pos h7]
    have f := s2 h1 (by omega)
    rw [e] at ok f no2
    have v := sing_val (by omega) ok
    generalize (singN t l 0 7 (x + 1)).2.2.1 = z at f no2 v
    rw [h7] at o1
    rw [h7, if_neg (by decide), if_neg (by decide), if_neg (by decide), if_neg (by decide), if_neg (by decide), if_neg (by decide), if_pos (by decide), f]
    obtain ⟨f1, f2, f3⟩ := rf_unlab (μ := ν) M G.1 (z := z) (by omega) (M_f2 ν)
    unfold fX6_orderUnlabel
    by_cases q : z < an a
    · obtain ⟨k, rfl⟩ : ∃ k : Nat, z = k := ⟨z.toNat, by omega⟩
      rw [Int.toNat_natCast] at f2 f3
      have lr := lab_rng G.1 (i := k) (by omega)
      rw [sp_labelIn H G.1 (k := k) (by omega), Option.bind_some]
      by_cases q2 : ab a k = -1
      · rw [if_pos (by rw [q2]; rfl), Option.bind_some]
        exact ⟨false, σ, M_row ν, a, G, H, M, rfl, carr_no (by rw [o1]; decide) o1 no2 (c := 2) (by decide) (f2 (by omega) q2)⟩
      · obtain ⟨σ', r, c, G', H', M', d1, d2⟩ := jn_unlab H M G (k := k) (by omega) (M_f2 ν)
        rw [if_neg (by rw [Lm1]; exact neq (by omega) (by omega) q2), d1, Option.bind_some, Option.bind_some]
        exact ⟨true, σ', r, c, G', H', M', rfl, carr_yes (by rw [o1]; decide) o1 no2 (f3 (by omega) q2) d2⟩
    · rw [labelIn_out H G.1 (by omega), Option.bind_some, if_pos rfl, Option.bind_some]
      exact ⟨false, σ, M_row ν, a, G, H, M, rfl, carr_no (by rw [o1]; decide) o1 no2 (c := 1) (by decide) (f1 (by omega))⟩
  by_cases h9 : sgN t l x = 119
  · have e : ordN t l x = singN t l 0 7 (x + 1) := by unfold ordN; rw [if_neg h1, if_neg h2, if_neg h3, if_neg h4, if_neg h5, if_neg h6, if_neg h7, if_pos h9]
    have f := s2 h1 (by omega)
    rw [e] at ok f no2
    have v := sing_val (by omega) ok
    generalize (singN t l 0 7 (x + 1)).2.2.1 = z at f no2 v
    rw [h9] at o1
    rw [h9, if_neg (by decide), if_neg (by decide), if_neg (by decide), if_neg (by decide), if_neg (by decide), if_neg (by decide), if_neg (by decide), if_pos (by decide), f]
    obtain ⟨f1, f2⟩ := rf_wipe (μ := ν) M G.1 (z := z) (by omega) (M_f2 ν)
    by_cases q : z < an a
    · obtain ⟨k, rfl⟩ : ∃ k : Nat, z = k := ⟨z.toNat, by omega⟩
      obtain ⟨σ', r, c, G', H', M', d1, d2, d3⟩ := jn_wipe H M G (k := k) (by omega) (M_f2 ν)
      rw [d1, Option.bind_some]
      exact ⟨true, σ', r, c, G', H', M', rfl, carr_yes (by rw [o1]; decide) o1 no2 (f2 (by omega)) d3⟩
    · obtain ⟨b, hb, ib⟩ := sp_hasLine H G.1 (z := z) (by omega)
      unfold fX4_removeLine
      rw [hb, Option.bind_some, if_neg (fun w => by have := ib.mp w; omega), Option.bind_some]
      exact ⟨false, σ, M_row ν, a, G, H, M, rfl, carr_no (by rw [o1]; decide) o1 no2 (c := 1) (by decide) (f1 (by omega))⟩
  exfalso
  unfold ordN at ok
  rw [if_neg h1, if_neg h2, if_neg h3, if_neg h4, if_neg h5, if_neg h6, if_neg h7, if_neg h9] at ok
  exact nft ok
end RT
