/-! the text's calls -/
def FrK (μ μ' : Mo) : Prop := M_sv μ' = M_sv μ ∧ M_sm μ' = M_sm μ ∧ M_kp μ' = M_kp μ ∧ M_ik μ' = M_ik μ ∧ M_tx μ' = M_tx μ ∧ M_len μ' = M_len μ ∧ M_th μ' = M_th μ
def FrR (μ μ' : Mo) : Prop := M_row μ' = M_row μ ∧ M_sv μ' = M_sv μ ∧ M_sm μ' = M_sm μ ∧ M_kp μ' = M_kp μ ∧ M_ik μ' = M_ik μ
def TXR (τ : Tx) (μ : Mo) : Prop := ∃ l t, TG l t ∧ TXs τ l t ∧ TXm μ l t
section TT
variable {σ : Sh} {η : Hi} {τ : Tx} {μ : Mo} {a : Ab} {l : Nat} {t : Nat → Int}
theorem repH_fr {μ' : Mo} (h : RepH η μ) (h1 : M_sv μ' = M_sv μ) (h2 : M_sm μ' = M_sm μ) : RepH η μ' := by
  obtain ⟨c, o, A, k1, k2, k3, k4, k5, k6⟩ := h
  exact ⟨c, o, A, k1, k2, k3, k4, h2.trans k5, fun i hi => by rw [h1]; exact k6 i hi⟩
theorem repT_fr {μ' : Mo} (h : RepT η μ) (h1 : M_kp μ' = M_kp μ) (h2 : M_ik μ' = M_ik μ) : RepT η μ' := by
  obtain ⟨t1, t2⟩ := h
  exact ⟨t1.trans h2.symm, fun q => by rw [h1]; exact t2 q⟩
theorem rr_fr {μ' : Mo} (h : RR σ η μ) (f : FrR μ μ') : RR σ η μ' := by
  obtain ⟨⟨a, G, H, M⟩, hH, hT⟩ := h
  obtain ⟨f1, f2, f3, f4, f5⟩ := f
  exact ⟨⟨a, G, H, by rw [f1]; exact M⟩, repH_fr hH f2 f3, repT_fr hT f4 f5⟩
theorem run_stop (n : Nat) (v : Int32) : fX7_runText_31 (n + 1) v false μ = some (v, μ) := by
  rw [fX7_runText_31, if_neg nft]
theorem run_loop (g : TG l t) (η : Hi) : ∀ (f x d n n' : Nat) (σ : Sh) (τ : Tx) (μ : Mo) (a : Ab), (vlN t l f x).1 = true → x ≤ l → d ≤ x → l < x + n → l + 1 < x + n' → RepS σ a → RepM (M_row μ) a → GoodA a → TXs τ l t → TXm μ l t → M_sp μ = iI x →
    ∃ v σ' τ' μ' c, GoodA c ∧ RepS σ' c ∧ RepM (M_row μ') c ∧ X_sg τ' = X_sg τ ∧ X_len τ' = X_len τ ∧ FrK μ μ' ∧
      ((fX3_readNext_18 (X_cur' τ (iI x))).bind fun r_2 => (if r_2.1 = true then ((fX6_carryOutOrder σ r_2.2).bind fun r_4 => (if r_4.1 = true then fX6_runText_40 η n (iI (d : Int) + 1) r_4.2 r_2.2 else (some (.ok (iI (d : Int), r_4.2, η, r_2.2))))) else (some (.ok (iI (d : Int), σ, η, r_2.2))))) = some (.ok (iI v, σ', η, τ')) ∧
      fX7_runText_31 n' (iI d) true μ = some (iI v, μ') := by
  have h60 := g.1
  intro f
  induction f with
  | zero => intro x d n n' σ τ μ a h; exact absurd h nft
  | succ f ih =>
    intro x d n n' σ τ μ a hv h1 h2 h3 h4 H M G T Tm hx
    rw [vlN] at hv
    by_cases ok : (ordN t l x).1 = true
    · rw [if_pos ok] at hv
      obtain ⟨τ1, e1, s1, s2, s3, s4⟩ := sp_readNext T g h1
      obtain ⟨ν, e2, f1, f2, f3, f4⟩ := sm_reads Tm g hx h1
      have oe := ord_end (t := t) h1
      have oe2 := oe.2.2 ok
      have T1 : TXs τ1 l t := txs_of T s1 s2
      have T2 : TXm ν l t := txm_fr Tm f1
      obtain ⟨k, rfl⟩ : ∃ k, n' = k + 1 := ⟨n' - 1, by omega⟩
      obtain ⟨k, rfl⟩ : ∃ k', k = k' + 1 := ⟨k - 1, by omega⟩
      obtain ⟨m, rfl⟩ : ∃ m, n = m + 1 := ⟨n - 1, by omega⟩
      generalize hy : (ordN t l x).2.1 = y at s3 f2 hv oe oe2
      obtain ⟨b, σ1, r, c, G1, H1, M1, k1, k2⟩ := jn_carry (ν := M_sp' ν (iI ((y + 1 : Nat) : Int))) H (by show RepM (M_row ν) a; rw [f1.1]; exact M) G T1 T2 g h1 ok (s4 ok) (f4 ok)
      have fk : FrK μ (M_row' (M_sp' ν (iI ((y + 1 : Nat) : Int))) r) := ⟨f1.2.1, f1.2.2.1, f1.2.2.2.1, f1.2.2.2.2.1, f1.2.2.2.2.2.1, f1.2.2.2.2.2.2.1, f1.2.2.2.2.2.2.2⟩
      have emod : ∀ (K : Bool × Mo → Option (Int32 × Mo)), ((fX7_reads μ).bind fun r_3 => (fX7_carries (M_sp' r_3 ((M_sp r_3) + (1 : Int32)))).bind K) = K (b, M_row' (M_sp' ν (iI ((y + 1 : Nat) : Int))) r) := by
        intro K
        rw [e2, Option.bind_some, f2, iI_s, k2, Option.bind_some]
      rw [e1, Option.bind_some, ok, if_pos (rfl : true = true), k1, Option.bind_some, fX7_runText_31, if_pos (rfl : true = true), Tm.1, hx, if_neg (nle (by omega) (by omega) (by omega)), emod]
      cases b with
      | false =>
        rw [if_neg nft, if_neg nft]
        refine ⟨d, σ1, τ1, _, c, G1, H1, M1, s1, s2, fk, rfl, ?_⟩
        show fX7_runText_31 (k + 1) (iI (d : Int) + (0 : Int32)) false _ = _
        rw [L0, iI_add, Int.add_zero, run_stop]
      | true =>
        rw [if_pos (rfl : true = true), if_pos (rfl : true = true), iI_s]
        have p := sp_pass T1 g (x := y) (by omega) (c := 59) (by omega)
        rw [cur_eta s3] at p
        by_cases q : y = l
        · have fin : fX6_runText_40 η (m + 1) (iI ((d + 1 : Nat) : Int)) σ1 τ1 = some (.ok (iI ((d + 1 : Nat) : Int), σ1, η, τ1)) := by
            rw [fX6_runText_40, L60]
            by_cases w : 60 ≤ d + 1
            · rw [if_pos (yle (by omega) (by omega) (by omega))]
            · rw [if_neg (nle (by omega) (by omega) (by omega))]
              unfold fX3_readNext
              rw [if_neg (show ¬ X_cur τ1 ≤ (0 : Int32) from by rw [s3, L0]; exact nle (by omega) (by omega) (by omega)), k59, p, if_neg (show ¬ sgN t l y = 59 from by unfold sgN; rw [if_neg (by omega)]; omega), Option.bind_some, if_neg nft, Option.bind_some, if_neg nft]
          refine ⟨((d + 1 : Nat) : Int), σ1, τ1, _, c, G1, H1, M1, s1, s2, fk, fin, ?_⟩
          show fX7_runText_31 (k + 1) (iI ((d + 1 : Nat) : Int)) true (M_row' (M_sp' ν (iI ((y + 1 : Nat) : Int))) r) = _
          rw [fX7_runText_31, if_pos (rfl : true = true), if_pos (show M_len (M_row' (M_sp' ν (iI ((y + 1 : Nat) : Int))) r) ≤ M_sp (M_row' (M_sp' ν (iI ((y + 1 : Nat) : Int))) r) from by show M_len ν ≤ iI ((y + 1 : Nat) : Int); rw [T2.1]; exact yle (by omega) (by omega) (by omega))]
        · rw [if_neg q] at hv
          by_cases q2 : sgN t l y = 59
          · rw [if_pos q2] at hv
            have hl2 := sgN_lt (t := t) (l := l) (x := y) (by omega)
            obtain ⟨v, σ2, τ2, μ2, c2, G2, H2, M2, r1, r2, fk2, c3, c4⟩ := ih (y + 1) (d + 1) m (k + 1) σ1 τ1 (M_row' (M_sp' ν (iI ((y + 1 : Nat) : Int))) r) c hv (by omega) (by omega) (by omega) (by omega) H1 M1 G1 T1 T2 rfl
            have fk3 : FrK μ μ2 := by
              obtain ⟨a1, a2, a3, a4, a5, a6, a7⟩ := fk
              obtain ⟨b1, b2, b3, b4, b5, b6, b7⟩ := fk2
              exact ⟨b1.trans a1, b2.trans a2, b3.trans a3, b4.trans a4, b5.trans a5, b6.trans a6, b7.trans a7⟩
            refine ⟨v, σ2, τ2, μ2, c2, G2, H2, M2, r1.trans s1, r2.trans s2, fk3, ?_, c4⟩
            rw [fX6_runText_40, L60, if_neg (nle (by omega) (by omega) (by omega))]
            unfold fX3_readNext
            rw [if_neg (show ¬ X_cur τ1 ≤ (0 : Int32) from by rw [s3, L0]; exact nle (by omega) (by omega) (by omega)), k59, p, if_pos q2, Option.bind_some, if_pos (rfl : true = true)]
            exact c3
          · rw [if_neg q2] at hv; exact absurd hv nft
    · rw [if_neg ok] at hv; exact absurd hv nft
theorem vl_true : ∀ (f x : Nat), (vlN t l f x).1 = true → (vlN t l f x).2 = l := by
  intro f
  induction f with
  | zero => intro x h; exact absurd h nft
  | succ f ih =>
    intro x h
    rw [vlN] at h ⊢
    by_cases ok : (ordN t l x).1 = true
    · rw [if_pos ok] at h ⊢
      by_cases q : (ordN t l x).2.1 = l
      · rw [if_pos q]
      · rw [if_neg q] at h ⊢
        by_cases q2 : sgN t l (ordN t l x).2.1 = 59
        · rw [if_pos q2] at h ⊢; exact ih _ h
        · rw [if_neg q2] at h; exact absurd h nft
    · rw [if_neg ok] at h; exact absurd h nft
theorem tx_append (X : TXR τ μ) {z : Int} (hz : -2147483648 ≤ z ∧ z < 2147483648) :
    (fX6_append τ (iI z) = some (.error "java/lang/IllegalArgumentException") ∧ ∃ v, fX7_append μ (iI z) = some (v, M_th' μ (1 : Int32))) ∨
    (fX6_append τ (iI z) = some (.error "java/lang/IllegalStateException") ∧ ∃ v, fX7_append μ (iI z) = some (v, M_th' μ (2 : Int32))) ∨
    (∃ v τ' μ', fX6_append τ (iI z) = some (.ok (v, τ')) ∧ fX7_append μ (iI z) = some (v, μ') ∧ M_th μ' = 0 ∧ TXR τ' μ' ∧ FrR μ μ') := by
  obtain ⟨l, t, g, T, Tm⟩ := X
  have h60 := g.1
  have i := sm_inB (x := z) (y := 32) (z := 126) hz (by omega) (by omega)
  unfold fX6_append fX7_append
  rw [show (32 : Int32) = iI 32 from rfl, show (126 : Int32) = iI 126 from rfl, Tm.1]
  by_cases h : 32 ≤ z ∧ z ≤ 126
  · rw [if_neg (nlt (by omega) (by omega) (by omega)), if_pos (yle (by omega) (by omega) (by omega)), i.1 h, Option.bind_some, if_pos (rfl : true = true)]
    have full : fX3_isFull τ = some (decide (60 ≤ l)) := by
      unfold fX3_isFull
      rw [T.1, L60]
      by_cases q : l < 60
      · rw [if_pos (ylt (by omega) (by omega) (by omega)), decide_eq_false (by omega)]
      · rw [if_neg (nlt (by omega) (by omega) (by omega)), decide_eq_true (by omega)]
    rw [full, Option.bind_some]
    by_cases q : l = 60
    · right; left
      rw [decide_eq_true (by omega), if_pos (rfl : true = true), if_pos (show iI (l : Int) = (60 : Int32) from by rw [q]; rfl)]
      exact ⟨rfl, _, rfl⟩
    · right; right
      rw [decide_eq_false (by omega), if_neg nft, if_neg (show ¬ iI (l : Int) = (60 : Int32) from by rw [L60]; exact neq (by omega) (by omega) (by omega)), if_pos (inR_iI (by omega) (by omega) (by omega)), tnN (by omega)]
      unfold fX3_add
      rw [full, Option.bind_some, decide_eq_false (by omega), if_neg nft, T.1, if_pos (inR_iI (by omega) (by omega) (by omega)), tnN (by omega), Option.bind_some, L1, iI_add]
      refine ⟨iI ((l : Int) + 1), _, _, rfl, rfl, rfl, ⟨l + 1, fun j => if j = l then z else t j, ⟨by omega, fun j hj => ?_⟩, ⟨rfl, fun j hj => ?_⟩, ⟨rfl, fun j hj => ?_⟩⟩, rfl, rfl, rfl, rfl, rfl⟩
      · show 32 ≤ (if j = l then z else t j) ∧ (if j = l then z else t j) ≤ 126
        by_cases w : j = l
        · rw [if_pos w]; exact h
        · rw [if_neg w]; exact g.2 j (by omega)
      · show upd (X_sg τ) l (iI z) j = iI (if j = l then z else t j)
        by_cases w : j = l
        · rw [if_pos w, w, upd_eq]
        · rw [if_neg w, upd_ne w]; exact T.2 j (by omega)
      · show upd (M_tx μ) l (iI z) j = iI (if j = l then z else t j)
        by_cases w : j = l
        · rw [if_pos w, w, upd_eq]
        · rw [if_neg w, upd_ne w]; exact Tm.2 j (by omega)
  · left
    rw [i.2 h, Option.bind_some, if_neg nft]
    by_cases q : z < 32
    · rw [if_pos (ylt (by omega) (by omega) q)]; exact ⟨rfl, _, rfl⟩
    · rw [if_neg (nlt (by omega) (by omega) (by omega)), if_neg (nle (by omega) (by omega) (by omega))]; exact ⟨rfl, _, rfl⟩
theorem tx_clear (X : TXR τ μ) : ∃ v τ' μ', fX6_clearText τ = some (v, τ') ∧ fX7_clearText μ = some (v, μ') ∧ TXR τ' μ' ∧ FrR μ μ' := by
  obtain ⟨l, t, g, T, Tm⟩ := X
  refine ⟨iI l, X_len' τ (0 : Int32), M_len' (M_th' μ (0 : Int32)) (0 : Int32), ?_, ?_, ⟨0, t, ⟨by omega, fun j hj => absurd hj (Nat.not_lt_zero _)⟩, ⟨rfl, fun j hj => absurd hj (Nat.not_lt_zero _)⟩, ⟨rfl, fun j hj => absurd hj (Nat.not_lt_zero _)⟩⟩, rfl, rfl, rfl, rfl, rfl⟩
  · show some (X_len τ, X_len' τ (0 : Int32)) = _
    rw [T.1]
  · show some (M_len μ, M_len' (M_th' μ (0 : Int32)) (0 : Int32)) = _
    rw [Tm.1]
theorem tx_error (X : TXR τ μ) : ∃ v τ' μ', fX6_errorPosition τ = some (v, τ') ∧ fX7_errorPosition μ = some (v, μ') ∧ TXR τ' μ' ∧ FrR μ μ' := by
  obtain ⟨l, t, g, T, Tm⟩ := X
  obtain ⟨τ', e1, s1, s2, s3⟩ := sp_isValid T g
  obtain ⟨μ', e2, f1, f2⟩ := sm_isText (μ := M_th' μ (0 : Int32)) Tm g
  have TT : TXR τ' μ' := ⟨l, t, g, txs_of T s1 s2, txm_fr (μ := M_th' μ (0 : Int32)) Tm f1⟩
  have FF : FrR μ μ' := ⟨f1.1, f1.2.1, f1.2.2.1, f1.2.2.2.1, f1.2.2.2.2.1⟩
  refine ⟨iI ((vlN t l 61 0).2 : Nat), τ', μ', ?_, ?_, TT, FF⟩
  · unfold fX6_errorPosition fX3_firstError
    rw [e1, Option.bind_some, Option.bind_some, s3]
  · unfold fX7_errorPosition
    rw [e2, Option.bind_some]
    by_cases q : (vlN t l 61 0).1 = true
    · rw [if_pos q, vl_true _ _ q]
      have e : M_len μ' = iI l := f1.2.2.2.2.2.2.1.trans Tm.1
      rw [e]
    · rw [if_neg q, f2]
theorem tx_run (R : RR σ η μ) (X : TXR τ μ) :
    (∃ τ' v μ', fX6_runText σ η τ = some (.error ("java/lang/IllegalArgumentException", (σ, η, τ'))) ∧ fX7_runText μ = some (v, μ') ∧ M_th μ' = 1 ∧ RR σ η μ' ∧ TXR τ' μ') ∨
    (∃ v σ' η' τ' μ', fX6_runText σ η τ = some (.ok (v, σ', η', τ')) ∧ fX7_runText μ = some (v, μ') ∧ M_th μ' = 0 ∧ RR σ' η' μ' ∧ TXR τ' μ') := by
  obtain ⟨l, t, g, T, Tm⟩ := X
  have h60 := g.1
  obtain ⟨τ1, e1, s1, s2, s3⟩ := sp_isValid T g
  obtain ⟨μ1, e2, f1, f2⟩ := sm_isText (μ := M_th' μ (0 : Int32)) Tm g
  have T1 : TXs τ1 l t := txs_of T s1 s2
  have Tm1 : TXm μ1 l t := txm_fr (μ := M_th' μ (0 : Int32)) Tm f1
  have R1 : RR σ η μ1 := rr_fr R ⟨f1.1, f1.2.1, f1.2.2.1, f1.2.2.2.1, f1.2.2.2.2.1⟩
  have th1 : M_th μ1 = 0 := f1.2.2.2.2.2.2.2
  unfold fX6_runText fX7_runText
  rw [e1, Option.bind_some, e2, Option.bind_some]
  by_cases q : (vlN t l 61 0).1 = true
  · right
    obtain ⟨⟨a, G, H, M⟩, hH, hT⟩ := R1
    obtain ⟨η', ν, k1, k2, k3, k4, k5, k6, k7⟩ := rec_ok (μ := μ1) G H M hH hT
    have Tν : TXm ν l t := ⟨k5.2.trans Tm1.1, fun i hi => by rw [k5.1]; exact Tm1.2 i hi⟩
    obtain ⟨v, σ', τ', μ', c, G', H', M', r1, r2, fk, c1, c2⟩ := run_loop g η' 61 0 0 9999 FU σ τ1 (M_sp' ν (0 : Int32)) a q (by omega) (by omega) (by omega) (by show l + 1 < 0 + 10000; omega) H (by show RepM (M_row ν) a; rw [k3]; exact M) G T1 Tν rfl
    refine ⟨iI v, σ', η', τ', μ', ?_, ?_, ?_, ⟨⟨c, G', H', M'⟩, repH_fr (μ := ν) k6 fk.1 fk.2.1, repT_fr (μ := ν) k7 fk.2.2.1 fk.2.2.2.1⟩, ⟨l, t, g, txs_of T1 r1 r2, ⟨fk.2.2.2.2.2.1.trans Tν.1, fun i hi => by rw [fk.2.2.2.2.1]; exact Tν.2 i hi⟩⟩⟩
    · rw [if_pos q, k1, Option.bind_some, show fX3_rewind τ1 = some (X_cur' τ1 (0 : Int32)) from rfl, Option.bind_some, show FU = 9999 + 1 from rfl, fX6_runText_40, if_neg (by decide)]
      unfold fX3_readNext
      rw [if_pos (show X_cur (X_cur' τ1 (0 : Int32)) ≤ 0 from by show (0 : Int32) ≤ 0; decide)]
      rw [Z0] at c1
      exact c1
    · rw [if_pos q, k2, Option.bind_some]
      rw [Z0] at c2
      exact c2
    · exact fk.2.2.2.2.2.2.trans (k4.trans th1)
  · left
    refine ⟨τ1, (0 : Int32), M_th' μ1 (1 : Int32), by rw [if_neg q], by rw [if_neg q]; rfl, rfl, R1, ⟨l, t, g, T1, Tm1⟩⟩
end TT
