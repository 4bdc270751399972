/-! the drawing: spreading from the margin reaches what joins the margin, and nothing else -/
def Nb (x y : Nat) : Prop := (0 < x % 72 ∧ y + 1 = x) ∨ (x % 72 < 71 ∧ y = x + 1) ∨ y + 72 = x ∨ y = x + 72
def BI (D0 Q : Nat → Prop) (δ : Dr) (w : Nat) : Prop :=
  w ≤ 3456 ∧ D_wc δ = iI w ∧ (∀ i, i < w → ∃ x : Nat, x < 3456 ∧ D_wt δ i = iI x ∧ D_dots δ x = 2) ∧
  (∀ x, x < 3456 → (D_dots δ x = 0 ∧ ¬ D0 x) ∨ (D_dots δ x = 1 ∧ D0 x) ∨ (D_dots δ x = 2 ∧ ¬ D0 x ∧ Q x ∧ ∃ i, i < w ∧ D_wt δ i = iI x)) ∧
  (∀ i j, i < w → j < w → D_wt δ i = D_wt δ j → i = j)
section SPR
variable {D0 Q : Nat → Prop} {δ : Dr}
theorem n10 : ¬ ((1 : Int32) = 0) := by decide
theorem n20 : ¬ ((2 : Int32) = 0) := by decide
theorem n21 : ¬ ((2 : Int32) = 1) := by decide
theorem n12 : ¬ ((1 : Int32) = 2) := by decide
theorem n02 : ¬ ((0 : Int32) = 2) := by decide
theorem sp_isDot {z : Int} (hz : -1000 ≤ z ∧ z ≤ 10000) : (0 ≤ z ∧ z < 3456 → fX0_isDot (iI z) = some true) ∧ (¬ (0 ≤ z ∧ z < 3456) → fX0_isDot (iI z) = some false) := by
  unfold fX0_isDot
  constructor
  · intro h
    rw [if_neg (nlt0 (by omega)), if_neg (show ¬ (3456 : Int32) ≤ iI z from by rw [show (3456 : Int32) = iI 3456 from rfl]; exact nle (by omega) (by omega) (by omega))]
  · intro h
    by_cases q : z < 0
    · rw [if_pos (by rw [L0]; exact ylt (by omega) (by omega) q)]
    · rw [if_neg (nlt0 (by omega)), if_pos (show (3456 : Int32) ≤ iI z from by rw [show (3456 : Int32) = iI 3456 from rfl]; exact yle (by omega) (by omega) (by omega))]
theorem bi_room {w : Nat} (B : BI D0 Q δ w) {z : Nat} (hz : z < 3456) (h0 : D_dots δ z = 0) : w < 3456 := by
  rcases Nat.lt_or_ge w 3456 with h | h
  · exact h
  · exfalso
    have hw : w = 3456 := by have := B.1; omega
    subst hw
    obtain ⟨-, -, b3, -, b5⟩ := B
    have hf : ∀ i, i < 3456 → (D_wt δ i).toNatClampNeg < 3456 := fun i hi => by
      obtain ⟨x, h1, h2, -⟩ := b3 i hi
      rw [h2, tnN (by omega)]; exact h1
    obtain ⟨i, hi, he⟩ := pigeon 3456 (fun i => (D_wt δ i).toNatClampNeg) hf (fun i j hi hj he => by
      obtain ⟨x, h1, h2, -⟩ := b3 i hi
      obtain ⟨y, h3, h4, -⟩ := b3 j hj
      have he' : (D_wt δ i).toNatClampNeg = (D_wt δ j).toNatClampNeg := he
      rw [h2, h4, tnN (by omega), tnN (by omega)] at he'
      refine b5 i j hi hj ?_
      rw [h2, h4, he']) z hz
    obtain ⟨x, h1, h2, h3⟩ := b3 i hi
    have he' : (D_wt δ i).toNatClampNeg = z := he
    rw [h2, tnN (by omega)] at he'
    rw [he', h0] at h3
    exact n02 h3
theorem sp_reach {w : Nat} (B : BI D0 Q δ w) {z : Int} (hz : -1000 ≤ z ∧ z ≤ 10000) (hQ : 0 ≤ z → z < 3456 → ¬ D0 z.toNat → Q z.toNat) :
    ∃ δ' w', fX0_reach δ (iI z) = some δ' ∧ BI D0 Q δ' w' ∧ w ≤ w' ∧ (∀ i, i < w → D_wt δ' i = D_wt δ i) ∧ (∀ x, D_dots δ x ≠ 0 → D_dots δ' x = D_dots δ x) ∧ (0 ≤ z → z < 3456 → D_dots δ' z.toNat ≠ 0) := by
  unfold fX0_reach
  by_cases hr : 0 ≤ z ∧ z < 3456
  · rw [(sp_isDot hz).1 hr, Option.bind_some, if_pos (rfl : true = true), if_pos (inR_iI (by omega) (by omega) (by omega)), iI_tn (by omega) (by omega)]
    obtain ⟨x, rfl⟩ : ∃ x : Nat, z = x := ⟨z.toNat, by omega⟩
    rw [Int.toNat_natCast] at hQ ⊢
    by_cases h0 : D_dots δ x = 0
    · have hw := bi_room B (z := x) (by omega) h0
      rw [if_pos h0, B.2.1, if_neg (show ¬ (3456 : Int32) ≤ iI (w : Int) from by rw [show (3456 : Int32) = iI 3456 from rfl]; exact nle (by omega) (by omega) (by omega)), if_pos (inR_iI (by omega) (by omega) (by omega)), tnN (by omega), iI_s]
      have hd : ¬ D0 x := by
        rcases B.2.2.2.1 x (by omega) with q | q | q
        · exact q.2
        · rw [h0] at q; exact absurd q.1 (by decide)
        · rw [h0] at q; exact absurd q.1 n02
      have u1 : ∀ i, i ≠ w → upd (D_wt δ) w (iI (x : Int)) i = D_wt δ i := fun i hi => by unfold upd; rw [if_neg hi]
      have u2 : upd (D_wt δ) w (iI (x : Int)) w = iI (x : Int) := by unfold upd; rw [if_pos rfl]
      have v1 : ∀ i, i ≠ x → upd (D_dots δ) x (2 : Int32) i = D_dots δ i := fun i hi => by unfold upd; rw [if_neg hi]
      have v2 : upd (D_dots δ) x (2 : Int32) x = 2 := by unfold upd; rw [if_pos rfl]
      have fresh : ∀ i, i < w → D_wt δ i ≠ iI (x : Int) := fun i hi q => by
        obtain ⟨y, h1, h2, h3⟩ := B.2.2.1 i hi
        rw [h2] at q
        have e := (iI_eq (by omega) (by omega)).mp q
        have e' : y = x := by omega
        rw [e', h0] at h3
        exact n02 h3
      refine ⟨_, w + 1, rfl, ⟨by omega, rfl, fun i hi => ?_, fun y hy => ?_, fun i j hi hj => ?_⟩, by omega, fun i hi => u1 i (by omega), fun y hy => v1 y (fun q => hy (q ▸ h0)), fun _ _ => ?_⟩
      · show ∃ x_1 : Nat, x_1 < 3456 ∧ upd (D_wt δ) w (iI (x : Int)) i = iI x_1 ∧ upd (D_dots δ) x (2 : Int32) x_1 = 2
        by_cases q : i = w
        · subst q; exact ⟨x, by omega, u2, v2⟩
        · obtain ⟨y, h1, h2, h3⟩ := B.2.2.1 i (by omega)
          refine ⟨y, h1, (u1 i q).trans h2, ?_⟩
          by_cases p : y = x
          · rw [p]; exact v2
          · rw [v1 y p]; exact h3
      · show (upd (D_dots δ) x (2 : Int32) y = 0 ∧ ¬ D0 y) ∨ (upd (D_dots δ) x (2 : Int32) y = 1 ∧ D0 y) ∨ (upd (D_dots δ) x (2 : Int32) y = 2 ∧ ¬ D0 y ∧ Q y ∧ ∃ i, i < w + 1 ∧ upd (D_wt δ) w (iI (x : Int)) i = iI y)
        by_cases p : y = x
        · subst p
          exact Or.inr (Or.inr ⟨v2, hd, hQ (by omega) (by omega) hd, w, by omega, u2⟩)
        · rw [v1 y p]
          rcases B.2.2.2.1 y hy with q | q | ⟨q1, q2, q3, i, q4, q5⟩
          · exact Or.inl q
          · exact Or.inr (Or.inl q)
          · exact Or.inr (Or.inr ⟨q1, q2, q3, i, by omega, (u1 i (by omega)).trans q5⟩)
      · show upd (D_wt δ) w (iI (x : Int)) i = upd (D_wt δ) w (iI (x : Int)) j → i = j
        by_cases q : i = w <;> by_cases p : j = w
        · intro _; omega
        · rw [q, u2, u1 j p]; intro e; exact absurd e.symm (fresh j (by omega))
        · rw [p, u2, u1 i q]; intro e; exact absurd e (fresh i (by omega))
        · rw [u1 i q, u1 j p]; intro e; exact B.2.2.2.2 i j (by omega) (by omega) e
      · show upd (D_dots δ) x (2 : Int32) x ≠ 0
        rw [v2]; exact n20
    · rw [if_neg h0]
      exact ⟨δ, w, rfl, B, Nat.le_refl _, fun _ _ => rfl, fun _ _ => rfl, fun _ _ => h0⟩
  · rw [(sp_isDot hz).2 hr, Option.bind_some, if_neg (show ¬ (false = true) from by decide)]
    exact ⟨δ, w, rfl, B, Nat.le_refl _, fun _ _ => rfl, fun _ _ => rfl, fun h1 h2 => absurd ⟨h1, h2⟩ hr⟩
/-- what the first dots of the row join is reached -/
def CLo (δ : Dr) (k : Nat) : Prop := ∀ i x y : Nat, i < k → x < 3456 → y < 3456 → D_wt δ i = iI x → Nb x y → D_dots δ y ≠ 0
theorem clo_le {δ' : Dr} {w k : Nat} (h : CLo δ k) (hk : k ≤ w) (h1 : ∀ i, i < w → D_wt δ' i = D_wt δ i) (h2 : ∀ x, D_dots δ x ≠ 0 → D_dots δ' x = D_dots δ x) : CLo δ' k := by
  intro i x y hi hx hy he hn
  rw [h1 i (by omega)] at he
  have := h i x y hi hx hy he hn
  rw [h2 y this]; exact this
theorem sp_spread_loop (hQ : ∀ x y, x < 3456 → y < 3456 → ¬ D0 x → ¬ D0 y → Nb x y → Q x → Q y) : ∀ (m k fu w : Nat) (δ : Dr), k + m = 3456 → m < fu → k ≤ w → BI D0 Q δ w → CLo δ k →
    ∃ δ' w', fX0_spread_12 fu (iI k) δ = some δ' ∧ BI D0 Q δ' w' ∧ CLo δ' w' ∧ (∀ x, D_dots δ x ≠ 0 → D_dots δ' x = D_dots δ x) := by
  intro m
  induction m with
  | zero =>
    intro k fu w δ h1 h2 h3 B L
    obtain ⟨f, rfl⟩ : ∃ f, fu = f + 1 := ⟨fu - 1, by omega⟩
    have hw : w = k := by have := B.1; omega
    rw [fX0_spread_12, B.2.1, if_pos (yle (by omega) (by omega) (by omega))]
    exact ⟨δ, w, rfl, B, by rw [hw]; exact L, fun _ _ => rfl⟩
  | succ m ih =>
    intro k fu w δ h1 h2 h3 B L
    obtain ⟨f, rfl⟩ : ∃ f, fu = f + 1 := ⟨fu - 1, by omega⟩
    have hw8 := B.1
    rw [fX0_spread_12, B.2.1]
    by_cases hkw : w ≤ k
    · rw [if_pos (yle (by omega) (by omega) (by omega))]
      have hw : w = k := by omega
      exact ⟨δ, w, rfl, B, by rw [hw]; exact L, fun _ _ => rfl⟩
    · obtain ⟨x, hx, hwt, hd⟩ := B.2.2.1 k (by omega)
      have hxQ : ¬ D0 x ∧ Q x := by
        rcases B.2.2.2.1 x hx with q | q | q
        · rw [hd] at q; exact absurd q.1 n20
        · rw [hd] at q; exact absurd q.1 n21
        · exact ⟨q.2.1, q.2.2.1⟩
      rw [if_neg (nle (by omega) (by omega) (by omega)), if_neg (show ¬ (3456 : Int32) ≤ iI (k : Int) from by rw [show (3456 : Int32) = iI 3456 from rfl]; exact nle (by omega) (by omega) (by omega)), if_pos (inR_iI (by omega) (by omega) (by omega)), tnN (by omega), hwt]
      have e72 : irm (iI (x : Int)) (72 : Int32) = iI ((x % 72 : Nat) : Int) := by
        rw [show (72 : Int32) = iI 72 from rfl, iI_irm (by omega) (by omega)]; exact congrArg iI (by omega)
      have q0 : ∀ y : Nat, y < 3456 → Nb x y → ¬ D0 y → Q y := fun y hy hn hd => hQ x y hx hy hxQ.1 hd hn hxQ.2
      have em : iI (x : Int) - (1 : Int32) = iI ((x : Int) - 1) := by rw [L1, iI_sub]
      have ep : iI (x : Int) + (1 : Int32) = iI ((x : Int) + 1) := by rw [L1, iI_add]
      have eu : iI (x : Int) - (72 : Int32) = iI ((x : Int) - 72) := by rw [show (72 : Int32) = iI 72 from rfl, iI_sub]
      have ed : iI (x : Int) + (72 : Int32) = iI ((x : Int) + 72) := by rw [show (72 : Int32) = iI 72 from rfl, iI_add]
      -- the dots above and below, and on
      have tail2 : ∀ (δ1 : Dr) (w1 : Nat), BI D0 Q δ1 w1 → w ≤ w1 → (∀ i, i < w → D_wt δ1 i = D_wt δ i) → (∀ y, D_dots δ y ≠ 0 → D_dots δ1 y = D_dots δ y) → (∀ y : Nat, y < 3456 → 0 < x % 72 ∧ y + 1 = x → D_dots δ1 y ≠ 0) → (∀ y : Nat, y < 3456 → x % 72 < 71 ∧ y = x + 1 → D_dots δ1 y ≠ 0) →
          ∃ δ' w', ((fX0_reach δ1 (iI ((x : Int) - 72))).bind fun r_5 => (fX0_reach r_5 (iI ((x : Int) + 72))).bind fun r_6 => fX0_spread_12 f (iI (k : Int) + 1) r_6) = some δ' ∧ BI D0 Q δ' w' ∧ CLo δ' w' ∧ (∀ y, D_dots δ y ≠ 0 → D_dots δ' y = D_dots δ y) := by
        intro δ1 w1 B1 hw1 t1 t2 t3 t4
        obtain ⟨δ2, w2, r1, B2, hw2, s1, s2, s3⟩ := sp_reach B1 (z := (x : Int) - 72) (by omega) (fun a b c => q0 _ (by omega) (by unfold Nb; omega) c)
        obtain ⟨δ3, w3, r2, B3, hw3, u1, u2, u3⟩ := sp_reach B2 (z := (x : Int) + 72) (by omega) (fun a b c => q0 _ (by omega) (by unfold Nb; omega) c)
        rw [r1, Option.bind_some, r2, Option.bind_some, iI_s]
        have keep : ∀ y, D_dots δ y ≠ 0 → D_dots δ3 y = D_dots δ y := fun y hy => by
          have a1 := t2 y hy
          have a2 := s2 y (by rw [a1]; exact hy)
          have a3 := u2 y (by rw [a2, a1]; exact hy)
          rw [a3, a2, a1]
        have wk : ∀ i, i < w → D_wt δ3 i = D_wt δ i := fun i hi => by rw [u1 i (by omega), s1 i (by omega), t1 i hi]
        have k13 : ∀ y, D_dots δ1 y ≠ 0 → D_dots δ3 y ≠ 0 := fun y hy => by
          have a2 := s2 y hy
          have a3 := u2 y (by rw [a2]; exact hy)
          rw [a3, a2]; exact hy
        have L3 : CLo δ3 (k + 1) := by
          intro i x' y hi hx' hy he hn
          by_cases hik : i = k
          · rw [hik, wk k (by omega), hwt] at he
            have exx := (iI_eq (by omega) (by omega)).mp he
            have exx' : x' = x := by omega
            subst exx'
            rcases hn with q | q | q | q
            · exact k13 y (t3 y hy q)
            · exact k13 y (t4 y hy q)
            · have e : ((x' : Int) - 72).toNat = y := by omega
              have := s3 (by omega) (by omega)
              rw [e] at this
              have a3 := u2 y this
              rw [a3]; exact this
            · have e : ((x' : Int) + 72).toNat = y := by omega
              have := u3 (by omega) (by omega)
              rw [e] at this
              exact this
          · have he' : D_wt δ i = iI x' := by rw [← wk i (by omega)]; exact he
            have a := L i x' y (by omega) hx' hy he' hn
            rw [keep y a]; exact a
        obtain ⟨δ', w', p1, p2, p3, p4⟩ := ih (k + 1) f w3 δ3 (by omega) (by omega) (by omega) B3 L3
        exact ⟨δ', w', p1, p2, p3, fun y hy => by rw [p4 y (by rw [keep y hy]; exact hy), keep y hy]⟩
      have tail : ∀ (δ1 : Dr) (w1 : Nat), BI D0 Q δ1 w1 → w ≤ w1 → (∀ i, i < w → D_wt δ1 i = D_wt δ i) → (∀ y, D_dots δ y ≠ 0 → D_dots δ1 y = D_dots δ y) → (∀ y : Nat, y < 3456 → 0 < x % 72 ∧ y + 1 = x → D_dots δ1 y ≠ 0) →
          ∃ δ' w', fX0_spread_50 (fX0_spread_12 f) (iI k) (iI x) (iI ((x % 72 : Nat) : Int)) δ1 = some δ' ∧ BI D0 Q δ' w' ∧ CLo δ' w' ∧ (∀ y, D_dots δ y ≠ 0 → D_dots δ' y = D_dots δ y) := by
        intro δ1 w1 B1 hw1 t1 t2 t3
        unfold fX0_spread_50
        by_cases h71 : 71 ≤ x % 72
        · rw [if_pos (show (71 : Int32) ≤ iI ((x % 72 : Nat) : Int) from by rw [show (71 : Int32) = iI 71 from rfl]; exact yle (by omega) (by omega) (by omega)), eu, ed]
          exact tail2 δ1 w1 B1 hw1 t1 t2 t3 (fun y hy q => by omega)
        · rw [if_neg (show ¬ (71 : Int32) ≤ iI ((x % 72 : Nat) : Int) from by rw [show (71 : Int32) = iI 71 from rfl]; exact nle (by omega) (by omega) (by omega)), eu, ed, ep]
          obtain ⟨δ2, w2, r1, B2, hw2, s1, s2, s3⟩ := sp_reach B1 (z := (x : Int) + 1) (by omega) (fun a b c => q0 _ (by omega) (by unfold Nb; omega) c)
          rw [r1, Option.bind_some]
          refine tail2 δ2 w2 B2 (by omega) (fun i hi => by rw [s1 i (by omega), t1 i hi]) (fun y hy => by rw [s2 y (by rw [t2 y hy]; exact hy), t2 y hy]) (fun y hy q => by have a := t3 y hy q; rw [s2 y a]; exact a) (fun y hy q => ?_)
          have e : ((x : Int) + 1).toNat = y := by omega
          have := s3 (by omega) (by omega)
          rw [e] at this
          exact this
      rw [e72]
      by_cases h00 : x % 72 = 0
      · rw [if_pos (show iI ((x % 72 : Nat) : Int) ≤ (0 : Int32) from by rw [L0]; exact yle (by omega) (by omega) (by omega))]
        exact tail δ w B (Nat.le_refl _) (fun _ _ => rfl) (fun _ _ => rfl) (fun y hy q => by omega)
      · rw [if_neg (show ¬ iI ((x % 72 : Nat) : Int) ≤ (0 : Int32) from by rw [L0]; exact nle (by omega) (by omega) (by omega)), em]
        obtain ⟨δ2, w2, r1, B2, hw2, s1, s2, s3⟩ := sp_reach B (z := (x : Int) - 1) (by omega) (fun a b c => q0 _ (by omega) (by unfold Nb; omega) c)
        rw [r1, Option.bind_some]
        refine tail δ2 w2 B2 hw2 s1 s2 (fun y hy q => ?_)
        have e : ((x : Int) - 1).toNat = y := by omega
        have := s3 (by omega) (by omega)
        rw [e] at this
        exact this
/-- spreading: what is reached holds Q, and is closed -/
theorem sp_spread (h0 : ¬ D0 0) (hQ0 : Q 0) (hQ : ∀ x y, x < 3456 → y < 3456 → ¬ D0 x → ¬ D0 y → Nb x y → Q x → Q y) (H : ∀ x, x < 3456 → (D_dots δ x = 0 ∧ ¬ D0 x) ∨ (D_dots δ x = 1 ∧ D0 x)) :
    ∃ δ', fX0_spread δ = some δ' ∧ (∀ x, x < 3456 → (D_dots δ' x = 0 ∧ ¬ D0 x) ∨ (D_dots δ' x = 1 ∧ D0 x) ∨ (D_dots δ' x = 2 ∧ ¬ D0 x ∧ Q x)) ∧ D_dots δ' 0 = 2 ∧ (∀ x y, x < 3456 → y < 3456 → D_dots δ' x = 2 → Nb x y → D_dots δ' y ≠ 0) := by
  have B0 : BI D0 Q (D_wc' δ (0 : Int32)) 0 := ⟨by omega, rfl, fun i hi => absurd hi (Nat.not_lt_zero _), fun x hx => (H x hx).imp_right Or.inl, fun i j hi => absurd hi (Nat.not_lt_zero _)⟩
  obtain ⟨δ1, w1, r1, B1, -, -, -, s3⟩ := sp_reach B0 (z := 0) (by omega) (fun _ _ _ => hQ0)
  obtain ⟨δ2, w2, r2, B2, L2, k2⟩ := sp_spread_loop hQ 3456 0 FU w1 δ1 (by omega) (FU_gt (by omega)) (Nat.zero_le _) B1 (fun i x y hi => absurd hi (Nat.not_lt_zero _))
  unfold fX0_spread
  rw [Z0'] at r1
  rw [Z0] at r2
  rw [r1, Option.bind_some]
  have n0 := s3 (by omega) (by omega)
  have n0' : D_dots δ1 0 ≠ 0 := n0
  have d1 : D_dots δ1 0 = 2 := by
    rcases B1.2.2.2.1 0 (by omega) with q | q | q
    · exact absurd q.1 n0'
    · exact absurd q.2 h0
    · exact q.1
  refine ⟨δ2, r2, fun x hx => ?_, by rw [k2 0 n0']; exact d1, fun x y hx hy hd hn => ?_⟩
  · rcases B2.2.2.2.1 x hx with q | q | q
    · exact Or.inl q
    · exact Or.inr (Or.inl q)
    · exact Or.inr (Or.inr ⟨q.1, q.2.1, q.2.2.1⟩)
  · rcases B2.2.2.2.1 x hx with q | q | ⟨q1, q2, q3, i, q4, q5⟩
    · rw [hd] at q; exact absurd q.1 n20
    · rw [hd] at q; exact absurd q.1 n21
    · exact L2 i x y q4 hx hy q5 hn
end SPR
