/-! labelling all lines, by rank and by levels -/
def wl (a : Ab) (f : Nat → Int) : Ab := (an a, ag a, al a, ah a, f, ap a)
def Run (a : Ab) : Nat → Ab → Prop
  | 0, b => b = wl a (fun _ => -1)
  | m + 1, b => ∃ b' i, Run a m b' ∧ i < an a ∧ rank a i = m ∧ b = aLab b' i (bestA b' i)
/-- the lines before a level and a line -/
abbrev bf (a : Ab) (L i j : Nat) : Prop := al a j < L ∨ (al a j = L ∧ j < i)
def wL (a : Ab) (w : Nat → Nat) (L i : Nat) : Nat → Nat → Nat
  | 0, _ => 0
  | m + 1, j => (if bf a L i j then w j else 0) + wL a w L i m (j + 1)
def tx : Nat → Nat
  | 0 => 0
  | m + 1 => tx m + (m - 3)
theorem tx_le : ∀ m, m ≤ 8 → tx m ≤ 10 := by decide
section RU
variable {a b c : Ab} {σ : Sh} {η : Hi} {ν : Nat → Int32} {ζ : Nat → Int64} {cap : Nat}
theorem run_det : ∀ (m : Nat) (b c : Ab), Run a m b → Run a m c → b = c := by
  intro m
  induction m with
  | zero => intro b c h1 h2; exact h1.trans h2.symm
  | succ m ih =>
    rintro b c ⟨b1, i, h1, h2, h3, h4⟩ ⟨c1, j, g1, g2, g3, g4⟩
    obtain rfl := ih b1 c1 h1 g1
    obtain rfl : i = j := rank_inj h2 g2 (h3.trans g3.symm)
    rw [h4, g4]
theorem wl_inv (G : GX a) : GX (wl a (fun _ => -1)) := by
  obtain ⟨I, N⟩ := G
  refine ⟨⟨I.1, I.2.1, I.2.2.1, fun k hk => ?_, I.2.2.2.2.1, I.2.2.2.2.2⟩, N⟩
  obtain ⟨h1, h2, h3, h4, h5⟩ := I.2.2.2.1 k hk
  exact ⟨h1, h2, Or.inl rfl, h4, h5⟩
theorem run_ok (G : GX a) : ∀ (m : Nat) (b : Ab), Run a m b → GX b ∧ ∃ f, b = wl a f ∧ ∀ j, j < an a → m ≤ rank a j → f j = -1 := by
  intro m
  induction m with
  | zero => rintro b rfl; exact ⟨wl_inv G, _, rfl, fun _ _ _ => rfl⟩
  | succ m ih =>
    rintro b ⟨b1, i, h1, h2, h3, h4⟩
    obtain ⟨G1, f, e, hf⟩ := ih b1 h1
    subst e h4
    refine ⟨⟨best_inv G1.1 i, G1.2⟩, fun j => if j = i then bestA (wl a f) i else f j, rfl, fun j hj hr => ?_⟩
    show (if j = i then _ else f j) = -1
    rw [if_neg (fun q => by subst q; omega)]
    exact hf j hj (by omega)
theorem rk_wl (a : Ab) (f : Nat → Int) (i : Nat) : ∀ m j : Nat, rkA (wl a f) i m j = rkA a i m j := by
  intro m
  induction m with
  | zero => intro j; rfl
  | succ m ih => intro j; rw [rkA, rkA, ih (j + 1)]; rfl
theorem repS_wl {f g : Nat → Int} (H : RepS σ (wl a f)) (h : ∀ i, i < an a → f i = g i) : RepS σ (wl a g) := by
  refine ⟨H.1, H.2.1, fun k hk => ?_⟩
  obtain ⟨h1, h2, h3, h4⟩ := H.2.2 k hk
  exact ⟨h1, h2, h3.trans (congrArg iI (h k hk)), h4⟩
theorem repL_wl {f g : Nat → Int} (H : RepL ν ζ (wl a f)) (h : ∀ i, i < an a → f i = g i) : RepL ν ζ (wl a g) := by
  refine ⟨H.1, H.2.1, fun k hk => ?_⟩
  obtain ⟨h1, h2, h3, h4, h5⟩ := H.2.2 k hk
  exact ⟨h1, h2, h3, h4.trans (congrArg iI (h k hk)), h5⟩
/-- all labels are taken away, by the class -/
theorem sa_clear (I : InvA a) : ∀ (m j fu : Nat) (σ : Sh) (f : Nat → Int), j + m = an a → m < fu → InvA (wl a f) → RepS σ (wl a f) → (∀ i, i < j → f i = -1) →
    ∃ σ', RepS σ' (wl a (fun _ => -1)) ∧ fX2_setAll_7 (iI (an a : Int)) fu (iI (j : Int)) σ = fX2_setAll_26 (iI (an a : Int)) FU (0 : Int32) σ' := by
  have h8 := I.1
  intro m
  induction m with
  | zero =>
    intro j fu σ f h1 h2 If H hf
    obtain ⟨u, rfl⟩ : ∃ u, fu = u + 1 := ⟨fu - 1, by omega⟩
    refine ⟨σ, repS_wl H (fun i hi => hf i (by omega)), ?_⟩
    rw [fX2_setAll_7, if_pos (yle (by omega) (by omega) (by omega))]
  | succ m ih =>
    intro j fu σ f h1 h2 If H hf
    obtain ⟨u, rfl⟩ : ∃ u, fu = u + 1 := ⟨fu - 1, by omega⟩
    obtain ⟨σ', e1, R⟩ := sp_putLabel H If (k := j) (by show j < an a; omega) (-1)
    rw [Zm1] at e1
    obtain ⟨σ2, g1, g2⟩ := ih (j + 1) u σ' (fun i => if i = j then -1 else f i) (by omega) (by omega) (inv_lab If (k := j) (b := -1) (Or.inl rfl)) R (fun i hi => by
      show (if i = j then (-1 : Int) else f i) = -1
      by_cases q : i = j
      · rw [if_pos q]
      · rw [if_neg q]; exact hf i (by omega))
    refine ⟨σ2, g1, ?_⟩
    rw [fX2_setAll_7, if_neg (nle (by omega) (by omega) (by omega)), e1, Option.bind_some, iI_s, g2]
/-- line by line in the order of levels, by the class -/
theorem sa_each (G : GX a) : ∀ (m v fu : Nat) (σ : Sh) (b : Ab), v + m = an a → m < fu → RepS σ b → Run a v b →
    ∃ σ' b', fX2_setAll_26 (iI (an a : Int)) fu (iI (v : Int)) σ = some σ' ∧ RepS σ' b' ∧ Run a (an a) b' := by
  have h8 := G.1.1
  intro m
  induction m with
  | zero =>
    intro v fu σ b h1 h2 H R
    obtain ⟨u, rfl⟩ : ∃ u, fu = u + 1 := ⟨fu - 1, by omega⟩
    refine ⟨σ, b, ?_, H, by rw [show an a = v by omega]; exact R⟩
    rw [fX2_setAll_26, if_pos (yle (by omega) (by omega) (by omega))]
  | succ m ih =>
    intro v fu σ b h1 h2 H R
    obtain ⟨u, rfl⟩ : ∃ u, fu = u + 1 := ⟨fu - 1, by omega⟩
    obtain ⟨Gb, f, e, hf⟩ := run_ok G v b R
    obtain ⟨i, hi, hr⟩ := rank_sur (a := a) (v := v) (by omega)
    have hi' : i < an b := by rw [e]; exact hi
    have hr' : rank b i = v := by rw [e]; exact (rk_wl a f i _ _).trans hr
    have k1 := sp_lineOfRank H Gb.1 hi'
    rw [hr'] at k1
    obtain ⟨σ', e1, R1⟩ := sp_putLabel H Gb.1 hi' (bestA b i)
    obtain ⟨σ2, b2, g1, g2, g3⟩ := ih (v + 1) u σ' (aLab b i (bestA b i)) (by omega) (by omega) R1 ⟨b, i, R, hi, hr, rfl⟩
    refine ⟨σ2, b2, ?_, g2, g3⟩
    rw [fX2_setAll_26, if_neg (nle (by omega) (by omega) (by omega)), k1, Option.bind_some, sp_best H Gb.1 hi', Option.bind_some, e1, Option.bind_some, iI_s, g1]
theorem sa_all (S : S3 σ η a) : ∃ σ' η' b, fX6_labelAll σ η = some (iI (lbA b (an a) 0 0), σ', η') ∧ S3 σ' η' b ∧ Run a (an a) b := by
  obtain ⟨H, G, hH⟩ := S
  have h8 := G.1.1
  obtain ⟨η', s1, s2⟩ := sv_ok hH H G.1
  obtain ⟨σ1, c1, c2⟩ := sa_clear G.1 (an a) 0 FU σ (ab a) (by omega) (FU_gt (by omega)) G.1 H (fun i hi => by omega)
  obtain ⟨σ2, b, d1, d2, d3⟩ := sa_each G (an a) 0 FU σ1 _ (by omega) (FU_gt (by omega)) c1 rfl
  obtain ⟨Gb, f, e, -⟩ := run_ok G _ b d3
  have hn : an b = an a := by rw [e]; rfl
  rw [Z0] at c2 d1
  refine ⟨σ2, η', b, ?_, ⟨d2, Gb, s2⟩, d3⟩
  unfold fX6_labelAll fX2_setAll
  rw [s1, Option.bind_some, sp_lineCount H, Option.bind_some, c2, d1, Option.bind_some, sp_labelCount d2 Gb.1, Option.bind_some, hn]
/-! sums over the lines before -/
theorem wL_next (w : Nat → Nat) (L i : Nat) : ∀ m j : Nat, wL a w L (i + 1) m j = wL a w L i m j + (if j ≤ i ∧ i < j + m ∧ al a i = L then w i else 0) := by
  intro m
  induction m with
  | zero => intro j; rw [wL, wL, if_neg (by omega)]
  | succ m ih =>
    intro j
    rw [wL, wL, ih (j + 1)]
    by_cases q : j = i
    · subst q
      rw [if_neg (show ¬ (j + 1 ≤ j ∧ j < j + 1 + m ∧ al a j = L) by omega)]
      by_cases q2 : al a j = L
      · rw [if_pos (by omega), if_neg (by omega), if_pos (by omega)]; omega
      · by_cases q3 : al a j < L
        · rw [if_pos (by omega), if_pos (by omega), if_neg (by omega)]; omega
        · rw [if_neg (by omega), if_neg (by omega), if_neg (by omega)]; omega
    · have e1 : (if bf a L (i + 1) j then w j else 0) = (if bf a L i j then w j else 0) := by
        by_cases q3 : bf a L i j
        · rw [if_pos q3, if_pos (by omega)]
        · rw [if_neg q3, if_neg (by omega)]
      have e2 : (if j + 1 ≤ i ∧ i < j + 1 + m ∧ al a i = L then w i else 0) = (if j ≤ i ∧ i < j + (m + 1) ∧ al a i = L then w i else 0) := by
        by_cases q3 : j + 1 ≤ i ∧ i < j + 1 + m ∧ al a i = L
        · rw [if_pos q3, if_pos (by omega)]
        · rw [if_neg q3, if_neg (by omega)]
      rw [e1, e2, Nat.add_assoc]
theorem wL_mono {w : Nat → Nat} {L i L' i' : Nat} (h : ∀ x, bf a L i x → bf a L' i' x) : ∀ m j : Nat, wL a w L i m j ≤ wL a w L' i' m j := by
  intro m
  induction m with
  | zero => intro j; exact Nat.le_refl _
  | succ m ih =>
    intro j
    have := ih (j + 1)
    rw [wL, wL]
    by_cases q : bf a L i j
    · rw [if_pos q, if_pos (h j q)]; omega
    · rw [if_neg q]; omega
theorem wL_lev (w : Nat → Nat) (L n : Nat) : ∀ m j : Nat, j + m ≤ n → wL a w (L + 1) 0 m j = wL a w L n m j := by
  intro m
  induction m with
  | zero => intro j _; rfl
  | succ m ih =>
    intro j h
    rw [wL, wL, ih (j + 1) (by omega)]
    by_cases q : bf a L n j
    · rw [if_pos q, if_pos (by omega)]
    · rw [if_neg q, if_neg (by omega)]
theorem wL_0 (w : Nat → Nat) : ∀ m j : Nat, wL a w 0 0 m j = 0 := by
  intro m
  induction m with
  | zero => intro j; rfl
  | succ m ih => intro j; rw [wL, ih (j + 1), if_neg (by omega)]
theorem wL_one (L i : Nat) : ∀ m j : Nat, wL a (fun _ => 1) L i m j ≤ m := by
  intro m
  induction m with
  | zero => intro j; exact Nat.le_refl _
  | succ m ih => intro j; have := ih (j + 1); rw [wL]; split <;> omega
theorem wL_tot (L i : Nat) : ∀ m j : Nat, wL a (ah a) L i m j ≤ totA a m j := by
  intro m
  induction m with
  | zero => intro j; exact Nat.le_refl _
  | succ m ih => intro j; have := ih (j + 1); rw [wL, totA]; split <;> omega
theorem wL_end (I : InvA a) : ∀ m j : Nat, j + m ≤ an a → wL a (fun _ => 1) 100 0 m j = m := by
  intro m
  induction m with
  | zero => intro j _; rfl
  | succ m ih =>
    intro j h
    have h9 := (I.2.2.2.1 j (by omega)).1
    rw [wL, ih (j + 1) (by omega), if_pos (by omega)]; omega
theorem rk_w (i : Nat) : ∀ m j : Nat, rkA a i m j = wL a (fun _ => 1) (al a i) i m j := by
  intro m
  induction m with
  | zero => intro j; rfl
  | succ m ih =>
    intro j
    rw [rkA, wL, ih (j + 1)]
    by_cases q : ahd a i j
    · rw [cIf_pos q, if_pos (show bf a (al a i) i j from q)]
    · rw [cIf_neg q, if_neg (show ¬ bf a (al a i) i j from q)]
theorem bf_rank {L i j : Nat} (h : rank a j < wL a (fun _ => 1) L i (an a) 0) : bf a L i j := by
  refine Classical.byContradiction (fun q => ?_)
  have := wL_mono (a := a) (w := fun _ => 1) (L := L) (i := i) (L' := al a j) (i' := j) (fun x hx => by omega) (an a) 0
  unfold rank at h
  rw [rk_w] at h
  omega
theorem uF_bf {f : Nat → Int} (H : RepL ν ζ (wl a f)) (I : InvA (wl a f)) {L i : Nat} (hi : i < an a) (h : ∀ j, j < an a → ¬ f j = -1 → bf a L i j) : ∀ m j : Nat, j + m ≤ an a → uFr ν (iI (i : Int)) m j ≤ wL a (fun _ => 1) L i m j := by
  intro m
  induction m with
  | zero => intro j _; exact Nat.le_refl _
  | succ m ih =>
    intro j hj
    have := ih (j + 1) (by omega)
    rw [uFr_s H I (k := i) hi (i := j) (by show j < an a; omega), wL]
    by_cases q : j = i ∨ ab (wl a f) j = -1
    · rw [if_pos q]; omega
    · rw [if_neg q, if_pos (h j (by omega) (fun w => q (Or.inr w)))]; omega
theorem lb_add (b : Ab) : ∀ (m j : Nat) (z : Int), lbA b m j (z + 1) = lbA b m j z + 1 := by
  intro m
  induction m with
  | zero => intro j z; rfl
  | succ m ih =>
    intro j z
    rw [lbA, lbA]
    by_cases q : ab b j = -1
    · rw [if_pos q, if_pos q, ih]
    · rw [if_neg q, if_neg q, ih]
theorem lb_lab {b : Ab} {i : Nat} (x : Int) (h : ab b i = -1) : ∀ (m j : Nat) (z : Int), lbA (aLab b i x) m j z = lbA b m j z + (if j ≤ i ∧ i < j + m ∧ ¬ x = -1 then 1 else 0) := by
  intro m
  induction m with
  | zero => intro j z; rw [lbA, lbA, if_neg (by omega), Int.add_zero]
  | succ m ih =>
    intro j z
    rw [lbA, lbA, ih]
    by_cases q : j = i
    · subst q
      have e : ab (aLab b j x) j = x := if_pos rfl
      rw [e, if_pos h, if_neg (show ¬ (j + 1 ≤ j ∧ j < j + 1 + m ∧ ¬ x = -1) by omega), Int.add_zero]
      by_cases q2 : x = -1
      · rw [if_pos q2, if_neg (by omega), Int.add_zero]
      · rw [if_neg q2, if_pos (by omega), lb_add]
    · have e : ab (aLab b i x) j = ab b j := if_neg q
      rw [e]
      congr 1
      by_cases q3 : j + 1 ≤ i ∧ i < j + 1 + m ∧ ¬ x = -1
      · rw [if_pos q3, if_pos (by omega)]
      · rw [if_neg q3, if_neg (by omega)]
theorem lb_none (a : Ab) : ∀ (m j : Nat) (z : Int), lbA (wl a (fun _ => -1)) m j z = z := by
  intro m
  induction m with
  | zero => intro j z; rfl
  | succ m ih => intro j z; rw [lbA, if_pos (show ab (wl a (fun _ => -1)) j = -1 from rfl), ih]
theorem lb_rng (b : Ab) : ∀ (m j : Nat) (z : Int), z ≤ lbA b m j z ∧ lbA b m j z ≤ z + m := by
  intro m
  induction m with
  | zero => intro j z; rw [lbA]; omega
  | succ m ih =>
    intro j z
    rw [lbA]
    by_cases q : ab b j = -1
    · rw [if_pos q]; have := ih (j + 1) z; omega
    · rw [if_neg q]; have := ih (j + 1) (z + 1); omega
/-- where the law stands at a level and a line -/
def At (a : Ab) (L i : Nat) (ν : Nat → Int32) (ζ : Nat → Int64) (b : Ab) (n : Nat) : Prop :=
  RepL ν ζ b ∧ Run a (wL a (fun _ => 1) L i (an a) 0) b ∧ n ≤ wL a (fun _ => 1) L i (an a) 0 + 6 * wL a (ah a) L i (an a) 0 + 120 * tx (wL a (fun _ => 1) L i (an a) 0)
theorem la_42 (G : GX a) (hc : 6 * tot a + 1208 ≤ cap) (σ' : Sh) (η' : Hi) {L : Nat} (hL : L ≤ 99) (K : Int32 → Int32 → (Nat → Int32) → Nat → Option (Bool × Sh × Hi × (Nat → Int32))) : ∀ (m i fu : Nat) (ν : Nat → Int32) (b : Ab) (n : Nat), i + m = an a → m < fu → At a L i ν ζ b n →
    ∃ ν' b' n', fL_labelsAll_42 cap ζ σ' η' (iI (L : Int)) K fu (iI (lbA b (an a) 0 0)) (iI (i : Int)) ν n = K (iI (lbA b' (an a) 0 0)) (iI ((L + 1 : Nat) : Int)) ν' n' ∧ At a (L + 1) 0 ν' ζ b' n' := by
  have h8 := G.1.1
  intro m
  induction m with
  | zero =>
    intro i fu ν b n h1 h2 A
    obtain ⟨u, rfl⟩ : ∃ u, fu = u + 1 := ⟨fu - 1, by omega⟩
    obtain rfl : i = an a := by omega
    obtain ⟨H, R, hn⟩ := A
    obtain ⟨Gb, f, e, hf⟩ := run_ok G _ b R
    have hnb : an b = an a := by rw [e]; rfl
    have e1 := wL_lev (a := a) (fun _ => 1) L (an a) (an a) 0 (by omega)
    have e2 := wL_lev (a := a) (ah a) L (an a) (an a) 0 (by omega)
    refine ⟨ν, b, n, ?_, H, by rw [e1]; exact R, by rw [e1, e2]; exact hn⟩
    rw [fL_labelsAll_42, l_n H, hnb, if_pos (yle (by omega) (by omega) (by omega)), iI_s]
  | succ m ih =>
    intro i fu ν b n h1 h2 A
    obtain ⟨u, rfl⟩ : ∃ u, fu = u + 1 := ⟨fu - 1, by omega⟩
    have hi : i < an a := by omega
    obtain ⟨H, R, hn⟩ := A
    obtain ⟨Gb, f, e, hf⟩ := run_ok G _ b R
    have hnb : an b = an a := by rw [e]; rfl
    have hlb : al b i = al a i := by rw [e]; rfl
    have hhb : ah b i = ah a i := by rw [e]; rfl
    have hib : i < an b := by omega
    have h9 := (G.1.2.2.2.1 i hi).1
    have h6 := h60 G.1 hi
    have e1 := wL_next (a := a) (fun _ => 1) L i (an a) 0
    have e2 := wL_next (a := a) (ah a) L i (an a) 0
    rw [fL_labelsAll_42, l_n H, hnb, if_neg (nle (by omega) (by omega) (by omega)), if_pos (l_i0 (k8 Gb.1 hib)).1, l_lv H Gb.1 hib, hlb]
    by_cases q : al a i = L
    · rw [if_pos (show 0 ≤ i ∧ i < 0 + an a ∧ al a i = L by omega)] at e1 e2
      have hrk : rank a i = wL a (fun _ => 1) L i (an a) 0 := by unfold rank; rw [rk_w, q]
      have hfi : ab b i = -1 := by rw [e]; exact hf i hi (by omega)
      have hu : uF ν (iI (i : Int)) ≤ wL a (fun _ => 1) L i (an a) 0 := by
        rw [uF_e H Gb.1, hnb]
        subst e
        exact uF_bf H Gb.1 hi (fun j hj w => bf_rank (Nat.lt_of_not_le (fun z => w (hf j hj z)))) (an a) 0 (by omega)
      have hM := wL_one (a := a) L i (an a) 0
      have hM' := wL_one (a := a) L (i + 1) (an a) 0
      have hT := wL_tot (a := a) L (i + 1) (an a) 0
      have htx := tx_le (wL a (fun _ => 1) L (i + 1) (an a) 0) (by omega)
      have hr := best_rng Gb.1 hib
      have hcost : uB ν (iI (i : Int)) ≤ 1 + 6 * ah a i + 120 * (wL a (fun _ => 1) L i (an a) 0 - 3) := by
        unfold uB
        rw [uSt_e H Gb.1 hib, hhb]
        have g1 : ah a i * uF ν (iI (i : Int)) ≤ ah a i * (3 + (wL a (fun _ => 1) L i (an a) 0 - 3)) := Nat.mul_le_mul_left _ (by omega)
        have g2 : ah a i * (wL a (fun _ => 1) L i (an a) 0 - 3) ≤ 60 * (wL a (fun _ => 1) L i (an a) 0 - 3) := Nat.mul_le_mul_right _ h6
        rw [Nat.mul_add] at g1
        omega
      have htx1 : tx (wL a (fun _ => 1) L (i + 1) (an a) 0) = tx (wL a (fun _ => 1) L i (an a) 0) + (wL a (fun _ => 1) L i (an a) 0 - 3) := by rw [e1]; rfl
      have hn' : n + uB ν (iI (i : Int)) ≤ wL a (fun _ => 1) L (i + 1) (an a) 0 + 6 * wL a (ah a) L (i + 1) (an a) 0 + 120 * tx (wL a (fun _ => 1) L (i + 1) (an a) 0) := by
        rw [htx1]; omega
      have hcap : n + uB ν (iI (i : Int)) ≤ cap := by
        have : totA a (an a) 0 = tot a := rfl
        omega
      have H' := rl_lab H Gb.1 hib (bestA b i)
      have R' : Run a (wL a (fun _ => 1) L (i + 1) (an a) 0) (aLab b i (bestA b i)) := by rw [e1]; exact ⟨b, i, R, hi, hrk, rfl⟩
      obtain ⟨ν', b', n', g1, g2⟩ := ih (i + 1) u _ _ _ (by omega) (by omega) ⟨H', R', hn'⟩
      refine ⟨ν', b', n', ?_, g2⟩
      rw [← g1, if_pos (by rw [q]), if_pos hcap, sl_best H Gb.1 hib (Nat.le_refl _), Option.bind_some, if_pos (l_i3 (k8 Gb.1 hib)).1, (l_i3 (k8 Gb.1 hib)).2, upd_eq, lb_lab (bestA b i) hfi, iI_s]
      by_cases q2 : bestA b i = -1
      · rw [if_neg (xnge0 (by omega)), if_neg (by omega), L0, iI_add]
      · rw [if_pos (nge0 (by omega)), if_pos (show 0 ≤ i ∧ i < 0 + an a ∧ ¬ bestA b i = -1 from ⟨by omega, by omega, q2⟩), L1, iI_add]
    · rw [if_neg (show ¬ (0 ≤ i ∧ i < 0 + an a ∧ al a i = L) by omega), Nat.add_zero] at e1 e2
      obtain ⟨ν', b', n', g1, g2⟩ := ih (i + 1) u ν b n (by omega) (by omega) ⟨H, by rw [e1]; exact R, by rw [e1, e2]; exact hn⟩
      refine ⟨ν', b', n', ?_, g2⟩
      rw [← g1, if_neg (neq (by omega) (by omega) (by omega)), iI_s]
theorem la_32 (S : S3 σ η a) (hc : 6 * tot a + 1208 ≤ cap) : ∀ (m L fu : Nat) (ν : Nat → Int32) (b : Ab) (n : Nat), L + m = 100 → m < fu → At a L 0 ν ζ b n →
    ∃ σ' η' ν' b', fL_labelsAll_32 cap ζ σ η fu (iI (lbA b (an a) 0 0)) (iI (L : Int)) ν n = some (true, σ', η', ν') ∧ LA σ' η' ν' ζ b' ∧ tot b' = tot a := by
  have G := S.2.1
  have h8 := G.1.1
  intro m
  induction m with
  | zero =>
    intro L fu ν b n h1 h2 A
    obtain ⟨u, rfl⟩ : ∃ u, fu = u + 1 := ⟨fu - 1, by omega⟩
    obtain rfl : L = 100 := by omega
    obtain ⟨H, R, hn⟩ := A
    rw [wL_end G.1 _ _ (by omega)] at R
    obtain ⟨σ', η', b', e1, S', R'⟩ := sa_all S
    obtain rfl := run_det _ _ _ R' R
    obtain ⟨-, f, e, -⟩ := run_ok G _ b' R
    refine ⟨σ', η', ν, b', ?_, ⟨S', H⟩, by rw [e]; exact totA_congr _ _ (fun _ _ _ => rfl)⟩
    rw [fL_labelsAll_32, if_pos (by decide), e1, Option.bind_some, if_pos rfl]
  | succ m ih =>
    intro L fu ν b n h1 h2 A
    obtain ⟨u, rfl⟩ : ∃ u, fu = u + 1 := ⟨fu - 1, by omega⟩
    obtain ⟨ν', b', n', g1, g2⟩ := la_42 (cap := cap) G hc σ η (L := L) (by omega) (fL_labelsAll_32 cap ζ σ η u) (an a) 0 FU ν b n (by omega) (FU_gt (by omega)) A
    rw [Z0] at g1
    obtain ⟨σ2, η2, ν2, b2, k1, k2, k3⟩ := ih (L + 1) u ν' b' n' (by omega) (by omega) g2
    refine ⟨σ2, η2, ν2, b2, ?_, k2, k3⟩
    rw [fL_labelsAll_32, show (100 : Int32) = iI 100 from rfl, if_neg (nle (by omega) (by omega) (by omega)), g1, k1]
theorem la_5 (S : S3 σ η a) (hc : 6 * tot a + 1208 ≤ cap) : ∀ (m j fu : Nat) (ν : Nat → Int32) (f : Nat → Int), j + m = an a → m < fu → InvA (wl a f) → RepL ν ζ (wl a f) → (∀ i, i < j → f i = -1) →
    ∃ σ' η' ν' b', fL_labelsAll_5 cap ζ false σ η fu (iI (j : Int)) ν 0 = some (true, σ', η', ν') ∧ LA σ' η' ν' ζ b' ∧ tot b' = tot a := by
  have G := S.2.1
  have h8 := G.1.1
  intro m
  induction m with
  | zero =>
    intro j fu ν f h1 h2 If H hf
    obtain ⟨u, rfl⟩ : ∃ u, fu = u + 1 := ⟨fu - 1, by omega⟩
    have hna : an (wl a f) = an a := rfl
    have e := la_32 (cap := cap) (ζ := ζ) S hc 100 0 FU ν (wl a (fun _ => -1)) 0 (by omega) (FU_gt (by omega)) ⟨repL_wl H (fun i hi => hf i (by omega)), by rw [wL_0]; rfl, Nat.zero_le _⟩
    rw [lb_none, Z0, Z0'] at e
    rw [fL_labelsAll_5, l_n H, hna, if_pos (yle (by omega) (by omega) (by omega))]
    exact e
  | succ m ih =>
    intro j fu ν f h1 h2 If H hf
    obtain ⟨u, rfl⟩ : ∃ u, fu = u + 1 := ⟨fu - 1, by omega⟩
    have hna : an (wl a f) = an a := rfl
    have hj : j < an (wl a f) := by omega
    obtain ⟨σ2, η2, ν2, b2, k1, k2, k3⟩ := ih (j + 1) u _ (fun i => if i = j then -1 else f i) (by omega) (by omega) (inv_lab If (k := j) (b := -1) (Or.inl rfl)) (rl_lab H If hj (-1)) (fun i hi => by
      show (if i = j then (-1 : Int) else f i) = -1
      by_cases q : i = j
      · rw [if_pos q]
      · rw [if_neg q]; exact hf i (by omega))
    refine ⟨σ2, η2, ν2, b2, ?_, k2, k3⟩
    rw [fL_labelsAll_5, l_n H, hna, if_neg (nle (by omega) (by omega) (by omega)), if_pos (l_i3 (k8 If hj)).1, (l_i3 (k8 If hj)).2, iI_s, ← Zm1, k1]
theorem l_all (Q : LA σ η ν ζ a) (hc : uU ν ≤ cap) : ∃ σ' η' ν' a', fL_labelsAll cap σ η ν ζ = some (true, σ', η', ν') ∧ LA σ' η' ν' ζ a' ∧ tot a' = tot a := by
  obtain ⟨S, L⟩ := Q
  have I := S.2.1.1
  have h8 := I.1
  unfold uU at hc
  rw [uS_e L I] at hc
  have e := la_5 (cap := cap) (ζ := ζ) S hc (an a) 0 FU ν (ab a) (by omega) (FU_gt (by omega)) I L (fun i hi => by omega)
  rw [Z0] at e
  exact e
end RU
