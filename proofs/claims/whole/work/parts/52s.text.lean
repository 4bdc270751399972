/-! the text: one reading of an order, and both readers beside it -/
def sgN (t : Nat → Int) (l x : Nat) : Int := if x < l then t x else -1
def sgM (t : Nat → Int) (l x : Nat) : Int := if x < l then t x else 0
def dgN (t : Nat → Int) (l x : Nat) : Int := if 48 ≤ sgN t l x ∧ sgN t l x ≤ 57 then sgN t l x - 48 else -1
def nmN (t : Nat → Int) (l : Nat) (most : Int) : Nat → Int → Nat → Int × Nat
  | 0, v, x => (v, x)
  | f + 1, v, x => if 0 < v ∧ 0 ≤ dgN t l x ∧ 10 * v + dgN t l x ≤ most then nmN t l most f (10 * v + dgN t l x) (x + 1) else (v, x)
def numN (t : Nat → Int) (l : Nat) (least most : Int) (x : Nat) : Bool × Int × Nat := if 0 ≤ dgN t l x ∧ least ≤ dgN t l x ∧ dgN t l x ≤ most then (true, nmN t l most 2 (dgN t l x) (x + 1)) else (false, -1, x)
def drN (t : Nat → Int) (l : Nat) : Nat → Nat → Nat
  | 0, _ => 0
  | f + 1, x => if 48 ≤ sgN t l x ∧ sgN t l x ≤ 55 then drN t l f (x + 1) + 1 else 0
def singN (t : Nat → Int) (l : Nat) (least most : Int) (x : Nat) : Bool × Nat × Int × Int := ((numN t l least most x).1, (numN t l least most x).2.2, (numN t l least most x).2.1, 0)
def pairN (t : Nat → Int) (l : Nat) (m1 c m2 : Int) (x : Nat) : Bool × Nat × Int × Int :=
  if (numN t l 0 m1 x).1 = true then (if sgN t l (numN t l 0 m1 x).2.2 = c then ((numN t l 0 m2 ((numN t l 0 m1 x).2.2 + 1)).1, (numN t l 0 m2 ((numN t l 0 m1 x).2.2 + 1)).2.2, (numN t l 0 m1 x).2.1, (numN t l 0 m2 ((numN t l 0 m1 x).2.2 + 1)).2.1) else (false, (numN t l 0 m1 x).2.2, 0, 0)) else (false, (numN t l 0 m1 x).2.2, 0, 0)
def ordN (t : Nat → Int) (l x : Nat) : Bool × Nat × Int × Int :=
  if sgN t l x = 97 then (true, x + 1, 0, 0)
  else if sgN t l x = 98 then singN t l 0 7 (x + 1)
  else if sgN t l x = 103 then singN t l 1 6 (x + 1)
  else if sgN t l x = 108 then pairN t l 7 46 59 (x + 1)
  else if sgN t l x = 110 then pairN t l 99 64 383 (x + 1)
  else if sgN t l x = 115 then (decide (0 < drN t l 20 (x + 1)), x + 1 + drN t l 20 (x + 1), ((x + 1 : Nat) : Int), ((drN t l 20 (x + 1) : Nat) : Int))
  else if sgN t l x = 117 then singN t l 0 7 (x + 1)
  else if sgN t l x = 119 then singN t l 0 7 (x + 1)
  else (false, x, 0, 0)
def TG (l : Nat) (t : Nat → Int) : Prop := l ≤ 60 ∧ ∀ i, i < l → 32 ≤ t i ∧ t i ≤ 126
def TXs (τ : Tx) (l : Nat) (t : Nat → Int) : Prop := X_len τ = iI l ∧ ∀ i, i < l → X_sg τ i = iI (t i)
def TXm (μ : Mo) (l : Nat) (t : Nat → Int) : Prop := M_len μ = iI l ∧ ∀ i, i < l → M_tx μ i = iI (t i)
section TE
variable {τ : Tx} {μ : Mo} {l : Nat} {t : Nat → Int}
theorem sgN_rng (g : TG l t) (x : Nat) : -1 ≤ sgN t l x ∧ sgN t l x ≤ 126 := by
  unfold sgN
  by_cases h : x < l
  · rw [if_pos h]; have := g.2 x h; omega
  · rw [if_neg h]; omega
theorem sgN_lt {x : Nat} (h : 0 ≤ sgN t l x) : x < l := by
  unfold sgN at h
  by_cases q : x < l
  · exact q
  · rw [if_neg q] at h; omega
theorem sgM_rng (g : TG l t) (x : Nat) : 0 ≤ sgM t l x ∧ sgM t l x ≤ 126 := by
  unfold sgM
  by_cases h : x < l
  · rw [if_pos h]; have := g.2 x h; omega
  · rw [if_neg h]; omega
theorem sgM_N (x : Nat) {c : Int} (hc : 1 ≤ c) : sgM t l x = c ↔ sgN t l x = c := by
  unfold sgM sgN
  by_cases h : x < l
  · rw [if_pos h, if_pos h]
  · rw [if_neg h, if_neg h]; omega
theorem sgM_in (x : Nat) {a b : Int} (ha : 1 ≤ a) : (a ≤ sgM t l x ∧ sgM t l x ≤ b) ↔ (a ≤ sgN t l x ∧ sgN t l x ≤ b) := by
  unfold sgM sgN
  by_cases h : x < l
  · rw [if_pos h, if_pos h]
  · rw [if_neg h, if_neg h]; omega
theorem sgM_eq {x : Nat} (h : x < l) : sgM t l x = sgN t l x := by unfold sgM sgN; rw [if_pos h, if_pos h]
theorem dg_rng (t : Nat → Int) (l x : Nat) : -1 ≤ dgN t l x ∧ dgN t l x ≤ 9 := by unfold dgN; split <;> omega
theorem dg_lt {x : Nat} (h : 0 ≤ dgN t l x) : x < l := by
  unfold dgN at h
  by_cases q : 48 ≤ sgN t l x ∧ sgN t l x ≤ 57
  · exact sgN_lt (t := t) (by omega)
  · rw [if_neg q] at h; omega
theorem nm_rng {most : Int} : ∀ (f : Nat) (v : Int) (x : Nat), 0 ≤ v → v ≤ most → x ≤ l → 0 ≤ (nmN t l most f v x).1 ∧ (nmN t l most f v x).1 ≤ most ∧ x ≤ (nmN t l most f v x).2 ∧ (nmN t l most f v x).2 ≤ l := by
  intro f
  induction f with
  | zero => intro v x h1 h2 h3; exact ⟨h1, h2, Nat.le_refl _, h3⟩
  | succ f ih =>
    intro v x h1 h2 h3
    rw [nmN]
    by_cases q : 0 < v ∧ 0 ≤ dgN t l x ∧ 10 * v + dgN t l x ≤ most
    · rw [if_pos q]
      have := dg_lt q.2.1
      have := ih (10 * v + dgN t l x) (x + 1) (by omega) q.2.2 (by omega)
      omega
    · rw [if_neg q]; exact ⟨h1, h2, Nat.le_refl _, h3⟩
theorem num_ok {least most : Int} {x : Nat} (h : (numN t l least most x).1 = true) (hx : x ≤ l) : 0 ≤ (numN t l least most x).2.1 ∧ (numN t l least most x).2.1 ≤ most ∧ x < (numN t l least most x).2.2 ∧ (numN t l least most x).2.2 ≤ l := by
  unfold numN at h ⊢
  by_cases q : 0 ≤ dgN t l x ∧ least ≤ dgN t l x ∧ dgN t l x ≤ most
  · rw [if_pos q]
    have := dg_lt q.1
    have := nm_rng (t := t) (l := l) (most := most) 2 (dgN t l x) (x + 1) q.1 q.2.2 (by omega)
    exact ⟨this.1, this.2.1, by show x < (nmN t l most 2 (dgN t l x) (x + 1)).2; omega, this.2.2.2⟩
  · rw [if_neg q] at h; cases h
theorem num_end {least most : Int} {x : Nat} (hx : x ≤ l) : x ≤ (numN t l least most x).2.2 ∧ (numN t l least most x).2.2 ≤ l := by
  cases h : (numN t l least most x).1 with
  | true => have := num_ok h hx; omega
  | false =>
    unfold numN at h ⊢
    by_cases q : 0 ≤ dgN t l x ∧ least ≤ dgN t l x ∧ dgN t l x ≤ most
    · rw [if_pos q] at h; cases h
    · rw [if_neg q]; exact ⟨Nat.le_refl _, hx⟩
theorem num_val {least most : Int} {x : Nat} (hx : x ≤ l) (hm : 0 ≤ most) : -1 ≤ (numN t l least most x).2.1 ∧ (numN t l least most x).2.1 ≤ most ∧ ((numN t l least most x).1 = true ↔ ¬ (numN t l least most x).2.1 = -1) := by
  cases h : (numN t l least most x).1 with
  | true => have := num_ok h hx; exact ⟨by omega, by omega, fun _ => by omega, fun _ => rfl⟩
  | false =>
    have e : (numN t l least most x).2.1 = -1 := by
      unfold numN at h ⊢
      by_cases q : 0 ≤ dgN t l x ∧ least ≤ dgN t l x ∧ dgN t l x ≤ most
      · rw [if_pos q] at h; cases h
      · rw [if_neg q]
    exact ⟨by omega, by omega, (fun h => by cases h), (fun h => absurd e h)⟩
theorem dr_len : ∀ (f x : Nat), x ≤ l → x + drN t l f x ≤ l ∧ drN t l f x ≤ f ∧ ∀ i, i < drN t l f x → 48 ≤ t (x + i) ∧ t (x + i) ≤ 55 := by
  intro f
  induction f with
  | zero => intro x hx; exact ⟨hx, Nat.le_refl _, fun i hi => absurd hi (Nat.not_lt_zero _)⟩
  | succ f ih =>
    intro x hx
    rw [drN]
    by_cases q : 48 ≤ sgN t l x ∧ sgN t l x ≤ 55
    · rw [if_pos q]
      have hl := sgN_lt (t := t) (l := l) (x := x) (by omega)
      obtain ⟨a1, a2, a3⟩ := ih (x + 1) (by omega)
      refine ⟨by omega, by omega, fun i hi => ?_⟩
      rcases Nat.eq_zero_or_pos i with z | z
      · subst z
        have e : sgN t l x = t x := if_pos hl
        rw [e] at q
        exact q
      · have := a3 (i - 1) (by omega)
        rw [show x + 1 + (i - 1) = x + i by omega] at this
        exact this
    · rw [if_neg q]; exact ⟨hx, Nat.zero_le _, fun i hi => absurd hi (Nat.not_lt_zero _)⟩
/-- where an order ends, and its numbers -/
theorem ord_end {x : Nat} (hx : x ≤ l) : x ≤ (ordN t l x).2.1 ∧ (ordN t l x).2.1 ≤ l ∧ ((ordN t l x).1 = true → x < l ∧ x < (ordN t l x).2.1) := by
  have sing : ∀ least most : Int, x < l → x ≤ (singN t l least most (x + 1)).2.1 ∧ (singN t l least most (x + 1)).2.1 ≤ l ∧ ((singN t l least most (x + 1)).1 = true → x < l ∧ x < (singN t l least most (x + 1)).2.1) := by
    intro least most hl
    have := num_end (t := t) (l := l) (least := least) (most := most) (x := x + 1) (by omega)
    have e : (singN t l least most (x + 1)).2.1 = (numN t l least most (x + 1)).2.2 := rfl
    rw [e]
    exact ⟨by omega, by omega, fun _ => ⟨hl, by omega⟩⟩
  have pair : ∀ m1 c m2 : Int, 0 ≤ c → x < l → x ≤ (pairN t l m1 c m2 (x + 1)).2.1 ∧ (pairN t l m1 c m2 (x + 1)).2.1 ≤ l ∧ ((pairN t l m1 c m2 (x + 1)).1 = true → x < l ∧ x < (pairN t l m1 c m2 (x + 1)).2.1) := by
    intro m1 c m2 hc hl
    have h1 := num_end (t := t) (l := l) (least := 0) (most := m1) (x := x + 1) (by omega)
    unfold pairN
    by_cases q : (numN t l 0 m1 (x + 1)).1 = true
    · rw [if_pos q]
      by_cases q2 : sgN t l (numN t l 0 m1 (x + 1)).2.2 = c
      · rw [if_pos q2]
        have hl2 := sgN_lt (t := t) (l := l) (x := (numN t l 0 m1 (x + 1)).2.2) (by omega)
        have h2 := num_end (t := t) (l := l) (least := 0) (most := m2) (x := (numN t l 0 m1 (x + 1)).2.2 + 1) (by omega)
        exact ⟨by show x ≤ (numN t l 0 m2 ((numN t l 0 m1 (x + 1)).2.2 + 1)).2.2; omega, h2.2, fun _ => ⟨hl, by show x < (numN t l 0 m2 ((numN t l 0 m1 (x + 1)).2.2 + 1)).2.2; omega⟩⟩
      · rw [if_neg q2]; exact ⟨by show x ≤ (numN t l 0 m1 (x + 1)).2.2; omega, h1.2, fun w => by cases w⟩
    · rw [if_neg q]; exact ⟨by show x ≤ (numN t l 0 m1 (x + 1)).2.2; omega, h1.2, fun w => by cases w⟩
  unfold ordN
  have lt : ∀ c : Int, 0 ≤ c → sgN t l x = c → x < l := fun c hc h => sgN_lt (t := t) (by omega)
  by_cases h1 : sgN t l x = 97
  · rw [if_pos h1]; have := lt 97 (by omega) h1; exact ⟨by show x ≤ x + 1; omega, by show x + 1 ≤ l; omega, fun _ => ⟨this, by show x < x + 1; omega⟩⟩
  rw [if_neg h1]
  by_cases h2 : sgN t l x = 98
  · rw [if_pos h2]; exact sing 0 7 (lt 98 (by omega) h2)
  rw [if_neg h2]
  by_cases h3 : sgN t l x = 103
  · rw [if_pos h3]; exact sing 1 6 (lt 103 (by omega) h3)
  rw [if_neg h3]
  by_cases h4 : sgN t l x = 108
  · rw [if_pos h4]; exact pair 7 46 59 (by omega) (lt 108 (by omega) h4)
  rw [if_neg h4]
  by_cases h5 : sgN t l x = 110
  · rw [if_pos h5]; exact pair 99 64 383 (by omega) (lt 110 (by omega) h5)
  rw [if_neg h5]
  by_cases h6 : sgN t l x = 115
  · rw [if_pos h6]
    have := lt 115 (by omega) h6
    have d := dr_len (t := t) (l := l) 20 (x + 1) (by omega)
    exact ⟨by show x ≤ x + 1 + drN t l 20 (x + 1); omega, d.1, fun _ => ⟨this, by show x < x + 1 + drN t l 20 (x + 1); omega⟩⟩
  rw [if_neg h6]
  by_cases h7 : sgN t l x = 117
  · rw [if_pos h7]; exact sing 0 7 (lt 117 (by omega) h7)
  rw [if_neg h7]
  by_cases h8 : sgN t l x = 119
  · rw [if_pos h8]; exact sing 0 7 (lt 119 (by omega) h8)
  rw [if_neg h8]
  exact ⟨Nat.le_refl _, hx, fun w => by cases w⟩
/-! the component's reader -/
theorem sp_signAt (T : TXs τ l t) (g : TG l t) {x : Nat} (hx : x ≤ 1000) : fX3_signAt τ (iI x) = some (iI (sgN t l x)) := by
  have hl := g.1
  unfold fX3_signAt sgN
  rw [if_neg (nlt0 (by omega)), T.1]
  by_cases h : x < l
  · rw [if_neg (nle (by omega) (by omega) (by omega)), L60, if_neg (nle (by omega) (by omega) (by omega)), if_pos (inR_iI (by omega) (by omega) (by omega)), tnN (by omega), T.2 x h, if_pos h]
  · rw [if_pos (yle (by omega) (by omega) (by omega)), if_neg h]; rfl
theorem sp_digitAt (T : TXs τ l t) (g : TG l t) {x : Nat} (hx : x ≤ 1000) : fX3_digitAt τ (iI x) = some (iI (dgN t l x)) := by
  have r := sgN_rng g x
  unfold fX3_digitAt dgN
  rw [sp_signAt T g hx, Option.bind_some, show (48 : Int32) = iI 48 from rfl, show (57 : Int32) = iI 57 from rfl, iI_sub]
  by_cases h1 : sgN t l x < 48
  · rw [if_pos (ylt (by omega) (by omega) h1), if_neg (by omega)]; rfl
  · rw [if_neg (nlt (by omega) (by omega) (by omega))]
    by_cases h2 : 57 < sgN t l x
    · rw [if_pos (ylt (by omega) (by omega) h2), if_neg (by omega)]; rfl
    · rw [if_neg (nlt (by omega) (by omega) (by omega)), if_pos (by omega)]
theorem sp_pass (T : TXs τ l t) (g : TG l t) {x : Nat} (hx : x ≤ 1000) {c : Int} (hc : -1 ≤ c ∧ c ≤ 1000) : fX3_pass (X_cur' τ (iI x)) (iI c) = if sgN t l x = c then some (true, X_cur' τ (iI ((x + 1 : Nat) : Int))) else some (false, X_cur' τ (iI x)) := by
  have r := sgN_rng g x
  unfold fX3_pass
  have e : fX3_signAt (X_cur' τ (iI x)) (X_cur (X_cur' τ (iI x))) = some (iI (sgN t l x)) := sp_signAt (τ := X_cur' τ (iI x)) T g hx
  rw [e, Option.bind_some]
  by_cases h : sgN t l x = c
  · rw [if_pos (by rw [h]), if_pos h]
    show some (true, X_cur' τ (iI (x : Int) + (1 : Int32))) = _
    rw [iI_s]
  · rw [if_neg (neq (by omega) (by omega) h), if_neg h]
theorem sp_num_loop (T : TXs τ l t) (g : TG l t) {most : Int} (hm : most ≤ 383) (x0 : Int32) : ∀ (m d : Nat) (fu : Nat) (v : Int) (x : Nat), d + m = 3 → m < fu → 0 ≤ v → v ≤ most → x ≤ 100 →
    fX3_readNumber_39 x0 (iI most) fu (iI v) (iI d) (X_cur' τ (iI x)) = some (iI (nmN t l most m v x).1, X_cur' τ (iI ((nmN t l most m v x).2 : Nat))) := by
  intro m
  induction m with
  | zero =>
    intro d fu v x h1 h2 h3 h4 h5
    obtain ⟨f, rfl⟩ : ∃ f, fu = f + 1 := ⟨fu - 1, by omega⟩
    rw [fX3_readNumber_39, L3, if_pos (yle (by omega) (by omega) (by omega)), nmN]
  | succ m ih =>
    intro d fu v x h1 h2 h3 h4 h5
    obtain ⟨f, rfl⟩ : ∃ f, fu = f + 1 := ⟨fu - 1, by omega⟩
    have r := dg_rng t l x
    have e : fX3_digitAt (X_cur' τ (iI x)) (X_cur (X_cur' τ (iI x))) = some (iI (dgN t l x)) := sp_digitAt (τ := X_cur' τ (iI x)) T g (by omega)
    rw [fX3_readNumber_39, L3, if_neg (nle (by omega) (by omega) (by omega)), e, Option.bind_some, nmN]
    by_cases q0 : v = 0
    · rw [if_pos (by rw [q0]; rfl), if_neg (by omega)]
    · rw [if_neg (by rw [L0]; exact neq (by omega) (by omega) q0)]
      by_cases q1 : dgN t l x = -1
      · rw [if_pos (by rw [q1]; rfl), if_neg (by omega)]
      · rw [if_neg (by rw [Lm1]; exact neq (by omega) (by omega) q1), L10, iI_mul, iI_add]
        by_cases q2 : 10 * v + dgN t l x ≤ most
        · rw [if_pos (yle (by omega) (by omega) (by omega)), if_pos ⟨by omega, by omega, q2⟩, iI_s]
          show fX3_readNumber_39 x0 (iI most) f (iI (v * 10 + dgN t l x)) (iI ((d + 1 : Nat) : Int)) (X_cur' τ (iI (x : Int) + (1 : Int32))) = _
          rw [iI_s, show v * 10 + dgN t l x = 10 * v + dgN t l x by omega]
          exact ih (d + 1) f (10 * v + dgN t l x) (x + 1) (by omega) (by omega) (by omega) q2 (by
            have := dg_lt (t := t) (l := l) (x := x) (by omega)
            have := g.1
            omega)
        · rw [if_neg (nle (by omega) (by omega) (by omega)), if_neg (by omega)]
theorem sp_readNumber (T : TXs τ l t) (g : TG l t) {least most : Int} (hm : 0 ≤ least ∧ least ≤ most ∧ most ≤ 383) {x : Nat} (hx : x ≤ 60) : fX3_readNumber (X_cur' τ (iI x)) (iI least) (iI most) = some (iI (numN t l least most x).2.1, X_cur' τ (iI ((numN t l least most x).2.2 : Nat))) := by
  have r := dg_rng t l x
  have e : fX3_digitAt (X_cur' τ (iI x)) (X_cur (X_cur' τ (iI x))) = some (iI (dgN t l x)) := sp_digitAt (τ := X_cur' τ (iI x)) T g (by omega)
  unfold fX3_readNumber numN
  rw [e, Option.bind_some]
  by_cases q1 : dgN t l x = -1
  · rw [if_pos (by rw [q1]; rfl), if_neg (by omega)]; rfl
  · rw [if_neg (by rw [Lm1]; exact neq (by omega) (by omega) q1)]
    by_cases q2 : dgN t l x < least
    · rw [if_pos (ylt (by omega) (by omega) q2), if_neg (by omega)]; rfl
    · rw [if_neg (nlt (by omega) (by omega) (by omega))]
      by_cases q3 : dgN t l x ≤ most
      · rw [if_pos (yle (by omega) (by omega) q3), if_pos ⟨by omega, by omega, q3⟩]
        have e2 := sp_num_loop T g hm.2.2 (iI least) 2 1 FU (dgN t l x) (x + 1) (by omega) (FU_gt (by omega)) (by omega) q3 (by omega)
        rw [Z1] at e2
        show fX3_readNumber_39 (iI least) (iI most) FU (iI (dgN t l x)) (1 : Int32) (X_cur' τ (iI (x : Int) + (1 : Int32))) = _
        rw [iI_s]
        exact e2
      · rw [if_neg (nle (by omega) (by omega) (by omega)), if_neg (by omega)]; rfl
theorem sp_readFirst (T : TXs τ l t) (g : TG l t) {least most : Int} (hm : 0 ≤ least ∧ least ≤ most ∧ most ≤ 383) {x : Nat} (hx : x ≤ l) : fX3_readFirst (X_cur' τ (iI x)) (iI least) (iI most) = some ((numN t l least most x).1, X_fst' (X_cur' τ (iI ((numN t l least most x).2.2 : Nat))) (iI (numN t l least most x).2.1)) := by
  have v := num_val (t := t) (l := l) (least := least) (most := most) hx (by omega)
  have hl := g.1
  unfold fX3_readFirst
  rw [sp_readNumber T g hm (by omega), Option.bind_some]
  cases h : (numN t l least most x).1 with
  | true => rw [h] at v; rw [if_neg (show ¬ iI (numN t l least most x).2.1 = (-1 : Int32) from by rw [Lm1]; exact neq (by omega) (by omega) (v.2.2.mp rfl))]
  | false =>
    rw [h] at v
    have e : (numN t l least most x).2.1 = -1 := Classical.byContradiction fun w => nft (v.2.2.mpr w)
    rw [if_pos (show iI (numN t l least most x).2.1 = (-1 : Int32) from by rw [e]; rfl)]
theorem sp_readSecond (T : TXs τ l t) (g : TG l t) {most : Int} (hm : 0 ≤ most ∧ most ≤ 383) {x : Nat} (hx : x ≤ l) : fX3_readSecond (X_cur' τ (iI x)) (iI most) = some ((numN t l 0 most x).1, X_snd' (X_cur' τ (iI ((numN t l 0 most x).2.2 : Nat))) (iI (numN t l 0 most x).2.1)) := by
  have v := num_val (t := t) (l := l) (least := 0) (most := most) hx (by omega)
  have hl := g.1
  have e := sp_readNumber T g (least := 0) (most := most) (by omega) (x := x) (by omega)
  rw [Z0'] at e
  unfold fX3_readSecond
  rw [e, Option.bind_some]
  cases h : (numN t l 0 most x).1 with
  | true => rw [h] at v; rw [if_neg (show ¬ iI (numN t l 0 most x).2.1 = (-1 : Int32) from by rw [Lm1]; exact neq (by omega) (by omega) (v.2.2.mp rfl))]
  | false =>
    rw [h] at v
    have e : (numN t l 0 most x).2.1 = -1 := Classical.byContradiction fun w => nft (v.2.2.mpr w)
    rw [if_pos (show iI (numN t l 0 most x).2.1 = (-1 : Int32) from by rw [e]; rfl)]
theorem sp_dirs (T : TXs τ l t) (g : TG l t) : ∀ (m d x fu : Nat), d + m = 20 → m < fu → x ≤ 100 →
    fX3_readDirections_13 fu (X_cur' (X_dc' τ (iI d)) (iI x)) = some (decide (0 < d + drN t l m x), X_cur' (X_dc' τ (iI ((d + drN t l m x : Nat) : Int))) (iI ((x + drN t l m x : Nat) : Int))) := by
  intro m
  induction m with
  | zero =>
    intro d x fu h1 h2 h3
    obtain ⟨f, rfl⟩ : ∃ f, fu = f + 1 := ⟨fu - 1, by omega⟩
    have hd : d = 20 := by omega
    subst hd
    rw [fX3_readDirections_13, if_pos (show (20 : Int32) ≤ iI ((20 : Nat) : Int) from by decide), if_neg (show ¬ iI ((20 : Nat) : Int) ≤ (0 : Int32) from by decide), drN]
    rfl
  | succ m ih =>
    intro d x fu h1 h2 h3
    obtain ⟨f, rfl⟩ : ∃ f, fu = f + 1 := ⟨fu - 1, by omega⟩
    have r := dg_rng t l x
    have rs := sgN_rng g x
    have e : fX3_digitAt (X_cur' (X_dc' τ (iI d)) (iI x)) (X_cur (X_cur' (X_dc' τ (iI d)) (iI x))) = some (iI (dgN t l x)) := sp_digitAt (τ := X_cur' (X_dc' τ (iI d)) (iI x)) T g (by omega)
    obtain ⟨b, hb, ib⟩ := sp_isDirection (d := dgN t l x) (by omega)
    have iq : b = true ↔ 48 ≤ sgN t l x ∧ sgN t l x ≤ 55 := ib.trans (by
      unfold dgN
      by_cases w : 48 ≤ sgN t l x ∧ sgN t l x ≤ 57
      · rw [if_pos w]; omega
      · rw [if_neg w]; omega)
    rw [fX3_readDirections_13, if_neg (show ¬ (20 : Int32) ≤ iI (d : Int) from by rw [show (20 : Int32) = iI 20 from rfl]; exact nle (by omega) (by omega) (by omega)), e, Option.bind_some, hb, Option.bind_some, drN]
    by_cases q : 48 ≤ sgN t l x ∧ sgN t l x ≤ 55
    · rw [if_pos (iq.mpr q), if_pos q]
      show fX3_readDirections_13 f (X_cur' (X_dc' τ (iI (d : Int) + (1 : Int32))) (iI (x : Int) + (1 : Int32))) = _
      rw [iI_s, iI_s, ih (d + 1) (x + 1) f (by omega) (by omega) (by
        have := sgN_lt (t := t) (l := l) (x := x) (by omega)
        have := g.1
        omega), show d + 1 + drN t l m (x + 1) = d + (drN t l m (x + 1) + 1) by omega, show x + 1 + drN t l m (x + 1) = x + (drN t l m (x + 1) + 1) by omega]
    · rw [if_neg (fun w => q (iq.mp w)), if_neg q]
      by_cases q0 : d = 0
      · subst q0
        rw [if_pos (show iI ((0 : Nat) : Int) ≤ (0 : Int32) from by decide)]
        rfl
      · rw [if_neg (show ¬ iI (d : Int) ≤ (0 : Int32) from by rw [L0]; exact nle (by omega) (by omega) (by omega))]
        have e0 : decide (0 < d + 0) = true := decide_eq_true (by omega)
        rw [e0]
        rfl
end TE
