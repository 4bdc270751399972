/-! a line is drawn; a point is left out just where the steps to the right are odd -/
def cA (a : Ab) (k : Nat) (j : Nat) : Int := ((ap a k j : Nat) : Int) % 24
def rA (a : Ab) (k : Nat) (j : Nat) : Int := ((ap a k j : Nat) : Int) / 24
section DW
variable {σ : Sh} {δ : Dr} {a : Ab}
theorem st_c (I : InvA a) {k : Nat} (hk : k < an a) {j : Nat} (hj : j < ah a k) : cA a k (j + 1) = cA a k j + acI (drA a k j) ∧ rA a k (j + 1) = rA a k j + dnI (drA a k j) := by
  have h := stp_dir ((I.2.2.2.1 k hk).2.2.2.2 j hj)
  have e : dirD ((ap a k (j + 1) : Int) - ap a k j) = drA a k j := rfl
  rw [e] at h
  unfold cA rA
  omega
theorem ap_cr (a : Ab) (k j : Nat) : ((ap a k j : Nat) : Int) = 24 * rA a k j + cA a k j ∧ 0 ≤ cA a k j ∧ cA a k j ≤ 23 := by
  unfold cA rA; omega
theorem ac_odd {d : Int} (h : 0 ≤ d ∧ d ≤ 7) : (d % 2 = 1 ↔ (acI d ≠ 0 ∧ dnI d ≠ 0)) ∧ ¬ (acI d = 0 ∧ dnI d = 0) := by
  rcases d8 h with rfl | rfl | rfl | rfl | rfl | rfl | rfl | rfl <;> decide
theorem cv_of (I : InvA a) (N : NoX a) {k : Nat} (hk : k < an a) (hr : ringA a k) : Cv (ah a k) (cA a k) (rA a k) := by
  obtain ⟨-, h60, -, h384, -⟩ := I.2.2.2.1 k hk
  refine ⟨hr.1, ?_, ?_, fun j hj => ?_, fun j hj => ?_, fun i j hij hj => ?_, fun i j hi hj h1 h2 => ?_⟩
  · unfold cA; rw [hr.2]
  · unfold rA; rw [hr.2]
  · have := h384 j hj
    unfold cA rA
    omega
  · have h1 := st_c I hk hj
    have h2 := ac_rng (drA a k j)
    have h3 := dn_rng (drA a k j)
    have h4 := (ac_odd (dr_rng I hk hj)).2
    omega
  · intro q
    have e1 := ap_cr a k i
    have e2 := ap_cr a k j
    have := I.2.2.2.2.1 k i j hk hij (by omega) (by omega)
    omega
  · have s := st_c I hk hi
    have o := (ac_odd (dr_rng I hk hi)).1.mpr (by omega)
    have n := N k i j hk hi hj o
    have e1 := ap_cr a k i
    have e2 := ap_cr a k j
    have e3 := ap_cr a k (j + 1)
    intro q
    apply n
    unfold jnA
    rcases q with q | q
    · left; omega
    · right; omega
theorem sp_dotOf {p : Nat} (hp : p < 384) : fX0_dotOf (iI p) = some (iI ((72 * (3 * (p / 24) + 1) + (3 * (p % 24) + 1) : Nat) : Int)) := by
  unfold fX0_dotOf
  rw [sp_rowOf (by omega), sp_columnOf (by omega), Option.bind_some, Option.bind_some, L1, L3, show (72 : Int32) = iI 72 from rfl, iI_mul, iI_add, iI_mul, iI_mul, iI_add, iI_add]
  exact congrArg (fun z => some (iI z)) (by omega)
/-- the drawing after some dots -/
def DI (P : Nat → Prop) (δ : Dr) : Prop := ∀ x, x < 3456 → (D_dots δ x = 0 ∧ ¬ P x) ∨ (D_dots δ x = 1 ∧ P x)
theorem di_put {P : Nat → Prop} {δ : Dr} (H : DI P δ) (z : Nat) : DI (fun x => P x ∨ x = z) (D_dots' δ (upd (D_dots δ) z (1 : Int32))) := by
  intro x hx
  show (upd (D_dots δ) z (1 : Int32) x = 0 ∧ ¬ (P x ∨ x = z)) ∨ (upd (D_dots δ) z (1 : Int32) x = 1 ∧ (P x ∨ x = z))
  by_cases q : x = z
  · right; unfold upd; rw [if_pos q]; exact ⟨rfl, Or.inr q⟩
  · unfold upd
    rw [if_neg q]
    rcases H x hx with h | h
    · exact Or.inl ⟨h.1, fun w => w.elim h.2 q⟩
    · exact Or.inr ⟨h.1, Or.inl h.2⟩
theorem di_congr {P P' : Nat → Prop} {δ : Dr} (H : DI P δ) (h : ∀ x, x < 3456 → (P x ↔ P' x)) : DI P' δ := by
  intro x hx
  rw [← h x hx]; exact H x hx
theorem sp_drawStep {P : Nat → Prop} (H : DI P δ) {p : Nat} {d : Int} (hd : 0 ≤ d ∧ d ≤ 7) (h0 : 72 ≤ p) (h2 : p < 3456) (h1 : 0 ≤ (p : Int) + 72 * dnI d + acI d ∧ (p : Int) + 72 * dnI d + acI d < 3456) (h3 : 0 ≤ (p : Int) + 2 * (72 * dnI d + acI d) ∧ (p : Int) + 2 * (72 * dnI d + acI d) < 3456) :
    ∃ δ', fX0_drawStep δ (iI p) (iI d) = some δ' ∧ DI (fun x => ((P x ∨ x = p) ∨ (x : Int) = p + 72 * dnI d + acI d) ∨ (x : Int) = p + 2 * (72 * dnI d + acI d)) δ' := by
  obtain ⟨b, hb, ib⟩ := sp_isDirection (d := d) (by omega)
  have a1 := ac_rng d
  have a2 := dn_rng d
  have hbt : b = true := ib.mpr hd
  subst hbt
  unfold fX0_drawStep
  rw [hb, Option.bind_some, if_pos (rfl : true = true), if_pos (inR_iI (by omega) (by omega) (by omega)), tdn_iI hd, tac_iI hd, show (72 : Int32) = iI 72 from rfl, iI_mul, iI_add]
  have step : ∀ (t : Nat) (f : Nat) (δ1 : Dr) (P1 : Nat → Prop), t < 3 → 0 ≤ (p : Int) + t * (dnI d * 72 + acI d) → (p : Int) + t * (dnI d * 72 + acI d) < 3456 → DI P1 δ1 →
      ∃ δ2, fX0_drawStep_26 (iI p) (iI d) (iI (dnI d * 72 + acI d)) (f + 1) (iI t) δ1 = fX0_drawStep_26 (iI p) (iI d) (iI (dnI d * 72 + acI d)) f (iI ((t + 1 : Nat) : Int)) δ2 ∧ DI (fun x => P1 x ∨ (x : Int) = p + t * (dnI d * 72 + acI d)) δ2 := by
    intro t f δ1 P1 ht r0 r1 H1
    have e : iI (p : Int) + iI (t : Int) * iI (dnI d * 72 + acI d) = iI ((p : Int) + t * (dnI d * 72 + acI d)) := by rw [iI_mul, iI_add]
    rw [fX0_drawStep_26, if_neg (show ¬ (3 : Int32) ≤ iI (t : Int) from by rw [L3]; exact nle (by omega) (by omega) (by omega)), e]
    generalize hz : (p : Int) + t * (dnI d * 72 + acI d) = z at r0 r1
    rw [(sp_isDot (by omega)).1 ⟨r0, r1⟩, Option.bind_some, if_pos (rfl : true = true), if_pos (inR_iI (by omega) (by omega) (by omega)), iI_tn (by omega) (by omega), iI_s]
    exact ⟨_, rfl, di_congr (di_put H1 z.toNat) (fun x hx => by
      constructor
      · rintro (h | h)
        · exact Or.inl h
        · exact Or.inr (by omega)
      · rintro (h | h)
        · exact Or.inl h
        · exact Or.inr (by omega))⟩
  obtain ⟨δ1, s1, H1⟩ := step 0 9999 δ P (by omega) (by omega) (by omega) H
  obtain ⟨δ2, s2, H2⟩ := step 1 9998 δ1 _ (by omega) (by omega) (by omega) H1
  obtain ⟨δ3, s3, H3⟩ := step 2 9997 δ2 _ (by omega) (by omega) (by omega) H2
  have s4 : fX0_drawStep_26 (iI p) (iI d) (iI (dnI d * 72 + acI d)) 9997 (iI ((2 + 1 : Nat) : Int)) δ3 = some δ3 := by
    rw [fX0_drawStep_26, if_pos (show (3 : Int32) ≤ iI ((2 + 1 : Nat) : Int) from by rw [L3]; exact yle (by omega) (by omega) (by omega))]
  have e0 : FU = 9999 + 1 := rfl
  rw [Z0] at s1
  refine ⟨δ3, ?_, di_congr H3 (fun x hx => ?_)⟩
  · rw [e0, s1]
    exact s2.trans (s3.trans s4)
  · constructor
    · rintro (((h | h) | h) | h)
      · exact Or.inl (Or.inl (Or.inl h))
      · exact Or.inl (Or.inl (Or.inr (by omega)))
      · exact Or.inl (Or.inr (by omega))
      · exact Or.inr (by omega)
    · rintro (((h | h) | h) | h)
      · exact Or.inl (Or.inl (Or.inl h))
      · exact Or.inl (Or.inl (Or.inr (by omega)))
      · exact Or.inl (Or.inr (by omega))
      · exact Or.inr (by omega)
/-- the steps before a number, drawn -/
def dnj (c r : Nat → Int) (j : Nat) (x : Nat) : Prop := ∃ i, i < j ∧ Dot3 c r i ((x % 72 : Nat) : Int) ((x / 72 : Nat) : Int)
theorem sp_draw_loop (H : RepS σ a) (I : InvA a) {k : Nat} (hk : k < an a) : ∀ (m j fu : Nat) (δ : Dr), j + m = ah a k → m < fu → DI (dnj (cA a k) (rA a k) j) δ →
    ∃ δ', fX0_drawLine_31 σ (iI k) (iI (ah a k)) fu (iI j) δ = some δ' ∧ DI (dnj (cA a k) (rA a k) (ah a k)) δ' := by
  obtain ⟨-, h60, -, h384, -⟩ := I.2.2.2.1 k hk
  intro m
  induction m with
  | zero =>
    intro j fu δ h1 h2 D
    obtain ⟨f, rfl⟩ : ∃ f, fu = f + 1 := ⟨fu - 1, by omega⟩
    rw [fX0_drawLine_31, if_pos (yle (by omega) (by omega) (by omega))]
    have e : j = ah a k := by omega
    exact ⟨δ, rfl, e ▸ D⟩
  | succ m ih =>
    intro j fu δ h1 h2 D
    obtain ⟨f, rfl⟩ : ∃ f, fu = f + 1 := ⟨fu - 1, by omega⟩
    have hj : j < ah a k := by omega
    have p1 := h384 j (by omega)
    have p2 := h384 (j + 1) (by omega)
    have s := st_c I hk hj
    have g := dr_rng I hk hj
    have ed : fX4_directionAt σ (iI k) (iI j) = some (iI (drA a k j)) := sp_directionAt H I hk hj
    have c1 := ap_cr a k j
    have c2 := ap_cr a k (j + 1)
    have a1 := ac_rng (drA a k j)
    have a2 := dn_rng (drA a k j)
    have r1 : 0 ≤ rA a k j ∧ rA a k j ≤ 15 := by unfold rA; omega
    have r2 : 0 ≤ rA a k (j + 1) ∧ rA a k (j + 1) ≤ 15 := by unfold rA; omega
    have q1 : ((ap a k j / 24 : Nat) : Int) = rA a k j := by unfold rA; omega
    have q2 : ((ap a k j % 24 : Nat) : Int) = cA a k j := by unfold cA; omega
    generalize drA a k j = d at s g ed a1 a2
    rw [fX0_drawLine_31, if_neg (nle (by omega) (by omega) (by omega)), sp_pointAt H I hk (j := j) (by omega), Option.bind_some, sp_dotOf (p := ap a k j) p1, Option.bind_some, ed, Option.bind_some]
    generalize hP : 72 * (3 * (ap a k j / 24) + 1) + (3 * (ap a k j % 24) + 1) = P
    have hPz : (P : Int) = 72 * (3 * rA a k j + 1) + (3 * cA a k j + 1) := by omega
    obtain ⟨δ1, e1, D1⟩ := sp_drawStep D (p := P) (d := d) g (by omega) (by omega) (by omega) (by omega)
    rw [e1, Option.bind_some, iI_s]
    refine ih (j + 1) f δ1 (by omega) (by omega) (di_congr D1 (fun x hx => ?_))
    unfold dnj
    have three : Dot3 (cA a k) (rA a k) j ((x % 72 : Nat) : Int) ((x / 72 : Nat) : Int) ↔ (x = P ∨ (x : Int) = P + 72 * dnI d + acI d ∨ (x : Int) = P + 2 * (72 * dnI d + acI d)) := by
      unfold Dot3
      constructor
      · rintro (h | h | h)
        · left; omega
        · right; left; omega
        · right; right; omega
      · rintro (h | h | h)
        · left; omega
        · right; left; omega
        · right; right; omega
    constructor
    · rintro (((⟨i, hi, h⟩ | h) | h) | h)
      · exact ⟨i, by omega, h⟩
      · exact ⟨j, by omega, three.mpr (Or.inl h)⟩
      · exact ⟨j, by omega, three.mpr (Or.inr (Or.inl h))⟩
      · exact ⟨j, by omega, three.mpr (Or.inr (Or.inr h))⟩
    · rintro ⟨i, hi, h⟩
      by_cases q : i = j
      · subst q
        rcases three.mp h with w | w | w
        · exact Or.inl (Or.inl (Or.inr w))
        · exact Or.inl (Or.inr w)
        · exact Or.inr w
      · exact Or.inl (Or.inl (Or.inl ⟨i, by omega, h⟩))
theorem sp_draw_zero (H : RepS σ a) (I : InvA a) {k : Nat} (hk : k < an a) : ∀ (m v fu : Nat) (δ : Dr), v + m = 3456 → m < fu → (∀ x, x < v → D_dots δ x = 0) →
    ∃ δ', fX0_drawLine_2 σ (iI k) fu (iI v) δ = some δ' ∧ DI (dnj (cA a k) (rA a k) (ah a k)) δ' := by
  have h60 := (I.2.2.2.1 k hk).2.1
  intro m
  induction m with
  | zero =>
    intro v fu δ h1 h2 D
    obtain ⟨f, rfl⟩ : ∃ f, fu = f + 1 := ⟨fu - 1, by omega⟩
    rw [fX0_drawLine_2, if_pos (show (3456 : Int32) ≤ iI (v : Int) from by rw [show (3456 : Int32) = iI 3456 from rfl]; exact yle (by omega) (by omega) (by omega)), sp_stepCount H I hk, Option.bind_some, ← Z0]
    exact sp_draw_loop H I hk (ah a k) 0 FU δ (by omega) (FU_gt (by omega)) (fun x hx => Or.inl ⟨D x (by omega), fun ⟨i, hi, _⟩ => absurd hi (Nat.not_lt_zero _)⟩)
  | succ m ih =>
    intro v fu δ h1 h2 D
    obtain ⟨f, rfl⟩ : ∃ f, fu = f + 1 := ⟨fu - 1, by omega⟩
    rw [fX0_drawLine_2, if_neg (show ¬ (3456 : Int32) ≤ iI (v : Int) from by rw [show (3456 : Int32) = iI 3456 from rfl]; exact nle (by omega) (by omega) (by omega)), if_pos (inR_iI (by omega) (by omega) (by omega)), tnN (by omega), iI_s]
    refine ih (v + 1) f _ (by omega) (by omega) (fun x hx => ?_)
    show upd (D_dots δ) v (0 : Int32) x = 0
    unfold upd
    by_cases q : x = v
    · rw [if_pos q]
    · rw [if_neg q]; exact D x (by omega)
theorem sp_drawLine (H : RepS σ a) (I : InvA a) {k : Nat} (hk : k < an a) : ∃ δ', fX0_drawLine σ δ (iI k) = some δ' ∧ DI (dnj (cA a k) (rA a k) (ah a k)) δ' := by
  obtain ⟨δ', e, D⟩ := sp_draw_zero H I hk 3456 0 FU δ (by omega) (FU_gt (by omega)) (fun x hx => absurd hx (Nat.not_lt_zero _))
  rw [Z0] at e
  exact ⟨δ', e, D⟩
/-- the steps to the right of a point: an even number of them -/
def evA (a : Ab) (k p : Nat) : Prop := evP (ah a k) (cA a k) (rA a k) (3 * ((p % 24 : Nat) : Int) + 1) (3 * ((p / 24 : Nat) : Int) + 1)
theorem sp_leftOut (H : RepS σ a) (I : InvA a) (N : NoX a) {k : Nat} (hk : k < an a) (hr : ringA a k) {p : Nat} (hp : p < 384) :
    ∃ δ' b, ((fX0_drawLine σ δ (iI k)).bind fun r_5 => (fX0_spread r_5).bind fun r_6 => (fX0_isLeftOut r_6 (iI p)).bind fun r_7 => some (r_7, r_6)) = some (b, δ') ∧ (b = true ↔ ¬ onL a k p ∧ ¬ evA a k p) := by
  have C := cv_of I N hk hr
  obtain ⟨δ1, e1, D1⟩ := sp_drawLine (δ := δ) H I hk
  have nd0 : ¬ dnj (cA a k) (rA a k) (ah a k) 0 := by
    intro q
    have := dnn_rng C (X := 0) (Y := 0) q
    omega
  have fr : ∀ x : Nat, x < 3456 → (¬ dnj (cA a k) (rA a k) (ah a k) x ↔ Fr (ah a k) (cA a k) (rA a k) ((x % 72 : Nat) : Int) ((x / 72 : Nat) : Int)) := fun x hx =>
    ⟨fun q => ⟨by omega, by omega, by omega, by omega, q⟩, fun q => q.2.2.2.2⟩
  have nbQ : ∀ x y : Nat, x < 3456 → y < 3456 → ¬ dnj (cA a k) (rA a k) (ah a k) x → ¬ dnj (cA a k) (rA a k) (ah a k) y → Nb x y →
      (evP (ah a k) (cA a k) (rA a k) ((x % 72 : Nat) : Int) ((x / 72 : Nat) : Int) ↔ evP (ah a k) (cA a k) (rA a k) ((y % 72 : Nat) : Int) ((y / 72 : Nat) : Int)) := by
    intro x y hx hy nx ny hn
    have fx := (fr x hx).mp nx
    have fy := (fr y hy).mp ny
    rcases hn with q | q | q | q
    · have e1 : ((x % 72 : Nat) : Int) = ((y % 72 : Nat) : Int) + 1 := by omega
      have e2 : ((x / 72 : Nat) : Int) = ((y / 72 : Nat) : Int) := by omega
      rw [e1, e2] at fx ⊢
      exact (ev_hor C fx).symm
    · have e1 : ((y % 72 : Nat) : Int) = ((x % 72 : Nat) : Int) + 1 := by omega
      have e2 : ((y / 72 : Nat) : Int) = ((x / 72 : Nat) : Int) := by omega
      rw [e1, e2] at fy ⊢
      exact ev_hor C fy
    · have e1 : ((x % 72 : Nat) : Int) = ((y % 72 : Nat) : Int) := by omega
      have e2 : ((x / 72 : Nat) : Int) = ((y / 72 : Nat) : Int) + 1 := by omega
      rw [e1, e2] at fx ⊢
      exact (ev_ver C fy fx).symm
    · have e1 : ((y % 72 : Nat) : Int) = ((x % 72 : Nat) : Int) := by omega
      have e2 : ((y / 72 : Nat) : Int) = ((x / 72 : Nat) : Int) + 1 := by omega
      rw [e1, e2] at fy ⊢
      exact ev_ver C fx fy
  obtain ⟨δ2, e2, D2, z2, cl⟩ := sp_spread (D0 := dnj (cA a k) (rA a k) (ah a k)) (Q := fun x => evP (ah a k) (cA a k) (rA a k) ((x % 72 : Nat) : Int) ((x / 72 : Nat) : Int)) nd0 (by show evP (ah a k) (cA a k) (rA a k) ((0 % 72 : Nat) : Int) ((0 / 72 : Nat) : Int); rw [show ((0 % 72 : Nat) : Int) = 0 from rfl]; exact ev_00 C) (fun x y hx hy nx ny hn q => (nbQ x y hx hy nx ny hn).mp q) D1
  -- reached, as dots of two numbers
  have R2 : ∀ X Y : Int, Fr (ah a k) (cA a k) (rA a k) X Y → ∃ x : Nat, x < 3456 ∧ (72 * Y + X).toNat = x ∧ X = ((x % 72 : Nat) : Int) ∧ Y = ((x / 72 : Nat) : Int) ∧ ¬ dnj (cA a k) (rA a k) (ah a k) x := by
    intro X Y F
    have F' := F
    obtain ⟨f1, f2, f3, f4, -⟩ := F
    refine ⟨(72 * Y + X).toNat, by omega, rfl, by omega, by omega, ?_⟩
    have e3 : X = (((72 * Y + X).toNat % 72 : Nat) : Int) := by omega
    have e4 : Y = (((72 * Y + X).toNat / 72 : Nat) : Int) := by omega
    intro q
    apply F'.2.2.2.2
    unfold dnj at q
    rw [← e3, ← e4] at q
    exact q
  have clos : ∀ x y : Nat, x < 3456 → y < 3456 → ¬ dnj (cA a k) (rA a k) (ah a k) x → ¬ dnj (cA a k) (rA a k) (ah a k) y → Nb x y → Nb y x → (D_dots δ2 x = 2 ↔ D_dots δ2 y = 2) := by
    intro x y hx hy nx ny h1 h2
    constructor
    · intro q
      have := cl x y hx hy q h1
      rcases D2 y hy with w | w | w
      · exact absurd w.1 this
      · exact absurd w.2 ny
      · exact w.1
    · intro q
      have := cl y x hy hx q h2
      rcases D2 x hx with w | w | w
      · exact absurd w.1 this
      · exact absurd w.2 nx
      · exact w.1
  have J := jordan C (x := ((p % 24 : Nat) : Int)) (y := ((p / 24 : Nat) : Int)) (R := fun X Y => D_dots δ2 (72 * Y + X).toNat = 2) (by show D_dots δ2 (72 * (0 : Int) + 0).toNat = 2; rw [show (72 * (0 : Int) + 0).toNat = 0 from rfl]; exact z2)
    (fun X Y F1 F2 => by
      obtain ⟨x, h1, h2, h3, h4, h5⟩ := R2 X Y F1
      obtain ⟨y, g1, g2, g3, g4, g5⟩ := R2 (X + 1) Y F2
      show D_dots δ2 (72 * Y + X).toNat = 2 ↔ D_dots δ2 (72 * Y + (X + 1)).toNat = 2
      rw [h2, g2]
      exact clos x y h1 g1 h5 g5 (by unfold Nb; omega) (by unfold Nb; omega))
    (fun X Y F1 F2 => by
      obtain ⟨x, h1, h2, h3, h4, h5⟩ := R2 X Y F1
      obtain ⟨y, g1, g2, g3, g4, g5⟩ := R2 X (Y + 1) F2
      show D_dots δ2 (72 * Y + X).toNat = 2 ↔ D_dots δ2 (72 * (Y + 1) + X).toNat = 2
      rw [h2, g2]
      exact clos x y h1 g1 h5 g5 (by unfold Nb; omega) (by unfold Nb; omega))
    (fun X Y F1 q => by
      obtain ⟨x, h1, h2, h3, h4, h5⟩ := R2 X Y F1
      have q' : D_dots δ2 (72 * Y + X).toNat = 2 := q
      rw [h2] at q'
      rw [h3, h4]
      rcases D2 x h1 with w | w | w
      · rw [q'] at w; exact absurd w.1 n20
      · rw [q'] at w; exact absurd w.1 n21
      · exact w.2.2)
  rw [e1, Option.bind_some, e2, Option.bind_some]
  unfold fX0_isLeftOut
  rw [sp_dotOf hp, Option.bind_some]
  generalize hP : 72 * (3 * (p / 24) + 1) + (3 * (p % 24) + 1) = P
  rw [(sp_isDot (z := P) (by omega)).1 (by omega), Option.bind_some, if_pos (rfl : true = true), if_pos (inR_iI (by omega) (by omega) (by omega)), tnN (by omega)]
  have eX : ((P % 72 : Nat) : Int) = 3 * ((p % 24 : Nat) : Int) + 1 := by omega
  have eY : ((P / 72 : Nat) : Int) = 3 * ((p / 24 : Nat) : Int) + 1 := by omega
  by_cases hon : onL a k p
  · -- on the line: drawn
    obtain ⟨j, hj, ej⟩ := hon
    have dn := dn_end C (j := j) hj
    have c1 := ap_cr a k j
    have q1 : 3 * cA a k j + 1 = ((P % 72 : Nat) : Int) := by unfold cA; omega
    have q2 : 3 * rA a k j + 1 = ((P / 72 : Nat) : Int) := by unfold rA; omega
    rw [q1, q2] at dn
    have w : D_dots δ2 P = 1 := by
      rcases D2 P (by omega) with w | w | w
      · exact absurd dn w.2
      · exact w.1
      · exact absurd dn w.2.1
    rw [w, if_neg n10, Option.bind_some]
    exact ⟨δ2, false, rfl, (fun h => by cases h), (fun h => absurd ⟨j, hj, ej⟩ h.1)⟩
  · have hp' : ∀ j, j ≤ ah a k → ¬ (cA a k j = ((p % 24 : Nat) : Int) ∧ rA a k j = ((p / 24 : Nat) : Int)) := by
      intro j hj q
      have c1 := ap_cr a k j
      exact hon ⟨j, hj, by omega⟩
    obtain ⟨F, JJ⟩ := J (by omega) (by omega) hp'
    have eP : (72 * (3 * ((p / 24 : Nat) : Int) + 1) + (3 * ((p % 24 : Nat) : Int) + 1)).toNat = P := by omega
    have JJ' : D_dots δ2 (72 * (3 * ((p / 24 : Nat) : Int) + 1) + (3 * ((p % 24 : Nat) : Int) + 1)).toNat = 2 ↔ evA a k p := JJ
    rw [eP] at JJ'
    by_cases h0 : D_dots δ2 P = 0
    · rw [if_pos h0, Option.bind_some]
      exact ⟨δ2, true, rfl, (fun _ => ⟨hon, fun w => n02 (h0.symm.trans (JJ'.mpr w))⟩), (fun _ => rfl)⟩
    · rw [if_neg h0, Option.bind_some]
      refine ⟨δ2, false, rfl, (fun h => by cases h), (fun h => ?_)⟩
      rcases D2 P (by omega) with w | w | w
      · exact absurd w.1 h0
      · have := F.2.2.2.2
        rw [← eX, ← eY] at this
        exact absurd w.2 this
      · exact absurd (JJ'.mp w.1) h.2
end DW
