/-! the two sides of a closed curve are told by the steps to the right; every free point joins one of them, or the margin -/
section JO
variable {n : Nat} {c r : Nat → Int}
theorem not_flat (C : Cv n c r) : ∃ j, j < n ∧ r (j + 1) ≠ r j := by
  apply Classical.byContradiction
  intro h
  have hz : ∀ j, j < n → r (j + 1) = r j := fun j hj => Classical.byContradiction fun q => h ⟨j, hj, q⟩
  obtain ⟨h4, hc, hr, -, hs, hd, -⟩ := C
  have key : ∀ e : Int, (e = 1 ∨ e = -1) → c 1 = c 0 + e → ∀ i, i + 1 ≤ n → c (i + 1) = c i + e := by
    intro e he h1 i
    induction i with
    | zero => intro _; exact h1
    | succ i ih =>
      intro hi
      have a1 := ih (by omega)
      have a2 := hs (i + 1) (by omega)
      have a3 := hz (i + 1) (by omega)
      have a4 := hz i (by omega)
      have a5 : ¬ c (i + 1 + 1) = c i := by
        intro q
        by_cases hn : i + 1 + 1 < n
        · exact hd i (i + 1 + 1) (by omega) hn (by omega)
        · have hn' : i + 1 + 1 = n := by omega
          rw [← hn'] at hc hr
          exact hd 0 i (by omega) (by omega) (by omega)
      omega
  have s0 := hs 0 (by omega)
  have z0 := hz 0 (by omega)
  have fin : ∀ e : Int, (e = 1 ∨ e = -1) → c 1 = c 0 + e → False := by
    intro e he h1
    have k := key e he h1
    rcases he with rfl | rfl
    · have : ∀ i, i ≤ n → c i = c 0 + i := by
        intro i
        induction i with
        | zero => intro _; simp
        | succ i ih => intro hi; have := ih (by omega); have := k i hi; omega
      have := this n (Nat.le_refl _)
      omega
    · have : ∀ i, i ≤ n → c i = c 0 - i := by
        intro i
        induction i with
        | zero => intro _; simp
        | succ i ih => intro hi; have := ih (by omega); have := k i hi; omega
      have := this n (Nat.le_refl _)
      omega
  have q : c 1 = c 0 + 1 ∨ c 1 = c 0 + -1 := by
    have e : (0 : Nat) + 1 = 1 := rfl
    rw [e] at s0 z0
    omega
  rcases q with q | q
  · exact fin 1 (Or.inl rfl) q
  · exact fin (-1) (Or.inr rfl) q
theorem step_ne (C : Cv n c r) {i j : Nat} (hi : i < n) (hj : j < n) (h : i ≠ j) : ¬ (c i = c j ∧ r i = r j ∧ c (i + 1) = c (j + 1) ∧ r (i + 1) = r (j + 1)) ∧ ¬ (c i = c (j + 1) ∧ r i = r (j + 1) ∧ c (i + 1) = c j ∧ r (i + 1) = r j) := by
  obtain ⟨h4, hc, hr, -, hs, hd, -⟩ := C
  have D : ∀ a b, a < n → b < n → c a = c b → r a = r b → a = b := by
    intro a b ha hb h1 h2
    rcases Nat.lt_trichotomy a b with q | q | q
    · exact absurd ⟨h1, h2⟩ (hd a b q hb)
    · exact q
    · exact absurd ⟨h1.symm, h2.symm⟩ (hd b a q ha)
  refine ⟨fun q => h (D i j hi hj q.1 q.2.1), fun q => ?_⟩
  by_cases h1 : j + 1 < n
  · have e := D i (j + 1) hi h1 q.1 q.2.1
    subst e
    by_cases h2 : j + 1 + 1 < n
    · have := D (j + 1 + 1) j h2 hj q.2.2.1 q.2.2.2
      omega
    · have hn' : j + 1 + 1 = n := by omega
      rw [← hn'] at hc hr
      have := D 0 j (by omega) hj (by omega) (by omega)
      omega
  · have hn' : j + 1 = n := by omega
    rw [hn'] at q
    have e := D i 0 hi (by omega) (by omega) (by omega)
    subst e
    have := D (0 + 1) j (by omega) hj q.2.2.1 q.2.2.2
    omega
/-- two dots on either side of a step -/
def twoD (x y u X1 Y1 X2 Y2 : Int) : Prop := (u = 1 ∧ X1 = 3 * x + 2 ∧ Y1 = 3 * y + 3 ∧ X2 = 3 * x + 3 ∧ Y2 = 3 * y + 2) ∨ (u = -1 ∧ X1 = 3 * x - 1 ∧ Y1 = 3 * y + 2 ∧ X2 = 3 * x ∧ Y2 = 3 * y + 3) ∨ (u = 0 ∧ X1 = 3 * x ∧ (Y1 = 3 * y + 2 ∨ Y1 = 3 * y + 3) ∧ X2 = 3 * x + 2 ∧ (Y2 = 3 * y + 2 ∨ Y2 = 3 * y + 3))
theorem rc_two {x y u X1 Y1 X2 Y2 c0 r0 c1 r1 : Int} (T : twoD x y u X1 Y1 X2 Y2) (s : -1 ≤ c1 - c0 ∧ c1 - c0 ≤ 1)
    (hne : ¬ (c0 = x ∧ r0 = y ∧ c1 = x + u ∧ r1 = y + 1)) (hcr : u ≠ 0 → ¬ (c0 = x + u ∧ r0 = y ∧ c1 = x ∧ r1 = y + 1))
    (f1 : ¬ (X1 = 2 * c0 + c1 + 1 ∧ Y1 = 2 * r0 + r1 + 1) ∧ ¬ (X1 = c0 + 2 * c1 + 1 ∧ Y1 = r0 + 2 * r1 + 1)) (f2 : ¬ (X2 = 2 * c0 + c1 + 1 ∧ Y2 = 2 * r0 + r1 + 1) ∧ ¬ (X2 = c0 + 2 * c1 + 1 ∧ Y2 = r0 + 2 * r1 + 1)) : rc c0 r0 c1 r1 X1 Y1 ↔ rc c0 r0 c1 r1 X2 Y2 := by
  unfold rc
  by_cases h1 : r1 = r0 + 1
  · by_cases h2 : r0 = y
    · subst h1 h2
      rcases T with ⟨q, q1, q2, q3, q4⟩ | ⟨q, q1, q2, q3, q4⟩ | ⟨q, q1, q2, q3, q4⟩
      · subst q q1 q2 q3 q4
        have := hcr (by omega)
        omega
      · subst q q1 q2 q3 q4
        have := hcr (by omega)
        omega
      · subst q q1 q3
        rcases q2 with q2 | q2 <;> rcases q4 with q4 | q4 <;> subst q2 q4 <;> omega
    · have e1 : ¬ (Y1 = 3 * r0 + 1 ∨ Y1 = 3 * r0 + 2 ∨ Y1 = 3 * r0 + 3) := by
        rcases T with ⟨q, q1, q2, q3, q4⟩ | ⟨q, q1, q2, q3, q4⟩ | ⟨q, q1, q2, q3, q4⟩ <;> omega
      have e2 : ¬ (Y2 = 3 * r0 + 1 ∨ Y2 = 3 * r0 + 2 ∨ Y2 = 3 * r0 + 3) := by
        rcases T with ⟨q, q1, q2, q3, q4⟩ | ⟨q, q1, q2, q3, q4⟩ | ⟨q, q1, q2, q3, q4⟩ <;> omega
      omega
  · exact ⟨fun q => absurd q.1 h1, fun q => absurd q.1 h1⟩
theorem rc_own {x y u X1 Y1 X2 Y2 : Int} (T : twoD x y u X1 Y1 X2 Y2) : rc x y (x + u) (y + 1) X1 Y1 ∧ ¬ rc x y (x + u) (y + 1) X2 Y2 := by
  unfold rc
  rcases T with ⟨q, q1, q2, q3, q4⟩ | ⟨q, q1, q2, q3, q4⟩ | ⟨q, q1, q2, q3, q4⟩ <;> omega
theorem flip_f {A B C D X Y : Int} (h : ¬ (X = A + 2 * B + 1 ∧ Y = C + 2 * D + 1)) : ¬ (X = 2 * B + A + 1 ∧ Y = 2 * D + C + 1) := by omega
theorem flip_g {A B C D X Y : Int} (h : ¬ (X = 2 * A + B + 1 ∧ Y = 2 * C + D + 1)) : ¬ (X = B + 2 * A + 1 ∧ Y = D + 2 * C + 1) := by omega
theorem rng_flip {a b : Int} (h : -1 ≤ a - b ∧ a - b ≤ 1) : -1 ≤ b - a ∧ b - a ≤ 1 := by omega
theorem ed_of_f {x y u : Int} {i : Nat} (hi : i < n) (q : c i = x + u ∧ r i = y ∧ c (i + 1) = x ∧ r (i + 1) = y + 1) : Ed n c r (x + u) y (-u) 1 := ⟨i, hi, Or.inl ⟨q.1, q.2.1, q.2.2.1.trans (by omega), q.2.2.2⟩⟩
theorem ed_of_b {x y u : Int} {i : Nat} (hi : i < n) (q : c (i + 1) = x + u ∧ r (i + 1) = y ∧ c i = x ∧ r i = y + 1) : Ed n c r (x + u) y (-u) 1 := ⟨i, hi, Or.inr ⟨q.1, q.2.1, q.2.2.1.trans (by omega), q.2.2.2⟩⟩
/-- the steps to the right of two dots on either side of a step differ by one -/
theorem two_par (C : Cv n c r) {x y u X1 Y1 X2 Y2 : Int} (T : twoD x y u X1 Y1 X2 Y2) (E : Ed n c r x y u 1) (F1 : Fr n c r X1 Y1) (F2 : Fr n c r X2 Y2) : evP n c r X1 Y1 ↔ ¬ evP n c r X2 Y2 := by
  obtain ⟨j, hj, hE⟩ := E
  have main : ∀ i, i < n → (cN c r X1 Y1 i + cN c r X2 Y2 i + (fun _ => (0 : Int)) i + (fun _ => (0 : Int)) (i + 1) + (fun i => if i = j then (1 : Int) else 0) i) % 2 = 0 := by
    intro i hi
    have f1 := fr_st C F1 hi
    have f2 := fr_st C F2 hi
    have s := C.2.2.2.2.1 i hi
    simp only [cN_rc]
    by_cases hij : i = j
    · subst hij
      rw [if_pos rfl]
      have o := rc_own T
      rcases hE with ⟨a1, a2, a3, a4⟩ | ⟨a1, a2, a3, a4⟩
      · rw [a1, a2, a3, a4]
        have z : ∀ X Y, ¬ rc (x + u) (y + 1) x y X Y := fun X Y q => by have := q.1; omega
        rw [if_pos (Or.inl o.1), if_neg (fun q => q.elim o.2 (z _ _))]; rfl
      · rw [a1, a2, a3, a4]
        have z : ∀ X Y, ¬ rc (x + u) (y + 1) x y X Y := fun X Y q => by have := q.1; omega
        rw [if_pos (Or.inr o.1), if_neg (fun q => q.elim (z _ _) o.2)]; rfl
    · rw [if_neg hij]
      have ne := step_ne C hi hj hij
      have n1 : ¬ (c i = x ∧ r i = y ∧ c (i + 1) = x + u ∧ r (i + 1) = y + 1) := by
        rintro ⟨b1, b2, b3, b4⟩
        rcases hE with ⟨a1, a2, a3, a4⟩ | ⟨a1, a2, a3, a4⟩
        · exact ne.1 ⟨b1.trans a1.symm, b2.trans a2.symm, b3.trans a3.symm, b4.trans a4.symm⟩
        · exact ne.2 ⟨b1.trans a1.symm, b2.trans a2.symm, b3.trans a3.symm, b4.trans a4.symm⟩
      have n2 : ¬ (c (i + 1) = x ∧ r (i + 1) = y ∧ c i = x + u ∧ r i = y + 1) := by
        rintro ⟨b1, b2, b3, b4⟩
        rcases hE with ⟨a1, a2, a3, a4⟩ | ⟨a1, a2, a3, a4⟩
        · exact ne.2 ⟨b3.trans a3.symm, b4.trans a4.symm, b1.trans a1.symm, b2.trans a2.symm⟩
        · exact ne.1 ⟨b3.trans a3.symm, b4.trans a4.symm, b1.trans a1.symm, b2.trans a2.symm⟩
      have E1 : Ed n c r x y u 1 := ⟨j, hj, hE⟩
      have m1 : u ≠ 0 → ¬ (c i = x + u ∧ r i = y ∧ c (i + 1) = x ∧ r (i + 1) = y + 1) := fun hu q =>
        ed_cross C E1 (ed_of_f hi q) hu (by decide) (Or.inl ⟨rfl, rfl, rfl, rfl⟩)
      have m2 : u ≠ 0 → ¬ (c (i + 1) = x + u ∧ r (i + 1) = y ∧ c i = x ∧ r i = y + 1) := fun hu q =>
        ed_cross C E1 (ed_of_b hi q) hu (by decide) (Or.inl ⟨rfl, rfl, rfl, rfl⟩)
      have q1 := rc_two T ⟨s.1, s.2.1⟩ n1 m1 ⟨f1.2.1, f1.2.2.1⟩ ⟨f2.2.1, f2.2.2.1⟩
      have q2 := rc_two T (rng_flip ⟨s.1, s.2.1⟩) n2 m2 ⟨flip_f f1.2.2.1, flip_g f1.2.1⟩ ⟨flip_f f2.2.2.1, flip_g f2.2.1⟩
      by_cases h : rc (c i) (r i) (c (i + 1)) (r (i + 1)) X1 Y1 ∨ rc (c (i + 1)) (r (i + 1)) (c i) (r i) X1 Y1
      · rw [if_pos h, if_pos (h.imp q1.mp q2.mp)]; rfl
      · rw [if_neg h, if_neg (fun w => h (w.imp q1.mpr q2.mpr))]; rfl
  have e := par_sum n main
  rw [smI_one, if_pos hj] at e
  unfold evP
  generalize smI (cN c r X1 Y1) n 0 = a at e ⊢
  generalize smI (cN c r X2 Y2) n 0 = b at e ⊢
  have e' : (a + b + 1 + 0 + 0) % 2 = 0 := e
  omega
/-- two free dots on either side of a step between two rows -/
theorem two_ex (C : Cv n c r) {x y u : Int} (E : Ed n c r x y u 1) (hu : -1 ≤ u ∧ u ≤ 1) : ∃ X1 Y1 X2 Y2, twoD x y u X1 Y1 X2 Y2 ∧ Fr n c r X1 Y1 ∧ Fr n c r X2 Y2 := by
  have hr := ed_rng C E
  have : u = 1 ∨ u = -1 ∨ u = 0 := by omega
  rcases this with rfl | rfl | rfl
  · refine ⟨3 * x + 2, 3 * y + 3, 3 * x + 3, 3 * y + 2, Or.inl ⟨rfl, rfl, rfl, rfl, rfl⟩, ?_, ?_⟩
    · exact fr_of C (x := x) (y := y + 1) (u := 1) (v := -1) (by omega) (by omega) (by omega) (by omega) (by omega) (by omega) (fun h => ed_cross C E h (by omega) (by omega) (by omega))
    · exact fr_of C (x := x + 1) (y := y) (u := -1) (v := 1) (by omega) (by omega) (by omega) (by omega) (by omega) (by omega) (fun h => ed_cross C E h (by omega) (by omega) (by omega))
  · refine ⟨3 * x - 1, 3 * y + 2, 3 * x, 3 * y + 3, Or.inr (Or.inl ⟨rfl, rfl, rfl, rfl, rfl⟩), ?_, ?_⟩
    · exact fr_of C (x := x - 1) (y := y) (u := 1) (v := 1) (by omega) (by omega) (by omega) (by omega) (by omega) (by omega) (fun h => ed_cross C E h (by omega) (by omega) (by omega))
    · exact fr_of C (x := x) (y := y + 1) (u := -1) (v := -1) (by omega) (by omega) (by omega) (by omega) (by omega) (by omega) (fun h => ed_cross C E h (by omega) (by omega) (by omega))
  · have O : Okf n c r (fun _ _ => ()) := ⟨fun _ _ _ _ => rfl, fun _ _ _ _ => rfl⟩
    have l := (edge_even C O (a := 0) (b := 1) (by omega) E (X1 := 3 * x) (Y1 := 3 * y + 2) (X2 := 3 * x) (Y2 := 3 * y + 3) (by omega) (by omega) (by omega) (by omega)).2
    have R := (edge_even C O (a := 0) (b := -1) (by omega) (ed_symm' E (x' := x) (y' := y + 1) (u' := 0) (v' := -1) (by omega) (by omega) (by omega) (by omega)) (X1 := 3 * x + 2) (Y1 := 3 * y + 3) (X2 := 3 * x + 2) (Y2 := 3 * y + 2) (by omega) (by omega) (by omega) (by omega)).2
    rcases l with l | l <;> rcases R with R | R
    · exact ⟨_, _, _, _, Or.inr (Or.inr ⟨rfl, rfl, Or.inl rfl, rfl, Or.inr rfl⟩), l, R⟩
    · exact ⟨_, _, _, _, Or.inr (Or.inr ⟨rfl, rfl, Or.inl rfl, rfl, Or.inl rfl⟩), l, R⟩
    · exact ⟨_, _, _, _, Or.inr (Or.inr ⟨rfl, rfl, Or.inr rfl, rfl, Or.inr rfl⟩), l, R⟩
    · exact ⟨_, _, _, _, Or.inr (Or.inr ⟨rfl, rfl, Or.inr rfl, rfl, Or.inl rfl⟩), l, R⟩
variable {V : Type} {f : Int → Int → V}
/-- a step between two rows, and the worths of the dots beside it -/
theorem down_vals (C : Cv n c r) {l l' : V} (H : ∀ j, j < n → SL n c r f j l ∧ SR n c r f j l') {x y u : Int} (E : Ed n c r x y u 1) (hu : -1 ≤ u ∧ u ≤ 1) : ∃ m m', ((m = l ∧ m' = l') ∨ (m = l' ∧ m' = l)) ∧
    (∀ X1 Y1 X2 Y2, twoD x y u X1 Y1 X2 Y2 → (Fr n c r X1 Y1 → f X1 Y1 = m) ∧ (Fr n c r X2 Y2 → f X2 Y2 = m')) ∧
    (Fr n c r (3 * x + u) (3 * y + 2) → f (3 * x + u) (3 * y + 2) = m) ∧ (Fr n c r (3 * x + u + 2) (3 * y + 2) → f (3 * x + u + 2) (3 * y + 2) = m') := by
  have : u = 1 ∨ u = -1 ∨ u = 0 := by omega
  rcases this with rfl | rfl | rfl
  · obtain ⟨m, m', hm, p1, p2, p3, p4⟩ := beside C H (d := 1) (x := x) (y := y) E
    refine ⟨m, m', hm, fun X1 Y1 X2 Y2 T => ?_, fun q => ?_, fun q => ?_⟩
    · rcases T with ⟨q, q1, q2, q3, q4⟩ | ⟨q, q1, q2, q3, q4⟩ | ⟨q, q1, q2, q3, q4⟩
      · refine ⟨fun w => ?_, fun w => ?_⟩
        · exact f_c (p2 (fr_c w (by show 3 * x + 1 + 0 + 1 = X1; omega) (by show 3 * y + 1 + 1 + 1 = Y1; omega))) (by show X1 = 3 * x + 1 + 0 + 1; omega) (by show Y1 = 3 * y + 1 + 1 + 1; omega)
        · exact f_c (p4 (fr_c w (by show 3 * x + 1 + 1 + 1 = X2; omega) (by show 3 * y + 1 + 0 + 1 = Y2; omega))) (by show X2 = 3 * x + 1 + 1 + 1; omega) (by show Y2 = 3 * y + 1 + 0 + 1; omega)
      · exact absurd q (by omega)
      · exact absurd q (by omega)
    · exact f_c (p1 (fr_c q (by show 3 * x + 1 + 0 = 3 * x + 1; omega) (by show 3 * y + 1 + 1 = 3 * y + 2; omega))) (by show 3 * x + 1 = 3 * x + 1 + 0; omega) (by show 3 * y + 2 = 3 * y + 1 + 1; omega)
    · exact f_c (p4 (fr_c q (by show 3 * x + 1 + 1 + 1 = 3 * x + 1 + 2; omega) (by show 3 * y + 1 + 0 + 1 = 3 * y + 2; omega))) (by show 3 * x + 1 + 2 = 3 * x + 1 + 1 + 1; omega) (by show 3 * y + 2 = 3 * y + 1 + 0 + 1; omega)
  · obtain ⟨m, m', hm, p1, p2, p3, p4⟩ := beside C H (d := 3) (x := x) (y := y) E
    refine ⟨m, m', hm, fun X1 Y1 X2 Y2 T => ?_, fun q => ?_, fun q => ?_⟩
    · rcases T with ⟨q, q1, q2, q3, q4⟩ | ⟨q, q1, q2, q3, q4⟩ | ⟨q, q1, q2, q3, q4⟩
      · exact absurd q (by omega)
      · refine ⟨fun w => ?_, fun w => ?_⟩
        · exact f_c (p2 (fr_c w (by show 3 * x + 1 + -1 + -1 = X1; omega) (by show 3 * y + 1 + 0 + 1 = Y1; omega))) (by show X1 = 3 * x + 1 + -1 + -1; omega) (by show Y1 = 3 * y + 1 + 0 + 1; omega)
        · exact f_c (p4 (fr_c w (by show 3 * x + 1 + 0 + -1 = X2; omega) (by show 3 * y + 1 + 1 + 1 = Y2; omega))) (by show X2 = 3 * x + 1 + 0 + -1; omega) (by show Y2 = 3 * y + 1 + 1 + 1; omega)
      · exact absurd q (by omega)
    · exact f_c (p2 (fr_c q (by show 3 * x + 1 + -1 + -1 = 3 * x + -1; omega) (by show 3 * y + 1 + 0 + 1 = 3 * y + 2; omega))) (by show 3 * x + -1 = 3 * x + 1 + -1 + -1; omega) (by show 3 * y + 2 = 3 * y + 1 + 0 + 1; omega)
    · exact f_c (p3 (fr_c q (by show 3 * x + 1 + 0 = 3 * x + -1 + 2; omega) (by show 3 * y + 1 + 1 = 3 * y + 2; omega))) (by show 3 * x + -1 + 2 = 3 * x + 1 + 0; omega) (by show 3 * y + 2 = 3 * y + 1 + 1; omega)
  · obtain ⟨m, m', hm, p1, p2, p3, p4⟩ := beside C H (d := 2) (x := x) (y := y) E
    refine ⟨m, m', hm, fun X1 Y1 X2 Y2 T => ?_, fun q => ?_, fun q => ?_⟩
    · rcases T with ⟨q, q1, q2, q3, q4⟩ | ⟨q, q1, q2, q3, q4⟩ | ⟨q, q1, q2, q3, q4⟩
      · exact absurd q (by omega)
      · exact absurd q (by omega)
      · refine ⟨fun w => ?_, fun w => ?_⟩
        · rcases q2 with q2 | q2
          · exact f_c (p1 (fr_c w (by show 3 * x + 1 + -1 = X1; omega) (by show 3 * y + 1 + 1 = Y1; omega))) (by show X1 = 3 * x + 1 + -1; omega) (by show Y1 = 3 * y + 1 + 1; omega)
          · exact f_c (p2 (fr_c w (by show 3 * x + 1 + -1 + 0 = X1; omega) (by show 3 * y + 1 + 1 + 1 = Y1; omega))) (by show X1 = 3 * x + 1 + -1 + 0; omega) (by show Y1 = 3 * y + 1 + 1 + 1; omega)
        · rcases q4 with q4 | q4
          · exact f_c (p3 (fr_c w (by show 3 * x + 1 + 1 = X2; omega) (by show 3 * y + 1 + 1 = Y2; omega))) (by show X2 = 3 * x + 1 + 1; omega) (by show Y2 = 3 * y + 1 + 1; omega)
          · exact f_c (p4 (fr_c w (by show 3 * x + 1 + 1 + 0 = X2; omega) (by show 3 * y + 1 + 1 + 1 = Y2; omega))) (by show X2 = 3 * x + 1 + 1 + 0; omega) (by show Y2 = 3 * y + 1 + 1 + 1; omega)
    · exact f_c (p1 (fr_c q (by show 3 * x + 1 + -1 = 3 * x + 0; omega) (by show 3 * y + 1 + 1 = 3 * y + 2; omega))) (by show 3 * x + 0 = 3 * x + 1 + -1; omega) (by show 3 * y + 2 = 3 * y + 1 + 1; omega)
    · exact f_c (p3 (fr_c q (by show 3 * x + 1 + 1 = 3 * x + 0 + 2; omega) (by show 3 * y + 1 + 1 = 3 * y + 2; omega))) (by show 3 * x + 0 + 2 = 3 * x + 1 + 1; omega) (by show 3 * y + 2 = 3 * y + 1 + 1; omega)
/-- a drawn dot between two rows of points is a step's that goes from the one to the other -/
theorem dn_row (C : Cv n c r) {X y : Int} (h : Dn n c r X (3 * y + 2)) : ∃ x u, Ed n c r x y u 1 ∧ -1 ≤ u ∧ u ≤ 1 ∧ X = 3 * x + 1 + u := by
  obtain ⟨j, hj, h⟩ := h
  have s := C.2.2.2.2.1 j hj
  rcases h with h | h | h
  · omega
  · exact ⟨c j, c (j + 1) - c j, ⟨j, hj, by omega⟩, by omega, by omega, by omega⟩
  · exact ⟨c (j + 1), c j - c (j + 1), ⟨j, hj, by omega⟩, by omega, by omega, by omega⟩
/-- to the left along such a row: up to the margin, or up to a drawn dot -/
theorem walk (O : Okf n c r f) {Y : Int} (hY : 0 ≤ Y ∧ Y < 48) : ∀ k : Nat, Fr n c r k Y → f k Y = f 0 Y ∨ ∃ q : Nat, q < k ∧ Dn n c r q Y ∧ Fr n c r ((q : Int) + 1) Y ∧ f k Y = f ((q : Int) + 1) Y := by
  intro k
  induction k with
  | zero => intro _; exact Or.inl rfl
  | succ k ih =>
    intro h
    by_cases hd : Dn n c r k Y
    · exact Or.inr ⟨k, by omega, hd, h, rfl⟩
    · have hk : Fr n c r k Y := ⟨by omega, by have := h.2.1; omega, hY.1, hY.2, hd⟩
      have e : f ((k + 1 : Nat) : Int) Y = f k Y := (okf O hk h (Or.inl ⟨by omega, rfl⟩)).symm
      rcases ih hk with q | ⟨q, q1, q2, q3, q4⟩
      · exact Or.inl (e.trans q)
      · exact Or.inr ⟨q, by omega, q2, q3, e.trans q4⟩
/-- the first drawn dot of a row -/
theorem first_dn {Y : Int} : ∀ k : Nat, Dn n c r k Y → ∃ q : Nat, Dn n c r q Y ∧ ∀ i : Nat, i < q → ¬ Dn n c r i Y := by
  intro k
  induction k using Nat.strongRecOn with
  | ind k ih =>
    intro h
    by_cases q : ∃ i, i < k ∧ Dn n c r (i : Nat) Y
    · obtain ⟨i, h1, h2⟩ := q
      exact ih i h1 h2
    · exact ⟨k, h, fun i h1 h2 => q ⟨i, h1, h2⟩⟩
theorem dnn_rng (C : Cv n c r) {X Y : Int} (h : Dn n c r X Y) : 1 ≤ X ∧ X ≤ 70 ∧ 1 ≤ Y ∧ Y ≤ 46 := by
  obtain ⟨j, hj, h⟩ := h
  have h1 := C.2.2.2.1 j (by omega)
  have h2 := C.2.2.2.1 (j + 1) (by omega)
  rcases h with h | h | h <;> omega
theorem ev_00 (C : Cv n c r) : evP n c r 0 0 := by
  have e : smI (cN c r 0 0) n 0 = smI (fun _ => 0) n 0 := by
    refine smI_congr n 0 (fun i _ hi => ?_)
    have h1 := C.2.2.2.1 i (by omega)
    have h2 := C.2.2.2.1 (i + 1) (by omega)
    unfold cN
    rw [if_neg (by omega)]
  unfold evP
  rw [e, smI_zero]; rfl
/-- reached from the margin just where the steps to the right are even -/
theorem jordan (C : Cv n c r) {R : Int → Int → Prop} (h0 : R 0 0) (hR1 : ∀ X Y, Fr n c r X Y → Fr n c r (X + 1) Y → (R X Y ↔ R (X + 1) Y)) (hR2 : ∀ X Y, Fr n c r X Y → Fr n c r X (Y + 1) → (R X Y ↔ R X (Y + 1)))
    (hS : ∀ X Y, Fr n c r X Y → R X Y → evP n c r X Y) {x y : Int} (hx : 0 ≤ x ∧ x ≤ 23) (hy : 0 ≤ y ∧ y ≤ 15) (hp : ∀ j, j ≤ n → ¬ (c j = x ∧ r j = y)) : Fr n c r (3 * x + 1) (3 * y + 1) ∧ (R (3 * x + 1) (3 * y + 1) ↔ evP n c r (3 * x + 1) (3 * y + 1)) := by
  have O : Okf n c r (fun X Y => (R X Y, evP n c r X Y)) :=
    ⟨fun X Y a b => Prod.ext (propext (hR1 X Y a b)) (propext (ev_hor C b)), fun X Y a b => Prod.ext (propext (hR2 X Y a b)) (propext (ev_ver C a b))⟩
  obtain ⟨l, l', H⟩ := sides C O
  have col : ∀ k : Nat, k < 48 → Fr n c r 0 k ∧ R 0 k := by
    have fr0 : ∀ k : Nat, k < 48 → Fr n c r 0 k := fun k hk => ⟨by omega, by omega, by omega, by omega, fun q => by have := dnn_rng C q; omega⟩
    intro k
    induction k with
    | zero => intro hk; exact ⟨fr0 0 hk, h0⟩
    | succ k ih => intro hk; exact ⟨fr0 (k + 1) hk, (hR2 0 k (ih (by omega)).1 (fr0 (k + 1) hk)).mp (ih (by omega)).2⟩
  have colf : ∀ Y : Int, 0 ≤ Y → Y < 48 → ((R 0 Y, evP n c r 0 Y) : Prop × Prop) = (True, True) := by
    intro Y a b
    obtain ⟨k, rfl⟩ : ∃ k : Nat, Y = k := ⟨Y.toNat, by omega⟩
    have q := col k (by omega)
    exact Prod.ext (eq_true q.2) (eq_true (hS _ _ q.1 q.2))
  -- a step between two rows
  obtain ⟨j, hj, hne⟩ := not_flat C
  have s := C.2.2.2.2.1 j hj
  have hj1 := C.2.2.2.1 j (by omega)
  have hj2 := C.2.2.2.1 (j + 1) (by omega)
  obtain ⟨x0, y0, u0, E0, hu0⟩ : ∃ x0 y0 u0, Ed n c r x0 y0 u0 1 ∧ -1 ≤ u0 ∧ u0 ≤ 1 := by
    have : r (j + 1) = r j + 1 ∨ r j = r (j + 1) + 1 := by omega
    rcases this with q | q
    · exact ⟨c j, r j, c (j + 1) - c j, ⟨j, hj, by omega⟩, by omega, by omega⟩
    · exact ⟨c (j + 1), r (j + 1), c j - c (j + 1), ⟨j, hj, by omega⟩, by omega, by omega⟩
  have hr0 := ed_rng C E0
  -- the sides differ
  obtain ⟨X1, Y1, X2, Y2, T, F1, F2⟩ := two_ex C E0 hu0
  have par := two_par C T E0 F1 F2
  obtain ⟨m, m', hm, hT, -, -⟩ := down_vals C H E0 hu0
  have v1 := (hT X1 Y1 X2 Y2 T).1 F1
  have v2 := (hT X1 Y1 X2 Y2 T).2 F2
  -- one side is reached
  have d0 : Dn n c r (3 * x0 + 1 + u0) (3 * y0 + 1 + 1) := (ed_dn C hu0 (by omega) (by omega)).mpr E0
  obtain ⟨q, hq, hmin⟩ := first_dn (n := n) (c := c) (r := r) (Y := 3 * y0 + 2) (3 * x0 + 1 + u0).toNat (by
    rw [Int.toNat_of_nonneg (by omega)]
    have e : 3 * y0 + 1 + 1 = 3 * y0 + 2 := by omega
    rw [e] at d0
    exact d0)
  have hq1 := dnn_rng C hq
  obtain ⟨x1, u1, E1, hu1, hu1', hX1⟩ := dn_row C hq
  have fq : Fr n c r ((q - 1 : Nat) : Int) (3 * y0 + 2) := ⟨by omega, by omega, by omega, by omega, hmin (q - 1) (by omega)⟩
  have wq : ((R ((q - 1 : Nat) : Int) (3 * y0 + 2), evP n c r ((q - 1 : Nat) : Int) (3 * y0 + 2)) : Prop × Prop) = (True, True) := by
    rcases walk O (Y := 3 * y0 + 2) (by omega) (q - 1) fq with w | ⟨i, w1, w2, -, -⟩
    · exact w.trans (colf _ (by omega) (by omega))
    · exact absurd w2 (hmin i (by omega))
  obtain ⟨k, k', hk, -, hk1, -⟩ := down_vals C H E1 ⟨hu1, hu1'⟩
  have vq := hk1 (fr_c fq (by omega) rfl)
  have e1 : 3 * x1 + u1 = ((q - 1 : Nat) : Int) := by omega
  rw [e1] at vq
  have hkT : k = (True, True) := vq.symm.trans wq
  have hl : l = (True, True) ∨ l' = (True, True) := by
    rcases hk with ⟨a1, a2⟩ | ⟨a1, a2⟩
    · exact Or.inl (a1 ▸ hkT)
    · exact Or.inr (a1 ▸ hkT)
  -- so each side tells both
  have good : ∀ w : Prop × Prop, w = l ∨ w = l' → (w.1 ↔ w.2) := by
    have p1 : m.2 ↔ ¬ m'.2 := by rw [← v1, ← v2]; exact par
    have i1 : m.1 → m.2 := by rw [← v1]; exact hS _ _ F1
    have i2 : m'.1 → m'.2 := by rw [← v2]; exact hS _ _ F2
    have hmT : m = (True, True) ∨ m' = (True, True) := by
      rcases hm with ⟨a1, a2⟩ | ⟨a1, a2⟩
      · rw [a1, a2]; exact hl
      · rw [a1, a2]; exact hl.symm
    have gm : (m.1 ↔ m.2) ∧ (m'.1 ↔ m'.2) := by
      rcases hmT with a | a
      · have b2 : ¬ m'.2 := p1.mp (by rw [a]; trivial)
        exact ⟨by rw [a], fun z => i2 z, fun z => absurd z b2⟩
      · have b2 : ¬ m.2 := fun z => p1.mp z (by rw [a]; trivial)
        exact ⟨⟨fun z => i1 z, fun z => absurd z b2⟩, by rw [a]⟩
    intro w hw
    rcases hm with ⟨a1, a2⟩ | ⟨a1, a2⟩ <;> rcases hw with b | b
    · rw [b, ← a1]; exact gm.1
    · rw [b, ← a2]; exact gm.2
    · rw [b, ← a2]; exact gm.2
    · rw [b, ← a1]; exact gm.1
  -- the point
  have fp : Fr n c r (3 * x + 1) (3 * y + 1) := by
    refine ⟨by omega, by omega, by omega, by omega, ?_⟩
    rintro ⟨i, hi, h⟩
    have s := C.2.2.2.2.1 i hi
    rcases h with h | h | h
    · exact hp i (by omega) (by omega)
    · omega
    · omega
  have fb : Fr n c r (3 * x + 1) (3 * y + 2) := by
    refine ⟨by omega, by omega, by omega, by omega, ?_⟩
    intro h
    obtain ⟨x2, u2, E2, h1, h2, h3⟩ := dn_row C h
    have z : u2 = 0 ∧ x2 = x := by omega
    obtain ⟨z1, z2⟩ := z
    subst z1 z2
    obtain ⟨i, hi, h4 | h4⟩ := E2
    · exact hp i (by omega) ⟨h4.1, h4.2.1⟩
    · exact hp (i + 1) (by omega) ⟨h4.1, h4.2.1⟩
  refine ⟨fp, ?_⟩
  have e2 : ((R (3 * x + 1) (3 * y + 1), evP n c r (3 * x + 1) (3 * y + 1)) : Prop × Prop) = (R (3 * x + 1) (3 * y + 2), evP n c r (3 * x + 1) (3 * y + 2)) := okf O fp fb (Or.inr (Or.inr (Or.inl ⟨rfl, by omega⟩)))
  have fin : ((R (3 * x + 1) (3 * y + 2), evP n c r (3 * x + 1) (3 * y + 2)) : Prop × Prop).1 ↔ ((R (3 * x + 1) (3 * y + 2), evP n c r (3 * x + 1) (3 * y + 2)) : Prop × Prop).2 := by
    have e3 : (((3 * x + 1).toNat : Nat) : Int) = 3 * x + 1 := by omega
    have w := walk O (Y := 3 * y + 2) (by omega) (3 * x + 1).toNat (by rw [e3]; exact fb)
    rw [e3] at w
    rcases w with w | ⟨i, w1, w2, w3, w4⟩
    · have w' := w.trans (colf _ (by omega) (by omega))
      rw [w']
    · obtain ⟨x2, u2, E2, h1, h2, h3⟩ := dn_row C w2
      obtain ⟨k2, k2', hk2, -, -, hk3⟩ := down_vals C H E2 ⟨h1, h2⟩
      have v := hk3 (fr_c w3 (by omega) rfl)
      have e4 : 3 * x2 + u2 + 2 = (i : Int) + 1 := by omega
      rw [e4] at v
      have w' := w4.trans v
      rw [w']
      refine good k2' ?_
      rcases hk2 with ⟨a1, a2⟩ | ⟨a1, a2⟩
      · exact Or.inr a2
      · exact Or.inl a2
  have e5 := congrArg Prod.fst e2
  have e6 := congrArg Prod.snd e2
  have e5' : R (3 * x + 1) (3 * y + 1) = R (3 * x + 1) (3 * y + 2) := e5
  have e6' : evP n c r (3 * x + 1) (3 * y + 1) = evP n c r (3 * x + 1) (3 * y + 2) := e6
  rw [e5', e6']
  exact fin
end JO
