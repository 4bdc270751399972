/-! round a point of the curve, and along the curve: one worth on each side -/
section SD
variable {n : Nat} {c r : Nat → Int} {V : Type} {f : Int → Int → V}
theorem ox_c {d e : Nat} (h : d % 8 = e % 8) : ox d = ox e := by unfold ox; rw [h]
theorem oy_c {d e : Nat} (h : d % 8 = e % 8) : oy d = oy e := by unfold oy; rw [h]
theorem ox_r (d : Nat) : -1 ≤ ox d ∧ ox d ≤ 1 := by unfold ox; split <;> (try split) <;> omega
theorem oy_r (d : Nat) : -1 ≤ oy d ∧ oy d ≤ 1 := by unfold oy; split <;> (try split) <;> omega
theorem oxy0 (d : Nat) : ¬ (ox d = 0 ∧ oy d = 0) := by
  unfold ox oy
  rcases dirN (d := d) with h | h | h | h | h | h | h | h <;> simp [h]
theorem oxy4 (d : Nat) : ox (d + 4) = - ox d ∧ oy (d + 4) = - oy d := by
  have h := oxy d
  simp only [Prod.ext_iff] at h
  rcases dirN (d := d) with q | q | q | q | q | q | q | q <;> simp [q] at h <;> omega
theorem oxy1 (d : Nat) : (ox (d + 1) = ox d + 1 ∧ oy (d + 1) = oy d) ∨ (ox d = ox (d + 1) + 1 ∧ oy (d + 1) = oy d) ∨ (ox (d + 1) = ox d ∧ oy (d + 1) = oy d + 1) ∨ (ox (d + 1) = ox d ∧ oy d = oy (d + 1) + 1) := by
  have h := oxy d
  simp only [Prod.ext_iff] at h
  rcases dirN (d := d) with q | q | q | q | q | q | q | q <;> simp [q] at h <;> omega
theorem oxy_inj {d e : Nat} (h1 : ox d = ox e) (h2 : oy d = oy e) : d % 8 = e % 8 := by
  have a1 := oxy d
  have a2 := oxy e
  simp only [Prod.ext_iff] at a1 a2
  rcases dirN (d := d) with q | q | q | q | q | q | q | q <;> rcases dirN (d := e) with p | p | p | p | p | p | p | p <;> simp [q] at a1 <;> simp [p] at a2 <;> omega
/-- from the one step's one side round to the other step's other side -/
theorem vert (C : Cv n c r) (O : Okf n c r f) {x y : Int} {e1 e2 : Nat} (hne : e1 % 8 ≠ e2 % 8) (hE : ∀ e, Ed n c r x y (ox e) (oy e) ↔ e % 8 = e1 % 8 ∨ e % 8 = e2 % 8) {l l' : V}
    (H1 : Fr n c r (3 * x + 1 + ox (e1 + 7)) (3 * y + 1 + oy (e1 + 7)) → f (3 * x + 1 + ox (e1 + 7)) (3 * y + 1 + oy (e1 + 7)) = l)
    (H2 : Fr n c r (3 * x + 1 + ox (e1 + 7) + ox e1) (3 * y + 1 + oy (e1 + 7) + oy e1) → f (3 * x + 1 + ox (e1 + 7) + ox e1) (3 * y + 1 + oy (e1 + 7) + oy e1) = l)
    (K : EVs n c r f x y e2 l') : l = l' := by
  have E2 : Ed n c r x y (ox e2) (oy e2) := (hE e2).mpr (Or.inr rfl)
  have hr := ed_rng C E2
  have ring : ∀ e, ¬ (e % 8 = e1 % 8 ∨ e % 8 = e2 % 8) → Fr n c r (3 * x + 1 + ox e) (3 * y + 1 + oy e) := fun e he => by
    have h1 := ox_r e
    have h2 := oy_r e
    exact fr_of C rfl rfl h1 h2 (oxy0 e) (by omega) (fun q => he ((hE e).mp q))
  by_cases m : e1 % 8 = (e2 + 1) % 8
  · -- the wedge
    have h7 : ox (e1 + 7) = ox e2 := ox_c (by omega)
    have h8 : oy (e1 + 7) = oy e2 := oy_c (by omega)
    have h9 : ox e1 = ox (e2 + 1) := ox_c m
    have h10 : oy e1 = oy (e2 + 1) := oy_c m
    rw [h7, h8, h9, h10] at H2
    have nf : ¬ Fr n c r (3 * x + 1 + ox (e2 + 1)) (3 * y + 1 + oy (e2 + 1)) := fun q => by
      have h1 := ox_r (e2 + 1)
      have h2 := oy_r (e2 + 1)
      exact fr_no C q rfl rfl h1 h2 (oxy0 (e2 + 1)) ((hE (e2 + 1)).mpr (Or.inl m.symm))
    have fr : Fr n c r (3 * x + 1 + ox (e2 + 1) + ox e2) (3 * y + 1 + oy (e2 + 1) + oy e2) := by
      rcases (edge_vals C O E2).2.1 with q | q
      · exact absurd q nf
      · exact q
    have k := K.2.1 fr
    have fr' := fr_c fr (X' := 3 * x + 1 + ox e2 + ox (e2 + 1)) (Y' := 3 * y + 1 + oy e2 + oy (e2 + 1)) (by omega) (by omega)
    exact (H2 fr').symm.trans (f_c k (by omega) (by omega))
  · -- the arc
    have hm : ∀ i, 1 ≤ i → i < (e1 + 8 - e2 % 8) % 8 → f (3 * x + 1 + ox (e2 + 1)) (3 * y + 1 + oy (e2 + 1)) = f (3 * x + 1 + ox (e2 + i)) (3 * y + 1 + oy (e2 + i)) := by
      intro i
      induction i with
      | zero => intro h; omega
      | succ i ih =>
        intro h1 h2
        rcases Nat.eq_zero_or_pos i with h3 | h3
        · subst h3; rfl
        · have a := oxy1 (e2 + i)
          rw [ih (by omega) (by omega)]
          exact okf O (ring (e2 + i) (by omega)) (ring (e2 + (i + 1)) (by omega)) (by rw [← Nat.add_assoc]; omega)
    have hi := hm ((e1 + 8 - e2 % 8) % 8 - 1) (by omega) (by omega)
    have c1 : ox (e2 + ((e1 + 8 - e2 % 8) % 8 - 1)) = ox (e1 + 7) := ox_c (by omega)
    have c2 : oy (e2 + ((e1 + 8 - e2 % 8) % 8 - 1)) = oy (e1 + 7) := oy_c (by omega)
    rw [c1, c2] at hi
    exact (H1 (ring (e1 + 7) (by omega))).symm.trans (hi.symm.trans (K.1 (ring (e2 + 1) (by omega))))
/-- the number of a direction -/
def dN (u v : Int) : Nat := if v = 0 then (if u = 1 then 0 else 4) else if v = 1 then (if u = 1 then 1 else if u = 0 then 2 else 3) else (if u = 1 then 7 else if u = 0 then 6 else 5)
theorem dN_o {u v : Int} (hu : -1 ≤ u ∧ u ≤ 1) (hv : -1 ≤ v ∧ v ≤ 1) (h : ¬ (u = 0 ∧ v = 0)) : ox (dN u v) = u ∧ oy (dN u v) = v := by
  have : u = -1 ∨ u = 0 ∨ u = 1 := by omega
  have : v = -1 ∨ v = 0 ∨ v = 1 := by omega
  rcases ‹u = -1 ∨ u = 0 ∨ u = 1› with rfl | rfl | rfl <;> rcases ‹v = -1 ∨ v = 0 ∨ v = 1› with rfl | rfl | rfl <;> first | exact absurd ⟨rfl, rfl⟩ h | exact ⟨rfl, rfl⟩
abbrev dj (c r : Nat → Int) (j : Nat) : Nat := dN (c (j + 1) - c j) (r (j + 1) - r j)
theorem dj_o (C : Cv n c r) {j : Nat} (hj : j < n) : ox (dj c r j) = c (j + 1) - c j ∧ oy (dj c r j) = r (j + 1) - r j := by
  have := C.2.2.2.2.1 j hj
  exact dN_o (by omega) (by omega) (by omega)
theorem ed_fwd (C : Cv n c r) {j : Nat} (hj : j < n) : Ed n c r (c j) (r j) (ox (dj c r j)) (oy (dj c r j)) := by
  have h := dj_o C hj
  exact ⟨j, hj, by omega⟩
theorem ed_bwd (C : Cv n c r) {j : Nat} (hj : j < n) : Ed n c r (c (j + 1)) (r (j + 1)) (ox (dj c r j + 4)) (oy (dj c r j + 4)) := by
  have h := dj_o C hj
  have h4 := oxy4 (dj c r j)
  exact ⟨j, hj, by omega⟩
/-- the two steps at a point -/
theorem deg2 (C : Cv n c r) {j : Nat} (hj : j + 1 < n) : (dj c r j + 4) % 8 ≠ dj c r (j + 1) % 8 ∧ ∀ e, Ed n c r (c (j + 1)) (r (j + 1)) (ox e) (oy e) ↔ e % 8 = (dj c r j + 4) % 8 ∨ e % 8 = dj c r (j + 1) % 8 := by
  have h1 := dj_o C (j := j) (by omega)
  have h2 := dj_o C (j := j + 1) hj
  have h4 := oxy4 (dj c r j)
  have D := C.2.2.2.2.2.1
  constructor
  · intro q
    have q1 := ox_c q
    have q2 := oy_c q
    by_cases hn : j + 1 + 1 < n
    · exact D j (j + 1 + 1) (by omega) hn (by omega)
    · have hn' : j + 1 + 1 = n := by omega
      have e1 := C.2.1
      have e2 := C.2.2.1
      rw [← hn'] at e1 e2
      exact D 0 j (by have := C.1; omega) (by omega) (by omega)
  · intro e
    constructor
    · rintro ⟨i, hi, h | h⟩
      · right
        have hij : i = j + 1 := by
          rcases Nat.lt_trichotomy i (j + 1) with q | q | q
          · exact absurd ⟨h.1, h.2.1⟩ (D i (j + 1) q hj)
          · exact q
          · exact absurd ⟨h.1.symm, h.2.1.symm⟩ (D (j + 1) i q hi)
        subst hij
        exact oxy_inj (by omega) (by omega)
      · left
        have hij : i = j := by
          by_cases hin : i + 1 < n
          · rcases Nat.lt_trichotomy (i + 1) (j + 1) with q | q | q
            · exact absurd ⟨h.1, h.2.1⟩ (D (i + 1) (j + 1) q hj)
            · omega
            · exact absurd ⟨h.1.symm, h.2.1.symm⟩ (D (j + 1) (i + 1) q hin)
          · exfalso
            have hn' : i + 1 = n := by omega
            have e1 := C.2.1
            have e2 := C.2.2.1
            rw [← hn'] at e1 e2
            exact D 0 (j + 1) (by omega) hj (by omega)
        subst hij
        exact oxy_inj (by omega) (by omega)
    · rintro (h | h)
      · rw [ox_c h, oy_c h]; exact ed_bwd C (by omega)
      · rw [ox_c h, oy_c h]; exact ed_fwd C hj
/-- the one side, and the other, of the step with a number -/
def SL (n : Nat) (c r : Nat → Int) (f : Int → Int → V) (j : Nat) (l : V) : Prop := EVs n c r f (c j) (r j) (dj c r j) l
def SR (n : Nat) (c r : Nat → Int) (f : Int → Int → V) (j : Nat) (l : V) : Prop := EVs n c r f (c (j + 1)) (r (j + 1)) (dj c r j + 4) l
theorem sl_step (C : Cv n c r) (O : Okf n c r f) {j : Nat} (hj : j + 1 < n) {l l' : V} (h : SL n c r f j l) (h' : SL n c r f (j + 1) l') : l = l' := by
  obtain ⟨d1, d2⟩ := deg2 C hj
  have o := dj_o C (j := j) (by omega)
  obtain ⟨-, -, h3, h4⟩ := h
  have a1 : ox (dj c r j + 4 + 7) = ox (dj c r j + 11) := rfl
  have a2 : oy (dj c r j + 4 + 7) = oy (dj c r j + 11) := rfl
  have b1 : c j + ox (dj c r j) = c (j + 1) := by omega
  have b2 : r j + oy (dj c r j) = r (j + 1) := by omega
  rw [b1, b2] at h3 h4
  exact vert C O d1 d2 h3 h4 h'
theorem sr_step (C : Cv n c r) (O : Okf n c r f) {j : Nat} (hj : j + 1 < n) {l l' : V} (h : SR n c r f j l) (h' : SR n c r f (j + 1) l') : l = l' := by
  obtain ⟨d1, d2⟩ := deg2 C hj
  have o := dj_o C (j := j + 1) (by omega)
  have o4 := oxy4 (dj c r (j + 1))
  obtain ⟨-, -, h3, h4⟩ := h'
  have a1 : ox (dj c r (j + 1) + 4 + 11) = ox (dj c r (j + 1) + 7) := ox_c (by omega)
  have a2 : oy (dj c r (j + 1) + 4 + 11) = oy (dj c r (j + 1) + 7) := oy_c (by omega)
  have a3 : ox (dj c r (j + 1) + 4 + 4) = ox (dj c r (j + 1)) := ox_c (by omega)
  have a4 : oy (dj c r (j + 1) + 4 + 4) = oy (dj c r (j + 1)) := oy_c (by omega)
  have b1 : c (j + 1 + 1) + ox (dj c r (j + 1) + 4) = c (j + 1) := by omega
  have b2 : r (j + 1 + 1) + oy (dj c r (j + 1) + 4) = r (j + 1) := by omega
  rw [b1, b2, a1, a2] at h3 h4
  rw [a3, a4] at h4
  exact (vert C O (fun q => d1 q.symm) (fun e => (d2 e).trans Or.comm) h3 h4 h).symm
theorem sides (C : Cv n c r) (O : Okf n c r f) : ∃ l l', ∀ j, j < n → SL n c r f j l ∧ SR n c r f j l' := by
  have h0 : 0 < n := by have := C.1; omega
  obtain ⟨l, hl⟩ := (edge_vals C O (ed_fwd C h0)).1
  obtain ⟨l', hl'⟩ := (edge_vals C O (ed_bwd C h0)).1
  refine ⟨l, l', fun j => ?_⟩
  induction j with
  | zero => exact fun _ => ⟨hl, hl'⟩
  | succ j ih =>
    intro hj
    obtain ⟨i1, i2⟩ := ih (by omega)
    obtain ⟨m, hm⟩ := (edge_vals C O (ed_fwd C hj)).1
    obtain ⟨m', hm'⟩ := (edge_vals C O (ed_bwd C hj)).1
    have e1 := sl_step C O hj i1 hm
    have e2 := sr_step C O hj i2 hm'
    subst e1 e2
    exact ⟨hm, hm'⟩
/-- the dots beside a step, on either side, have one of two worths -/
theorem beside (C : Cv n c r) {l l' : V} (H : ∀ j, j < n → SL n c r f j l ∧ SR n c r f j l') {x y : Int} {d : Nat} (E : Ed n c r x y (ox d) (oy d)) : ∃ m m', ((m = l ∧ m' = l') ∨ (m = l' ∧ m' = l)) ∧
    (Fr n c r (3 * x + 1 + ox (d + 1)) (3 * y + 1 + oy (d + 1)) → f (3 * x + 1 + ox (d + 1)) (3 * y + 1 + oy (d + 1)) = m) ∧
    (Fr n c r (3 * x + 1 + ox (d + 1) + ox d) (3 * y + 1 + oy (d + 1) + oy d) → f (3 * x + 1 + ox (d + 1) + ox d) (3 * y + 1 + oy (d + 1) + oy d) = m) ∧
    (Fr n c r (3 * x + 1 + ox (d + 7)) (3 * y + 1 + oy (d + 7)) → f (3 * x + 1 + ox (d + 7)) (3 * y + 1 + oy (d + 7)) = m') ∧
    (Fr n c r (3 * x + 1 + ox (d + 7) + ox d) (3 * y + 1 + oy (d + 7) + oy d) → f (3 * x + 1 + ox (d + 7) + ox d) (3 * y + 1 + oy (d + 7) + oy d) = m') := by
  obtain ⟨j, hj, h | h⟩ := E
  · obtain ⟨H1, H2⟩ := H j hj
    have o := dj_o C hj
    have o4 := oxy4 (dj c r j)
    have ed : d % 8 = dj c r j % 8 := oxy_inj (by omega) (by omega)
    refine ⟨l, l', Or.inl ⟨rfl, rfl⟩, ?_⟩
    obtain ⟨p1, p2, -, -⟩ := H1
    obtain ⟨-, -, p3, p4⟩ := H2
    have b1 : c (j + 1) + ox (dj c r j + 4) = x := by omega
    have b2 : r (j + 1) + oy (dj c r j + 4) = y := by omega
    rw [b1, b2] at p3 p4
    rw [h.1, h.2.1] at p1 p2
    rw [ox_c (d := dj c r j + 4 + 11) (e := d + 7) (by omega), oy_c (d := dj c r j + 4 + 11) (e := d + 7) (by omega)] at p3 p4
    rw [ox_c (d := dj c r j + 4 + 4) (e := d) (by omega), oy_c (d := dj c r j + 4 + 4) (e := d) (by omega)] at p4
    rw [ox_c (d := dj c r j + 1) (e := d + 1) (by omega), oy_c (d := dj c r j + 1) (e := d + 1) (by omega)] at p1 p2
    rw [ox_c (d := dj c r j) (e := d) (by omega), oy_c (d := dj c r j) (e := d) (by omega)] at p2
    exact ⟨p1, p2, p3, p4⟩
  · obtain ⟨H1, H2⟩ := H j hj
    have o := dj_o C hj
    have o4 := oxy4 (dj c r j)
    have ed : d % 8 = (dj c r j + 4) % 8 := oxy_inj (by omega) (by omega)
    refine ⟨l', l, Or.inr ⟨rfl, rfl⟩, ?_⟩
    obtain ⟨p1, p2, -, -⟩ := H2
    obtain ⟨-, -, p3, p4⟩ := H1
    have b1 : c j + ox (dj c r j) = x := by omega
    have b2 : r j + oy (dj c r j) = y := by omega
    rw [b1, b2] at p3 p4
    rw [h.1, h.2.1] at p1 p2
    rw [ox_c (d := dj c r j + 11) (e := d + 7) (by omega), oy_c (d := dj c r j + 11) (e := d + 7) (by omega)] at p3 p4
    rw [ox_c (d := dj c r j + 4) (e := d) (by omega), oy_c (d := dj c r j + 4) (e := d) (by omega)] at p4
    rw [ox_c (d := dj c r j + 4 + 1) (e := d + 1) (by omega), oy_c (d := dj c r j + 4 + 1) (e := d + 1) (by omega)] at p1 p2
    rw [ox_c (d := dj c r j + 4) (e := d) (by omega), oy_c (d := dj c r j + 4) (e := d) (by omega)] at p2
    exact ⟨p1, p2, p3, p4⟩
end SD
