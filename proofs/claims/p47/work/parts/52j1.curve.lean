/-! a closed curve of king's steps, drawn three times as large: which dots are free, and what its two sides are -/
def Cv (n : Nat) (c r : Nat → Int) : Prop :=
  4 ≤ n ∧ c n = c 0 ∧ r n = r 0 ∧ (∀ j, j ≤ n → 0 ≤ c j ∧ c j ≤ 23 ∧ 0 ≤ r j ∧ r j ≤ 15) ∧
  (∀ j, j < n → -1 ≤ c (j + 1) - c j ∧ c (j + 1) - c j ≤ 1 ∧ -1 ≤ r (j + 1) - r j ∧ r (j + 1) - r j ≤ 1 ∧ ¬ (c (j + 1) = c j ∧ r (j + 1) = r j)) ∧
  (∀ i j, i < j → j < n → ¬ (c i = c j ∧ r i = r j)) ∧
  (∀ i j, i < n → j < n → c (i + 1) ≠ c i → r (i + 1) ≠ r i → ¬ ((c j = c (i + 1) ∧ r j = r i ∧ c (j + 1) = c i ∧ r (j + 1) = r (i + 1)) ∨ (c (j + 1) = c (i + 1) ∧ r (j + 1) = r i ∧ c j = c i ∧ r j = r (i + 1))))
/-- a step between a point and the one beside it -/
def Ed (n : Nat) (c r : Nat → Int) (x y u v : Int) : Prop := ∃ j, j < n ∧ ((c j = x ∧ r j = y ∧ c (j + 1) = x + u ∧ r (j + 1) = y + v) ∨ (c (j + 1) = x ∧ r (j + 1) = y ∧ c j = x + u ∧ r j = y + v))
/-- the dots of a step -/
def Dot3 (c r : Nat → Int) (j : Nat) (X Y : Int) : Prop := (X = 3 * c j + 1 ∧ Y = 3 * r j + 1) ∨ (X = 2 * c j + c (j + 1) + 1 ∧ Y = 2 * r j + r (j + 1) + 1) ∨ (X = c j + 2 * c (j + 1) + 1 ∧ Y = r j + 2 * r (j + 1) + 1)
def Dn (n : Nat) (c r : Nat → Int) (X Y : Int) : Prop := ∃ j, j < n ∧ Dot3 c r j X Y
def Fr (n : Nat) (c r : Nat → Int) (X Y : Int) : Prop := 0 ≤ X ∧ X < 72 ∧ 0 ≤ Y ∧ Y < 48 ∧ ¬ Dn n c r X Y
def ox (e : Nat) : Int := if e % 8 = 0 ∨ e % 8 = 1 ∨ e % 8 = 7 then 1 else if e % 8 = 2 ∨ e % 8 = 6 then 0 else -1
def oy (e : Nat) : Int := if e % 8 = 1 ∨ e % 8 = 2 ∨ e % 8 = 3 then 1 else if e % 8 = 0 ∨ e % 8 = 4 then 0 else -1
section CV
variable {n : Nat} {c r : Nat → Int}
theorem ed_dn (C : Cv n c r) {x y u v : Int} (hu : -1 ≤ u ∧ u ≤ 1) (hv : -1 ≤ v ∧ v ≤ 1) (h0 : ¬ (u = 0 ∧ v = 0)) : Dn n c r (3 * x + 1 + u) (3 * y + 1 + v) ↔ Ed n c r x y u v := by
  obtain ⟨-, -, -, -, hs, -, -⟩ := C
  constructor
  · rintro ⟨j, hj, h⟩
    have := hs j hj
    refine ⟨j, hj, ?_⟩
    rcases h with h | h | h
    · omega
    · left; omega
    · right; omega
  · rintro ⟨j, hj, h⟩
    refine ⟨j, hj, ?_⟩
    rcases h with h | h
    · right; left; omega
    · right; right; omega
theorem ed_symm {x y u v : Int} (h : Ed n c r x y u v) : Ed n c r (x + u) (y + v) (-u) (-v) := by
  obtain ⟨j, hj, h⟩ := h
  refine ⟨j, hj, ?_⟩
  omega
theorem ed_symm' {x y u v x' y' u' v' : Int} (h : Ed n c r x y u v) (h1 : x' = x + u) (h2 : y' = y + v) (h3 : u' = -u) (h4 : v' = -v) : Ed n c r x' y' u' v' := by
  subst h1 h2 h3 h4; exact ed_symm h
theorem ed_same {x y u v x' y' u' v' : Int} (h : Ed n c r x y u v) (h1 : x' = x) (h2 : y' = y) (h3 : u' = u) (h4 : v' = v) : Ed n c r x' y' u' v' := by
  subst h1 h2 h3 h4; exact h
theorem ed_cross (C : Cv n c r) {x y u v x' y' u' v' : Int} (h : Ed n c r x y u v) (h' : Ed n c r x' y' u' v') (hu : u ≠ 0) (hv : v ≠ 0) (hx : (x' = x + u ∧ y' = y ∧ u' = -u ∧ v' = v) ∨ (x' = x ∧ y' = y + v ∧ u' = u ∧ v' = -v)) : False := by
  obtain ⟨i, hi, h⟩ := h
  obtain ⟨j, hj, h'⟩ := h'
  refine C.2.2.2.2.2.2 i j hi hj (by omega) (by omega) ?_
  omega
theorem ed_rng (C : Cv n c r) {x y u v : Int} (h : Ed n c r x y u v) : 0 ≤ x ∧ x ≤ 23 ∧ 0 ≤ y ∧ y ≤ 15 ∧ 0 ≤ x + u ∧ x + u ≤ 23 ∧ 0 ≤ y + v ∧ y + v ≤ 15 := by
  obtain ⟨j, hj, h⟩ := h
  have h1 := C.2.2.2.1 j (by omega)
  have h2 := C.2.2.2.1 (j + 1) (by omega)
  omega
/-- a dot beside a point is free where no step goes there -/
theorem fr_of (C : Cv n c r) {x y u v X Y : Int} (hX : X = 3 * x + 1 + u) (hY : Y = 3 * y + 1 + v) (hu : -1 ≤ u ∧ u ≤ 1) (hv : -1 ≤ v ∧ v ≤ 1) (h0 : ¬ (u = 0 ∧ v = 0)) (hr : 0 ≤ X ∧ X < 72 ∧ 0 ≤ Y ∧ Y < 48) (h : ¬ Ed n c r x y u v) : Fr n c r X Y := by
  subst hX hY
  exact ⟨hr.1, hr.2.1, hr.2.2.1, hr.2.2.2, fun q => h ((ed_dn C hu hv h0).mp q)⟩
theorem fr_no (C : Cv n c r) {x y u v X Y : Int} (h : Fr n c r X Y) (hX : X = 3 * x + 1 + u) (hY : Y = 3 * y + 1 + v) (hu : -1 ≤ u ∧ u ≤ 1) (hv : -1 ≤ v ∧ v ≤ 1) (h0 : ¬ (u = 0 ∧ v = 0)) : ¬ Ed n c r x y u v := by
  subst hX hY
  exact fun q => h.2.2.2.2 ((ed_dn C hu hv h0).mpr q)
/-- what free dots side by side share -/
def Okf {V : Type} (n : Nat) (c r : Nat → Int) (f : Int → Int → V) : Prop := (∀ X Y, Fr n c r X Y → Fr n c r (X + 1) Y → f X Y = f (X + 1) Y) ∧ (∀ X Y, Fr n c r X Y → Fr n c r X (Y + 1) → f X Y = f X (Y + 1))
variable {V : Type} {f : Int → Int → V}
theorem okf (O : Okf n c r f) {X Y X' Y' : Int} (h : Fr n c r X Y) (h' : Fr n c r X' Y') (q : (X' = X + 1 ∧ Y' = Y) ∨ (X = X' + 1 ∧ Y' = Y) ∨ (X' = X ∧ Y' = Y + 1) ∨ (X' = X ∧ Y = Y' + 1)) : f X Y = f X' Y' := by
  rcases q with ⟨h1, h2⟩ | ⟨h1, h2⟩ | ⟨h1, h2⟩ | ⟨h1, h2⟩
  · subst h1 h2; exact O.1 _ _ h h'
  · subst h1 h2; exact (O.1 _ _ h' h).symm
  · subst h1 h2; exact O.2 _ _ h h'
  · subst h1 h2; exact (O.2 _ _ h' h).symm
theorem edge_even (C : Cv n c r) (O : Okf n c r f) {x y a b : Int} (hs : (a = 1 ∧ b = 0) ∨ (a = 0 ∧ b = 1) ∨ (a = -1 ∧ b = 0) ∨ (a = 0 ∧ b = -1)) (E : Ed n c r x y a b) {X1 Y1 X2 Y2 : Int} (e1 : X1 = 3 * x + 1 + a - b) (e2 : Y1 = 3 * y + 1 + b + a) (e3 : X2 = 3 * x + 1 + 2 * a - b) (e4 : Y2 = 3 * y + 1 + 2 * b + a) :
    (Fr n c r X1 Y1 → Fr n c r X2 Y2 → f X1 Y1 = f X2 Y2) ∧ (Fr n c r X1 Y1 ∨ Fr n c r X2 Y2) := by
  have hr := ed_rng C E
  refine ⟨fun h1 h2 => okf O h1 h2 (by omega), ?_⟩
  by_cases h1 : Ed n c r x y (a - b) (b + a)
  · right
    refine fr_of C (x := x + a) (y := y + b) (u := -a - b) (v := -b + a) (by omega) (by omega) (by omega) (by omega) (by omega) (by omega) (fun h2 => ?_)
    exact ed_cross C h1 h2 (by omega) (by omega) (by omega)
  · left
    exact fr_of C (x := x) (y := y) (u := a - b) (v := b + a) (by omega) (by omega) (by omega) (by omega) (by omega) (by omega) h1
theorem edge_odd (C : Cv n c r) (O : Okf n c r f) {x y a b : Int} (hs : (a = 1 ∧ b = 0) ∨ (a = 0 ∧ b = 1) ∨ (a = -1 ∧ b = 0) ∨ (a = 0 ∧ b = -1)) (E : Ed n c r x y (a - b) (b + a)) {X1 Y1 X2 Y2 X3 Y3 : Int} (e1 : X1 = 3 * x + 1 - b) (e2 : Y1 = 3 * y + 1 + a) (e3 : X2 = 3 * x + 1 + a - 2 * b) (e4 : Y2 = 3 * y + 1 + b + 2 * a) (e5 : X3 = 3 * x + 1 + 2 * a - 3 * b) (e6 : Y3 = 3 * y + 1 + 2 * b + 3 * a) :
    Fr n c r X2 Y2 ∧ (Fr n c r X1 Y1 → f X1 Y1 = f X2 Y2) ∧ (Fr n c r X3 Y3 → f X3 Y3 = f X2 Y2) := by
  have hr := ed_rng C E
  have h2 : Fr n c r X2 Y2 := fr_of C (x := x - b) (y := y + a) (u := a + b) (v := b - a) (by omega) (by omega) (by omega) (by omega) (by omega) (by omega) (fun h2 => ed_cross C E h2 (by omega) (by omega) (by omega))
  refine ⟨h2, fun h1 => ?_, fun h3 => ?_⟩
  · have n1 := fr_no C (x := x) (y := y) (u := -b) (v := a) h1 (by omega) (by omega) (by omega) (by omega) (by omega)
    have q : Fr n c r (3 * x + 1 - 2 * b) (3 * y + 1 + 2 * a) := fr_of C (x := x - b) (y := y + a) (u := b) (v := -a) (by omega) (by omega) (by omega) (by omega) (by omega) (by omega) (fun h4 => n1 (ed_symm' h4 (by omega) (by omega) (by omega) (by omega)))
    exact (okf O h1 q (by omega)).trans (okf O q h2 (by omega))
  · have n1 := fr_no C (x := x + a - b) (y := y + a + b) (u := -a) (v := -b) h3 (by omega) (by omega) (by omega) (by omega) (by omega)
    have q : Fr n c r (3 * x + 1 + a - 3 * b) (3 * y + 1 + b + 3 * a) := fr_of C (x := x - b) (y := y + a) (u := a) (v := b) (by omega) (by omega) (by omega) (by omega) (by omega) (by omega) (fun h4 => n1 (ed_symm' h4 (by omega) (by omega) (by omega) (by omega)))
    exact (okf O h3 q (by omega)).trans (okf O q h2 (by omega))
/-- one side of a step has one worth -/
def EVs (n : Nat) (c r : Nat → Int) (f : Int → Int → V) (x y : Int) (d : Nat) (l : V) : Prop :=
  (Fr n c r (3 * x + 1 + ox (d + 1)) (3 * y + 1 + oy (d + 1)) → f (3 * x + 1 + ox (d + 1)) (3 * y + 1 + oy (d + 1)) = l) ∧
  (Fr n c r (3 * x + 1 + ox (d + 1) + ox d) (3 * y + 1 + oy (d + 1) + oy d) → f (3 * x + 1 + ox (d + 1) + ox d) (3 * y + 1 + oy (d + 1) + oy d) = l) ∧
  (Fr n c r (3 * (x + ox d) + 1 + ox (d + 11)) (3 * (y + oy d) + 1 + oy (d + 11)) → f (3 * (x + ox d) + 1 + ox (d + 11)) (3 * (y + oy d) + 1 + oy (d + 11)) = l) ∧
  (Fr n c r (3 * (x + ox d) + 1 + ox (d + 11) + ox (d + 4)) (3 * (y + oy d) + 1 + oy (d + 11) + oy (d + 4)) → f (3 * (x + ox d) + 1 + ox (d + 11) + ox (d + 4)) (3 * (y + oy d) + 1 + oy (d + 11) + oy (d + 4)) = l)
theorem dirN {d : Nat} : d % 8 = 0 ∨ d % 8 = 1 ∨ d % 8 = 2 ∨ d % 8 = 3 ∨ d % 8 = 4 ∨ d % 8 = 5 ∨ d % 8 = 6 ∨ d % 8 = 7 := by omega
theorem oxy (d : Nat) : (ox d, oy d, ox (d + 1), oy (d + 1), ox (d + 11), oy (d + 11), ox (d + 4), oy (d + 4)) = (if d % 8 = 0 then (1, 0, 1, 1, -1, 1, -1, 0) else if d % 8 = 1 then (1, 1, 0, 1, -1, 0, -1, -1) else if d % 8 = 2 then (0, 1, -1, 1, -1, -1, 0, -1) else if d % 8 = 3 then (-1, 1, -1, 0, 0, -1, 1, -1) else if d % 8 = 4 then (-1, 0, -1, -1, 1, -1, 1, 0) else if d % 8 = 5 then (-1, -1, 0, -1, 1, 0, 1, 1) else if d % 8 = 6 then (0, -1, 1, -1, 1, 1, 0, 1) else (1, -1, 1, 0, 0, 1, -1, 1) : Int × Int × Int × Int × Int × Int × Int × Int) := by
  unfold ox oy
  rcases dirN (d := d) with h | h | h | h | h | h | h | h <;> simp [h, Nat.add_mod]
theorem ev_all {x y : Int} {d : Nat} {l : V} {o1 o2 o3 o4 o5 o6 o7 o8 : Int} (h : (ox d, oy d, ox (d + 1), oy (d + 1), ox (d + 11), oy (d + 11), ox (d + 4), oy (d + 4)) = (o1, o2, o3, o4, o5, o6, o7, o8))
    (H : (Fr n c r (3 * x + 1 + o3) (3 * y + 1 + o4) → f (3 * x + 1 + o3) (3 * y + 1 + o4) = l) ∧ (Fr n c r (3 * x + 1 + o3 + o1) (3 * y + 1 + o4 + o2) → f (3 * x + 1 + o3 + o1) (3 * y + 1 + o4 + o2) = l) ∧ (Fr n c r (3 * (x + o1) + 1 + o5) (3 * (y + o2) + 1 + o6) → f (3 * (x + o1) + 1 + o5) (3 * (y + o2) + 1 + o6) = l) ∧ (Fr n c r (3 * (x + o1) + 1 + o5 + o7) (3 * (y + o2) + 1 + o6 + o8) → f (3 * (x + o1) + 1 + o5 + o7) (3 * (y + o2) + 1 + o6 + o8) = l)) : EVs n c r f x y d l := by
  simp only [Prod.mk.injEq] at h
  obtain ⟨h1, h2, h3, h4, h5, h6, h7, h8⟩ := h
  unfold EVs
  rw [h1, h2, h3, h4, h5, h6, h7, h8]
  exact H
theorem fr_c {X Y X' Y' : Int} (h : Fr n c r X Y) (h1 : X' = X) (h2 : Y' = Y) : Fr n c r X' Y' := by subst h1 h2; exact h
theorem f_c {X Y X' Y' : Int} {l : V} (h : f X Y = l) (h1 : X' = X) (h2 : Y' = Y) : f X' Y' = l := by subst h1 h2; exact h
theorem edge_vals_even (C : Cv n c r) (O : Okf n c r f) {x y a b : Int} {d : Nat} (hs : (a = 1 ∧ b = 0) ∨ (a = 0 ∧ b = 1) ∨ (a = -1 ∧ b = 0) ∨ (a = 0 ∧ b = -1)) (E : Ed n c r x y (ox d) (oy d)) (ho : (ox d, oy d, ox (d + 1), oy (d + 1), ox (d + 11), oy (d + 11), ox (d + 4), oy (d + 4)) = (a, b, a - b, b + a, -a - b, -b + a, -a, -b)) :
    (∃ l, EVs n c r f x y d l) ∧ (Fr n c r (3 * x + 1 + ox (d + 1)) (3 * y + 1 + oy (d + 1)) ∨ Fr n c r (3 * x + 1 + ox (d + 1) + ox d) (3 * y + 1 + oy (d + 1) + oy d)) := by
  have hh := ho
  simp only [Prod.mk.injEq] at hh
  obtain ⟨h1, h2, h3, h4, h5, h6, h7, h8⟩ := hh
  rw [h1, h2] at E
  obtain ⟨k1, k2⟩ := edge_even C O hs E (X1 := 3 * x + 1 + (a - b)) (Y1 := 3 * y + 1 + (b + a)) (X2 := 3 * x + 1 + (a - b) + a) (Y2 := 3 * y + 1 + (b + a) + b) (by omega) (by omega) (by omega) (by omega)
  rw [h1, h2, h3, h4]
  refine ⟨?_, k2⟩
  rcases k2 with k | k
  · refine ⟨f (3 * x + 1 + (a - b)) (3 * y + 1 + (b + a)), ev_all ho ⟨fun _ => rfl, fun q => (k1 k q).symm, fun q => ?_, fun q => ?_⟩⟩
    · have q' := fr_c q (X' := 3 * x + 1 + (a - b) + a) (Y' := 3 * y + 1 + (b + a) + b) (by omega) (by omega)
      exact f_c (k1 k q').symm (by omega) (by omega)
    · exact f_c rfl (by omega) (by omega)
  · refine ⟨f (3 * x + 1 + (a - b) + a) (3 * y + 1 + (b + a) + b), ev_all ho ⟨fun q => k1 q k, fun q => rfl, fun q => ?_, fun q => ?_⟩⟩
    · exact f_c rfl (by omega) (by omega)
    · have q' := fr_c q (X' := 3 * x + 1 + (a - b)) (Y' := 3 * y + 1 + (b + a)) (by omega) (by omega)
      exact f_c (k1 q' k) (by omega) (by omega)
theorem edge_vals_odd (C : Cv n c r) (O : Okf n c r f) {x y a b : Int} {d : Nat} (hs : (a = 1 ∧ b = 0) ∨ (a = 0 ∧ b = 1) ∨ (a = -1 ∧ b = 0) ∨ (a = 0 ∧ b = -1)) (E : Ed n c r x y (ox d) (oy d)) (ho : (ox d, oy d, ox (d + 1), oy (d + 1), ox (d + 11), oy (d + 11), ox (d + 4), oy (d + 4)) = (a - b, b + a, -b, a, -a, -b, b - a, -b - a)) :
    (∃ l, EVs n c r f x y d l) ∧ Fr n c r (3 * x + 1 + ox (d + 1) + ox d) (3 * y + 1 + oy (d + 1) + oy d) := by
  have hh := ho
  simp only [Prod.mk.injEq] at hh
  obtain ⟨h1, h2, h3, h4, h5, h6, h7, h8⟩ := hh
  rw [h1, h2] at E
  obtain ⟨k, k1, k3⟩ := edge_odd C O hs E (X1 := 3 * x + 1 + -b) (Y1 := 3 * y + 1 + a) (X2 := 3 * x + 1 + -b + (a - b)) (Y2 := 3 * y + 1 + a + (b + a)) (X3 := 3 * (x + (a - b)) + 1 + -a) (Y3 := 3 * (y + (b + a)) + 1 + -b) (by omega) (by omega) (by omega) (by omega) (by omega) (by omega)
  rw [h1, h2, h3, h4]
  exact ⟨⟨f (3 * x + 1 + -b + (a - b)) (3 * y + 1 + a + (b + a)), ev_all ho ⟨fun q => k1 q, fun q => rfl, fun q => k3 q, fun q => f_c rfl (by omega) (by omega)⟩⟩, k⟩
theorem edge_vals (C : Cv n c r) (O : Okf n c r f) {x y : Int} {d : Nat} (E : Ed n c r x y (ox d) (oy d)) :
    (∃ l, EVs n c r f x y d l) ∧ (Fr n c r (3 * x + 1 + ox (d + 1)) (3 * y + 1 + oy (d + 1)) ∨ Fr n c r (3 * x + 1 + ox (d + 1) + ox d) (3 * y + 1 + oy (d + 1) + oy d)) ∧ (d % 2 = 1 → Fr n c r (3 * x + 1 + ox (d + 1) + ox d) (3 * y + 1 + oy (d + 1) + oy d)) := by
  have ho := oxy d
  rcases dirN (d := d) with h | h | h | h | h | h | h | h
  · have := edge_vals_even C O (a := 1) (b := 0) (by omega) E (by rw [ho, if_pos h]; rfl)
    exact ⟨this.1, this.2, fun q => by omega⟩
  · have := edge_vals_odd C O (a := 1) (b := 0) (by omega) E (by rw [ho, if_neg (by omega), if_pos h]; rfl)
    exact ⟨this.1, Or.inr this.2, fun q => this.2⟩
  · have := edge_vals_even C O (a := 0) (b := 1) (by omega) E (by rw [ho, if_neg (by omega), if_neg (by omega), if_pos h]; rfl)
    exact ⟨this.1, this.2, fun q => by omega⟩
  · have := edge_vals_odd C O (a := 0) (b := 1) (by omega) E (by rw [ho, if_neg (by omega), if_neg (by omega), if_neg (by omega), if_pos h]; rfl)
    exact ⟨this.1, Or.inr this.2, fun q => this.2⟩
  · have := edge_vals_even C O (a := -1) (b := 0) (by omega) E (by rw [ho, if_neg (by omega), if_neg (by omega), if_neg (by omega), if_neg (by omega), if_pos h]; rfl)
    exact ⟨this.1, this.2, fun q => by omega⟩
  · have := edge_vals_odd C O (a := -1) (b := 0) (by omega) E (by rw [ho, if_neg (by omega), if_neg (by omega), if_neg (by omega), if_neg (by omega), if_neg (by omega), if_pos h]; rfl)
    exact ⟨this.1, Or.inr this.2, fun q => this.2⟩
  · have := edge_vals_even C O (a := 0) (b := -1) (by omega) E (by rw [ho, if_neg (by omega), if_neg (by omega), if_neg (by omega), if_neg (by omega), if_neg (by omega), if_neg (by omega), if_pos h]; rfl)
    exact ⟨this.1, this.2, fun q => by omega⟩
  · have := edge_vals_odd C O (a := 0) (b := -1) (by omega) E (by rw [ho, if_neg (by omega), if_neg (by omega), if_neg (by omega), if_neg (by omega), if_neg (by omega), if_neg (by omega), if_neg (by omega)]; rfl)
    exact ⟨this.1, Or.inr this.2, fun q => this.2⟩
end CV
