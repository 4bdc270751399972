/-! how many steps lie to the right of a dot, even or odd -/
def cN (c r : Nat → Int) (X Y : Int) (i : Nat) : Int :=
  if (r (i + 1) = r i + 1 ∧ ((Y = 3 * r i + 1 ∧ X < 3 * c i + 1) ∨ (Y = 3 * r i + 2 ∧ X < 2 * c i + c (i + 1) + 1) ∨ (Y = 3 * r i + 3 ∧ X < c i + 2 * c (i + 1) + 1))) ∨
     (r i = r (i + 1) + 1 ∧ ((Y = 3 * r (i + 1) + 1 ∧ X < 3 * c (i + 1) + 1) ∨ (Y = 3 * r (i + 1) + 2 ∧ X < 2 * c (i + 1) + c i + 1) ∨ (Y = 3 * r (i + 1) + 3 ∧ X < c (i + 1) + 2 * c i + 1))) then 1 else 0
abbrev rc (c0 r0 c1 r1 X Y : Int) : Prop := (r1 = r0 + 1 ∧ ((Y = 3 * r0 + 1 ∧ X < 3 * c0 + 1) ∨ (Y = 3 * r0 + 2 ∧ X < 2 * c0 + c1 + 1) ∨ (Y = 3 * r0 + 3 ∧ X < c0 + 2 * c1 + 1)))
def evP (n : Nat) (c r : Nat → Int) (X Y : Int) : Prop := smI (cN c r X Y) n 0 % 2 = 0
theorem par_sum {f g h k : Nat → Int} : ∀ n, (∀ i, i < n → (f i + g i + h i + h (i + 1) + k i) % 2 = 0) → (smI f n 0 + smI g n 0 + smI k n 0 + h 0 + h n) % 2 = 0 := by
  intro n
  induction n with
  | zero => intro _; simp only [smI]; omega
  | succ n ih =>
    intro H
    have h1 := ih (fun i hi => H i (by omega))
    have h2 := H n (by omega)
    rw [smI_snoc, smI_snoc, smI_snoc, Nat.zero_add]
    omega
theorem smI_zero : ∀ (m i : Nat), smI (fun _ => 0) m i = 0 := by
  intro m
  induction m with
  | zero => intro i; rfl
  | succ m ih => intro i; rw [smI, ih]; rfl
theorem smI_one (j : Nat) : ∀ (m : Nat), smI (fun i => if i = j then 1 else 0) m 0 = if j < m then 1 else 0 := by
  intro m
  induction m with
  | zero => rfl
  | succ m ih =>
    rw [smI_snoc, ih, Nat.zero_add]
    by_cases h1 : m = j
    · rw [if_pos h1, if_neg (by omega), if_pos (by omega)]; rfl
    · rw [if_neg h1]
      by_cases h2 : j < m
      · rw [if_pos h2, if_pos (by omega)]; rfl
      · rw [if_neg h2, if_neg (by omega)]; rfl
section PY
variable {n : Nat} {c r : Nat → Int}
theorem dn_end (C : Cv n c r) {j : Nat} (hj : j ≤ n) : Dn n c r (3 * c j + 1) (3 * r j + 1) := by
  rcases Nat.lt_or_ge j n with h | h
  · exact ⟨j, h, Or.inl ⟨rfl, rfl⟩⟩
  · have : j = n := by omega
    subst this
    exact ⟨0, by have := C.1; omega, Or.inl ⟨by rw [C.2.1], by rw [C.2.2.1]⟩⟩
/-- a free dot is none of a step's -/
theorem fr_st (C : Cv n c r) {X Y : Int} (h : Fr n c r X Y) {j : Nat} (hj : j < n) : ¬ (X = 3 * c j + 1 ∧ Y = 3 * r j + 1) ∧ ¬ (X = 2 * c j + c (j + 1) + 1 ∧ Y = 2 * r j + r (j + 1) + 1) ∧ ¬ (X = c j + 2 * c (j + 1) + 1 ∧ Y = r j + 2 * r (j + 1) + 1) ∧ ¬ (X = 3 * c (j + 1) + 1 ∧ Y = 3 * r (j + 1) + 1) := by
  refine ⟨fun q => h.2.2.2.2 ⟨j, hj, Or.inl q⟩, fun q => h.2.2.2.2 ⟨j, hj, Or.inr (Or.inl q)⟩, fun q => h.2.2.2.2 ⟨j, hj, Or.inr (Or.inr q)⟩, fun q => ?_⟩
  have := dn_end C (j := j + 1) (by omega)
  rw [← q.1, ← q.2] at this
  exact h.2.2.2.2 this
theorem rc_1 {c0 r0 c1 r1 X Y : Int} (h : r1 = r0 + 1) (hY : Y = 3 * r0 + 1) : rc c0 r0 c1 r1 X Y ↔ X < 3 * c0 + 1 := by
  refine ⟨fun q => ?_, fun q => ⟨h, Or.inl ⟨hY, q⟩⟩⟩
  rcases q.2 with w | w | w <;> omega
theorem rc_2 {c0 r0 c1 r1 X Y : Int} (h : r1 = r0 + 1) (hY : Y = 3 * r0 + 2) : rc c0 r0 c1 r1 X Y ↔ X < 2 * c0 + c1 + 1 := by
  refine ⟨fun q => ?_, fun q => ⟨h, Or.inr (Or.inl ⟨hY, q⟩)⟩⟩
  rcases q.2 with w | w | w <;> omega
theorem rc_3 {c0 r0 c1 r1 X Y : Int} (h : r1 = r0 + 1) (hY : Y = 3 * r0 + 3) : rc c0 r0 c1 r1 X Y ↔ X < c0 + 2 * c1 + 1 := by
  refine ⟨fun q => ?_, fun q => ⟨h, Or.inr (Or.inr ⟨hY, q⟩)⟩⟩
  rcases q.2 with w | w | w <;> omega
theorem rc_n {c0 r0 c1 r1 X Y : Int} (h : ¬ r1 = r0 + 1) : ¬ rc c0 r0 c1 r1 X Y := fun q => h q.1
theorem rc_o {c0 r0 c1 r1 X Y : Int} (h : ¬ (Y = 3 * r0 + 1 ∨ Y = 3 * r0 + 2 ∨ Y = 3 * r0 + 3)) : ¬ rc c0 r0 c1 r1 X Y := by
  intro q
  rcases q.2 with w | w | w <;> omega
theorem rc_hor {c0 r0 c1 r1 X Y : Int} (f1 : ¬ (X + 1 = 3 * c0 + 1 ∧ Y = 3 * r0 + 1)) (f2 : ¬ (X + 1 = 2 * c0 + c1 + 1 ∧ Y = 2 * r0 + r1 + 1)) (f3 : ¬ (X + 1 = c0 + 2 * c1 + 1 ∧ Y = r0 + 2 * r1 + 1)) : rc c0 r0 c1 r1 X Y ↔ rc c0 r0 c1 r1 (X + 1) Y := by
  by_cases h : r1 = r0 + 1
  · by_cases h1 : Y = 3 * r0 + 1
    · rw [rc_1 h h1, rc_1 h h1]; omega
    · by_cases h2 : Y = 3 * r0 + 2
      · rw [rc_2 h h2, rc_2 h h2]; omega
      · by_cases h3 : Y = 3 * r0 + 3
        · rw [rc_3 h h3, rc_3 h h3]; omega
        · exact ⟨fun q => absurd q (rc_o (by omega)), fun q => absurd q (rc_o (by omega))⟩
  · exact ⟨fun q => absurd q (rc_n h), fun q => absurd q (rc_n h)⟩
theorem cN_rc (X Y : Int) (i : Nat) : cN c r X Y i = if rc (c i) (r i) (c (i + 1)) (r (i + 1)) X Y ∨ rc (c (i + 1)) (r (i + 1)) (c i) (r i) X Y then 1 else 0 := rfl
theorem ev_hor (C : Cv n c r) {X Y : Int} (h' : Fr n c r (X + 1) Y) : evP n c r X Y ↔ evP n c r (X + 1) Y := by
  have e : smI (cN c r X Y) n 0 = smI (cN c r (X + 1) Y) n 0 := by
    refine smI_congr n 0 (fun i _ hi => ?_)
    have f := fr_st C h' (j := i) (by omega)
    have t1 := rc_hor f.1 f.2.1 f.2.2.1
    have t2 := rc_hor (c0 := c (i + 1)) (r0 := r (i + 1)) (c1 := c i) (r1 := r i) (X := X) (Y := Y) f.2.2.2 (by omega) (by omega)
    rw [cN_rc, cN_rc]
    by_cases q : rc (c i) (r i) (c (i + 1)) (r (i + 1)) X Y ∨ rc (c (i + 1)) (r (i + 1)) (c i) (r i) X Y
    · rw [if_pos q, if_pos (q.imp t1.mp t2.mp)]
    · rw [if_neg q, if_neg (fun w => q (w.imp t1.mpr t2.mpr))]
  unfold evP
  rw [e]
theorem par4 {P Q S T : Prop} [Decidable P] [Decidable Q] [Decidable S] [Decidable T] (h : ((Q ↔ S) ∧ ¬ P ∧ ¬ T) ∨ ((P ↔ Q) ∧ ¬ S ∧ ¬ T) ∨ ((P ↔ T) ∧ ¬ Q ∧ ¬ S) ∨ ((S ↔ T) ∧ ¬ P ∧ ¬ Q) ∨ ((Q ↔ T) ∧ ¬ P ∧ ¬ S) ∨ ((P ↔ S) ∧ ¬ Q ∧ ¬ T)) :
    ((if P then (1 : Int) else 0) + (if Q then (1 : Int) else 0) + (if S then (1 : Int) else 0) + (if T then (1 : Int) else 0) + 0) % 2 = 0 := by
  by_cases p : P <;> by_cases q : Q <;> by_cases s : S <;> by_cases t : T <;> simp only [p, q, s, t, if_pos, if_neg, if_true, if_false, not_false_eq_true, not_true_eq_false, iff_true, iff_false, and_true, true_and, and_false, false_and, or_false, false_or, iff_self] at h ⊢ <;> first | rfl | exact h.elim | trivial
/-- a step down one row -/
theorem rc_ver {c0 r0 c1 r1 X Y : Int} (h : r1 = r0 + 1) (s : -1 ≤ c1 - c0 ∧ c1 - c0 ≤ 1)
    (f0 : ¬ (X = 3 * c0 + 1 ∧ Y = 3 * r0 + 1) ∧ ¬ (X = 2 * c0 + c1 + 1 ∧ Y = 2 * r0 + r1 + 1) ∧ ¬ (X = c0 + 2 * c1 + 1 ∧ Y = r0 + 2 * r1 + 1))
    (f1 : ¬ (X = 2 * c0 + c1 + 1 ∧ Y + 1 = 2 * r0 + r1 + 1) ∧ ¬ (X = c0 + 2 * c1 + 1 ∧ Y + 1 = r0 + 2 * r1 + 1) ∧ ¬ (X = 3 * c1 + 1 ∧ Y + 1 = 3 * r1 + 1)) :
    ((rc c0 r0 c1 r1 X (Y + 1) ↔ (3 * r0 = Y ∧ X < 3 * c0 + 1)) ∧ ¬ rc c0 r0 c1 r1 X Y ∧ ¬ (3 * r1 = Y ∧ X < 3 * c1 + 1)) ∨
    ((rc c0 r0 c1 r1 X Y ↔ rc c0 r0 c1 r1 X (Y + 1)) ∧ ¬ (3 * r0 = Y ∧ X < 3 * c0 + 1) ∧ ¬ (3 * r1 = Y ∧ X < 3 * c1 + 1)) ∨
    ((rc c0 r0 c1 r1 X Y ↔ (3 * r1 = Y ∧ X < 3 * c1 + 1)) ∧ ¬ rc c0 r0 c1 r1 X (Y + 1) ∧ ¬ (3 * r0 = Y ∧ X < 3 * c0 + 1)) := by
  by_cases h0 : Y = 3 * r0
  · left
    rw [rc_1 h (show Y + 1 = 3 * r0 + 1 from by omega)]
    exact ⟨by omega, rc_o (by omega), by omega⟩
  · by_cases h1 : Y = 3 * r0 + 1
    · right; left
      rw [rc_1 h h1, rc_2 h (show Y + 1 = 3 * r0 + 2 from by omega)]
      exact ⟨by omega, by omega, by omega⟩
    · by_cases h2 : Y = 3 * r0 + 2
      · right; left
        rw [rc_2 h h2, rc_3 h (show Y + 1 = 3 * r0 + 3 from by omega)]
        exact ⟨by omega, by omega, by omega⟩
      · by_cases h3 : Y = 3 * r0 + 3
        · right; right
          rw [rc_3 h h3]
          exact ⟨by omega, rc_o (by omega), by omega⟩
        · right; left
          exact ⟨⟨fun q => absurd q (rc_o (by omega)), fun q => absurd q (rc_o (by omega))⟩, by omega, by omega⟩
theorem or_n {A B : Prop} (h : ¬ B) : A ∨ B ↔ A := ⟨fun q => q.elim id (fun w => absurd w h), Or.inl⟩
theorem n_or {A B : Prop} (h : ¬ A) : A ∨ B ↔ B := ⟨fun q => q.elim (fun w => absurd w h) id, Or.inr⟩
theorem ev_ver (C : Cv n c r) {X Y : Int} (h : Fr n c r X Y) (h' : Fr n c r X (Y + 1)) : evP n c r X Y ↔ evP n c r X (Y + 1) := by
  have e := par_sum (f := cN c r X Y) (g := cN c r X (Y + 1)) (h := fun i => if 3 * r i = Y ∧ X < 3 * c i + 1 then 1 else 0) (k := fun _ => 0) n (fun i hi => by
    have s := C.2.2.2.2.1 i hi
    have f0 := fr_st C h hi
    have f1 := fr_st C h' hi
    rw [cN_rc, cN_rc]
    refine par4 ?_
    have : r (i + 1) = r i + 1 ∨ r i = r (i + 1) + 1 ∨ r (i + 1) = r i := by omega
    rcases this with q | q | q
    · rw [or_n (rc_n (show ¬ r i = r (i + 1) + 1 from by omega)), or_n (rc_n (show ¬ r i = r (i + 1) + 1 from by omega))]
      rcases rc_ver q ⟨s.1, s.2.1⟩ ⟨f0.1, f0.2.1, f0.2.2.1⟩ ⟨f1.2.1, f1.2.2.1, f1.2.2.2⟩ with w | w | w
      · exact Or.inl w
      · exact Or.inr (Or.inl w)
      · exact Or.inr (Or.inr (Or.inl w))
    · rw [n_or (rc_n (show ¬ r (i + 1) = r i + 1 from by omega)), n_or (rc_n (show ¬ r (i + 1) = r i + 1 from by omega))]
      rcases rc_ver (c0 := c (i + 1)) (r0 := r (i + 1)) (c1 := c i) (r1 := r i) (X := X) (Y := Y) q (by omega) ⟨f0.2.2.2, by omega, by omega⟩ ⟨by omega, by omega, f1.1⟩ with w | w | w
      · exact Or.inr (Or.inr (Or.inr (Or.inr (Or.inl w))))
      · exact Or.inr (Or.inl ⟨w.1, w.2.2, w.2.1⟩)
      · exact Or.inr (Or.inr (Or.inr (Or.inr (Or.inr w))))
    · have n1 : ∀ Z, ¬ (rc (c i) (r i) (c (i + 1)) (r (i + 1)) X Z ∨ rc (c (i + 1)) (r (i + 1)) (c i) (r i) X Z) := fun Z w => w.elim (rc_n (by omega)) (rc_n (by omega))
      refine Or.inr (Or.inr (Or.inr (Or.inl ⟨?_, n1 _, n1 _⟩)))
      omega)
  rw [smI_zero, C.2.1, C.2.2.1] at e
  unfold evP
  generalize (if 3 * r 0 = Y ∧ X < 3 * c 0 + 1 then (1 : Int) else 0) = z at e
  generalize smI (cN c r X Y) n 0 = a at e ⊢
  generalize smI (cN c r X (Y + 1)) n 0 = b at e ⊢
  omega
end PY
