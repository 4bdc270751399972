/-! sums, pairs too near, ranks -/
def smI (f : Nat → Int) : Nat → Nat → Int
  | 0, _ => 0
  | m + 1, i => f i + smI f m (i + 1)
theorem smI_snoc (f : Nat → Int) : ∀ (m i : Nat), smI f (m + 1) i = smI f m i + f (i + m) := by
  intro m
  induction m with
  | zero => intro i; simp [smI]
  | succ m ih =>
    intro i
    rw [smI, ih (i + 1), smI, show i + 1 + m = i + (m + 1) by omega]; omega
theorem smI_congr {f g : Nat → Int} : ∀ (m i : Nat), (∀ j, i ≤ j → j < i + m → f j = g j) → smI f m i = smI g m i := by
  intro m
  induction m with
  | zero => intro i _; rfl
  | succ m ih =>
    intro i h
    rw [smI, smI, h i (Nat.le_refl _) (by omega), ih (i + 1) (fun j h1 h2 => h j (by omega) (by omega))]
theorem smI_add {f g : Nat → Int} : ∀ (m i : Nat), smI (fun j => f j + g j) m i = smI f m i + smI g m i := by
  intro m
  induction m with
  | zero => intro i; rfl
  | succ m ih => intro i; rw [smI, smI, smI, ih (i + 1)]; omega
theorem smI_swap {g : Nat → Nat → Int} (hs : ∀ i j, g i j = g j i) : ∀ n : Nat, smI (fun i => smI (fun j => g i j) (n - (i + 1)) (i + 1)) n 0 = smI (fun i => smI (fun j => g i j) i 0) n 0 := by
  intro n
  induction n with
  | zero => rfl
  | succ n ih =>
    rw [smI_snoc, smI_snoc]
    have e1 : smI (fun i => smI (fun j => g i j) (n + 1 - (i + 1)) (i + 1)) n 0 = smI (fun i => smI (fun j => g i j) (n - (i + 1)) (i + 1) + g i n) n 0 := by
      refine smI_congr n 0 (fun i h1 h2 => ?_)
      show smI (fun j => g i j) (n + 1 - (i + 1)) (i + 1) = smI (fun j => g i j) (n - (i + 1)) (i + 1) + g i n
      rw [show n + 1 - (i + 1) = (n - (i + 1)) + 1 by omega, smI_snoc, show i + 1 + (n - (i + 1)) = n by omega]
    have e2 : smI (fun i => g i n) n 0 = smI (fun j => g n j) n 0 := smI_congr n 0 (fun i _ _ => hs i n)
    rw [e1, smI_add (f := fun i => smI (fun j => g i j) (n - (i + 1)) (i + 1)) (g := fun i => g i n), ih, e2]
    show _ + smI (fun j => g (0 + n) j) (n + 1 - (0 + n + 1)) (0 + n + 1) = _ + smI (fun j => g (0 + n) j) (0 + n) 0
    rw [Nat.zero_add, Nat.sub_self, smI]
    omega
theorem minJ_lt (f : Nat → Int) (t : Int) : ∀ (m j : Nat) (acc : Int), minJ f m j acc < t ↔ acc < t ∨ ∃ y, j ≤ y ∧ y < j + m ∧ f y < t := by
  intro m
  induction m with
  | zero => intro j acc; exact ⟨Or.inl, fun h => h.elim id (fun ⟨y, h1, h2, _⟩ => absurd h2 (by omega))⟩
  | succ m ih =>
    intro j acc
    rw [minJ, ih]
    constructor
    · rintro (h | ⟨y, h1, h2, h3⟩)
      · by_cases q : acc < t
        · exact Or.inl q
        · exact Or.inr ⟨j, Nat.le_refl _, by omega, by omega⟩
      · exact Or.inr ⟨y, by omega, by omega, h3⟩
    · rintro (h | ⟨y, h1, h2, h3⟩)
      · exact Or.inl (by omega)
      · by_cases q : y = j
        · subst q; exact Or.inl (by omega)
        · exact Or.inr ⟨y, by omega, by omega, h3⟩
theorem minI_lt (f : Nat → Nat → Int) (mj j0 : Nat) (t : Int) : ∀ (m i : Nat) (acc : Int), minI f mj j0 m i acc < t ↔ acc < t ∨ ∃ x y, i ≤ x ∧ x < i + m ∧ j0 ≤ y ∧ y < j0 + mj ∧ f x y < t := by
  intro m
  induction m with
  | zero => intro i acc; exact ⟨Or.inl, fun h => h.elim id (fun ⟨x, y, h1, h2, _⟩ => absurd h2 (by omega))⟩
  | succ m ih =>
    intro i acc
    rw [minI, ih, minJ_lt]
    constructor
    · rintro ((h | ⟨y, h1, h2, h3⟩) | ⟨x, y, h1, h2, h3⟩)
      · exact Or.inl h
      · exact Or.inr ⟨i, y, Nat.le_refl _, by omega, h1, h2, h3⟩
      · exact Or.inr ⟨x, y, by omega, by omega, h3⟩
    · rintro (h | ⟨x, y, h1, h2, h3⟩)
      · exact Or.inl (Or.inl h)
      · by_cases q : x = i
        · subst q; exact Or.inl (Or.inr ⟨y, h3⟩)
        · exact Or.inr ⟨x, y, by omega, by omega, h3⟩
def nearA (a : Ab) (i j : Nat) : Prop := ab a i ≠ -1 ∧ ab a j ≠ -1 ∧ dlA a i (ab a i).toNat j (ab a j).toNat < ag a
theorem dst_symm (p q : Int) : dstI p q = dstI q p := by unfold dstI; omega
theorem near_symm {a : Ab} (I : InvA a) {i j : Nat} (h : nearA a i j) : nearA a j i := by
  obtain ⟨h1, h2, h3⟩ := h
  have hg := I.2.2.1
  refine ⟨h2, h1, ?_⟩
  unfold dlA at h3 ⊢
  rw [minI_lt] at h3 ⊢
  rcases h3 with h3 | ⟨x, y, a1, a2, a3, a4, a5⟩
  · exact Or.inl h3
  · exact Or.inr ⟨y, x, a3, a4, a1, a2, by rw [dst_symm]; exact a5⟩
noncomputable def nrA (a : Ab) (i j : Nat) : Int := cIf (nearA a i j) 1 0
theorem nr_symm {a : Ab} (I : InvA a) (i j : Nat) : nrA a i j = nrA a j i := by
  unfold nrA
  rw [show nearA a i j = nearA a j i from propext ⟨near_symm I, near_symm I⟩]
theorem pigeon : ∀ (n : Nat) (f : Nat → Nat), (∀ i, i < n → f i < n) → (∀ i j, i < n → j < n → f i = f j → i = j) → ∀ v, v < n → ∃ i, i < n ∧ f i = v := by
  intro n
  induction n with
  | zero => intro f _ _ v hv; omega
  | succ n ih =>
    intro f h1 h2 v hv
    have hw : ∀ i, i < n → f i ≠ f n := fun i hi he => by have := h2 i n (by omega) (by omega) he; omega
    have hlt : ∀ i, i < n → (if f i = n then f n else f i) < n := by
      intro i hi
      have a1 := h1 i (by omega)
      have a2 := h1 n (by omega)
      have a3 := hw i hi
      split <;> omega
    have hinj : ∀ i j, i < n → j < n → (if f i = n then f n else f i) = (if f j = n then f n else f j) → i = j := by
      intro i j hi hj he
      have a3 := hw i hi
      have a4 := hw j hj
      by_cases q1 : f i = n
      · by_cases q2 : f j = n
        · exact h2 i j (by omega) (by omega) (by omega)
        · rw [if_pos q1, if_neg q2] at he; omega
      · by_cases q2 : f j = n
        · rw [if_neg q1, if_pos q2] at he; omega
        · rw [if_neg q1, if_neg q2] at he; exact h2 i j (by omega) (by omega) he
    have hi := ih (fun i => if f i = n then f n else f i) hlt hinj
    by_cases c : v = n
    · by_cases c2 : f n = n
      · exact ⟨n, by omega, by omega⟩
      · obtain ⟨i, b1, b2⟩ := hi (f n) (by have := h1 n (by omega); omega)
        have b3 : (if f i = n then f n else f i) = f n := b2
        by_cases q : f i = n
        · exact ⟨i, by omega, by omega⟩
        · rw [if_neg q] at b3; exact absurd b3 (hw i b1)
    · obtain ⟨i, b1, b2⟩ := hi v (by omega)
      have b3 : (if f i = n then f n else f i) = v := b2
      by_cases q : f i = n
      · rw [if_pos q] at b3; exact ⟨n, by omega, b3⟩
      · rw [if_neg q] at b3; exact ⟨i, by omega, b3⟩
/-- line j stands ahead of line i -/
def ahd (a : Ab) (i j : Nat) : Prop := al a j < al a i ∨ (al a j = al a i ∧ j < i)
noncomputable def rkA (a : Ab) (i : Nat) : Nat → Nat → Nat
  | 0, _ => 0
  | m + 1, j => cIf (ahd a i j) 1 0 + rkA a i m (j + 1)
noncomputable def rank (a : Ab) (i : Nat) : Nat := rkA a i (an a) 0
theorem rk_le (a : Ab) {i i' : Nat} (h : ahd a i' i) : ∀ (m j : Nat), rkA a i m j ≤ rkA a i' m j ∧ (j ≤ i → i < j + m → rkA a i m j < rkA a i' m j) := by
  have tr : ∀ j, ahd a i j → ahd a i' j := by intro j hj; unfold ahd at *; omega
  have ni : ¬ ahd a i i := by unfold ahd; omega
  intro m
  induction m with
  | zero => intro j; exact ⟨Nat.le_refl _, fun h1 h2 => by omega⟩
  | succ m ih =>
    intro j
    obtain ⟨i1, i2⟩ := ih (j + 1)
    rw [rkA, rkA]
    by_cases q : ahd a i j
    · rw [cIf_pos q, cIf_pos (tr j q)]
      exact ⟨by omega, fun h1 h2 => by
        have hne : j ≠ i := fun z => ni (by rw [z] at q; exact q)
        have := i2 (by omega) (by omega)
        omega⟩
    · rw [cIf_neg q]
      by_cases r : ahd a i' j
      · rw [cIf_pos r]; exact ⟨by omega, fun _ _ => by omega⟩
      · rw [cIf_neg r]
        exact ⟨by omega, fun h1 h2 => by
          have hne : j ≠ i := fun z => r (by rw [z]; exact h)
          have := i2 (by omega) (by omega)
          omega⟩
theorem rk_lt (a : Ab) (i : Nat) : ∀ (m j : Nat), rkA a i m j ≤ m ∧ (j ≤ i → i < j + m → rkA a i m j < m) := by
  have ni : ¬ ahd a i i := by unfold ahd; omega
  intro m
  induction m with
  | zero => intro j; exact ⟨Nat.le_refl _, fun h1 h2 => by omega⟩
  | succ m ih =>
    intro j
    obtain ⟨i1, i2⟩ := ih (j + 1)
    rw [rkA]
    by_cases q : ahd a i j
    · rw [cIf_pos q]
      exact ⟨by omega, fun h1 h2 => by
        have hne : j ≠ i := fun z => ni (by rw [z] at q; exact q)
        have := i2 (by omega) (by omega)
        omega⟩
    · rw [cIf_neg q]; exact ⟨by omega, fun _ _ => by omega⟩
theorem rank_lt {a : Ab} {i : Nat} (hi : i < an a) : rank a i < an a := (rk_lt a i (an a) 0).2 (Nat.zero_le _) (by omega)
theorem rank_inj {a : Ab} {i j : Nat} (hi : i < an a) (hj : j < an a) (h : rank a i = rank a j) : i = j := by
  refine Classical.byContradiction (fun q => ?_)
  by_cases c : ahd a j i
  · have := (rk_le a c (an a) 0).2 (Nat.zero_le _) (by omega)
    unfold rank at h; omega
  · have c2 : ahd a i j := by unfold ahd at *; omega
    have := (rk_le a c2 (an a) 0).2 (Nat.zero_le _) (by omega)
    unfold rank at h; omega
theorem rank_sur {a : Ab} {v : Nat} (hv : v < an a) : ∃ i, i < an a ∧ rank a i = v := pigeon (an a) (rank a) (fun _ h => rank_lt h) (fun _ _ h1 h2 h3 => rank_inj h1 h2 h3) v hv
