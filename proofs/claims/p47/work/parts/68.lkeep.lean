/-! what every change keeps: no crossing, v and d, all steps -/
section KX
variable {a : Ab}
theorem nxx_line (N : NoXX a) (l p : Nat) : NoXX (aLine a l p) := by
  intro k k' i j hk hk' hi hj ho hn
  have hk2 : k < an a + 1 := hk
  have hk3 : k' < an a + 1 := hk'
  have e0 : ah (aLine a l p) (an a) = 0 := if_pos rfl
  by_cases q : k = an a
  · subst q; omega
  · by_cases q' : k' = an a
    · subst q'; omega
    · have e2 : ah (aLine a l p) k = ah a k := if_neg q
      have e2' : ah (aLine a l p) k' = ah a k' := if_neg q'
      have e4 : ∀ j, ap (aLine a l p) k j = ap a k j := fun j => if_neg q
      have e4' : ∀ j, ap (aLine a l p) k' j = ap a k' j := fun j => if_neg q'
      have e5 : drA (aLine a l p) k i = drA a k i := by unfold drA; rw [e4, e4]
      rw [e2] at hi
      rw [e2'] at hj
      rw [e5] at ho hn
      unfold jnA at hn
      rw [e4, e4', e4'] at hn
      exact N k k' i j (by omega) (by omega) hi hj ho hn
/-- the number that a line had before a line was wiped -/
def wx (k i : Nat) : Nat := if i < k then i else i + 1
theorem wx_lt {k i : Nat} (hk : k < an a) (hi : i < an a - 1) : wx k i < an a := by unfold wx; split <;> omega
theorem wipe_e (a : Ab) (k i : Nat) : al (aWipe a k) i = al a (wx k i) ∧ ah (aWipe a k) i = ah a (wx k i) ∧ ab (aWipe a k) i = ab a (wx k i) ∧ ∀ j, ap (aWipe a k) i j = ap a (wx k i) j := by
  unfold wx
  show (if i < k then al a i else al a (i + 1)) = _ ∧ (if i < k then ah a i else ah a (i + 1)) = _ ∧ (if i < k then ab a i else ab a (i + 1)) = _ ∧ ∀ j, (if i < k then ap a i j else ap a (i + 1) j) = _
  by_cases q : i < k
  · refine ⟨?_, ?_, ?_, fun j => ?_⟩ <;> simp only [if_pos q]
  · refine ⟨?_, ?_, ?_, fun j => ?_⟩ <;> simp only [if_neg q]
theorem wipe_d (a : Ab) (k i j : Nat) : drA (aWipe a k) i j = drA a (wx k i) j := by unfold drA; rw [(wipe_e a k i).2.2.2, (wipe_e a k i).2.2.2]
theorem nxx_wipe (N : NoXX a) {k : Nat} (hk : k < an a) : NoXX (aWipe a k) := by
  intro k2 k3 i j hk2 hk3 hi hj ho hn
  obtain ⟨-, f2, -, f4⟩ := wipe_e a k k2
  obtain ⟨-, g2, -, g4⟩ := wipe_e a k k3
  rw [f2] at hi
  rw [g2] at hj
  rw [wipe_d] at ho hn
  unfold jnA at hn
  rw [f4, g4, g4] at hn
  exact N _ _ i j (wx_lt hk hk2) (wx_lt hk hk3) hi hj ho hn
theorem step_h (a : Ab) (k p i : Nat) : ah (aStep a k p) i = if i = k then ah a k + 1 else ah a i := rfl
theorem step_p (a : Ab) (k p : Nat) {i j : Nat} (h : j ≤ ah a i) : ap (aStep a k p) i j = ap a i j := by
  show (if i = k ∧ j = ah a k + 1 then p else ap a i j) = _
  rw [if_neg]
  rintro ⟨rfl, rfl⟩
  omega
theorem step_l (a : Ab) (k p : Nat) : ap (aStep a k p) k (ah a k + 1) = p := if_pos ⟨rfl, rfl⟩
theorem step_d (a : Ab) (k p : Nat) {i j : Nat} (h : j < ah a i) : drA (aStep a k p) i j = drA a i j := by unfold drA; rw [step_p a k p (by omega), step_p a k p (by omega)]
theorem step_dl {k p : Nat} {d : Int} (hd : 0 ≤ d ∧ d ≤ 7) (hpv : (p : Int) = ap a k (ah a k) + 24 * dnI d + acI d) : drA (aStep a k p) k (ah a k) = d := by
  unfold drA
  rw [step_l, step_p a k p (Nat.le_refl _)]
  exact dir_stp hd.1 hd.2 hpv
theorem step_n {k i j : Nat} {p : Nat} (h : j < ah (aStep a k p) i) : j < ah a i ∨ (i = k ∧ j = ah a k) := by
  rw [step_h] at h
  by_cases q : i = k
  · rw [if_pos q] at h; subst q; omega
  · rw [if_neg q] at h; omega
theorem nxx_step (I : InvA a) (N : NoXX a) {k : Nat} (hk : k < an a) {d : Int} (hd : 0 ≤ d ∧ d ≤ 7) {p : Nat} (hp : besI (ap a k (ah a k)) d = p) (hw : whyA a k d = 0) : NoXX (aStep a k p) := by
  obtain ⟨hpv, hc⟩ := step_pt I hk hp hw
  have od := ac_odd hd
  have a1 := ac_rng d
  have a2 := dn_rng d
  intro k2 k3 i j hk2 hk3 hi hj ho hn
  have hk2' : k2 < an a := hk2
  have hk3' : k3 < an a := hk3
  unfold jnA at hn
  rcases step_n hi with hi2 | ⟨rfl, rfl⟩
  · rw [step_d a k p hi2] at ho hn
    rw [step_p a k p (i := k2) (j := i) (by omega)] at hn
    rcases step_n hj with hj2 | ⟨rfl, rfl⟩
    · rw [step_p a k p (i := k3) (j := j) (by omega), step_p a k p (i := k3) (j := j + 1) (by omega)] at hn
      exact N k2 k3 i j hk2' hk3' hi2 hj2 ho hn
    · rw [step_l, step_p a k3 p (i := k3) (Nat.le_refl _)] at hn
      have g := dr_rng I hk2' hi2
      have oe := (ac_odd g).1.mp ho
      have b1 := ac_rng (drA a k2 i)
      have b2 := dn_rng (drA a k2 i)
      have hq := ap_next I hk2' hi2
      generalize drA a k2 i = e at ho hn oe b1 b2 hq
      rcases hn with ⟨n1, n2⟩ | ⟨n1, n2⟩
      · exact hc ⟨od.1.mpr (by omega), k2, hk2', i, hi2, Or.inl ⟨by omega, by omega⟩⟩
      · exact hc ⟨od.1.mpr (by omega), k2, hk2', i, hi2, Or.inr ⟨by omega, by omega⟩⟩
  · rw [step_dl hd hpv] at ho hn
    rw [step_p a k2 p (i := k2) (j := ah a k2) (Nat.le_refl _)] at hn
    rcases step_n hj with hj2 | ⟨rfl, rfl⟩
    · rw [step_p a k2 p (i := k3) (j := j) (by omega), step_p a k2 p (i := k3) (j := j + 1) (by omega)] at hn
      exact hc ⟨ho, k3, hk3', j, hj2, hn⟩
    · rw [step_l, step_p a k3 p (i := k3) (Nat.le_refl _)] at hn
      have := od.1.mp ho
      omega
/-- all steps of all lines -/
def totA (a : Ab) : Nat → Nat → Nat
  | 0, _ => 0
  | m + 1, i => ah a i + totA a m (i + 1)
def tot (a : Ab) : Nat := totA a (an a) 0
theorem totA_congr {a b : Ab} : ∀ m i : Nat, (∀ j, i ≤ j → j < i + m → ah a j = ah b j) → totA a m i = totA b m i := by
  intro m
  induction m with
  | zero => intro i _; rfl
  | succ m ih =>
    intro i h
    rw [totA, totA, h i (Nat.le_refl _) (by omega), ih (i + 1) (fun j h1 h2 => h j (by omega) (by omega))]
theorem totA_snoc (a : Ab) : ∀ m i : Nat, totA a (m + 1) i = totA a m i + ah a (i + m) := by
  intro m
  induction m with
  | zero => intro i; rw [totA, totA, totA]; simp
  | succ m ih =>
    intro i
    rw [totA, ih (i + 1), totA, show i + 1 + m = i + (m + 1) by omega]; omega
theorem tot_line (a : Ab) (l p : Nat) : tot (aLine a l p) = tot a := by
  unfold tot
  rw [show an (aLine a l p) = an a + 1 from rfl, totA_snoc, show ah (aLine a l p) (0 + an a) = 0 from by rw [Nat.zero_add]; exact if_pos rfl, Nat.add_zero]
  exact totA_congr _ _ (fun j _ h => if_neg (by omega))
theorem totA_step (a : Ab) (k p : Nat) : ∀ m i : Nat, totA (aStep a k p) m i ≤ totA a m i + 1 ∧ (k < i → totA (aStep a k p) m i = totA a m i) := by
  intro m
  induction m with
  | zero => intro i; exact ⟨by rw [totA, totA]; omega, fun _ => rfl⟩
  | succ m ih =>
    intro i
    obtain ⟨h1, h2⟩ := ih (i + 1)
    have h3 : k ≤ i → totA (aStep a k p) m (i + 1) = totA a m (i + 1) := fun q => h2 (by omega)
    rw [totA, totA, step_h]
    by_cases q : i = k
    · rw [if_pos q, h3 (by omega), q]; exact ⟨by omega, fun z => by omega⟩
    · rw [if_neg q]; exact ⟨by omega, fun z => by rw [h3 (by omega)]⟩
theorem tot_step (a : Ab) (k p : Nat) : tot (aStep a k p) ≤ tot a + 1 := (totA_step a k p (an a) 0).1
theorem totA_wipe (a : Ab) (k : Nat) : ∀ m i : Nat, (k ≤ i → totA (aWipe a k) m i = totA a m (i + 1)) ∧ totA (aWipe a k) m i ≤ totA a (m + 1) i := by
  intro m
  induction m with
  | zero => intro i; exact ⟨fun _ => rfl, by rw [totA]; exact Nat.zero_le _⟩
  | succ m ih =>
    intro i
    obtain ⟨h1, h2⟩ := ih (i + 1)
    have e := (wipe_e a k i).2.1
    unfold wx at e
    rw [totA, e]
    by_cases q : i < k
    · rw [if_pos q]
      refine ⟨fun z => by omega, ?_⟩
      rw [show totA a (m + 1 + 1) i = ah a i + totA a (m + 1) (i + 1) from rfl]; omega
    · rw [if_neg q, h1 (by omega)]
      refine ⟨fun _ => rfl, ?_⟩
      rw [show totA a (m + 1 + 1) i = ah a i + totA a (m + 1) (i + 1) from rfl, show totA a (m + 1) (i + 1) = ah a (i + 1) + totA a m (i + 1 + 1) from rfl]; omega
theorem tot_wipe (a : Ab) {k : Nat} (hk : k < an a) : tot (aWipe a k) ≤ tot a := by
  have h := (totA_wipe a k (an a - 1) 0).2
  rw [show an a - 1 + 1 = an a by omega] at h
  exact h
theorem totA_mem (a : Ab) : ∀ m i k : Nat, i ≤ k → k < i + m → ah a k ≤ totA a m i := by
  intro m
  induction m with
  | zero => intro i k h1 h2; omega
  | succ m ih =>
    intro i k h1 h2
    rw [totA]
    by_cases q : i = k
    · subst q; omega
    · have := ih (i + 1) k (by omega) (by omega); omega
end KX
section RL
variable {ν ν' : Nat → Int32} {ζ ζ' : Nat → Int64} {a : Ab}
theorem uSr_e (H : RepL ν ζ a) (I : InvA a) : ∀ m i : Nat, i + m ≤ an a → uSr ν m i = totA a m i := by
  intro m
  induction m with
  | zero => intro i _; rfl
  | succ m ih =>
    intro i h
    have h6 := h60 I (k := i) (by omega)
    rw [uSr, totA, (H.2.2 i (by omega)).2.2.1, tnN (by omega), ih (i + 1) (by omega)]
theorem uS_e (H : RepL ν ζ a) (I : InvA a) : uS ν = tot a := by
  have h8 := I.1
  unfold uS tot
  rw [H.1, tnN (by omega)]
  exact uSr_e H I _ _ (by omega)
theorem rl_gap (H : RepL ν ζ a) (I : InvA a) (g : Nat) : RepL (upd ν 33 (iI (g : Int))) ζ (aGap a g) := by
  have h8 := I.1
  refine ⟨(upd_ne (by omega)).trans H.1, upd_eq, fun k hk => ?_⟩
  have hk' : k < an a := hk
  obtain ⟨h1, h2, h3, h4, h5⟩ := H.2.2 k hk
  exact ⟨(upd_ne (by omega)).trans h1, (upd_ne (by omega)).trans h2, (upd_ne (by omega)).trans h3, (upd_ne (by omega)).trans h4, h5⟩
theorem rl_lab (H : RepL ν ζ a) (I : InvA a) {k : Nat} (hk : k < an a) (b : Int) : RepL (upd ν (4 * k + 3) (iI b)) ζ (aLab a k b) := by
  have h8 := I.1
  refine ⟨(upd_ne (by omega)).trans H.1, (upd_ne (by omega)).trans H.2.1, fun i hi => ?_⟩
  have hi' : i < an a := hi
  obtain ⟨h1, h2, h3, h4, h5⟩ := H.2.2 i hi
  refine ⟨(upd_ne (by omega)).trans h1, (upd_ne (by omega)).trans h2, (upd_ne (by omega)).trans h3, ?_, h5⟩
  show _ = iI (if i = k then b else ab a i)
  by_cases q : i = k
  · rw [if_pos q, q, upd_eq]
  · rw [if_neg q, upd_ne (by omega)]; exact h4
theorem rl_lev (H : RepL ν ζ a) (I : InvA a) {k : Nat} (hk : k < an a) (l : Nat) : RepL (upd ν (4 * k) (iI (l : Int))) ζ (aLev a k l) := by
  have h8 := I.1
  refine ⟨(upd_ne (by omega)).trans H.1, (upd_ne (by omega)).trans H.2.1, fun i hi => ?_⟩
  have hi' : i < an a := hi
  obtain ⟨h1, h2, h3, h4, h5⟩ := H.2.2 i hi
  refine ⟨?_, (upd_ne (by omega)).trans h2, (upd_ne (by omega)).trans h3, (upd_ne (by omega)).trans h4, h5⟩
  show _ = iI ((if i = k then l else al a i : Nat) : Int)
  by_cases q : i = k
  · rw [if_pos q, q, upd_eq]
  · rw [if_neg q, upd_ne (by omega)]; exact h1
theorem rl_line (H : RepL ν ζ a) (I : InvA a) (hn : an a < 8) {l p : Nat} (e0 : ν' 32 = iI ((an a + 1 : Nat) : Int)) (e1 : ν' (4 * an a) = iI (l : Int)) (e2 : ν' (4 * an a + 1) = iI (p : Int)) (e3 : ν' (4 * an a + 2) = iI ((0 : Nat) : Int)) (e4 : ν' (4 * an a + 3) = iI (-1)) (e5 : ∀ x, x ≠ 32 → ¬ (4 * an a ≤ x ∧ x < 4 * an a + 4) → ν' x = ν x) (e6 : ∀ x, ¬ (3 * an a ≤ x ∧ x < 3 * an a + 3) → ζ' x = ζ x) (e7 : ∀ q, q < 3 → ζ' (3 * an a + q) = lN 0) : RepL ν' ζ' (aLine a l p) := by
  refine ⟨e0, (e5 33 (by omega) (by omega)).trans H.2.1, fun i hi => ?_⟩
  have hi' : i < an a + 1 := hi
  by_cases q : i = an a
  · subst q
    refine ⟨e1.trans (congrArg (fun z : Nat => iI (z : Int)) (if_pos rfl).symm), e2.trans (congrArg (fun z : Nat => iI (z : Int)) (if_pos rfl).symm), e3.trans (congrArg (fun z : Nat => iI (z : Int)) (if_pos rfl).symm), e4.trans (congrArg iI (if_pos rfl).symm), fun y hy => ?_⟩
    rw [e7 y hy, show ah (aLine a l p) (an a) = 0 from if_pos rfl, show min 20 (0 - 20 * y) = 0 by omega]; rfl
  · have hi2 : i < an a := by omega
    obtain ⟨h1, h2, h3, h4, h5⟩ := H.2.2 i hi2
    have g1 : al (aLine a l p) i = al a i := if_neg q
    have g2 : ah (aLine a l p) i = ah a i := if_neg q
    have g3 : ab (aLine a l p) i = ab a i := if_neg q
    have g4 : ∀ j, ap (aLine a l p) i j = ap a i j := fun j => if_neg q
    have g5 : drA (aLine a l p) i = drA a i := by funext j; unfold drA; rw [g4, g4]
    rw [g1, g2, g3, g4, g5, e5 _ (by omega) (by omega), e5 _ (by omega) (by omega), e5 _ (by omega) (by omega), e5 _ (by omega) (by omega)]
    exact ⟨h1, h2, h3, h4, fun y hy => (e6 _ (by omega)).trans (h5 y hy)⟩
theorem rl_wipe (H : RepL ν ζ a) {k : Nat} (e0 : ν' 32 = iI ((an a - 1 : Nat) : Int)) (e1 : ν' 33 = ν 33) (e2 : ∀ i c, i < an a - 1 → c < 4 → ν' (4 * i + c) = ν (4 * wx k i + c)) (e3 : ∀ i q, i < an a - 1 → q < 3 → ζ' (3 * i + q) = ζ (3 * wx k i + q)) (hk : k < an a) : RepL ν' ζ' (aWipe a k) := by
  refine ⟨e0, e1.trans H.2.1, fun i hi => ?_⟩
  have hi' : i < an a - 1 := hi
  obtain ⟨h1, h2, h3, h4, h5⟩ := H.2.2 _ (wx_lt hk hi')
  obtain ⟨g1, g2, g3, g4⟩ := wipe_e a k i
  have g5 : drA (aWipe a k) i = drA a (wx k i) := by funext j; exact wipe_d a k i j
  have e2' := e2 i 0 hi' (by omega)
  rw [g1, g2, g3, g4, g5, e2 i 1 hi' (by omega), e2 i 2 hi' (by omega), e2 i 3 hi' (by omega)]
  exact ⟨e2'.trans h1, h2, h3, h4, fun q hq => (e3 i q hi' hq).trans (h5 q hq)⟩
theorem rl_step (H : RepL ν ζ a) (I : InvA a) {k : Nat} (hk : k < an a) (hlt : ah a k < 60) {d : Int} (hd : 0 ≤ d ∧ d ≤ 7) {p : Nat} (hpv : (p : Int) = ap a k (ah a k) + 24 * dnI d + acI d) :
    RepL (upd ν (4 * k + 2) (iI ((ah a k + 1 : Nat) : Int))) (vp_updL ζ (3 * k + ah a k / 20) (lN (pkN (drA a k) (ah a k % 20) (20 * (ah a k / 20)) + d.toNat * 8 ^ (ah a k % 20)))) (aStep a k p) := by
  have h8 := I.1
  refine ⟨(upd_ne (by omega)).trans H.1, (upd_ne (by omega)).trans H.2.1, fun i hi => ?_⟩
  have hi' : i < an a := hi
  obtain ⟨h1, h2, h3, h4, h5⟩ := H.2.2 i hi
  refine ⟨(upd_ne (by omega)).trans h1, (upd_ne (by omega)).trans (h2.trans (congrArg (fun z : Nat => iI (z : Int)) (step_p a k p (Nat.zero_le _)).symm)), ?_, (upd_ne (by omega)).trans h4, fun q hq => ?_⟩
  · rw [step_h]
    by_cases c : i = k
    · rw [if_pos c, c, upd_eq]
    · rw [if_neg c, upd_ne (by omega)]; exact h3
  · rw [step_h]
    unfold vp_updL
    by_cases c : i = k
    · subst c
      rw [if_pos rfl]
      have old : ∀ m j, (∀ y, j ≤ y → y < j + m → y < ah a i) → pkN (drA (aStep a i p) i) m j = pkN (drA a i) m j := fun m j hh => pkN_congr m j (fun y y1 y2 => step_d a i p (hh y y1 y2))
      by_cases c2 : q = ah a i / 20
      · subst c2
        rw [if_pos rfl, show min 20 (ah a i + 1 - 20 * (ah a i / 20)) = ah a i % 20 + 1 by omega, pkN_snoc, old _ _ (fun y y1 y2 => by omega), show 20 * (ah a i / 20) + ah a i % 20 = ah a i by omega, step_dl hd hpv]
      · rw [if_neg (by omega), h5 q hq]
        by_cases c3 : q < ah a i / 20
        · rw [show min 20 (ah a i + 1 - 20 * q) = 20 by omega, show min 20 (ah a i - 20 * q) = 20 by omega, old _ _ (fun y y1 y2 => by omega)]
        · rw [show min 20 (ah a i + 1 - 20 * q) = 0 by omega, show min 20 (ah a i - 20 * q) = 0 by omega]; rfl
    · rw [if_neg c, if_neg (by omega), h5 q hq]
      have e : drA (aStep a k p) i = drA a i := by
        funext j
        unfold drA
        have g : ∀ j, ap (aStep a k p) i j = ap a i j := fun j => if_neg (fun z => c z.1)
        rw [g, g]
      rw [e]
theorem toL8 {d : Int} (h : 0 ≤ d ∧ d ≤ 7) : (iI d).toInt64 = lN d.toNat := by rcases d8 h with rfl | rfl | rfl | rfl | rfl | rfl | rfl | rfl <;> rfl
/-- a direction is put behind the others -/
theorem bit_step {f : Nat → Int} (hf : ∀ j, 0 ≤ f j ∧ f j ≤ 7) {m s : Nat} (hm : m < 20) {d : Int} (hd : 0 ≤ d ∧ d ≤ 7) : lN (pkN f m s) ||| ((iI d).toInt64 <<< ((nI (3 * m)).toInt64 &&& 63)) = lN (pkN f m s + d.toNat * 8 ^ m) := by
  have h1 := pkN_lt hf m s
  have h2 := pow8_le (m := m + 1) (by omega)
  have h3 : d.toNat * 8 ^ m ≤ 7 * 8 ^ m := Nat.mul_le_mul_right _ (by omega)
  rw [Nat.pow_succ] at h2
  rw [toL8 hd, wb_shl _ (by omega), pow8, wb_or (by omega) (by omega)]
  refine congrArg lN ?_
  rw [← pow8 m] at h1 ⊢
  rw [Nat.add_comm, Nat.mul_comm, Nat.two_pow_add_eq_or_of_lt h1, Nat.or_comm]
end RL
