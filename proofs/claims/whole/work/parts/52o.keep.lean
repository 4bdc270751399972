/-! what keeps the lines from crossing -/
section KP
variable {a : Ab}
theorem nox_gap (N : NoX a) (g : Nat) : NoX (aGap a g) := N
theorem nox_lab (N : NoX a) (k : Nat) (b : Int) : NoX (aLab a k b) := N
theorem nox_lev (N : NoX a) (k l : Nat) : NoX (aLev a k l) := N
theorem nox_line (N : NoX a) (l p : Nat) : NoX (aLine a l p) := by
  intro k i j hk hi hj ho hn
  by_cases q : k = an a
  · subst q
    have e : ah (aLine a l p) (an a) = 0 := if_pos rfl
    omega
  · have hk' : k < an a := by have : k < an a + 1 := hk; omega
    have e2 : ah (aLine a l p) k = ah a k := if_neg q
    have e4 : ∀ j, ap (aLine a l p) k j = ap a k j := fun j => if_neg q
    have e5 : drA (aLine a l p) k i = drA a k i := by unfold drA; rw [e4, e4]
    rw [e2] at hi hj
    rw [e5] at ho hn
    unfold jnA at hn
    rw [e4, e4, e4] at hn
    exact N k i j hk' hi hj ho hn
theorem nox_wipe (N : NoX a) {k : Nat} (hk : k < an a) : NoX (aWipe a k) := by
  intro k2 i j hk2 hi hj ho hn
  have hk2' : k2 < an a - 1 := hk2
  by_cases q : k2 < k
  · have e2 : ah (aWipe a k) k2 = ah a k2 := if_pos q
    have e4 : ∀ j, ap (aWipe a k) k2 j = ap a k2 j := fun j => if_pos q
    have e5 : drA (aWipe a k) k2 i = drA a k2 i := by unfold drA; rw [e4, e4]
    rw [e2] at hi hj
    rw [e5] at ho hn
    unfold jnA at hn
    rw [e4, e4, e4] at hn
    exact N k2 i j (by omega) hi hj ho hn
  · have e2 : ah (aWipe a k) k2 = ah a (k2 + 1) := if_neg q
    have e4 : ∀ j, ap (aWipe a k) k2 j = ap a (k2 + 1) j := fun j => if_neg q
    have e5 : drA (aWipe a k) k2 i = drA a (k2 + 1) i := by unfold drA; rw [e4, e4]
    rw [e2] at hi hj
    rw [e5] at ho hn
    unfold jnA at hn
    rw [e4, e4, e4] at hn
    exact N (k2 + 1) i j (by omega) hi hj ho hn
theorem step_pt (I : InvA a) {k : Nat} (hk : k < an a) {d : Int} {p : Nat} (hp : besI (ap a k (ah a k)) d = p) (hw : whyA a k d = 0) : (p : Int) = ap a k (ah a k) + 24 * dnI d + acI d ∧ ¬ crossA a (ap a k (ah a k)) d := by
  have hl := (I.2.2.2.1 k hk).2.2.2.1 (ah a k) (Nat.le_refl _)
  unfold whyA at hw
  rw [hp] at hw
  have c1 : ¬ ringA a k := fun q => by rw [cIf_pos q] at hw; omega
  rw [cIf_neg c1] at hw
  have c2 : ¬ ah a k = 60 := fun q => by rw [cIf_pos q] at hw; omega
  rw [cIf_neg c2] at hw
  have c3 : ¬ (p : Int) = -1 := fun q => by omega
  rw [cIf_neg c3] at hw
  have c4 : ¬ (¬ (3 ≤ ah a k ∧ (p : Int) = ap a k 0) ∧ ∃ k', k' < an a ∧ onL a k' p) := fun q => by rw [cIf_pos q] at hw; omega
  rw [cIf_neg c4] at hw
  have c5 : ¬ crossA a (ap a k (ah a k)) d := fun q => by rw [cIf_pos q] at hw; omega
  refine ⟨?_, c5⟩
  unfold besI at hp
  by_cases t : 0 ≤ (ap a k (ah a k) : Int) % 24 + acI d ∧ (ap a k (ah a k) : Int) % 24 + acI d < 24 ∧ 0 ≤ (ap a k (ah a k) : Int) / 24 + dnI d ∧ (ap a k (ah a k) : Int) / 24 + dnI d < 16
  · rw [if_pos t] at hp; omega
  · rw [if_neg t] at hp; omega
theorem nox_step (I : InvA a) (N : NoX a) {k : Nat} (hk : k < an a) {d : Int} (hd : 0 ≤ d ∧ d ≤ 7) {p : Nat} (hp : besI (ap a k (ah a k)) d = p) (hw : whyA a k d = 0) : NoX (aStep a k p) := by
  obtain ⟨hpv, hc⟩ := step_pt I hk hp hw
  have eh : ∀ i, ah (aStep a k p) i = if i = k then ah a k + 1 else ah a i := fun _ => rfl
  have ep : ∀ i j, ap (aStep a k p) i j = if i = k ∧ j = ah a k + 1 then p else ap a i j := fun _ _ => rfl
  have od := ac_odd hd
  have a1 := ac_rng d
  have a2 := dn_rng d
  intro k2 i j hk2 hi hj ho hn
  by_cases q : k2 = k
  · subst q
    rw [eh, if_pos rfl] at hi hj
    have en : ∀ i, i ≤ ah a k2 → ap (aStep a k2 p) k2 i = ap a k2 i := fun i hi => by rw [ep, if_neg (by omega)]
    have el : ap (aStep a k2 p) k2 (ah a k2 + 1) = p := by rw [ep, if_pos ⟨rfl, rfl⟩]
    have dl : drA (aStep a k2 p) k2 (ah a k2) = d := by
      unfold drA
      rw [el, en _ (Nat.le_refl _)]
      exact dir_stp hd.1 hd.2 hpv
    have dn : ∀ i, i < ah a k2 → drA (aStep a k2 p) k2 i = drA a k2 i := fun i hi => by
      unfold drA
      rw [en _ (by omega), en _ (by omega)]
    by_cases hi2 : i = ah a k2
    · subst hi2
      rw [dl] at ho hn
      rw [en _ (Nat.le_refl _)] at hn
      by_cases hj2 : j = ah a k2
      · subst hj2
        unfold jnA at hn
        rw [en _ (Nat.le_refl _)] at hn
        have := od.1.mp ho
        omega
      · have hj3 : j < ah a k2 := by omega
        unfold jnA at hn
        rw [en _ (by omega), en _ (by omega)] at hn
        exact hc ⟨ho, k2, hk, j, hj3, hn⟩
    · have hi3 : i < ah a k2 := by omega
      rw [dn i hi3] at ho hn
      rw [en _ (by omega)] at hn
      by_cases hj2 : j = ah a k2
      · subst hj2
        unfold jnA at hn
        rw [en _ (Nat.le_refl _), el] at hn
        have g := dr_rng I hk hi3
        have oe := (ac_odd g).1.mp ho
        have b1 := ac_rng (drA a k2 i)
        have b2 := dn_rng (drA a k2 i)
        have hq := ap_next I hk hi3
        generalize drA a k2 i = e at ho hn oe b1 b2 hq
        rcases hn with ⟨n1, n2⟩ | ⟨n1, n2⟩
        · refine hc ⟨od.1.mpr (by omega), k2, hk, i, hi3, Or.inl ⟨by omega, by omega⟩⟩
        · refine hc ⟨od.1.mpr (by omega), k2, hk, i, hi3, Or.inr ⟨by omega, by omega⟩⟩
      · unfold jnA at hn
        rw [en _ (by omega), en _ (by omega)] at hn
        exact N k2 i j hk hi3 (by omega) ho hn
  · rw [eh, if_neg q] at hi hj
    have en : ∀ i, ap (aStep a k p) k2 i = ap a k2 i := fun i => by rw [ep, if_neg (fun w => q w.1)]
    have dn : drA (aStep a k p) k2 i = drA a k2 i := by unfold drA; rw [en, en]
    rw [dn] at ho hn
    unfold jnA at hn
    rw [en, en, en] at hn
    exact N k2 i j hk2 hi hj ho hn
end KP
/-! the model's row after a wiped line; snapshots; undo -/
theorem upd_ne {f : Nat → Int32} {k x : Nat} {v : Int32} (h : x ≠ k) : upd f k v x = f x := by unfold upd; rw [if_neg h]
section WP
variable {σ : Sh} {μ : Mo} {η : Hi} {a : Ab}
theorem sm_w39 (x : Int32) : ∀ (m v fu : Nat) (μ : Mo), v + m = 514 → m < fu → 2 ≤ v →
    fX7_wipes_39 x fu (iI v) μ = some (M_row μ 0 - (1 : Int32), M_row' μ (upd (fun j => if v ≤ j ∧ j < 514 then (0 : Int32) else M_row μ j) 0 (M_row μ 0 - (1 : Int32)))) := by
  intro m
  induction m with
  | zero =>
    intro v fu μ h1 h2 h3
    obtain ⟨f, rfl⟩ : ∃ f, fu = f + 1 := ⟨fu - 1, by omega⟩
    have e : (fun j => if v ≤ j ∧ j < 514 then (0 : Int32) else M_row μ j) = M_row μ := by
      funext j; rw [if_neg (by omega)]
    rw [fX7_wipes_39, if_pos (show (514 : Int32) ≤ iI (v : Int) from by rw [show (514 : Int32) = iI 514 from rfl]; exact yle (by omega) (by omega) (by omega)), e]
    rfl
  | succ m ih =>
    intro v fu μ h1 h2 h3
    obtain ⟨f, rfl⟩ : ∃ f, fu = f + 1 := ⟨fu - 1, by omega⟩
    rw [fX7_wipes_39, if_neg (show ¬ (514 : Int32) ≤ iI (v : Int) from by rw [show (514 : Int32) = iI 514 from rfl]; exact nle (by omega) (by omega) (by omega)), if_pos (inR_iI (by omega) (by omega) (by omega)), tnN (by omega), iI_s, ih (v + 1) f _ (by omega) (by omega) (by omega)]
    have e : (fun j => if v + 1 ≤ j ∧ j < 514 then (0 : Int32) else (upd (M_row μ) v (0 : Int32)) j) = (fun j => if v ≤ j ∧ j < 514 then (0 : Int32) else M_row μ j) := by
      funext j
      unfold upd
      by_cases q : j = v
      · rw [if_neg (by omega), if_pos q, if_pos (by omega)]
      · by_cases r : v + 1 ≤ j ∧ j < 514
        · rw [if_pos r, if_pos (by omega)]
        · rw [if_neg r, if_neg q, if_neg (by omega)]
    have e0 : (upd (M_row μ) v (0 : Int32)) 0 = M_row μ 0 := by unfold upd; rw [if_neg (by omega)]
    show some ((upd (M_row μ) v (0 : Int32)) 0 - (1 : Int32), M_row' μ (upd (fun j => if v + 1 ≤ j ∧ j < 514 then (0 : Int32) else (upd (M_row μ) v (0 : Int32)) j) 0 ((upd (M_row μ) v (0 : Int32)) 0 - (1 : Int32)))) = _
    rw [e, e0]
theorem rm_wipe {f g : Nat → Int32} (H : RepM f a) (I : InvA a) {k : Nat} (hk : k < an a) (h0 : g 0 = iI ((an a - 1 : Nat) : Int)) (h1 : g 1 = f 1) (h2 : ∀ x, 2 ≤ x → x < 2 + 64 * k → g x = f x) (h3 : ∀ x, 2 + 64 * k ≤ x → x < 450 → g x = f (x + 64)) : RepM g (aWipe a k) := by
  have h8 := I.1
  refine ⟨h0, h1.trans H.2.1, fun i hi => ?_⟩
  have hi' : i < an a - 1 := hi
  by_cases q : i < k
  · obtain ⟨p1, p2, p3, p4, p5⟩ := H.2.2 i (by omega)
    have hi60 := (I.2.2.2.1 i (by omega)).2.1
    have e1 : al (aWipe a k) i = al a i := if_pos q
    have e2 : ah (aWipe a k) i = ah a i := if_pos q
    have e3 : ab (aWipe a k) i = ab a i := if_pos q
    have e4 : ∀ j, ap (aWipe a k) i j = ap a i j := fun j => if_pos q
    rw [e1, e2, e3, e4]
    refine ⟨(h2 _ (by omega) (by omega)).trans p1, (h2 _ (by omega) (by omega)).trans p2, (h2 _ (by omega) (by omega)).trans p3, (h2 _ (by omega) (by omega)).trans p4, fun j hj => ?_⟩
    rw [e4, e4, h2 _ (by omega) (by omega)]; exact p5 j hj
  · obtain ⟨p1, p2, p3, p4, p5⟩ := H.2.2 (i + 1) (by omega)
    have hi60 := (I.2.2.2.1 (i + 1) (by omega)).2.1
    have e1 : al (aWipe a k) i = al a (i + 1) := if_neg q
    have e2 : ah (aWipe a k) i = ah a (i + 1) := if_neg q
    have e3 : ab (aWipe a k) i = ab a (i + 1) := if_neg q
    have e4 : ∀ j, ap (aWipe a k) i j = ap a (i + 1) j := fun j => if_neg q
    have ex : ∀ y, y < 64 → g (2 + 64 * i + y) = f (2 + 64 * (i + 1) + y) := fun y hy => by
      rw [h3 _ (by omega) (by omega)]; exact congrArg f (by omega)
    rw [e1, e2, e3, e4]
    refine ⟨(ex 0 (by omega)).trans p1, (ex 1 (by omega)).trans p2, (ex 2 (by omega)).trans p3, (ex 3 (by omega)).trans p4, fun j hj => ?_⟩
    rw [e4, e4, show 2 + 64 * i + 4 + j = 2 + 64 * i + (4 + j) by omega, ex (4 + j) (by omega), show 2 + 64 * (i + 1) + (4 + j) = 2 + 64 * (i + 1) + 4 + j by omega]; exact p5 j hj
theorem sm_wipes (H : RepM (M_row μ) a) (I : InvA a) {k : Nat} (hk : k < an a) : ∃ g, fX7_wipes μ (iI k) = some (iI ((an a - 1 : Nat) : Int), M_row' μ g) ∧ RepM g (aWipe a k) := by
  have h8 := I.1
  have e : (2 : Int32) + ((64 : Int32) * iI (k : Int)) = iI ((2 + 64 * k : Nat) : Int) := by
    rw [L2, L64, iI_mul, iI_add]; exact congrArg iI (by omega)
  have e0 : (if 2 + 64 * k ≤ 0 ∧ 0 < 450 then M_row μ (0 + 64) else M_row μ 0) = iI (an a : Int) := by rw [if_neg (by omega)]; exact H.1
  have e1 : iI (an a : Int) - (1 : Int32) = iI ((an a - 1 : Nat) : Int) := by rw [L1, iI_sub]; exact congrArg iI (by omega)
  unfold fX7_wipes
  have w := sm_w39 (iI k) 64 450 FU (M_row' μ (fun j => if 2 + 64 * k ≤ j ∧ j < 450 then M_row μ (j + 64) else M_row μ j)) (by omega) (FU_gt (by omega)) (by omega)
  have w' : fX7_wipes_39 (iI k) FU (450 : Int32) (M_row' μ (fun j => if 2 + 64 * k ≤ j ∧ j < 450 then M_row μ (j + 64) else M_row μ j)) = some ((if 2 + 64 * k ≤ 0 ∧ 0 < 450 then M_row μ (0 + 64) else M_row μ 0) - (1 : Int32), M_row' μ (upd (fun j => if 450 ≤ j ∧ j < 514 then (0 : Int32) else (if 2 + 64 * k ≤ j ∧ j < 450 then M_row μ (j + 64) else M_row μ j)) 0 ((if 2 + 64 * k ≤ 0 ∧ 0 < 450 then M_row μ (0 + 64) else M_row μ 0) - (1 : Int32)))) := w
  rw [e, sm_w7 (iI k) (448 - 64 * k) (2 + 64 * k) FU μ (by omega) (FU_gt (by omega)), w', e0, e1]
  refine ⟨_, rfl, rm_wipe H I hk ?_ ?_ (fun x hx1 hx2 => ?_) (fun x hx1 hx2 => ?_)⟩
  · unfold upd; rw [if_pos rfl]
  · rw [upd_ne (by omega)]
    show (if 450 ≤ 1 ∧ 1 < 514 then (0 : Int32) else (if 2 + 64 * k ≤ 1 ∧ 1 < 450 then M_row μ (1 + 64) else M_row μ 1)) = _
    rw [if_neg (by omega), if_neg (by omega)]
  · rw [upd_ne (by omega)]
    show (if 450 ≤ x ∧ x < 514 then (0 : Int32) else (if 2 + 64 * k ≤ x ∧ x < 450 then M_row μ (x + 64) else M_row μ x)) = _
    rw [if_neg (by omega), if_neg (by omega)]
  · rw [upd_ne (by omega)]
    show (if 450 ≤ x ∧ x < 514 then (0 : Int32) else (if 2 + 64 * k ≤ x ∧ x < 450 then M_row μ (x + 64) else M_row μ x)) = _
    rw [if_neg (by omega), if_pos (by omega)]
theorem sm_take12 : ∀ (m v fu : Nat) (μ : Mo), v + m = 514 → m < fu →
    fX7_takeSnapshot_12 fu (iI v) μ = some (M_row μ 0, M_kp' μ (fun j => if v ≤ j ∧ j < 514 then M_row μ j else M_kp μ j)) := by
  intro m
  induction m with
  | zero =>
    intro v fu μ h1 h2
    obtain ⟨f, rfl⟩ : ∃ f, fu = f + 1 := ⟨fu - 1, by omega⟩
    have e : (fun j => if v ≤ j ∧ j < 514 then M_row μ j else M_kp μ j) = M_kp μ := by
      funext j; rw [if_neg (by omega)]
    rw [fX7_takeSnapshot_12, if_pos (show (514 : Int32) ≤ iI (v : Int) from by rw [show (514 : Int32) = iI 514 from rfl]; exact yle (by omega) (by omega) (by omega)), e]
    rfl
  | succ m ih =>
    intro v fu μ h1 h2
    obtain ⟨f, rfl⟩ : ∃ f, fu = f + 1 := ⟨fu - 1, by omega⟩
    rw [fX7_takeSnapshot_12, if_neg (show ¬ (514 : Int32) ≤ iI (v : Int) from by rw [show (514 : Int32) = iI 514 from rfl]; exact nle (by omega) (by omega) (by omega)), if_pos (inR_iI (by omega) (by omega) (by omega)), tnN (by omega), iI_s, ih (v + 1) f _ (by omega) (by omega)]
    have e : (fun j => if v + 1 ≤ j ∧ j < 514 then M_row μ j else (upd (M_kp μ) v (M_row μ v)) j) = (fun j => if v ≤ j ∧ j < 514 then M_row μ j else M_kp μ j) := by
      funext j
      unfold upd
      by_cases q : j = v
      · rw [if_neg (by omega), if_pos q, if_pos (by omega), q]
      · by_cases r : v + 1 ≤ j ∧ j < 514
        · rw [if_pos r, if_pos (by omega)]
        · rw [if_neg r, if_neg q, if_neg (by omega)]
    show some (M_row μ 0, M_kp' μ (fun j => if v + 1 ≤ j ∧ j < 514 then M_row μ j else (upd (M_kp μ) v (M_row μ v)) j)) = _
    rw [e]
theorem sm_rest24 : ∀ (m v fu : Nat) (μ : Mo), v + m = 514 → m < fu →
    fX7_restoreSnapshot_24 fu (iI v) μ = some ((if v ≤ 0 then M_kp μ 0 else M_row μ 0), M_row' μ (fun j => if v ≤ j ∧ j < 514 then M_kp μ j else M_row μ j)) := by
  intro m
  induction m with
  | zero =>
    intro v fu μ h1 h2
    obtain ⟨f, rfl⟩ : ∃ f, fu = f + 1 := ⟨fu - 1, by omega⟩
    have e : (fun j => if v ≤ j ∧ j < 514 then M_kp μ j else M_row μ j) = M_row μ := by
      funext j; rw [if_neg (by omega)]
    rw [fX7_restoreSnapshot_24, if_pos (show (514 : Int32) ≤ iI (v : Int) from by rw [show (514 : Int32) = iI 514 from rfl]; exact yle (by omega) (by omega) (by omega)), e, if_neg (by omega)]
    rfl
  | succ m ih =>
    intro v fu μ h1 h2
    obtain ⟨f, rfl⟩ : ∃ f, fu = f + 1 := ⟨fu - 1, by omega⟩
    rw [fX7_restoreSnapshot_24, if_neg (show ¬ (514 : Int32) ≤ iI (v : Int) from by rw [show (514 : Int32) = iI 514 from rfl]; exact nle (by omega) (by omega) (by omega)), if_pos (inR_iI (by omega) (by omega) (by omega)), tnN (by omega), iI_s, ih (v + 1) f _ (by omega) (by omega)]
    have e : (fun j => if v + 1 ≤ j ∧ j < 514 then M_kp μ j else (upd (M_row μ) v (M_kp μ v)) j) = (fun j => if v ≤ j ∧ j < 514 then M_kp μ j else M_row μ j) := by
      funext j
      unfold upd
      by_cases q : j = v
      · rw [if_neg (by omega), if_pos q, if_pos (by omega), q]
      · by_cases r : v + 1 ≤ j ∧ j < 514
        · rw [if_pos r, if_pos (by omega)]
        · rw [if_neg r, if_neg q, if_neg (by omega)]
    have e0 : (if v + 1 ≤ 0 then M_kp μ 0 else (upd (M_row μ) v (M_kp μ v)) 0) = (if v ≤ 0 then M_kp μ 0 else M_row μ 0) := by
      rw [if_neg (by omega)]
      unfold upd
      by_cases q : v = 0
      · rw [if_pos q.symm, if_pos (by omega), q]
      · rw [if_neg (by omega), if_neg (by omega)]
    show some ((if v + 1 ≤ 0 then M_kp μ 0 else (upd (M_row μ) v (M_kp μ v)) 0), M_row' μ (fun j => if v + 1 ≤ j ∧ j < 514 then M_kp μ j else (upd (M_row μ) v (M_kp μ v)) j)) = _
    rw [e, e0]
/-- undo: the latest saved state comes back on both sides -/
theorem undo_ok {c : Nat} (hH : RepH η μ) (hc : M_sm μ = iI c) (h0 : 0 < c) (h5 : c ≤ 5) (σ : Sh) : ∃ σ' η' g b, GoodA b ∧ fX1_giveBack σ η = some (σ', η') ∧ H_cnt η' = iI ((c - 1 : Nat) : Int) ∧ H_cnt η = iI c ∧ RepS σ' b ∧ RepM g b ∧
    (∀ μ' : Mo, M_sm μ' = iI ((c - 1 : Nat) : Int) → M_sv μ' = M_sv μ → M_row μ' = M_row μ → fX7_undo_30 FU (0 : Int32) μ' = some (iI ((c - 1 : Nat) : Int), M_row' μ' g)) ∧
    (∀ μ' : Mo, M_sm μ' = iI ((c - 1 : Nat) : Int) → M_sv μ' = M_sv μ → RepH η' μ') ∧ H_tk η' = H_tk η ∧ H_sn η' = H_sn η := by
  obtain ⟨c', o, A, hc', ho, e1, e2, e3, hA⟩ := hH
  have hcc : c' = c := by
    rw [hc] at e3
    have := (iI_eq (by omega) (by omega)).mp e3
    omega
  subst hcc
  have f2 : H_cnt η - (1 : Int32) = iI ((c' - 1 : Nat) : Int) := by rw [e1, L1, iI_sub]; exact congrArg iI (by omega)
  have f3 : fX1_savedAt (H_cnt' η (iI ((c' - 1 : Nat) : Int))) (iI ((c' - 1 : Nat) : Int)) = some ((o + (c' - 1)) % 5) := sp_savedAt e2 ho (by omega)
  obtain ⟨k1, k2, k3⟩ := hA (c' - 1) (by omega)
  obtain ⟨σ', g1, g2⟩ := sp_copy (σ := σ) k2 k1.1
  refine ⟨σ', H_cnt' η (iI ((c' - 1 : Nat) : Int)), (fun j => if 0 ≤ j ∧ j < 514 then M_sv μ (514 * (c' - 1) + j) else M_row μ j), A (c' - 1), k1, ?_, rfl, e1, g2, ?_, fun μ' m1 m2 m3 => ?_, fun μ' m1 m2 => ⟨c' - 1, o, A, by omega, ho, rfl, e2, m1, fun i hi => ?_⟩, rfl, rfl⟩
  · unfold fX1_giveBack
    rw [if_neg (show ¬ H_cnt η ≤ (0 : Int32) from by rw [e1, L0]; exact nle (by omega) (by omega) (by omega)), f2, f3, Option.bind_some]
    have g1' : fX1_copy σ (H_sv (H_cnt' η (iI ((c' - 1 : Nat) : Int))) ((o + (c' - 1)) % 5)) = some σ' := g1
    rw [g1, Option.bind_some]
  · refine repM_congr k1.1 (fun j hj => ?_) k3
    show M_sv μ (514 * (c' - 1) + j) = _
    rw [if_pos (by omega)]
  · have u := sm_undo30 (c := c' - 1) (by omega) 514 0 FU μ' (by omega) (FU_gt (by omega)) m1
    rw [Z0, m2, m3] at u
    exact u
  · obtain ⟨q1, q2, q3⟩ := hA i (by omega)
    rw [m2]
    exact ⟨q1, q2, q3⟩
end WP
