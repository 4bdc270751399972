/-! one turn's change -/
section LC
variable {σ : Sh} {η : Hi} {ν : Nat → Int32} {ζ : Nat → Int64} {a : Ab} {cap : Nat}
theorem l_321 (c : Int32) {k : Nat} : ∀ (m v fu : Nat) (σ : Sh) (η : Hi) (ν : Nat → Int32) (ζ : Nat → Int64) (a : Ab) (n : Nat), v + m = 6 → m < fu → LA σ η ν ζ a → k < an a → n + 4 * m ≤ cap →
    ∃ σ' η' ν' ζ' a', fL_acts_321 cap c (iI (k : Int)) fu true (iI (v : Int)) σ η ν ζ n = some (true, σ', η', ν', ζ') ∧ LA σ' η' ν' ζ' a' ∧ tot a' ≤ tot a + m := by
  intro m
  induction m with
  | zero =>
    intro v fu σ η ν ζ a n h1 h2 Q hk hn
    obtain ⟨u, rfl⟩ : ∃ u, fu = u + 1 := ⟨fu - 1, by omega⟩
    rw [fL_acts_321, show (6 : Int32) = iI 6 from rfl, if_pos (yle (by omega) (by omega) (by omega))]
    exact ⟨σ, η, ν, ζ, a, rfl, Q, Nat.le_refl _⟩
  | succ m ih =>
    intro v fu σ η ν ζ a n h1 h2 Q hk hn
    obtain ⟨u, rfl⟩ : ∃ u, fu = u + 1 := ⟨fu - 1, by omega⟩
    obtain ⟨r1, q1, e1⟩ := sl_low (c >>> ((16 : Int32) &&& 31)) (n := 8) (by omega)
    obtain ⟨r2, q2, e2⟩ := sl_low (c >>> ((((2 : Int32) * iI (v : Int)) + (3 : Int32)) &&& 31)) (n := 3) (by omega)
    obtain ⟨r3, q3, e3⟩ := sl_low (c >>> (iI (v : Int) &&& 31)) (n := 3) (by omega)
    have e1' : fL_low (c >>> ((16 : Int32) &&& 31)) (8 : Int32) = some (iI (r1 : Int)) := e1
    have e2' : fL_low (c >>> ((((2 : Int32) * iI (v : Int)) + (3 : Int32)) &&& 31)) (3 : Int32) = some (iI (r2 : Int)) := e2
    have e3' : fL_low (c >>> (iI (v : Int) &&& 31)) (3 : Int32) = some (iI (r3 : Int)) := e3
    have go : ∀ d : Nat, d < 8 → ∃ σ' η' ν' ζ' a', (fL_steps 4 σ η ν ζ (iI (k : Int)) (iI (d : Int))).bind (fun r_14 => fL_acts_321 cap c (iI (k : Int)) u r_14.1 (iI (v : Int) + 1) r_14.2.1 r_14.2.2.1 r_14.2.2.2.1 r_14.2.2.2.2 (n + 4)) = some (true, σ', η', ν', ζ') ∧ LA σ' η' ν' ζ' a' ∧ tot a' ≤ tot a + (m + 1) := by
      intro d hd
      obtain ⟨σ1, η1, ν1, ζ1, a1, g1, g2, g3, g4⟩ := l_steps (cap := 4) Q hk (d := (d : Int)) (by omega) (Nat.le_refl _)
      obtain ⟨σ2, η2, ν2, ζ2, a2, k1, k2, k3⟩ := ih (v + 1) u σ1 η1 ν1 ζ1 a1 (n + 4) (by omega) (by omega) g2 (by omega) (by omega)
      exact ⟨σ2, η2, ν2, ζ2, a2, by rw [g1, Option.bind_some, iI_s]; exact k1, k2, by omega⟩
    rw [fL_acts_321, show (6 : Int32) = iI 6 from rfl, if_neg (nle (by omega) (by omega) (by omega)), if_pos rfl, e1', Option.bind_some, e2', Option.bind_some]
    by_cases w : r2 = 0
    · have e4 : irm (iI (r1 : Int) + (iI (r3 : Int) + (7 : Int32))) (8 : Int32) = iI (((r1 + (r3 + 7)) % 8 : Nat) : Int) := by
        rw [L7, show (8 : Int32) = iI 8 from rfl, iI_add, iI_add, iI_irm (by omega) (by omega)]; exact congrArg iI (by omega)
      rw [if_pos (by rw [w]; rfl), e3', Option.bind_some, if_pos (by omega), e4]
      exact go _ (by omega)
    · have e4 : irm (iI (r1 : Int) + (0 : Int32)) (8 : Int32) = iI ((r1 % 8 : Nat) : Int) := by
        rw [L0, show (8 : Int32) = iI 8 from rfl, iI_add, iI_irm (by omega) (by omega)]; exact congrArg iI (by omega)
      rw [if_neg (by rw [L0]; exact neq (by omega) (by omega) (by omega)), if_pos (by omega), e4]
      exact go _ (by omega)
theorem l_level (Q : LA σ η ν ζ a) {k : Nat} (hk : k < an a) (c y : Int32) {N : Nat} (hN : 0 < N ∧ N ≤ 100) (n : Nat) :
    ∃ σ' η' ν' a', fL_acts_202 cap c (iI (k : Int)) (ν (Int32.toNatClampNeg ((4 : Int32) * iI (k : Int)))) ((4 : Int32) * iI (k : Int)) y (iI (N : Int)) σ η ν ζ n = some (true, σ', η', ν', ζ) ∧ LA σ' η' ν' ζ a' ∧ tot a' = tot a := by
  obtain ⟨⟨H, G, hH⟩, L⟩ := Q
  have I := G.1
  have h8 := k8 I hk
  have hn8 := I.1
  obtain ⟨l, q1, e1⟩ := sl_low y (n := N) (by omega)
  obtain ⟨η', s1, s2⟩ := sv_ok hH H I
  obtain ⟨σ1, g1, R1⟩ := sp_putLevel H I hk l
  have I0 := inv_lab I (k := k) (b := -1) (Or.inl rfl)
  have Ilev := inv_lev (a := aLab a k (-1)) I0 (k := k) (l := l) (by omega) (if_pos rfl)
  obtain ⟨σ2, g2, R2⟩ : ∃ σ2, fX4_putLabel σ1 (iI (k : Int)) (-1 : Int32) = some σ2 ∧ RepS σ2 (aLev (aLab a k (-1)) k l) := by
    have hn : S_n σ1 = iI (an a : Int) := R1.1
    have e0 : (iI (k : Int)).toNatClampNeg = k := tnN (by omega)
    refine ⟨S_lb' σ1 (upd (S_lb σ1) k (-1 : Int32)), ?_, R1.1, R1.2.1, fun i hi => ?_⟩
    · unfold fX4_putLabel
      rw [if_neg (nlt0 (by omega)), hn, if_neg (nle (by omega) (by omega) (by omega)), if_pos (inR_iI (by omega) (by omega) (by omega)), e0]
    · obtain ⟨q1, q2, q3, q4⟩ := R1.2.2 i hi
      refine ⟨q1, q2, ?_, q4⟩
      show upd (S_lb σ1) k (-1 : Int32) i = iI (if i = k then -1 else ab a i)
      by_cases t : i = k
      · rw [if_pos t, t, upd_eq]; rfl
      · rw [if_neg t, upd_ne t]; exact q3
  have L2 : RepL (upd (upd ν (4 * k) (iI (l : Int))) (4 * k + 3) (-1 : Int32)) ζ (aLev (aLab a k (-1)) k l) := by
    have M1 := rl_lev (rl_lab L I hk (-1)) I0 (k := k) hk l
    have e : upd (upd ν (4 * k) (iI (l : Int))) (4 * k + 3) (-1 : Int32) = upd (upd ν (4 * k + 3) (iI (-1))) (4 * k) (iI (l : Int)) := by
      funext x
      by_cases t : x = 4 * k + 3
      · rw [t, upd_eq, upd_ne (by omega), upd_eq]; rfl
      · rw [upd_ne t]
        by_cases t2 : x = 4 * k
        · rw [t2, upd_eq, upd_eq]
        · rw [upd_ne t2, upd_ne t2, upd_ne t]
    rw [e]; exact M1
  have hv : upd (upd ν (4 * k) (iI (l : Int))) (4 * k + 3) (-1 : Int32) (4 * k) = iI (l : Int) := by rw [upd_ne (by omega), upd_eq]
  refine ⟨σ2, η', _, aLev (aLab a k (-1)) k l, ?_, ⟨⟨R2, ⟨Ilev, G.2⟩, s2⟩, L2⟩, (tot_lev _ _ _).trans (tot_lab _ _ _)⟩
  unfold fL_acts_202 fX6_setLevel
  rw [e1, Option.bind_some, if_pos (l_i0 h8).1, if_pos (l_i3 h8).1, if_pos (l_i0 h8).1, (l_i0 h8).2, (l_i3 h8).2, hv, (L.2.2 k hk).1, rql H I hk, xth_ok, (rq_lev (z := (l : Int)) (by omega)).1 (by omega), xth_ok, s1, Option.bind_some, sp_levelIn H I hk, Option.bind_some, g1, Option.bind_some, g2, Option.bind_some, xov_some, if_pos rfl]
theorem l_gap (Q : LA σ η ν ζ a) {g : Nat} (hg : 1 ≤ g ∧ g ≤ 6) : ∃ σ' η', fX6_setGap σ η (iI (g : Int)) = some (.ok (iI (ag a : Int), σ', η')) ∧ LA σ' η' (upd ν 33 (iI (g : Int))) ζ (aGap a g) := by
  obtain ⟨⟨H, G, hH⟩, L⟩ := Q
  obtain ⟨η', s1, s2⟩ := sv_ok hH H G.1
  obtain ⟨σ1, g1, R1⟩ := sp_putGap H g
  refine ⟨σ1, η', ?_, ⟨R1, ⟨inv_gap G.1 hg, G.2⟩, s2⟩, rl_gap L G.1 g⟩
  unfold fX6_setGap
  rw [if_neg (show ¬ iI (g : Int) < (1 : Int32) from by rw [L1]; exact nlt (by omega) (by omega) (by omega)), if_pos (show iI (g : Int) ≤ (6 : Int32) from by rw [show (6 : Int32) = iI 6 from rfl]; exact yle (by omega) (by omega) (by omega)), s1, Option.bind_some, sp_gapWidth H, Option.bind_some, g1, Option.bind_some]
theorem l_wipe (Q : LA σ η ν ζ a) {k : Nat} (hk : k < an a) : ∃ σ' η' ν' ζ', fL_wipes ν ζ (iI (k : Int)) = some (ν', ζ') ∧ fX6_wipe σ η (iI (k : Int)) = some (.ok (ν' 32, σ', η')) ∧ LA σ' η' ν' ζ' (aWipe a k) := by
  obtain ⟨⟨H, G, hH⟩, L⟩ := Q
  obtain ⟨η', s1, s2⟩ := sv_ok hH H G.1
  obtain ⟨σ1, g1, R1⟩ := sp_removeLine H G.1 hk
  obtain ⟨ν', ζ', k1, k2⟩ := l_wipes L G.1 hk
  refine ⟨σ1, η', ν', ζ', k1, ?_, ⟨R1, ⟨inv_wipe G.1 hk, nxx_wipe G.2 hk⟩, s2⟩, k2⟩
  unfold fX6_wipe
  rw [rql H G.1 hk, xth_ok, s1, Option.bind_some, g1, Option.bind_some, sp_lineCount R1, Option.bind_some, k2.1]
theorem uL_uU (L : RepL ν ζ a) (I : InvA a) {k : Nat} (hk : k < an a) : uL ν (iI (k : Int)) ≤ uU ν := by
  have h8 := I.1
  have h6 := h60 I hk
  have h1 : uF ν (iI (k : Int)) ≤ an a := by rw [uF_e L I]; exact uF_le _ _ _
  have h2 : ah a k * uF ν (iI (k : Int)) ≤ 60 * 8 := Nat.mul_le_mul h6 (by omega)
  unfold uL uU
  rw [uSt_e L I hk]
  omega
def TU (ν : Nat → Int32) (c : Int32) (a a' : Ab) : Prop := (uK ν c = 138 ∧ tot a' ≤ tot a + 34) ∨ (uK ν c = 6 * tot a + 1208 ∧ tot a' ≤ tot a)
theorem l_acts18 (Q : LA σ η ν ζ a) (c x : Int32) {N : Nat} (hN : 0 < N ∧ N ≤ 8 ∧ (an a = 0 ∨ N = an a)) (hc : uK ν c ≤ cap) : ∃ σ' η' ν' ζ' a', fL_acts_18 cap c x (iI (N : Int)) σ η ν ζ 0 = some (true, σ', η', ν', ζ') ∧ LA σ' η' ν' ζ' a' ∧ TU ν c a a' := by
  have I := Q.1.2.1.1
  have L := Q.2
  have h8 := I.1
  obtain ⟨k, hkN, ek⟩ := sl_low x (n := N) (by omega)
  obtain ⟨r, hr, er⟩ := sl_low c (n := 20) (by omega)
  have er' : fL_low c (20 : Int32) = some (iI (r : Int)) := er
  have ei : irm (c &&& (2147483647 : Int32)) (20 : Int32) = iI (r : Int) := by
    unfold fL_low at er'
    rw [if_pos (by decide)] at er'
    exact Option.some.inj er'
  have eK : uK ν c = if iI (an a : Int) = 0 ∨ iI (r : Int) < 4 ∨ 13 < iI (r : Int) then 138 else 6 * tot a + 1208 := by
    unfold uK uU
    rw [ei, uS_e L I, L.1]
  have b138 : (iI (an a : Int) = 0 ∨ iI (r : Int) < 4 ∨ 13 < iI (r : Int)) → uK ν c = 138 := fun h => eK.trans (if_pos h)
  unfold fL_acts_18
  rw [ek, Option.bind_some, er', Option.bind_some]
  have rings : uK ν c = 138 → ∃ σ' η' ν' ζ' a', (if 0 + 138 ≤ cap then ((fL_rings 138 σ η ν ζ c).bind fun r_18 => (some (r_18.1, r_18.2.1, r_18.2.2.1, r_18.2.2.2.1, r_18.2.2.2.2))) else none) = some (true, σ', η', ν', ζ') ∧ LA σ' η' ν' ζ' a' ∧ TU ν c a a' := by
    intro e
    obtain ⟨σ', η', ν', ζ', a', g1, g2, g3⟩ := l_rings (cap := 138) Q c (Nat.le_refl _)
    rw [if_pos (by omega), g1, Option.bind_some]
    exact ⟨σ', η', ν', ζ', a', rfl, g2, Or.inl ⟨e, g3⟩⟩
  by_cases w : r < 3
  · rw [if_pos (show iI (r : Int) < (3 : Int32) from by rw [L3]; exact ylt (by omega) (by omega) (by omega))]
    exact rings (b138 (Or.inr (Or.inl (by rw [L4]; exact ylt (by omega) (by omega) (by omega)))))
  rw [if_neg (show ¬ iI (r : Int) < (3 : Int32) from by rw [L3]; exact nlt (by omega) (by omega) (by omega)), l_n L]
  by_cases w2 : an a = 0
  · rw [if_pos (by rw [w2]; rfl)]
    exact rings (b138 (Or.inl (by rw [w2]; rfl)))
  have hz : ¬ iI (an a : Int) = 0 := by rw [L0]; exact neq (by omega) (by omega) (by omega)
  rw [if_neg hz]
  have hk : k < an a := by omega
  by_cases w3 : r = 3
  · subst w3
    obtain ⟨r4, h4, e4⟩ := sl_low (c >>> ((7 : Int32) &&& 31)) (n := 100) (by omega)
    obtain ⟨r5, h5, e5⟩ := sl_low (c >>> ((4 : Int32) &&& 31)) (n := 384) (by omega)
    have e4' : fL_low (c >>> ((7 : Int32) &&& 31)) (100 : Int32) = some (iI (r4 : Int)) := e4
    have e5' : fL_low (c >>> ((4 : Int32) &&& 31)) (384 : Int32) = some (iI (r5 : Int)) := e5
    have e := b138 (Or.inr (Or.inl (by decide)))
    obtain ⟨σ', η', ν', ζ', a', g1, g2, g3, g4, g5⟩ := l_begins (cap := 2) Q (l := r4) (p := r5) (by omega) (by omega) (Nat.le_refl _)
    rw [if_pos (by decide), e4', Option.bind_some, e5', Option.bind_some, if_pos (by omega), g1, Option.bind_some]
    exact ⟨σ', η', ν', ζ', a', rfl, g2, Or.inl ⟨e, by omega⟩⟩
  by_cases w14 : 14 ≤ r
  · have e := b138 (Or.inr (Or.inr (by rw [show (13 : Int32) = iI 13 from rfl]; exact ylt (by omega) (by omega) (by omega))))
    obtain ⟨σ', η', ν', ζ', a', g1, g2, g3⟩ := l_321 (cap := cap) c (k := k) 6 0 FU σ η ν ζ a 0 (by omega) (FU_gt (by omega)) Q hk (by omega)
    rw [Z0] at g1
    have hh : r = 14 ∨ r = 15 ∨ r = 16 ∨ r = 17 ∨ r = 18 ∨ r = 19 := by omega
    refine ⟨σ', η', ν', ζ', a', ?_, g2, Or.inl ⟨e, by omega⟩⟩
    rw [← g1]
    rcases hh with rfl | rfl | rfl | rfl | rfl | rfl <;> rw [if_neg (by decide), if_neg (by decide), if_neg (by decide), if_neg (by decide), if_neg (by decide), if_neg (by decide), if_neg (by decide), if_neg (by decide), if_neg (by decide), if_neg (by decide), if_neg (by decide)]
  have eU : uK ν c = 6 * tot a + 1208 := eK.trans (if_neg (by
    rintro (h | h | h)
    · exact hz h
    · rw [L4, iI_lt (by omega) (by omega)] at h; omega
    · rw [show (13 : Int32) = iI 13 from rfl, iI_lt (by omega) (by omega)] at h; omega))
  have hUU : uU ν = 6 * tot a + 1208 := by unfold uU; rw [uS_e L I]
  have hLU := uL_uU L I hk
  have labs : ∀ (x y : Int32), (x = 0 ∨ x = 1 ∨ x = 2) → ∃ σ' η' ν' ζ' a', (if 0 + (uL ν (iI (k : Int))) ≤ cap then ((fL_labels (uL ν (iI (k : Int))) σ η ν ζ (iI (k : Int)) x y).bind fun r_41 => (some (r_41.1, r_41.2.1, r_41.2.2.1, r_41.2.2.2, ζ))) else none) = some (true, σ', η', ν', ζ') ∧ LA σ' η' ν' ζ' a' ∧ TU ν c a a' := by
    intro x y hx
    obtain ⟨σ', η', ν', a', g1, g2, g3⟩ := l_labels (cap := uL ν (iI (k : Int))) Q hk y hx (Nat.le_refl _)
    rw [if_pos (by omega), g1, Option.bind_some]
    exact ⟨σ', η', ν', ζ, a', rfl, g2, Or.inr ⟨eU, by omega⟩⟩
  have alls : ∃ σ' η' ν' ζ' a', (if 0 + (uU ν) ≤ cap then ((fL_labelsAll (uU ν) σ η ν ζ).bind fun r_37 => (some (r_37.1, r_37.2.1, r_37.2.2.1, r_37.2.2.2, ζ))) else none) = some (true, σ', η', ν', ζ') ∧ LA σ' η' ν' ζ' a' ∧ TU ν c a a' := by
    obtain ⟨σ', η', ν', a', g1, g2, g3⟩ := l_all (cap := uU ν) Q (Nat.le_refl _)
    rw [if_pos (by omega), g1, Option.bind_some]
    exact ⟨σ', η', ν', ζ, a', rfl, g2, Or.inr ⟨eU, by omega⟩⟩
  have hh : r = 4 ∨ r = 5 ∨ r = 6 ∨ r = 7 ∨ r = 8 ∨ r = 9 ∨ r = 10 ∨ r = 11 ∨ r = 12 ∨ r = 13 := by omega
  rcases hh with rfl | rfl | rfl | rfl | rfl | rfl | rfl | rfl | rfl | rfl
  · obtain ⟨σ', η', ν', ζ', g1, g2, g3⟩ := l_wipe Q hk
    rw [if_neg (by decide), if_pos (by decide), g1, Option.bind_some, g2, xov_some, if_pos (show ν' 32 = ν' (Int32.toNatClampNeg 32) from rfl)]
    exact ⟨σ', η', ν', ζ', _, rfl, g3, Or.inr ⟨eU, tot_wipe a hk⟩⟩
  · obtain ⟨r4, h4, e4⟩ := sl_low (c >>> ((9 : Int32) &&& 31)) (n := 2) (by omega)
    have e4' : fL_low (c >>> ((9 : Int32) &&& 31)) (2 : Int32) = some (iI (r4 : Int)) := e4
    rw [if_neg (by decide), if_neg (by decide), if_pos (by decide), if_pos (l_i0 (k8 I hk)).1, e4', Option.bind_some]
    by_cases q : r4 = 0
    · obtain ⟨σ', η', ν', a', g1, g2, g3⟩ := l_level (cap := cap) Q hk c (c >>> ((7 : Int32) &&& 31)) (N := 100) (by omega) 0
      rw [if_pos (by rw [q]; rfl)]
      exact ⟨σ', η', ν', ζ, a', g1, g2, Or.inr ⟨eU, by omega⟩⟩
    · obtain ⟨σ', η', ν', a', g1, g2, g3⟩ := l_level (cap := cap) Q hk c (c >>> ((7 : Int32) &&& 31)) (N := 12) (by omega) 0
      rw [if_neg (by rw [L0]; exact neq (by omega) (by omega) (by omega))]
      exact ⟨σ', η', ν', ζ, a', g1, g2, Or.inr ⟨eU, by omega⟩⟩
  · obtain ⟨r4, h4, e4⟩ := sl_low (c >>> ((7 : Int32) &&& 31)) (n := 6) (by omega)
    have e4' : fL_low (c >>> ((7 : Int32) &&& 31)) (6 : Int32) = some (iI (r4 : Int)) := e4
    have e5 : (1 : Int32) + iI (r4 : Int) = iI ((1 + r4 : Nat) : Int) := by rw [L1, iI_add]; exact congrArg iI (by omega)
    obtain ⟨σ', η', g1, g2⟩ := l_gap Q (g := 1 + r4) (by omega)
    rw [if_neg (by decide), if_neg (by decide), if_neg (by decide), if_pos (by decide), e4', Option.bind_some, e5, show Int32.toNatClampNeg (33 : Int32) = 33 from rfl, upd_eq, g1, xov_some, L.2.1, if_pos rfl]
    exact ⟨σ', η', _, ζ, _, rfl, g2, Or.inr ⟨eU, Nat.le_of_eq (tot_gap _ _)⟩⟩
  · rw [if_neg (by decide), if_neg (by decide), if_neg (by decide), if_neg (by decide), if_pos (by decide)]; exact alls
  · rw [if_neg (by decide), if_neg (by decide), if_neg (by decide), if_neg (by decide), if_neg (by decide), if_pos (by decide)]; exact alls
  · rw [if_neg (by decide), if_neg (by decide), if_neg (by decide), if_neg (by decide), if_neg (by decide), if_neg (by decide), if_pos (by decide)]; exact labs _ _ (Or.inl (by decide))
  · rw [if_neg (by decide), if_neg (by decide), if_neg (by decide), if_neg (by decide), if_neg (by decide), if_neg (by decide), if_neg (by decide), if_pos (by decide)]; exact labs _ _ (Or.inr (Or.inl (by decide)))
  · rw [if_neg (by decide), if_neg (by decide), if_neg (by decide), if_neg (by decide), if_neg (by decide), if_neg (by decide), if_neg (by decide), if_neg (by decide), if_pos (by decide)]; exact labs _ _ (Or.inr (Or.inr (by decide)))
  · rw [if_neg (by decide), if_neg (by decide), if_neg (by decide), if_neg (by decide), if_neg (by decide), if_neg (by decide), if_neg (by decide), if_neg (by decide), if_neg (by decide), if_pos (by decide)]; exact labs _ _ (Or.inr (Or.inr rfl))
  · rw [if_neg (by decide), if_neg (by decide), if_neg (by decide), if_neg (by decide), if_neg (by decide), if_neg (by decide), if_neg (by decide), if_neg (by decide), if_neg (by decide), if_neg (by decide), if_pos (by decide)]; exact labs _ _ (Or.inr (Or.inr rfl))
theorem l_acts (Q : LA σ η ν ζ a) (c : Int32) (hc : uK ν c ≤ cap) : ∃ σ' η' ν' ζ' a', fL_acts cap σ η ν ζ c = some (true, σ', η', ν', ζ') ∧ LA σ' η' ν' ζ' a' ∧ TU ν c a a' := by
  have h8 := Q.1.2.1.1.1
  unfold fL_acts
  rw [l_n Q.2]
  by_cases w : an a = 0
  · rw [if_pos (by rw [w]; rfl)]
    exact l_acts18 Q c _ (N := 1) ⟨by omega, by omega, Or.inl w⟩ hc
  · rw [if_neg (by rw [L0]; exact neq (by omega) (by omega) (by omega))]
    exact l_acts18 Q c _ (N := an a) ⟨by omega, h8, Or.inr rfl⟩ hc
end LC
