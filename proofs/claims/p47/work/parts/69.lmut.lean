/-! the calls that change, told by the class and by the law -/
def HI (η : Hi) : Prop := ∃ c o : Nat, c ≤ 5 ∧ o < 5 ∧ H_cnt η = iI (c : Int) ∧ H_old η = iI (o : Int)
def S3 (σ : Sh) (η : Hi) (a : Ab) : Prop := RepS σ a ∧ GX a ∧ HI η
section TD
variable {σ : Sh} {η : Hi} {a : Ab}
theorem sv_ok (hH : HI η) (H : RepS σ a) (I : InvA a) : ∃ η', fX1_save σ η = some η' ∧ HI η' := by
  obtain ⟨c, o, hc, ho, e1, e2⟩ := hH
  by_cases h5 : c = 5
  · subst h5
    have f1 : irm (H_old η + (1 : Int32)) (5 : Int32) = iI (((o + 1) % 5 : Nat) : Int) := by
      rw [e2, L1, iI_add, show (5 : Int32) = iI 5 from rfl, iI_irm (by omega) (by omega)]; exact congrArg iI (by omega)
    have f2 : H_cnt η - (1 : Int32) = iI ((4 : Nat) : Int) := by rw [e1]; rfl
    have f3 : fX1_savedAt (H_cnt' (H_old' η (iI (((o + 1) % 5 : Nat) : Int))) (iI ((4 : Nat) : Int))) (iI ((4 : Nat) : Int)) = some (((o + 1) % 5 + 4) % 5) := sp_savedAt (o := (o + 1) % 5) (i := 4) rfl (by omega) (by omega)
    obtain ⟨ρ, g1, g2⟩ := sp_copy (σ := H_sv η (((o + 1) % 5 + 4) % 5)) H I
    refine ⟨H_cnt' (H_sv' (H_cnt' (H_old' η (iI (((o + 1) % 5 : Nat) : Int))) (iI ((4 : Nat) : Int))) (updS (H_sv η) (((o + 1) % 5 + 4) % 5) ρ)) (iI ((4 : Nat) : Int) + (1 : Int32)), ?_, ⟨5, (o + 1) % 5, by omega, by omega, rfl, rfl⟩⟩
    unfold fX1_save
    rw [if_pos (show H_cnt η = (5 : Int32) from e1), f1, f2, f3]
    simp only [Option.bind_some]
    rw [g1]
    rfl
  · obtain ⟨ρ, g1, g2⟩ := sp_copy (σ := H_sv η ((o + c) % 5)) H I
    have f3 : fX1_savedAt η (iI (c : Int)) = some ((o + c) % 5) := sp_savedAt e2 ho hc
    refine ⟨H_cnt' (H_sv' η (updS (H_sv η) ((o + c) % 5) ρ)) (iI (c : Int) + (1 : Int32)), ?_, ⟨c + 1, o, by omega, ho, iI_s c, e2⟩⟩
    unfold fX1_save
    rw [if_neg (show ¬ H_cnt η = (5 : Int32) from by rw [e1, L5]; exact neq (by omega) (by omega) (by omega)), e1, f3]
    simp only [Option.bind_some]
    rw [g1]
    rfl
theorem Lm13 : (-13 : Int32) = iI (-13) := rfl
theorem xc_err {ε α β : Type} {e : ε} {h : ε → β} {k : α → β} : xcase (Except.error e) h k = h e := rfl
theorem xc_ok {ε α β : Type} {v : α} {h : ε → β} {k : α → β} : xcase (Except.ok v) h k = k v := rfl
theorem td_begin (S : S3 σ η a) {l p : Nat} (hl : l ≤ 99) (hp : p < 384) :
    ((an a < 8 ∧ ∀ i, i < an a → ¬ onL a i p) → ∃ σ' η', fL_told σ η (0 : Int32) (iI (l : Int)) (iI (p : Int)) = some (iI (an a : Int), σ', η') ∧ S3 σ' η' (aLine a l p)) ∧
    (¬ (an a < 8 ∧ ∀ i, i < an a → ¬ onL a i p) → fL_told σ η (0 : Int32) (iI (l : Int)) (iI (p : Int)) = some ((-13 : Int32), σ, η)) := by
  obtain ⟨H, G, hH⟩ := S
  obtain ⟨b, hb, ib⟩ := sp_hasRoomAt H G.1 (p := p) (by omega)
  unfold fL_told fX6_begin
  rw [if_pos rfl, (rq_pt (z := (p : Int)) (by omega)).1 (by omega), xth_ok, (rq_lev (z := (l : Int)) (by omega)).1 (by omega), xth_ok, hb, Option.bind_some]
  constructor
  · intro h
    obtain ⟨η', s1, s2⟩ := sv_ok hH H G.1
    obtain ⟨σ', e1, R⟩ := sp_addLine H G.1 h.1 l p
    refine ⟨σ', η', ?_, R, ⟨inv_line G.1 h.1 hl hp h.2, nxx_line G.2 l p⟩, s2⟩
    rw [if_pos (ib.mpr h), s1, Option.bind_some, e1, Option.bind_some, Option.bind_some, xc_ok]
  · intro h
    rw [if_neg (fun w => h (ib.mp w)), Option.bind_some, xc_err, if_pos rfl]
theorem td_step (S : S3 σ η a) {k : Nat} (hk : k < an a) {d : Int} (hd : 0 ≤ d ∧ d ≤ 7) :
    (whyA a k d = 0 → ∃ σ' η' c, ∃ p : Nat, ah a k < 60 ∧ (p : Int) = ap a k (ah a k) + 24 * dnI d + acI d ∧ fL_told σ η (1 : Int32) (iI (k : Int)) (iI d) = some ((if c = true then (1 : Int32) else (0 : Int32)), σ', η') ∧ (c = true ↔ ringA (aStep a k p) k) ∧ S3 σ' η' (aStep a k p)) ∧
    (¬ whyA a k d = 0 → fL_told σ η (1 : Int32) (iI (k : Int)) (iI d) = some ((-13 : Int32), σ, η)) := by
  obtain ⟨H, G, hH⟩ := S
  unfold fL_told fX6_step
  rw [if_neg (by decide), if_pos rfl, rql H G.1 hk, xth_ok, (rq_dir (by omega)).1 hd, xth_ok, sp_why H G.1 hk hd, Option.bind_some]
  constructor
  · intro hw
    have hbe : ¬ besI (ap a k (ah a k)) d = -1 := by
      intro q
      have hw' := hw
      unfold whyA at hw'
      have c1 : ¬ ringA a k := fun q => by rw [cIf_pos q] at hw'; omega
      rw [cIf_neg c1] at hw'
      have c2 : ¬ ah a k = 60 := fun q => by rw [cIf_pos q] at hw'; omega
      rw [cIf_neg c2, cIf_pos q] at hw'
      omega
    have hl := p384 G.1 hk (Nat.le_refl (ah a k))
    have a1 := ac_rng d
    have a2 := dn_rng d
    obtain ⟨p, hp⟩ : ∃ p : Nat, besI (ap a k (ah a k)) d = p := by
      refine ⟨(besI (ap a k (ah a k)) d).toNat, ?_⟩
      unfold besI at hbe ⊢
      by_cases t : 0 ≤ (ap a k (ah a k) : Int) % 24 + acI d ∧ (ap a k (ah a k) : Int) % 24 + acI d < 24 ∧ 0 ≤ (ap a k (ah a k) : Int) / 24 + dnI d ∧ (ap a k (ah a k) : Int) / 24 + dnI d < 16
      · rw [if_pos t]; omega
      · rw [if_neg t] at hbe; exact absurd rfl hbe
    obtain ⟨hlt, I2⟩ := inv_step G.1 hk hd hp hw
    obtain ⟨hpv, -⟩ := step_pt G.1 hk hp hw
    obtain ⟨η', s1, s2⟩ := sv_ok hH H G.1
    obtain ⟨σ', e1, R⟩ := sp_addStep H G.1 hk hlt hd hp
    obtain ⟨c, hc, ic⟩ := sp_isRing R I2 (k := k) hk
    refine ⟨σ', η', c, p, hlt, hpv, ?_, ic, R, ⟨I2, nxx_step G.1 G.2 hk hd hp hw⟩, s2⟩
    rw [hw, if_pos Z0', s1, Option.bind_some, e1, Option.bind_some, hc, Option.bind_some, Option.bind_some, xc_ok]
    cases c with
    | true => rw [if_pos rfl, if_pos rfl]
    | false => rw [if_neg nft, if_neg nft]
  · intro hw
    have r := why_rng a k d
    rw [if_neg (show ¬ iI (whyA a k d) = (0 : Int32) from by rw [L0]; exact neq (by omega) (by omega) hw), Option.bind_some, xc_err, if_pos rfl]
theorem td_label (S : S3 σ η a) {k : Nat} (hk : k < an a) {p : Nat} (hp : p ≤ ah a k) :
    (whlA a k p = 0 → ∃ σ' η', fL_told σ η (2 : Int32) (iI (k : Int)) (iI (p : Int)) = some (iI (cIf (plA (aLab a k p) k p) (bopA (aLab a k p) k p) (-1)), σ', η') ∧ S3 σ' η' (aLab a k p)) ∧
    (¬ whlA a k p = 0 → fL_told σ η (2 : Int32) (iI (k : Int)) (iI (p : Int)) = some ((-13 : Int32), σ, η)) := by
  obtain ⟨H, G, hH⟩ := S
  unfold fL_told fX6_label
  rw [if_neg (by decide), if_neg (by decide), if_pos rfl, rqn H G.1 hk hp, xth_ok, sp_reason H G.1 hk hp, Option.bind_some]
  constructor
  · intro hw
    obtain ⟨η', s1, s2⟩ := sv_ok hH H G.1
    obtain ⟨σ', e1, R⟩ := sp_putLabel H G.1 hk (p : Int)
    have I2 : InvA (aLab a k (p : Int)) := inv_lab G.1 (Or.inr (whl_lab hw))
    refine ⟨σ', η', ?_, R, ⟨I2, G.2⟩, s2⟩
    rw [hw, if_pos Z0', s1, Option.bind_some, e1, Option.bind_some, sp_bendOfPlace R I2 (k := k) hk (p := p) hp, Option.bind_some, Option.bind_some, xc_ok]
  · intro hw
    have r := whl_rng a k p
    rw [if_neg (show ¬ iI (whlA a k p) = (0 : Int32) from by rw [L0]; exact neq (by omega) (by omega) hw), Option.bind_some, xc_err, if_pos rfl]
theorem td_unlab (S : S3 σ η a) {k : Nat} (hk : k < an a) (x : Int32) :
    (¬ ab a k = -1 → ∃ σ' η', fL_told σ η (3 : Int32) (iI (k : Int)) x = some (iI (ab a k), σ', η') ∧ S3 σ' η' (aLab a k (-1))) ∧
    (ab a k = -1 → fL_told σ η (3 : Int32) (iI (k : Int)) x = some ((-13 : Int32), σ, η)) := by
  obtain ⟨H, G, hH⟩ := S
  have hr := lab_rng G.1 hk
  unfold fL_told fX6_unlabel
  rw [if_neg (by decide), if_neg (by decide), if_neg (by decide), if_pos rfl, rql H G.1 hk, xth_ok, sp_labelIn H G.1 hk, Option.bind_some]
  constructor
  · intro hw
    obtain ⟨η', s1, s2⟩ := sv_ok hH H G.1
    obtain ⟨σ', e1, R⟩ := sp_putLabel H G.1 hk (-1)
    rw [Zm1] at e1
    refine ⟨σ', η', ?_, R, ⟨inv_lab G.1 (Or.inl rfl), G.2⟩, s2⟩
    rw [← Zm1, if_neg (neq (by omega) (by omega) hw), s1, Option.bind_some, Zm1, e1, Option.bind_some, Option.bind_some, xc_ok]
  · intro hw
    rw [hw, if_pos Zm1, Option.bind_some, xc_err, if_pos rfl]
theorem td_best (S : S3 σ η a) {k : Nat} (hk : k < an a) (x : Int32) :
    (¬ bestA a k = -1 → ∃ σ' η', fL_told σ η (4 : Int32) (iI (k : Int)) x = some (iI (bestA a k), σ', η') ∧ S3 σ' η' (aLab a k (bestA a k))) ∧
    (bestA a k = -1 → fL_told σ η (4 : Int32) (iI (k : Int)) x = some ((-13 : Int32), σ, η)) := by
  obtain ⟨H, G, hH⟩ := S
  have hr := best_rng G.1 hk
  unfold fL_told fX6_labelBest
  rw [if_neg (by decide), if_neg (by decide), if_neg (by decide), if_neg (by decide), rql H G.1 hk, xth_ok, sp_best H G.1 hk, Option.bind_some]
  constructor
  · intro hw
    obtain ⟨η', s1, s2⟩ := sv_ok hH H G.1
    obtain ⟨σ', e1, R⟩ := sp_putLabel H G.1 hk (bestA a k)
    refine ⟨σ', η', ?_, R, ⟨best_inv G.1 k, G.2⟩, s2⟩
    rw [← Zm1, if_neg (neq (by omega) (by omega) hw), s1, Option.bind_some, e1, Option.bind_some, Option.bind_some, xc_ok]
  · intro hw
    rw [hw, if_pos Zm1, Option.bind_some, xc_err, if_pos rfl]
end TD
section LM
variable {σ : Sh} {η : Hi} {ν : Nat → Int32} {ζ : Nat → Int64} {ψ : Nat → Int32} {a : Ab} {cap : Nat}
theorem L13n : ¬ (0 : Int32) ≤ (-13 : Int32) := by decide
/-- what a change of the law leaves: both sides again, with so many steps more -/
def LA (σ : Sh) (η : Hi) (ν : Nat → Int32) (ζ : Nat → Int64) (a : Ab) : Prop := S3 σ η a ∧ RepL ν ζ a
theorem l3_i {k : Nat} (hk : k < 8) {c : Nat} (hc : c < 3) : inR (((3 : Int32) * iI (k : Int)) + iI (c : Int)) 24 ∧ Int32.toNatClampNeg (((3 : Int32) * iI (k : Int)) + iI (c : Int)) = 3 * k + c := by
  have e : (3 : Int32) * iI (k : Int) + iI (c : Int) = iI ((3 * k + c : Nat) : Int) := by rw [L3, iI_mul, iI_add]; exact congrArg iI (by omega)
  rw [e]; exact ⟨inR_iI (by omega) (by omega) (by omega), tnN (by omega)⟩
theorem l3_0 {k : Nat} (hk : k < 8) : inR ((3 : Int32) * iI (k : Int)) 24 ∧ Int32.toNatClampNeg ((3 : Int32) * iI (k : Int)) = 3 * k := by
  have e : (3 : Int32) * iI (k : Int) = iI ((3 * k : Nat) : Int) := by rw [L3, iI_mul]; exact congrArg iI (by omega)
  rw [e]; exact ⟨inR_iI (by omega) (by omega) (by omega), tnN (by omega)⟩
theorem begins_no (S : S3 σ η a) (L : RepL ν ζ a) {l p : Nat} (hl : l ≤ 99) (hp : p < 384) (h : ¬ (an a < 8 ∧ ∀ i, i < an a → ¬ onL a i p)) {n : Nat} (hn : n + 1 ≤ cap) (f : Bool) (x : Int32) (hf : f = false) :
    fL_begins_105 cap (iI (l : Int)) (iI (p : Int)) f x σ η ν ζ n = some (true, σ, η, ν, ζ) := by
  subst hf
  unfold fL_begins_105
  rw [if_pos hn, (td_begin S hl hp).2 h, Option.bind_some, if_neg nft, if_pos rfl]
theorem l_begins (Q : LA σ η ν ζ a) {l p : Nat} (hl : l ≤ 99) (hp : p < 384) (hc : 2 ≤ cap) : ∃ σ' η' ν' ζ' a', fL_begins cap σ η ν ζ (iI (l : Int)) (iI (p : Int)) = some (true, σ', η', ν', ζ') ∧ LA σ' η' ν' ζ' a' ∧ an a ≤ an a' ∧ an a' ≤ an a + 1 ∧ tot a' = tot a := by
  obtain ⟨S, L⟩ := Q
  have I := S.2.1.1
  have h8 := I.1
  unfold fL_begins
  rw [l_n L, show (8 : Int32) = iI 8 from rfl]
  by_cases c1 : 8 ≤ (an a : Int)
  · rw [if_pos (yle (by omega) (by omega) c1)]
    refine ⟨σ, η, ν, ζ, a, ?_, ⟨S, L⟩, Nat.le_refl _, Nat.le_succ _, rfl⟩
    unfold fL_begins_24
    rw [if_neg nft]
    exact begins_no S L hl hp (fun w => by omega) (by omega) false _ rfl
  · rw [if_neg (nle (by omega) (by omega) (by omega)), if_pos (show 0 + 1 ≤ cap by omega)]
    obtain ⟨r, er, hr⟩ := sl_owner (cap := 1) L I (p := (p : Int)) (by omega) (Nat.le_refl _)
    rw [er, Option.bind_some]
    rcases hr with ⟨rfl, q2⟩ | ⟨i, q1, rfl, q3⟩
    · rw [if_neg (xnge0 (by omega))]
      have k8' : an a < 8 := by omega
      obtain ⟨σ', η', e1, S'⟩ := (td_begin S hl hp).1 ⟨k8', q2⟩
      have u0 := l_i0 k8'
      have u1 := l_i1 k8'
      have u2 := l_i2 k8'
      have u3 := l_i3 k8'
      have z0 := l3_0 k8'
      have z1 := l3_i k8' (c := 1) (by omega)
      have z2 := l3_i k8' (c := 2) (by omega)
      rw [Z1] at z1
      rw [Z2] at z2
      have w32 : Int32.toNatClampNeg (32 : Int32) = 32 := rfl
      unfold fL_begins_24
      rw [if_pos rfl, l_n L, if_pos u0.1, if_pos u1.1, if_pos u2.1, if_pos u3.1, if_pos z0.1, if_pos z1.1, if_pos z2.1, u0.2, u1.2, u2.2, u3.2, z0.2, z1.2, z2.2, w32]
      unfold fL_begins_105
      rw [if_pos (by omega), e1, Option.bind_some, if_pos rfl, if_pos rfl]
      refine ⟨σ', η', _, _, aLine a l p, rfl, ⟨S', rl_line L I k8' ?_ ?_ ?_ ?_ ?_ (fun x h1 h2 => ?_) (fun x h1 => ?_) (fun y hy => ?_)⟩, by show an a ≤ an a + 1; omega, Nat.le_refl _, tot_line a l p⟩
      · rw [upd_eq, upd_ne (by omega), upd_ne (by omega), upd_ne (by omega), upd_ne (by omega), L.1, iI_s]
      · rw [upd_ne (by omega), upd_ne (by omega), upd_ne (by omega), upd_ne (by omega), upd_eq]
      · rw [upd_ne (by omega), upd_ne (by omega), upd_ne (by omega), upd_eq]
      · rw [upd_ne (by omega), upd_ne (by omega), upd_eq]; rfl
      · rw [upd_ne (by omega), upd_eq]; rfl
      · rw [upd_ne h1, upd_ne (by omega), upd_ne (by omega), upd_ne (by omega), upd_ne (by omega)]
      · unfold vp_updL; rw [if_neg (by omega), if_neg (by omega), if_neg (by omega)]
      · unfold vp_updL
        by_cases y2 : y = 2
        · rw [if_pos (by omega)]; rfl
        · rw [if_neg (by omega)]
          by_cases y1 : y = 1
          · rw [if_pos (by omega)]; rfl
          · rw [if_neg (by omega), if_pos (by omega)]; rfl
    · rw [if_pos (nge0 (by omega))]
      refine ⟨σ, η, ν, ζ, a, ?_, ⟨S, L⟩, Nat.le_refl _, Nat.le_succ _, rfl⟩
      unfold fL_begins_24
      rw [if_neg nft]
      exact begins_no S L hl hp (fun w => w.2 i q1 q3) (by omega) false _ rfl
theorem l_steps (Q : LA σ η ν ζ a) {k : Nat} (hk : k < an a) {d : Int} (hd : 0 ≤ d ∧ d ≤ 7) (hc : 4 ≤ cap) : ∃ σ' η' ν' ζ' a', fL_steps cap σ η ν ζ (iI (k : Int)) (iI d) = some (true, σ', η', ν', ζ') ∧ LA σ' η' ν' ζ' a' ∧ an a' = an a ∧ tot a' ≤ tot a + 1 := by
  obtain ⟨S, L⟩ := Q
  have I := S.2.1.1
  have h8 := k8 I hk
  have h6 := h60 I hk
  have r := why_rng a k d
  unfold fL_steps
  rw [if_pos (show 0 + 1 ≤ cap by omega), if_pos (show 0 + 1 + 2 ≤ cap by omega), sl_why (cap := 2) L I hk hd (Nat.le_refl _), Option.bind_some]
  by_cases hw : whyA a k d = 0
  · obtain ⟨σ', η', c, p, hlt, hpv, e1, ic, S'⟩ := (td_step S hk hd).1 hw
    have L' := rl_step L I hk hlt hd hpv
    have I' := S'.2.1.1
    have e2 : ((3 : Int32) * iI (k : Int)) + (iI (ah a k : Int) / (20 : Int32)) = iI ((3 * k + ah a k / 20 : Nat) : Int) := by
      rw [L3, L20, iI_mul, iI_div (by omega) (by omega), iI_add]; exact congrArg iI (by omega)
    have e3 : (3 : Int32) * (irm (iI (ah a k : Int)) (20 : Int32)) = nI (3 * (ah a k % 20)) := by
      rw [L3, L20, iI_irm (by omega) (by omega), iI_mul, iI_nat]; exact congrArg iI (by omega)
    have e4 : ζ (3 * k + ah a k / 20) = lN (pkN (drA a k) (ah a k % 20) (20 * (ah a k / 20))) := by
      have h := (L.2.2 k hk).2.2.2.2 (ah a k / 20) (by omega)
      rw [show min 20 (ah a k - 20 * (ah a k / 20)) = ah a k % 20 by omega] at h
      exact h
    have hb := bit_step (dr_all a k) (m := ah a k % 20) (s := 20 * (ah a k / 20)) (by omega) hd
    rw [hw, if_pos (show iI 0 ≤ (0 : Int32) from by decide), if_pos (l_i2 h8).1, l_st L I hk, e2, if_pos (inR_iI (by omega) (by omega) (by omega)), tnN (by omega), (l_i2 h8).2, e3, e4, hb, iI_s]
    obtain ⟨ψ, hψ, P⟩ := sl_walks L' I' (k := k) hk (fun _ => (0 : Int32))
    obtain ⟨b, hb1, ib⟩ := sl_closed L' I' (k := k) hk P
    rw [hψ, Option.bind_some, if_pos (show 0 + 1 + 2 + 1 ≤ cap by omega), e1, Option.bind_some, hb1, Option.bind_some]
    refine ⟨σ', η', _, _, aStep a k p, ?_, ⟨S', L'⟩, rfl, tot_step a k p⟩
    have cc : b = c := bool_eq ib ic
    subst cc
    cases b with
    | true => rw [if_pos rfl, if_pos (by rw [if_pos rfl])]
    | false => rw [if_neg nft, if_pos (by rw [if_neg nft])]
  · rw [if_neg (show ¬ iI (whyA a k d) ≤ (0 : Int32) from by rw [L0]; exact nle (by omega) (by omega) (by omega)), if_pos (show 0 + 1 + 2 + 1 ≤ cap by omega), (td_step S hk hd).2 hw, Option.bind_some, if_pos rfl]
    exact ⟨σ, η, ν, ζ, a, rfl, ⟨S, L⟩, rfl, Nat.le_succ _⟩
/-- a side of a ring, and its slanting step -/
theorem rings_side (x1 x2 x3 : Int32) (g : Bool) {t : Nat} (ht : t ≤ 3) {V : Nat} (hV : V ≤ 9) (K : Bool → Int32 → Sh → Hi → (Nat → Int32) → (Nat → Int64) → Nat → Option (Bool × Sh × Hi × (Nat → Int32) × (Nat → Int64))) : ∀ (m j fu : Nat) (σ : Sh) (η : Hi) (ν : Nat → Int32) (ζ : Nat → Int64) (a : Ab) (k n : Nat), j + m = V → m < fu → LA σ η ν ζ a → k < an a → n + 4 * m + 4 ≤ cap →
    ∃ σ' η' ν' ζ' a' n', fL_rings_116 cap x1 x2 x3 g (iI (k : Int)) (iI (t : Int)) (iI (V : Int)) K fu true (iI (j : Int)) σ η ν ζ n = K true (iI ((t + 1 : Nat) : Int)) σ' η' ν' ζ' n' ∧ LA σ' η' ν' ζ' a' ∧ an a' = an a ∧ tot a' ≤ tot a + m + 1 ∧ n' ≤ n + 4 * m + 4 := by
  intro m
  induction m with
  | zero =>
    intro j fu σ η ν ζ a k n h1 h2 Q hk hn
    obtain ⟨f, rfl⟩ : ∃ f, fu = f + 1 := ⟨fu - 1, by omega⟩
    rw [fL_rings_116, if_pos (yle (by omega) (by omega) (by omega))]
    unfold fL_rings_148
    rw [if_pos rfl, iI_s]
    cases g with
    | false => rw [if_neg nft]; exact ⟨σ, η, ν, ζ, a, n, rfl, Q, rfl, by omega, by omega⟩
    | true =>
      have e : (2 : Int32) * iI (t : Int) + (1 : Int32) = iI ((2 * t + 1 : Nat) : Int) := by rw [L2, L1, iI_mul, iI_add]; exact congrArg iI (by omega)
      obtain ⟨σ', η', ν', ζ', a', g1, g2, g3, g4⟩ := l_steps (cap := 4) Q hk (d := ((2 * t + 1 : Nat) : Int)) (by omega) (Nat.le_refl _)
      rw [if_pos rfl, if_pos (by omega), e, g1, Option.bind_some, if_pos rfl]
      exact ⟨σ', η', ν', ζ', a', n + 4, rfl, g2, g3, by omega, by omega⟩
  | succ m ih =>
    intro j fu σ η ν ζ a k n h1 h2 Q hk hn
    obtain ⟨f, rfl⟩ : ∃ f, fu = f + 1 := ⟨fu - 1, by omega⟩
    have e : (2 : Int32) * iI (t : Int) = iI ((2 * t : Nat) : Int) := by rw [L2, iI_mul]; exact congrArg iI (by omega)
    obtain ⟨σ', η', ν', ζ', a', g1, g2, g3, g4⟩ := l_steps (cap := 4) Q hk (d := ((2 * t : Nat) : Int)) (by omega) (Nat.le_refl _)
    rw [fL_rings_116, if_neg (nle (by omega) (by omega) (by omega)), if_pos rfl, if_pos (by omega), e, g1, Option.bind_some, iI_s]
    obtain ⟨σ2, η2, ν2, ζ2, a2, n2, f1, f2, f3, f4, f5⟩ := ih (j + 1) f σ' η' ν' ζ' a' k (n + 4) (by omega) (by omega) g2 (by omega) (by omega)
    exact ⟨σ2, η2, ν2, ζ2, a2, n2, f1, f2, f3.trans g3, by omega, by omega⟩
def rgN (V W : Nat) : Nat → Nat → Nat
  | 0, _ => 0
  | m + 1, j => (if j % 2 = 0 then V else W) + 1 + rgN V W m (j + 1)
theorem rings_all (x1 : Int32) (g : Bool) {V W : Nat} (hV : V ≤ 9) (hW : W ≤ 9) {k : Nat} (hk : k < 100) : ∀ (m t fu : Nat) (σ : Sh) (η : Hi) (ν : Nat → Int32) (ζ : Nat → Int64) (a : Ab) (n : Nat), t + m = 4 → m < fu → LA σ η ν ζ a → n + 4 * rgN V W m t ≤ cap →
    ∃ σ' η' ν' ζ' a', fL_rings_77 cap x1 (iI (V : Int)) (iI (W : Int)) g (iI (k : Int)) fu true (iI (t : Int)) σ η ν ζ n = some (true, σ', η', ν', ζ') ∧ LA σ' η' ν' ζ' a' ∧ tot a' ≤ tot a + rgN V W m t := by
  intro m
  induction m with
  | zero =>
    intro t fu σ η ν ζ a n h1 h2 Q hn
    obtain ⟨f, rfl⟩ : ∃ f, fu = f + 1 := ⟨fu - 1, by omega⟩
    rw [fL_rings_77, show (4 : Int32) = iI 4 from rfl, if_pos (yle (by omega) (by omega) (by omega))]
    exact ⟨σ, η, ν, ζ, a, rfl, Q, by rw [rgN]; omega⟩
  | succ m ih =>
    intro t fu σ η ν ζ a n h1 h2 Q hn
    obtain ⟨f, rfl⟩ : ∃ f, fu = f + 1 := ⟨fu - 1, by omega⟩
    have I := Q.1.2.1.1
    have h8 := I.1
    rw [rgN] at hn
    rw [fL_rings_77, show (4 : Int32) = iI 4 from rfl, if_neg (nle (by omega) (by omega) (by omega)), if_pos rfl, l_n Q.2]
    by_cases c : an a ≤ k
    · rw [if_pos (yle (by omega) (by omega) (by omega))]
      exact ⟨σ, η, ν, ζ, a, rfl, Q, by omega⟩
    · rw [if_neg (nle (by omega) (by omega) (by omega))]
      have e : irm (iI (t : Int)) (2 : Int32) = iI ((t % 2 : Nat) : Int) := by rw [L2, iI_irm (by omega) (by omega)]; exact congrArg iI (by omega)
      have go : ∀ U : Nat, U ≤ 9 → (if t % 2 = 0 then V else W) = U → ∃ σ' η' ν' ζ' a', fL_rings_116 cap x1 (iI (V : Int)) (iI (W : Int)) g (iI (k : Int)) (iI (t : Int)) (iI (U : Int)) (fL_rings_77 cap x1 (iI (V : Int)) (iI (W : Int)) g (iI (k : Int)) f) FU true (0 : Int32) σ η ν ζ n = some (true, σ', η', ν', ζ') ∧ LA σ' η' ν' ζ' a' ∧ tot a' ≤ tot a + rgN V W (m + 1) t := by
        intro U hU eU
        rw [eU] at hn
        obtain ⟨σ2, η2, ν2, ζ2, a2, n2, f1, f2, f3, f4, f5⟩ := rings_side (cap := cap) x1 (iI (V : Int)) (iI (W : Int)) g (t := t) (by omega) hU (fL_rings_77 cap x1 (iI (V : Int)) (iI (W : Int)) g (iI (k : Int)) f) U 0 FU σ η ν ζ a k n (by omega) (FU_gt (by omega)) Q (by omega) (by omega)
        rw [Z0] at f1
        obtain ⟨σ3, η3, ν3, ζ3, a3, g1, g2, g3⟩ := ih (t + 1) f σ2 η2 ν2 ζ2 a2 n2 (by omega) (by omega) f2 (by omega)
        exact ⟨σ3, η3, ν3, ζ3, a3, f1.trans g1, g2, by rw [rgN, eU]; omega⟩
      rw [e]
      by_cases c2 : t % 2 = 0
      · rw [if_pos (by rw [c2]; rfl)]; exact go V hV (if_pos c2)
      · rw [if_neg (by rw [L0]; exact neq (by omega) (by omega) (by omega))]; exact go W hW (if_neg c2)
theorem l_rings (Q : LA σ η ν ζ a) (c : Int32) (hc : 138 ≤ cap) : ∃ σ' η' ν' ζ' a', fL_rings cap σ η ν ζ c = some (true, σ', η', ν', ζ') ∧ LA σ' η' ν' ζ' a' ∧ tot a' ≤ tot a + 34 := by
  have I := Q.1.2.1.1
  have h8 := I.1
  obtain ⟨r1, h1, e1⟩ := sl_low (c >>> ((4 : Int32) &&& 31)) (n := 9) (by omega)
  obtain ⟨r2, h2, e2⟩ := sl_low (c >>> ((9 : Int32) &&& 31)) (n := 6) (by omega)
  obtain ⟨r3, h3, e3⟩ := sl_low (c >>> ((13 : Int32) &&& 31)) (n := 2) (by omega)
  obtain ⟨r4, h4, e4⟩ := sl_low (c >>> ((3 : Int32) &&& 31)) (n := 30) (by omega)
  obtain ⟨r5, h5, e5⟩ := sl_low (c >>> ((2 : Int32) &&& 31)) (n := 384) (by omega)
  have e1' : fL_low (c >>> ((4 : Int32) &&& 31)) (9 : Int32) = some (iI (r1 : Int)) := e1
  have e2' : fL_low (c >>> ((9 : Int32) &&& 31)) (6 : Int32) = some (iI (r2 : Int)) := e2
  have e3' : fL_low (c >>> ((13 : Int32) &&& 31)) (2 : Int32) = some (iI (r3 : Int)) := e3
  have e4' : fL_low (c >>> ((3 : Int32) &&& 31)) (30 : Int32) = some (iI (r4 : Int)) := e4
  have e5' : fL_low (c >>> ((2 : Int32) &&& 31)) (384 : Int32) = some (iI (r5 : Int)) := e5
  have go : ∀ g : Bool, ∃ σ' η' ν' ζ' a', fL_rings_41 cap c ((1 : Int32) + iI (r1 : Int)) ((1 : Int32) + iI (r2 : Int)) g σ η ν ζ 0 = some (true, σ', η', ν', ζ') ∧ LA σ' η' ν' ζ' a' ∧ tot a' ≤ tot a + 34 := by
    intro g
    have f1 : (1 : Int32) + iI (r1 : Int) = iI ((1 + r1 : Nat) : Int) := by rw [L1, iI_add]; exact congrArg iI (by omega)
    have f2 : (1 : Int32) + iI (r2 : Int) = iI ((1 + r2 : Nat) : Int) := by rw [L1, iI_add]; exact congrArg iI (by omega)
    obtain ⟨σ1, η1, ν1, ζ1, a1, g1, g2, g3, g4, g5⟩ := l_begins (cap := 2) Q (l := r4) (p := r5) (by omega) (by omega) (Nat.le_refl _)
    have hrg : rgN (1 + r1) (1 + r2) 4 0 = 2 * (1 + r1) + 2 * (1 + r2) + 4 := by
      simp [rgN]; omega
    obtain ⟨σ2, η2, ν2, ζ2, a2, k1, k2, k3⟩ := rings_all (cap := cap) c g (V := 1 + r1) (W := 1 + r2) (by omega) (by omega) (k := an a) (by omega) 4 0 FU σ1 η1 ν1 ζ1 a1 (0 + 2) (by omega) (FU_gt (by omega)) g2 (by omega)
    rw [Z0] at k1
    refine ⟨σ2, η2, ν2, ζ2, a2, ?_, k2, by omega⟩
    unfold fL_rings_41
    rw [e4', Option.bind_some, e5', Option.bind_some, if_pos (by omega), g1, Option.bind_some, f1, f2, l_n Q.2, k1]
  unfold fL_rings
  rw [e1', Option.bind_some, e2', Option.bind_some, e3', Option.bind_some]
  by_cases q : r3 = 0
  · rw [if_pos (by rw [q]; rfl)]; exact go true
  · rw [if_neg (by rw [L0]; exact neq (by omega) (by omega) (by omega))]; exact go false
/-- one line moved down -/
theorem wipes_in (x : Int32) {v : Nat} (hv : v < 7) (K : Int32 → (Nat → Int32) → (Nat → Int64) → Option ((Nat → Int32) × (Nat → Int64))) : ∀ (m j fu : Nat) (ν : Nat → Int32) (ζ : Nat → Int64), j + m = 4 → m < fu →
    ∃ ν' ζ', fL_wipes_11 x (iI (v : Int)) K fu (iI (j : Int)) ν ζ = K (iI ((v + 1 : Nat) : Int)) ν' ζ' ∧ (∀ c, c < 4 → j ≤ c → ν' (4 * v + c) = ν (4 * (v + 1) + c)) ∧ (∀ y, ¬ (4 * v + j ≤ y ∧ y < 4 * v + 4) → ν' y = ν y) ∧
      (∀ q, q < 3 → (j ≤ q ∨ (q = 0 ∧ j ≤ 3)) → ζ' (3 * v + q) = ζ (3 * (v + 1) + q)) ∧ (∀ q, q < 3 → ¬ (j ≤ q ∨ (q = 0 ∧ j ≤ 3)) → ζ' (3 * v + q) = ζ (3 * v + q)) ∧ (∀ y, ¬ (3 * v ≤ y ∧ y < 3 * v + 3) → ζ' y = ζ y) := by
  intro m
  induction m with
  | zero =>
    intro j fu ν ζ h1 h2
    obtain ⟨f, rfl⟩ : ∃ f, fu = f + 1 := ⟨fu - 1, by omega⟩
    rw [fL_wipes_11, show (4 : Int32) = iI 4 from rfl, if_pos (yle (by omega) (by omega) (by omega)), iI_s]
    exact ⟨ν, ζ, rfl, fun c h3 h4 => by omega, fun _ _ => rfl, fun q h3 h4 => by omega, fun _ _ _ => rfl, fun _ _ => rfl⟩
  | succ m ih =>
    intro j fu ν ζ h1 h2
    obtain ⟨f, rfl⟩ : ∃ f, fu = f + 1 := ⟨fu - 1, by omega⟩
    have e1 : (4 : Int32) * iI (v : Int) + (4 : Int32) + iI (j : Int) = iI ((4 * (v + 1) + j : Nat) : Int) := by rw [L4, iI_mul, iI_add, iI_add]; exact congrArg iI (by omega)
    have e2 : (4 : Int32) * iI (v : Int) + iI (j : Int) = iI ((4 * v + j : Nat) : Int) := by rw [L4, iI_mul, iI_add]; exact congrArg iI (by omega)
    have e3 : (3 : Int32) * iI (v : Int) + (3 : Int32) + irm (iI (j : Int)) (3 : Int32) = iI ((3 * (v + 1) + j % 3 : Nat) : Int) := by rw [L3, iI_irm (by omega) (by omega), iI_mul, iI_add, iI_add]; exact congrArg iI (by omega)
    have e4 : (3 : Int32) * iI (v : Int) + irm (iI (j : Int)) (3 : Int32) = iI ((3 * v + j % 3 : Nat) : Int) := by rw [L3, iI_irm (by omega) (by omega), iI_mul, iI_add]; exact congrArg iI (by omega)
    have h4 : ¬ (4 : Int32) ≤ iI (j : Int) := by rw [show (4 : Int32) = iI 4 from rfl]; exact nle (by omega) (by omega) (by omega)
    obtain ⟨ν', ζ', g1, g2, g3, g4, g5, g6⟩ := ih (j + 1) f (upd ν (4 * v + j) (ν (4 * (v + 1) + j))) (vp_updL ζ (3 * v + j % 3) (ζ (3 * (v + 1) + j % 3))) (by omega) (by omega)
    refine ⟨ν', ζ', ?_, fun c c1 c2 => ?_, fun y hy => ?_, fun q q1 q2 => ?_, fun q q1 q2 => ?_, fun y hy => ?_⟩
    · rw [fL_wipes_11, if_neg h4, e1, e2, e3, e4, if_pos (inR_iI (by omega) (by omega) (by omega)), if_pos (inR_iI (by omega) (by omega) (by omega)), if_pos (inR_iI (by omega) (by omega) (by omega)), if_pos (inR_iI (by omega) (by omega) (by omega)), tnN (by omega), tnN (by omega), tnN (by omega), tnN (by omega), iI_s, g1]
    · by_cases w : c = j
      · subst w; rw [g3 _ (by omega), upd_eq]
      · rw [g2 c c1 (by omega), upd_ne (by omega)]
    · rw [g3 y (by omega), upd_ne (by omega)]
    · by_cases w : j + 1 ≤ q ∨ (q = 0 ∧ j + 1 ≤ 3)
      · rw [g4 q q1 w]; unfold vp_updL; rw [if_neg (by omega)]
      · rw [g5 q q1 w]; unfold vp_updL; rw [if_pos (by omega)]; exact congrArg ζ (by omega)
    · rw [g5 q q1 (by omega)]; unfold vp_updL; rw [if_neg (by omega)]
    · rw [g6 y hy]; unfold vp_updL; rw [if_neg (by omega)]
theorem wipes_out (x : Int32) : ∀ (m v fu : Nat) (ν : Nat → Int32) (ζ : Nat → Int64), v + m = 7 → m < fu →
    ∃ ν' ζ', fL_wipes_2 x fu (iI (v : Int)) ν ζ = some (ν', ζ') ∧ ν' 32 = ν 32 - (1 : Int32) ∧ ν' 33 = ν 33 ∧ (∀ i c, v ≤ i → i < 7 → c < 4 → ν' (4 * i + c) = ν (4 * (i + 1) + c)) ∧ (∀ y, y < 4 * v → ν' y = ν y) ∧ (∀ i q, v ≤ i → i < 7 → q < 3 → ζ' (3 * i + q) = ζ (3 * (i + 1) + q)) ∧ (∀ y, y < 3 * v → ζ' y = ζ y) := by
  intro m
  induction m with
  | zero =>
    intro v fu ν ζ h1 h2
    obtain ⟨f, rfl⟩ : ∃ f, fu = f + 1 := ⟨fu - 1, by omega⟩
    rw [fL_wipes_2, L7, if_pos (yle (by omega) (by omega) (by omega)), show Int32.toNatClampNeg (32 : Int32) = 32 from rfl]
    exact ⟨_, _, rfl, upd_eq, upd_ne (by omega), fun i c h3 h4 => by omega, fun y hy => upd_ne (by omega), fun i q h3 h4 => by omega, fun _ _ => rfl⟩
  | succ m ih =>
    intro v fu ν ζ h1 h2
    obtain ⟨f, rfl⟩ : ∃ f, fu = f + 1 := ⟨fu - 1, by omega⟩
    obtain ⟨ν1, ζ1, g1, g2, g3, g4, g5, g6⟩ := wipes_in x (v := v) (by omega) (fL_wipes_2 x f) 4 0 FU ν ζ (by omega) (FU_gt (by omega))
    rw [Z0] at g1
    obtain ⟨ν2, ζ2, k1, k2, k3, k4, k5, k6, k7⟩ := ih (v + 1) f ν1 ζ1 (by omega) (by omega)
    refine ⟨ν2, ζ2, ?_, ?_, ?_, fun i c h3 h4 h5 => ?_, fun y hy => ?_, fun i q h3 h4 h5 => ?_, fun y hy => ?_⟩
    · rw [fL_wipes_2, L7, if_neg (nle (by omega) (by omega) (by omega)), g1, k1]
    · rw [k2, g3 _ (by omega)]
    · rw [k3, g3 _ (by omega)]
    · by_cases w : i = v
      · subst w; rw [k5 _ (by omega), g2 c h5 (by omega)]
      · rw [k4 i c (by omega) h4 h5, g3 _ (by omega)]
    · rw [k5 y (by omega), g3 _ (by omega)]
    · by_cases w : i = v
      · subst w; rw [k7 _ (by omega), g4 q h5 (by omega)]
      · rw [k6 i q (by omega) h4 h5, g6 _ (by omega)]
    · rw [k7 y (by omega), g6 _ (by omega)]
theorem l_wipes (L : RepL ν ζ a) (I : InvA a) {k : Nat} (hk : k < an a) : ∃ ν' ζ', fL_wipes ν ζ (iI (k : Int)) = some (ν', ζ') ∧ RepL ν' ζ' (aWipe a k) := by
  have h8 := I.1
  obtain ⟨ν', ζ', g1, g2, g3, g4, g5, g6, g7⟩ := wipes_out (iI (k : Int)) (7 - k) k FU ν ζ (by omega) (FU_gt (by omega))
  refine ⟨ν', ζ', g1, rl_wipe L ?_ g3 (fun i c hi hc => ?_) (fun i q hi hq => ?_) hk⟩
  · rw [g2, L.1, L1, iI_sub]; exact congrArg iI (by omega)
  · unfold wx
    by_cases w : i < k
    · rw [if_pos w]; exact g5 _ (by omega)
    · rw [if_neg w]; exact g4 i c (by omega) (by omega) hc
  · unfold wx
    by_cases w : i < k
    · rw [if_pos w]; exact g7 _ (by omega)
    · rw [if_neg w]; exact g6 i q (by omega) (by omega) hq
theorem upd_id {f : Nat → Int32} {k : Nat} {v : Int32} (h : f k = v) : upd f k v = f := by
  funext x
  by_cases q : x = k
  · subst q; rw [upd_eq, h]
  · rw [upd_ne q]
theorem uF_le (m : Nat) (x : Int32) : ∀ (i : Nat), uFr ν x m i ≤ m := by
  induction m with
  | zero => intro i; exact Nat.le_refl _
  | succ m ih =>
    intro i
    have := ih (i + 1)
    rw [uFr]
    split <;> omega
theorem tot_lab (a : Ab) (k : Nat) (b : Int) : tot (aLab a k b) = tot a := totA_congr _ _ (fun _ _ _ => rfl)
theorem tot_lev (a : Ab) (k l : Nat) : tot (aLev a k l) = tot a := totA_congr _ _ (fun _ _ _ => rfl)
theorem tot_gap (a : Ab) (g : Nat) : tot (aGap a g) = tot a := totA_congr _ _ (fun _ _ _ => rfl)
theorem repP_lab {k : Nat} {b : Int} (P : RepP ψ a k) : RepP ψ (aLab a k b) k := P
theorem l_labels (Q : LA σ η ν ζ a) {k : Nat} (hk : k < an a) (c : Int32) {x : Int32} (hx : x = 0 ∨ x = 1 ∨ x = 2) (hc : uL ν (iI (k : Int)) ≤ cap) : ∃ σ' η' ν' a', fL_labels cap σ η ν ζ (iI (k : Int)) x c = some (true, σ', η', ν') ∧ LA σ' η' ν' ζ a' ∧ tot a' = tot a := by
  obtain ⟨S, L⟩ := Q
  have I := S.2.1.1
  have h8 := k8 I hk
  have h6 := h60 I hk
  have hlr := lab_rng I hk
  obtain ⟨ψ, hψ, P⟩ := sl_walks L I hk (fun _ => (0 : Int32))
  unfold uL at hc
  rw [uSt_e L I hk] at hc
  unfold fL_labels
  rw [if_pos (show 0 + 1 ≤ cap by omega), hψ, Option.bind_some, if_pos (l_i3 h8).1, l_lb L I hk]
  rcases hx with rfl | rfl | rfl
  · obtain ⟨p, hp, ep⟩ := sl_low (c >>> ((5 : Int32) &&& 31)) (n := ah a k + 1) (by omega)
    have hp' : p ≤ ah a k := by omega
    have hu : (0 + 1) + uA ν (iI (k : Int)) (iI (p : Int)) + 1 ≤ cap := by
      rcases Nat.lt_or_ge p (ah a k) with w | w
      · rw [uA_lt L I hk w]
        have : 1 * uF ν (iI (k : Int)) ≤ ah a k * uF ν (iI (k : Int)) := Nat.mul_le_mul_right _ (by omega)
        omega
      · rw [uA_ge L I hk w (by omega)]; omega
    rw [if_pos rfl, if_pos (l_i2 h8).1, l_st L I hk, iI_s, ep, Option.bind_some, if_pos (by omega), sl_against L I hk P hp' (Nat.le_refl _), Option.bind_some]
    have hwr := whl_rng a k p
    by_cases hw : whlA a k p = 0
    · obtain ⟨σ', η', e1, S'⟩ := (td_label S hk hp').1 hw
      have L' := rl_lab L I hk (p : Int)
      have I' := S'.2.1.1
      have hb := sl_bends (ν := upd ν (4 * k + 3) (iI (p : Int))) (a := aLab a k (p : Int)) L' I' (k := k) hk (repP_lab P) (p := p) hp'
      rw [hw, if_pos Z0']
      unfold fL_labels_84
      rw [if_pos (l_i3 h8).1, if_pos (by omega), e1, Option.bind_some, if_pos rfl, (l_i3 h8).2, hb, Option.bind_some, if_pos rfl]
      exact ⟨σ', η', _, aLab a k (p : Int), rfl, ⟨S', L'⟩, tot_lab _ _ _⟩
    · rw [if_neg (show ¬ iI (whlA a k p) = (0 : Int32) from by rw [L0]; exact neq (by omega) (by omega) hw)]
      unfold fL_labels_84
      rw [if_pos (l_i3 h8).1, if_pos (by omega), (td_label S hk hp').2 hw, Option.bind_some, if_neg nft, if_pos rfl, (l_i3 h8).2, upd_id (L.2.2 k hk).2.2.2.1]
      exact ⟨σ, η, ν, a, rfl, ⟨S, L⟩, rfl⟩
  · rw [if_neg (by decide), if_pos rfl, if_pos (by omega)]
    by_cases hw : ab a k = -1
    · rw [(td_unlab S hk 0).2 hw, Option.bind_some, if_neg (xnge0 (by omega)), if_pos rfl, (l_i3 h8).2, ← Zm1, upd_id ((L.2.2 k hk).2.2.2.1.trans (by rw [hw]))]
      exact ⟨σ, η, ν, a, rfl, ⟨S, L⟩, rfl⟩
    · obtain ⟨σ', η', e1, S'⟩ := (td_unlab S hk 0).1 hw
      rw [e1, Option.bind_some, if_pos (nge0 (by omega)), if_pos rfl, (l_i3 h8).2, ← Zm1]
      exact ⟨σ', η', _, aLab a k (-1), rfl, ⟨S', rl_lab L I hk (-1)⟩, tot_lab _ _ _⟩
  · have hb1 : uB ν (iI (k : Int)) = 1 + 2 * (ah a k * uF ν (iI (k : Int))) := by unfold uB; rw [uSt_e L I hk]
    have hr := best_rng I hk
    rw [if_neg (by decide), if_neg (by decide), if_pos (by omega), sl_best L I hk (Nat.le_refl _), Option.bind_some]
    by_cases hw : bestA a k = -1
    · rw [if_neg (xnge0 (by omega))]
      unfold fL_labels_190
      rw [if_pos (l_i3 h8).1, if_pos (by omega), (td_best S hk 0).2 hw, Option.bind_some, if_neg (xnge0 (by omega)), if_pos rfl, (l_i3 h8).2, upd_id (L.2.2 k hk).2.2.2.1]
      exact ⟨σ, η, ν, a, rfl, ⟨S, L⟩, rfl⟩
    · obtain ⟨σ', η', e1, S'⟩ := (td_best S hk 0).1 hw
      rw [if_pos (nge0 (by omega))]
      unfold fL_labels_190
      rw [if_pos (l_i3 h8).1, if_pos (by omega), e1, Option.bind_some, if_pos (nge0 (by omega)), if_pos rfl, (l_i3 h8).2]
      exact ⟨σ', η', _, aLab a k (bestA a k), rfl, ⟨S', rl_lab L I hk (bestA a k)⟩, tot_lab _ _ _⟩
end LM
