/-! one line told by the class and by the law -/
theorem and31 (x : Int32) : x &&& (2147483647 : Int32) = nI (x.toBitVec.toNat % 2147483648) := pk_and x 31 rfl
theorem sl_low (x : Int32) {n : Nat} (h : 0 < n ∧ n < 2147483648) : ∃ p : Nat, p < n ∧ fL_low x (iI n) = some (iI p) := by
  have hm : x.toBitVec.toNat % 2147483648 < 2147483648 := Nat.mod_lt _ (by decide)
  refine ⟨x.toBitVec.toNat % 2147483648 % n, Nat.mod_lt _ h.1, ?_⟩
  unfold fL_low
  rw [L0, if_pos (neq (by omega) (by omega) (by omega)), and31, iI_nat, iI_irm (by omega) (by omega)]
  exact congrArg (fun z => some (iI z)) (by omega)
theorem ownR_uniq {a : Ab} (I : InvA a) {p r r' : Int} (h1 : ownR a p r) (h2 : ownR a p r') : r = r' := by
  rcases h1 with ⟨e1, f1⟩ | ⟨i, hi, e1, o1⟩
  · rcases h2 with ⟨e2, _⟩ | ⟨j, hj, e2, o2⟩
    · omega
    · exact absurd o2 (f1 j hj)
  · rcases h2 with ⟨e2, f2⟩ | ⟨j, hj, e2, o2⟩
    · exact absurd o1 (f2 i hi)
    · have := own_uniq I hi hj o1 o2; omega
theorem ownR_rng {a : Ab} (I : InvA a) {p r : Int} (h : ownR a p r) : -1 ≤ r ∧ r < 8 := by
  have := I.1
  rcases h with ⟨e, _⟩ | ⟨i, hi, e, _⟩ <;> omega
theorem xov_some {α β : Type} {v : α} {k : α → Option β} : xokv (some (Except.ok v)) k = k v := rfl
section KR
variable {σ : Sh} {δ : Dr} {a : Ab}
theorem zr (I : InvA a) {k : Nat} (hk : k < an a) : -2147483648 ≤ (k : Int) ∧ (k : Int) < 2147483648 := by have := I.1; omega
theorem rql (H : RepS σ a) (I : InvA a) {k : Nat} (hk : k < an a) : fX6_requireLine σ (iI k) = some (.ok ()) := (rq_line H I (zr I hk)).1 (by omega)
theorem rqn (H : RepS σ a) (I : InvA a) {k : Nat} (hk : k < an a) {j : Nat} (hj : j ≤ ah a k) : fX6_requireNumber σ (iI k) (iI j) = some (.ok ()) := (rq_num H I (zr I hk) (by have := h60 I hk; omega)).1 ⟨by omega, by omega, by rw [Int.toNat_natCast]; omega⟩
theorem k_levelOf (H : RepS σ a) (I : InvA a) {k : Nat} (hk : k < an a) : fX6_levelOf σ (iI k) = some (.ok (iI (al a k))) := by unfold fX6_levelOf; rw [rql H I hk, xth_ok, sp_levelIn H I hk, Option.bind_some]
theorem k_stepsOf (H : RepS σ a) (I : InvA a) {k : Nat} (hk : k < an a) : fX6_stepsOf σ (iI k) = some (.ok (iI (ah a k))) := by unfold fX6_stepsOf; rw [rql H I hk, xth_ok, sp_stepCount H I hk, Option.bind_some]
theorem k_labelOf (H : RepS σ a) (I : InvA a) {k : Nat} (hk : k < an a) : fX6_labelOf σ (iI k) = some (.ok (iI (ab a k))) := by unfold fX6_labelOf; rw [rql H I hk, xth_ok, sp_labelIn H I hk, Option.bind_some]
theorem k_sizeOf (H : RepS σ a) (I : InvA a) {k : Nat} (hk : k < an a) : fX6_sizeOf σ (iI k) = some (.ok (iI (szA a k))) := by unfold fX6_sizeOf; rw [rql H I hk, xth_ok, sp_sizeIn H I hk, Option.bind_some]
theorem k_isClosed (H : RepS σ a) (I : InvA a) {k : Nat} (hk : k < an a) : ∃ b, fX6_isClosed σ (iI k) = some (.ok b) ∧ (b = true ↔ ringA a k) := by
  obtain ⟨b, hb, ib⟩ := sp_isRing H I hk
  exact ⟨b, by unfold fX6_isClosed; rw [rql H I hk, xth_ok, hb, Option.bind_some], ib⟩
theorem k_pointOf (H : RepS σ a) (I : InvA a) {k : Nat} (hk : k < an a) {j : Nat} (hj : j ≤ ah a k) : fX6_pointOf σ (iI k) (iI j) = some (.ok (iI (ap a k j))) := by unfold fX6_pointOf; rw [rqn H I hk hj, xth_ok, sp_pointAt H I hk hj, Option.bind_some]
theorem k_bendAt (H : RepS σ a) (I : InvA a) {k : Nat} (hk : k < an a) {j : Nat} (hj : j ≤ ah a k) : fX6_bendAt σ (iI k) (iI j) = some (.ok (iI (bndA a k j))) := by unfold fX6_bendAt; rw [rqn H I hk hj, xth_ok, sp_bendThere H I hk hj, Option.bind_some]
theorem k_bendOf (H : RepS σ a) (I : InvA a) {k : Nat} (hk : k < an a) {j : Nat} (hj : j ≤ ah a k) : fX6_bendOf σ (iI k) (iI j) = some (.ok (iI (cIf (plA a k j) (bopA a k j) (-1)))) := by unfold fX6_bendOf; rw [rqn H I hk hj, xth_ok, sp_bendOfPlace H I hk hj, Option.bind_some]
theorem k_whyNotLabelled (H : RepS σ a) (I : InvA a) {k : Nat} (hk : k < an a) {j : Nat} (hj : j ≤ ah a k) : fX6_whyNotLabelled σ (iI k) (iI j) = some (.ok (iI (whlA a k j))) := by unfold fX6_whyNotLabelled; rw [rqn H I hk hj, xth_ok, sp_reason H I hk hj, Option.bind_some]
theorem k_placesOf (H : RepS σ a) (I : InvA a) {k : Nat} (hk : k < an a) : fX6_placesOf σ (iI k) = some (.ok (iI (cntA a k (ah a k + 1) 0 0))) := by unfold fX6_placesOf; rw [rql H I hk, xth_ok, sp_countPlaces H I hk, Option.bind_some]
theorem k_bestPlace (H : RepS σ a) (I : InvA a) {k : Nat} (hk : k < an a) : fX6_bestPlace σ (iI k) = some (.ok (iI (bestA a k))) := by unfold fX6_bestPlace; rw [rql H I hk, xth_ok, sp_best H I hk, Option.bind_some]
theorem k_lineRound (H : RepS σ a) (I : InvA a) {k : Nat} (hk : k < an a) : fX6_lineRound σ (iI k) = some (.ok (iI (rndA a k))) := by unfold fX6_lineRound; rw [rql H I hk, xth_ok, sp_round H I hk, Option.bind_some]
theorem k_whyNotStepped (H : RepS σ a) (I : InvA a) {k : Nat} (hk : k < an a) {d : Int} (hd : 0 ≤ d ∧ d ≤ 7) : fX6_whyNotStepped σ (iI k) (iI d) = some (.ok (iI (whyA a k d))) := by unfold fX6_whyNotStepped; rw [rql H I hk, xth_ok, (rq_dir (by omega)).1 hd, xth_ok, sp_why H I hk hd, Option.bind_some]
theorem k_isTurned (H : RepS σ a) (I : InvA a) {k : Nat} (hk : k < an a) : ∃ b, fX6_isTurned σ (iI k) = some (.ok b) ∧ (b = true ↔ ¬ ab a k = -1 ∧ lefA a k (ab a k).toNat) := by
  have hl := lab_rng I hk
  unfold fX6_isTurned
  rw [rql H I hk, xth_ok, sp_labelIn H I hk, Option.bind_some]
  by_cases q : ab a k = -1
  · rw [if_pos (by rw [q]; rfl)]; exact ⟨false, rfl, (fun h => by cases h), (fun h => absurd q h.1)⟩
  · obtain ⟨p1, p2, p3, p4⟩ := lab_pl I hk q
    obtain ⟨b, hb, ib⟩ := sp_goesLeft H I hk p2
    rw [p4] at hb
    rw [if_neg (by rw [Lm1]; exact neq (by omega) (by omega) q), hb, Option.bind_some]
    by_cases w : b = true
    · rw [if_pos w]; exact ⟨true, rfl, (fun _ => ⟨q, ib.mp w⟩), (fun _ => rfl)⟩
    · rw [if_neg w]; exact ⟨false, rfl, (fun h => by cases h), (fun h => absurd (ib.mpr h.2) w)⟩
noncomputable def rdfA (a : Ab) (k : Nat) : Int := cIf (ab a k = -1) (-1) (cIf (lefA a k (ab a k).toNat) (ap a k ((ab a k).toNat + szA a k - 1)) (ap a k (ab a k).toNat))
theorem k_readFrom (H : RepS σ a) (I : InvA a) {k : Nat} (hk : k < an a) : fX6_readFrom σ (iI k) = some (.ok (iI (rdfA a k))) := by
  have hl := lab_rng I hk
  have hs := sz_rng a k
  unfold fX6_readFrom rdfA
  rw [rql H I hk, xth_ok, sp_labelIn H I hk, Option.bind_some]
  by_cases q : ab a k = -1
  · rw [if_pos (by rw [q]; rfl), cIf_pos q]; rfl
  · obtain ⟨p1, p2, p3, p4⟩ := lab_pl I hk q
    obtain ⟨b, hb, ib⟩ := sp_goesLeft H I hk p2
    rw [p4] at hb
    rw [if_neg (by rw [Lm1]; exact neq (by omega) (by omega) q), hb, Option.bind_some, cIf_neg q]
    by_cases w : lefA a k (ab a k).toNat
    · have e := sp_pointAt H I hk (j := (ab a k).toNat + szA a k - 1) (by omega)
      rw [if_pos (ib.mpr w), sp_lastNumber H I hk, Option.bind_some, show ab a k + szA a k - 1 = (((ab a k).toNat + szA a k - 1 : Nat) : Int) by omega, e, Option.bind_some, cIf_pos w]
    · have e := sp_pointAt H I hk (j := (ab a k).toNat) (by omega)
      rw [p4] at e
      rw [if_neg (fun z => w (ib.mp z)), e, Option.bind_some, cIf_neg w]
theorem k_isSteady (H : RepS σ a) (I : InvA a) {k : Nat} (hk : k < an a) : ∃ b, fX6_isSteady σ (iI k) = some (.ok b) ∧ (b = true ↔ rndA a k = -1 ∨ ((al a k : Int) - al a (rndA a k).toNat = 5 ∨ (al a k : Int) - al a (rndA a k).toNat = -5)) := by
  have hr := rnd_rng a k
  have h8 := I.1
  unfold fX6_isSteady
  rw [rql H I hk, xth_ok, sp_round H I hk, Option.bind_some]
  by_cases q : rndA a k = -1
  · rw [if_pos (by rw [q]; rfl)]; exact ⟨true, rfl, (fun _ => Or.inl q), (fun _ => rfl)⟩
  · have hx : (rndA a k).toNat < an a := by omega
    have l1 := (I.2.2.2.1 k hk).1
    have l2 := (I.2.2.2.1 _ hx).1
    have e := sp_levelIn H I hx
    rw [show (((rndA a k).toNat : Nat) : Int) = rndA a k by omega] at e
    rw [if_neg (by rw [Lm1]; exact neq (by omega) (by omega) q), sp_levelIn H I hk, Option.bind_some, e, Option.bind_some, iI_sub, iabs_iI (by omega), L5]
    by_cases w : ((al a k : Int) - al a (rndA a k).toNat).natAbs = 5
    · rw [if_pos (by rw [w]; rfl)]; exact ⟨true, rfl, (fun _ => Or.inr (by omega)), (fun _ => rfl)⟩
    · rw [if_neg (neq (by omega) (by omega) (by omega))]; exact ⟨false, rfl, (fun h => by cases h), (fun h => by omega)⟩
theorem k_kinds (H : RepS σ a) (I : InvA a) {k : Nat} (hk : k < an a) : fX6_lengthByKinds σ (iI k) = some (.ok (FP.dadd (FP.i2d (iI ((ah a k : Int) - smI (fun i => drA a k i % 2) (ah a k) 0))) (FP.dmul (FP.i2d (iI (smI (fun i => drA a k i % 2) (ah a k) 0))) (0x3ff6a09e667f3bcd : UInt64)))) := by
  have h6 := h60 I hk
  have e := sp_kinds_loop H I hk (ah a k) 0 FU 0 (by omega) (FU_gt (by omega)) (by omega) (by omega)
  rw [Z0, Z0', Int.zero_add] at e
  unfold fX6_lengthByKinds
  rw [rql H I hk, xth_ok, sp_stepCount H I hk, Option.bind_some]
  exact e
theorem k_lsteps (H : RepS σ a) (I : InvA a) {k : Nat} (hk : k < an a) : fX6_lengthBySteps σ (iI k) = some (.ok (lsA a k (ah a k) 0 0)) := by
  have h6 := h60 I hk
  have e := sp_lsteps_loop H I hk (ah a k) 0 FU 0 (by omega) (FU_gt (by omega)) nn_zero
  rw [Z0] at e
  unfold fX6_lengthBySteps
  rw [rql H I hk, xth_ok, sp_stepCount H I hk, Option.bind_some]
  exact e
theorem rqp {p : Nat} (hp : p < 384) : fX6_requirePoint (iI p) = some (.ok ()) := (rq_pt (by omega)).1 (by omega)
theorem k_rays (H : RepS σ a) (I : InvA a) {k : Nat} (hk : k < an a) {p : Nat} (hp : p < 384) : ∃ b, fX6_isWithinByRays σ (iI k) (iI p) = some (.ok b) ∧ (b = true ↔ insA a k p) := by
  obtain ⟨b, hb, ib⟩ := sp_goesRound H I hk hp
  exact ⟨b, by unfold fX6_isWithinByRays; rw [rql H I hk, xth_ok, rqp hp, xth_ok, hb, Option.bind_some], ib⟩
theorem k_spread (H : RepS σ a) (G : GX a) (δ : Dr) {k : Nat} (hk : k < an a) {p : Nat} (hp : p < 384) : ∃ b δ', fX6_isWithinBySpreading σ δ (iI k) (iI p) = some (.ok (b, δ')) ∧ (b = true ↔ insA a k p) := by
  have I := G.1
  obtain ⟨c, hc, ic⟩ := sp_isRing H I hk
  unfold fX6_isWithinBySpreading
  rw [rql H I hk, xth_ok, rqp hp, xth_ok, hc, Option.bind_some]
  by_cases hr : ringA a k
  · obtain ⟨δ', e, he, ie⟩ := sp_leftOut (δ := δ) H I G.2.one hk hr hp
    refine ⟨e, δ', ?_, ie.trans ⟨fun w => ⟨hr, w⟩, fun w => w.2⟩⟩
    rw [if_pos (ic.mpr hr)]
    have he' := congrArg (fun x : Option (Bool × Dr) => x.bind fun y => some (Except.ok (ε := String) y)) he
    simp only [Option.bind_assoc, Option.bind_some] at he'
    exact he'
  · exact ⟨false, δ, by rw [if_neg (fun w => hr (ic.mp w))], (fun h => by cases h), (fun h => absurd h.1 hr)⟩
theorem k_lineAt (H : RepS σ a) (I : InvA a) {p : Nat} (hp : p < 384) : ∃ r : Int, fX6_lineAt σ (iI p) = some (.ok (iI r)) ∧ ownR a p r := by
  unfold fX6_lineAt
  rw [rqp hp, xth_ok]
  by_cases h : ∃ i, i < an a ∧ onL a i p
  · obtain ⟨i, hi, ho⟩ := h
    exact ⟨i, by rw [sp_lineOn_some H I (by omega) hi ho, Option.bind_some], Or.inr ⟨i, hi, rfl, ho⟩⟩
  · have h2 : ∀ i, i < an a → ¬ onL a i p := fun i hi ho => h ⟨i, hi, ho⟩
    exact ⟨-1, by rw [sp_lineOn_none H I (by omega) h2, Option.bind_some], Or.inl ⟨rfl, h2⟩⟩
end KR
section IL
variable {σ : Sh} {δ : Dr} {ν : Nat → Int32} {ζ : Nat → Int64} {ψ : Nat → Int32} {a : Ab} {cap : Nat}
theorem il_572 (H : RepS σ a) (L : RepL ν ζ a) (G : GX a) {k : Nat} (hk : k < an a) (P : RepP ψ a k) (c : Int32) : ∀ (m z fu : Nat) (δ : Dr) (n : Nat), z + m = 5 → m < fu → n + m ≤ cap →
    ∃ δ', fL_isLine_572 cap σ ν ζ (iI k) c ψ fu true (iI z) δ n = some (true, δ') := by
  have I := G.1
  intro m
  induction m with
  | zero =>
    intro z fu δ n h1 h2 h3
    obtain ⟨f, rfl⟩ : ∃ f, fu = f + 1 := ⟨fu - 1, by omega⟩
    exact ⟨δ, by rw [fL_isLine_572, L5, if_pos (yle (by omega) (by omega) (by omega))]⟩
  | succ m ih =>
    intro z fu δ n h1 h2 h3
    obtain ⟨f, rfl⟩ : ∃ f, fu = f + 1 := ⟨fu - 1, by omega⟩
    obtain ⟨p, hp, ep⟩ := sl_low (c >>> (((3 : Int32) * iI (z : Int)) &&& 31)) (n := 384) (by omega)
    obtain ⟨b1, e1, i1⟩ := k_rays H I hk hp
    obtain ⟨b2, e2, i2⟩ := sl_within L I hk P hp
    obtain ⟨b3, δ', e3, i3⟩ := k_spread H G δ hk hp
    obtain ⟨r1, e4, o1⟩ := k_lineAt H I hp
    obtain ⟨r2, e5, o2⟩ := sl_owner (cap := 1) L I (p := (p : Int)) (by omega) (Nat.le_refl _)
    have hb2 : b2 = b1 := bool_eq i2 i1
    have hb3 : b3 = b1 := bool_eq i3 i1
    have hr : r1 = r2 := ownR_uniq I o1 o2
    subst hb2 hb3 hr
    obtain ⟨δ2, e⟩ := ih (z + 1) f δ' (n + 1) (by omega) (by omega) (by omega)
    refine ⟨δ2, ?_⟩
    rw [fL_isLine_572, if_neg (by rw [L5]; exact nle (by omega) (by omega) (by omega)), if_pos rfl, show (384 : Int32) = iI ((384 : Nat) : Int) from rfl, ep, Option.bind_some, e1, xov_some, e2, Option.bind_some, if_pos rfl, e3, xov_some, Option.bind_some, if_pos rfl, e4, xov_some, if_pos (by omega), e5, Option.bind_some, if_pos rfl, iI_s]
    exact e
theorem il_526 (H : RepS σ a) (L : RepL ν ζ a) (G : GX a) {k : Nat} (hk : k < an a) (P : RepP ψ a k) (c : Int32) (δ : Dr) : ∀ (m z fu n : Nat), z + m = 8 → m < fu → n + 2 * m + 5 ≤ cap →
    ∃ δ', fL_isLine_526 cap σ ν ζ (iI k) c δ ψ fu true (iI z) n = some (true, δ') := by
  have I := G.1
  intro m
  induction m with
  | zero =>
    intro z fu n h1 h2 h3
    obtain ⟨f, rfl⟩ : ∃ f, fu = f + 1 := ⟨fu - 1, by omega⟩
    obtain ⟨δ', e⟩ := il_572 (cap := cap) H L G hk P c 5 0 FU δ n (by omega) (by decide) (by omega)
    rw [Z0] at e
    exact ⟨δ', by rw [fL_isLine_526, L8, if_pos (yle (by omega) (by omega) (by omega)), e]⟩
  | succ m ih =>
    intro z fu n h1 h2 h3
    obtain ⟨f, rfl⟩ : ∃ f, fu = f + 1 := ⟨fu - 1, by omega⟩
    obtain ⟨δ', e⟩ := ih (z + 1) f (n + 2) (by omega) (by omega) (by omega)
    refine ⟨δ', ?_⟩
    rw [fL_isLine_526, if_neg (by rw [L8]; exact nle (by omega) (by omega) (by omega)), if_pos rfl, k_whyNotStepped H I hk (d := (z : Int)) (by omega), xov_some, if_pos (by omega), sl_why L I hk (d := (z : Int)) (by omega) (Nat.le_refl _), Option.bind_some, if_pos rfl, iI_s]
    exact e
theorem il_479 (H : RepS σ a) (L : RepL ν ζ a) (G : GX a) {k : Nat} (hk : k < an a) (P : RepP ψ a k) (c : Int32) (δ : Dr) {b1 b2 : Bool} (hb : b1 = b2) {n : Nat} (h : n + 21 ≤ cap) (hn : nN (lsA a k (ah a k) 0 0)) :
    ∃ δ', fL_isLine_479 cap σ ν ζ (iI k) c (iI (ah a k)) (iI (smI (fun i => drA a k i % 2) (ah a k) 0)) (FP.dadd (lsA a k (ah a k) 0 0) 0) b1 b2 δ ψ n = some (true, δ') := by
  have I := G.1
  have h6 := h60 I hk
  have hs := sl_sum a k (ah a k) 0
  have nn := nn_kinds (s := smI (fun i => drA a k i % 2) (ah a k) 0) (t := (ah a k : Int) - smI (fun i => drA a k i % 2) (ah a k) 0) (by omega) (by omega)
  obtain ⟨δ', e⟩ := il_526 (cap := cap) H L G hk P c δ 8 0 FU n (by omega) (by decide) (by omega)
  rw [Z0] at e
  refine ⟨δ', ?_⟩
  unfold fL_isLine_479
  rw [if_pos (by rw [hb]), k_lsteps H I hk, xov_some, if_pos (cmp_add0 hn), k_kinds H I hk, xov_some, if_pos nn.1, iI_sub, if_pos nn.2, if_pos (cmp_same nn.2), e]
theorem il_443 (H : RepS σ a) (L : RepL ν ζ a) (G : GX a) {k : Nat} (hk : k < an a) (P : RepP ψ a k) (c : Int32) (δ : Dr) {n : Nat} (h : n + 21 ≤ cap) (hn : nN (lsA a k (ah a k) 0 0)) {t by_ : Int} (hby : -1000 ≤ by_ ∧ by_ ≤ 1000) (hy : (rndA a k = -1 ∧ by_ = 5) ∨ (¬ rndA a k = -1 ∧ by_ = (al a k : Int) - al a (rndA a k).toNat)) :
    ∃ δ', fL_isLine_443 cap σ ν ζ (iI k) c (iI (ah a k)) (iI (smI (fun i => drA a k i % 2) (ah a k) 0)) (FP.dadd (lsA a k (ah a k) 0 0) 0) (iI (rndA a k)) (iI by_) (iI t) (iI t) δ ψ n = some (true, δ') := by
  have I := G.1
  obtain ⟨b, eb, ib⟩ := k_isSteady H I hk
  have fin : ∀ b2 : Bool, (b2 = true ↔ by_ = 5 ∨ by_ = -5) → ∃ δ', fL_isLine_479 cap σ ν ζ (iI k) c (iI (ah a k)) (iI (smI (fun i => drA a k i % 2) (ah a k) 0)) (FP.dadd (lsA a k (ah a k) 0 0) 0) b b2 δ ψ n = some (true, δ') := by
    intro b2 h2
    refine il_479 H L G hk P c δ (bool_eq ib (h2.trans ?_)) h hn
    omega
  unfold fL_isLine_443
  rw [if_pos rfl, k_lineRound H I hk, xov_some, if_pos rfl, eb, xov_some, L5]
  by_cases q : by_ = 5
  · rw [if_pos (by rw [q])]; exact fin true ⟨fun _ => Or.inl q, fun _ => rfl⟩
  · rw [if_neg (neq (by omega) (by omega) q), iI_neg]
    by_cases q2 : by_ = -5
    · rw [if_pos (by rw [q2])]; exact fin true ⟨fun _ => Or.inr q2, fun _ => rfl⟩
    · rw [if_neg (neq (by omega) (by omega) q2)]; exact fin false ⟨(fun w => by cases w), (fun w => by omega)⟩
theorem il_373 (H : RepS σ a) (L : RepL ν ζ a) (G : GX a) {k : Nat} (hk : k < an a) (P : RepP ψ a k) (c : Int32) (δ : Dr) {n : Nat} (h : n + uB ν (iI k) + 21 ≤ cap) (hn : nN (lsA a k (ah a k) 0 0)) {by_ : Int} (hby : -1000 ≤ by_ ∧ by_ ≤ 1000) (hy : (rndA a k = -1 ∧ by_ = 5) ∨ (¬ rndA a k = -1 ∧ by_ = (al a k : Int) - al a (rndA a k).toNat)) {last : Int} {tu : Bool} (hla : ¬ ab a k = -1 → last = ap a k ((ab a k).toNat + szA a k - 1)) (htu : tu = true ↔ ¬ ab a k = -1 ∧ lefA a k (ab a k).toNat) :
    ∃ δ', fL_isLine_373 cap σ ν ζ (iI k) c (iI (ah a k)) (iI (ab a k)) (iI (smI (fun i => drA a k i % 2) (ah a k) 0)) (iI (cntA a k (ah a k + 1) 0 0)) (FP.dadd (lsA a k (ah a k) 0 0) 0) true (iI last) tu (iI (rndA a k)) (iI by_) δ ψ n = some (true, δ') := by
  have I := G.1
  have h6 := h60 I hk
  have hl := lab_rng I hk
  obtain ⟨b, eb, ib⟩ := k_isTurned H I hk
  have hbt : b = tu := bool_eq ib htu
  subst hbt
  have fin : ∀ t : Int, t = rdfA a k → ∃ δ', fL_isLine_443 cap σ ν ζ (iI k) c (iI (ah a k)) (iI (smI (fun i => drA a k i % 2) (ah a k) 0)) (FP.dadd (lsA a k (ah a k) 0 0) 0) (iI (rndA a k)) (iI by_) (iI (rdfA a k)) (iI t) δ ψ (n + uB ν (iI k)) = some (true, δ') := by
    intro t ht
    rw [ht]
    exact il_443 H L G hk P c δ (by omega) hn hby hy
  unfold fL_isLine_373
  rw [if_pos rfl, k_placesOf H I hk, xov_some, if_pos rfl, k_bestPlace H I hk, xov_some, if_pos (by omega), sl_best L I hk (Nat.le_refl _), Option.bind_some, if_pos rfl, eb, xov_some, if_pos rfl, k_readFrom H I hk, xov_some]
  by_cases q : ab a k = -1
  · rw [if_neg (xnge0 (by omega)), Lm1]
    exact fin (-1) (by unfold rdfA; rw [cIf_pos q])
  · obtain ⟨p1, p2, p3, p4⟩ := lab_pl I hk q
    have hs := sz_rng a k
    rw [if_pos (nge0 (by omega))]
    by_cases w : lefA a k (ab a k).toNat
    · rw [if_pos (ib.mpr ⟨q, w⟩)]
      exact fin last (by unfold rdfA; rw [cIf_neg q, cIf_pos w]; exact hla q)
    · have e := P (ab a k).toNat (by omega)
      rw [if_neg (fun z => w (ib.mp z).2), if_pos (inR_iI (by omega) (by omega) (by omega)), show (iI (ab a k)).toNatClampNeg = (ab a k).toNat from iI_tn (by omega) (by omega), e]
      exact fin _ (by unfold rdfA; rw [cIf_neg q, cIf_neg w])
theorem il_292 (H : RepS σ a) (L : RepL ν ζ a) (G : GX a) {k : Nat} (hk : k < an a) (P : RepP ψ a k) (c : Int32) (δ : Dr) {n : Nat} (h : n + uB ν (iI k) + 23 ≤ cap) (hn : nN (lsA a k (ah a k) 0 0)) :
    ∃ δ', fL_isLine_292 cap σ ν ζ (iI k) c (iI (ah a k)) (iI (ab a k)) (iI (smI (fun i => drA a k i % 2) (ah a k) 0)) (iI (cntA a k (ah a k + 1) 0 0)) (FP.dadd (lsA a k (ah a k) 0 0) 0) true δ ψ n = some (true, δ') := by
  have I := G.1
  have h6 := h60 I hk
  have h8 := I.1
  have hl := lab_rng I hk
  have hs := sz_rng a k
  have hr := rnd_rng a k
  have s342 : ∀ (last : Int) (tu : Bool), (¬ ab a k = -1 → last = ap a k ((ab a k).toNat + szA a k - 1)) → (tu = true ↔ ¬ ab a k = -1 ∧ lefA a k (ab a k).toNat) →
      ∃ δ', fL_isLine_342 cap σ ν ζ (iI k) c (iI (ah a k)) (iI (ab a k)) (iI (smI (fun i => drA a k i % 2) (ah a k) 0)) (iI (cntA a k (ah a k + 1) 0 0)) (FP.dadd (lsA a k (ah a k) 0 0) 0) true (iI last) tu δ ψ n = some (true, δ') := by
    intro last tu h1 h2
    unfold fL_isLine_342
    rw [if_pos (by omega), sl_round L G hk (Nat.le_refl _), Option.bind_some]
    by_cases q : rndA a k = -1
    · rw [if_neg (xnge0 (by omega)), L5]
      exact il_373 H L G hk P c δ (by omega) hn (by omega) (Or.inl ⟨q, rfl⟩) h1 h2
    · have hx : (rndA a k).toNat < an a := by omega
      have l1 := (I.2.2.2.1 k hk).1
      have l2 := (I.2.2.2.1 _ hx).1
      have ex : iI (rndA a k) = iI (((rndA a k).toNat : Nat) : Int) := congrArg iI (by omega)
      have e5 : ν (Int32.toNatClampNeg ((4 : Int32) * iI (rndA a k))) = iI (al a (rndA a k).toNat : Int) := by rw [ex]; exact l_lv L I hx
      have e6 : inR ((4 : Int32) * iI (rndA a k)) 34 := by rw [ex]; exact (l_i0 (k8 I hx)).1
      rw [if_pos (nge0 (by omega)), if_pos (l_i0 (k8 I hk)).1, if_pos e6, l_lv L I hk, e5, iI_sub]
      exact il_373 H L G hk P c δ (by omega) hn (by omega) (Or.inr ⟨q, rfl⟩) h1 h2
  unfold fL_isLine_292
  by_cases q : ab a k = -1
  · rw [if_neg (xnge0 (by omega))]
    unfold fL_isLine_314
    rw [if_pos (xlt0 (by omega)), L0]
    exact s342 0 false (fun w => absurd q w) ⟨(fun w => by cases w), (fun w => absurd q w.1)⟩
  · obtain ⟨p1, p2, p3, p4⟩ := lab_pl I hk q
    have e1 : iI (ab a k) + iI (szA a k : Int) - (1 : Int32) = iI (((ab a k).toNat + szA a k - 1 : Nat) : Int) := by rw [L1, iI_add, iI_sub]; exact congrArg iI (by omega)
    have hp1 := p384 I hk (j := (ab a k).toNat + szA a k - 1) (by omega)
    have hp2 := p384 I hk (j := (ab a k).toNat) (by omega)
    rw [if_pos (nge0 (by omega)), sl_size L I hk, Option.bind_some, e1, if_pos (inR_iI (by omega) (by omega) (by omega)), tnN (by omega), P _ (by omega)]
    unfold fL_isLine_314
    rw [if_neg (nlt0 (by omega)), if_pos (inR_iI (by omega) (by omega) (by omega)), show (iI (ab a k)).toNatClampNeg = (ab a k).toNat from iI_tn (by omega) (by omega), P _ (by omega), L24, iI_irm (by omega) (by omega), iI_irm (by omega) (by omega)]
    by_cases w : lefA a k (ab a k).toNat
    · have w' := w
      unfold lefA at w'
      rw [if_neg (nle (by omega) (by omega) (by omega))]
      exact s342 _ true (fun _ => rfl) ⟨fun _ => ⟨q, w⟩, fun _ => rfl⟩
    · have w' := w
      unfold lefA at w'
      rw [if_pos (yle (by omega) (by omega) (by omega))]
      exact s342 _ false (fun _ => rfl) ⟨(fun z => by cases z), (fun z => absurd z.2 w)⟩
theorem il_112 (H : RepS σ a) (L : RepL ν ζ a) (G : GX a) {k : Nat} (hk : k < an a) (P : RepP ψ a k) (c : Int32) (δ : Dr) (hn0 : nN (lsA a k (ah a k) 0 0)) : ∀ (m z fu : Nat) (acc : Int) (x : UInt64) (n : Nat), z + m = ah a k + 1 → m < fu → cntA a k m z acc = cntA a k (ah a k + 1) 0 0 → nN x → (z ≤ ah a k → lsA a k (ah a k - z) z x = lsA a k (ah a k) 0 0) → (z = ah a k + 1 → x = FP.dadd (lsA a k (ah a k) 0 0) 0) → n + (ah a k - z) * uF ν (iI k) + uB ν (iI k) + 23 ≤ cap →
    ∃ δ', fL_isLine_112 cap σ ν ζ (iI k) c (iI (ah a k)) (iI (ab a k)) δ ψ fu (iI (smI (fun i => drA a k i % 2) (min z (ah a k)) 0)) (iI acc) x true (iI z) n = some (true, δ') := by
  have I := G.1
  have h6 := h60 I hk
  intro m
  induction m with
  | zero =>
    intro z fu acc x n h1 h2 h3 h4 h5 h7 h9
    obtain ⟨f, rfl⟩ : ∃ f, fu = f + 1 := ⟨fu - 1, by omega⟩
    rw [cntA] at h3
    obtain ⟨δ', e⟩ := il_292 (cap := cap) (n := n) H L G hk P c δ (by omega) hn0
    refine ⟨δ', ?_⟩
    rw [fL_isLine_112, if_pos (ylt (by omega) (by omega) (by omega)), h3, h7 (by omega), show min z (ah a k) = ah a k by omega, e]
  | succ m ih =>
    intro z fu acc x n h1 h2 h3 h4 h5 h7 h9
    obtain ⟨f, rfl⟩ : ∃ f, fu = f + 1 := ⟨fu - 1, by omega⟩
    have hz : z ≤ ah a k := by omega
    rw [cntA] at h3
    have g := dr_all a k z
    have s209 : ∀ (sl : Int) (x2 : UInt64) (n2 : Nat), sl = smI (fun i => drA a k i % 2) (min (z + 1) (ah a k)) 0 → nN x2 → (z + 1 ≤ ah a k → lsA a k (ah a k - (z + 1)) (z + 1) x2 = lsA a k (ah a k) 0 0) → (z + 1 = ah a k + 1 → x2 = FP.dadd (lsA a k (ah a k) 0 0) 0) → n2 + (ah a k - (z + 1)) * uF ν (iI k) + uB ν (iI k) + 23 ≤ cap → ∀ t : Bool, (t = true ↔ whlA a k z = 0) →
        ∃ δ', fL_isLine_209 cap σ ν ζ (iI k) c (iI (ah a k)) (iI (ab a k)) δ ψ (fL_isLine_112 cap σ ν ζ (iI k) c (iI (ah a k)) (iI (ab a k)) δ ψ f) (iI sl) x2 (iI z) (iI (whlA a k z)) (iI acc) t n2 = some (true, δ') := by
      intro sl x2 n2 e1 e2 e3 e4 e5 t ht
      have et : iI acc + b2i t = iI (if whlA a k z = 0 then acc + 1 else acc) := by
        cases t with
        | true => rw [if_pos (ht.mp rfl), show b2i true = iI 1 from rfl, iI_add]
        | false => rw [if_neg (fun w => nft (ht.mpr w)), show b2i false = iI 0 from rfl, iI_add, Int.add_zero]
      obtain ⟨δ', e⟩ := ih (z + 1) f _ x2 n2 (by omega) (by omega) h3 e2 e3 e4 e5
      refine ⟨δ', ?_⟩
      unfold fL_isLine_209
      rw [k_pointOf H I hk hz, xov_some, if_pos (inR_iI (by omega) (by omega) (by omega)), tnN (by omega), P z hz, if_pos rfl, k_bendAt H I hk hz, xov_some, sl_bend L I hk P hz, Option.bind_some, if_pos rfl, k_bendOf H I hk hz, xov_some, sl_bends L I hk P hz, Option.bind_some, if_pos rfl, k_whyNotLabelled H I hk hz, xov_some, if_pos rfl, et, iI_s, e1, e]
    have s182 : ∀ (sl : Int) (y : UInt64), sl = smI (fun i => drA a k i % 2) (min (z + 1) (ah a k)) 0 → nN (FP.dadd x y) → (z + 1 ≤ ah a k → lsA a k (ah a k - (z + 1)) (z + 1) (FP.dadd x y) = lsA a k (ah a k) 0 0) → (z + 1 = ah a k + 1 → FP.dadd x y = FP.dadd (lsA a k (ah a k) 0 0) 0) →
        ∃ δ', fL_isLine_182 cap σ ν ζ (iI k) c (iI (ah a k)) (iI (ab a k)) δ ψ (fL_isLine_112 cap σ ν ζ (iI k) c (iI (ah a k)) (iI (ab a k)) δ ψ f) (iI sl) (iI acc) (iI z) x y n = some (true, δ') := by
      intro sl y e1 e2 e3 e4
      have hw := whl_rng a k z
      have hu : n + uA ν (iI k) (iI z) + (ah a k - (z + 1)) * uF ν (iI k) + uB ν (iI k) + 23 ≤ cap := by
        rcases Nat.lt_or_ge z (ah a k) with w | w
        · rw [uA_lt L I hk w]
          have em : (ah a k - z) * uF ν (iI k) = (ah a k - (z + 1)) * uF ν (iI k) + uF ν (iI k) := by
            rw [show ah a k - z = (ah a k - (z + 1)) + 1 by omega, Nat.succ_mul]
          omega
        · rw [uA_ge L I hk w (by omega)]
          have em : (ah a k - (z + 1)) * uF ν (iI k) = 0 := by rw [show ah a k - (z + 1) = 0 by omega, Nat.zero_mul]
          omega
      unfold fL_isLine_182
      rw [if_pos e2, if_pos (by omega), sl_against L I hk P hz (Nat.le_refl _), Option.bind_some, L0]
      by_cases q : whlA a k z = 0
      · rw [if_pos (by rw [q])]; exact s209 sl _ _ e1 e2 e3 e4 hu true ⟨fun _ => q, fun _ => rfl⟩
      · rw [if_neg (neq (by omega) (by omega) q)]; exact s209 sl _ _ e1 e2 e3 e4 hu false ⟨(fun w => by cases w), (fun w => absurd w q)⟩
    have n2 := nn_add h4 isF_r2
    have n1 := nn_add h4 isF_one
    have n0 := nn_add h4 (b := 0) (by decide +kernel)
    rw [fL_isLine_112, if_neg (nlt (by omega) (by omega) (by omega)), if_pos rfl]
    by_cases q : z = ah a k
    · rw [if_pos (yle (by omega) (by omega) (by omega))]
      unfold fL_isLine_146
      rw [if_pos (by rw [q]), L0, iI_add, Int.add_zero]
      have hx : x = lsA a k (ah a k) 0 0 := by
        have := h5 hz
        rw [show ah a k - z = 0 by omega, lsA] at this
        exact this
      exact s182 _ 0 (by rw [show min (z + 1) (ah a k) = min z (ah a k) by omega]) n0 (fun w => by omega) (fun _ => by rw [hx])
    · have hlt : z < ah a k := by omega
      have hls := h5 hz
      rw [show ah a k - z = (ah a k - (z + 1)) + 1 by omega, lsA] at hls
      have hsl : smI (fun i => drA a k i % 2) (min z (ah a k)) 0 + drA a k z % 2 = smI (fun i => drA a k i % 2) (min (z + 1) (ah a k)) 0 := by
        rw [show min (z + 1) (ah a k) = z + 1 by omega, show min z (ah a k) = z by omega, smI_snoc, Nat.zero_add]
      rw [if_neg (nle (by omega) (by omega) (by omega)), sl_dir L I hk hlt, Option.bind_some, L2, iI_irm (by omega) (by omega)]
      unfold fL_isLine_146
      rw [if_neg (neq (by omega) (by omega) (by omega)), sl_dir L I hk hlt, Option.bind_some, iI_add, hsl]
      by_cases q2 : drA a k z % 2 = 1
      · rw [if_pos ((sm_slant g).mpr q2)]
        rw [if_pos q2] at hls
        exact s182 _ _ rfl n2 (fun _ => hls) (fun w => by omega)
      · rw [if_neg (fun w => q2 ((sm_slant g).mp w))]
        rw [if_neg q2] at hls
        exact s182 _ _ rfl n1 (fun _ => hls) (fun w => by omega)
theorem ls_nn (a : Ab) (k : Nat) : ∀ (m j : Nat) (x : UInt64), nN x → nN (lsA a k m j x) := by
  intro m
  induction m with
  | zero => intro j x h; exact h
  | succ m ih =>
    intro j x h
    rw [lsA]
    refine ih (j + 1) _ ?_
    by_cases q : drA a k j % 2 = 1
    · rw [if_pos q]; exact nn_add h isF_r2
    · rw [if_neg q]; exact nn_add h isF_one
theorem is_line (H : RepS σ a) (L : RepL ν ζ a) (G : GX a) {k : Nat} (hk : k < an a) (c : Int32) (δ : Dr) (hc : uI ν (iI k) ≤ cap) : ∃ δ', fL_isLine cap σ δ ν ζ (iI k) c = some (true, δ') := by
  have I := G.1
  have h6 := h60 I hk
  have hs := sz_rng a k
  obtain ⟨ψ, hw, P⟩ := sl_walks L I hk (fun _ => (0 : Int32))
  obtain ⟨b1, e1, i1⟩ := k_isClosed H I hk
  obtain ⟨b2, e2, i2⟩ := sl_closed L I hk P
  have hb : b1 = b2 := bool_eq i1 i2
  unfold uI at hc
  rw [uSt_e L I hk] at hc
  obtain ⟨δ', e⟩ := il_112 (cap := cap) H L G hk P c δ (ls_nn a k _ _ _ nn_zero) (ah a k + 1) 0 FU 0 0 (0 + 1) (by omega) (FU_gt (by omega)) rfl nn_zero (fun _ => rfl) (fun w => by omega) (by
    unfold uB
    rw [uSt_e L I hk, Nat.sub_zero]
    omega)
  rw [show min 0 (ah a k) = 0 by omega, show iI (smI (fun i => drA a k i % 2) 0 0) = (0 : Int32) from rfl, Z0, Z0'] at e
  refine ⟨δ', ?_⟩
  unfold fL_isLine
  rw [if_pos (by omega), hw, Option.bind_some, if_pos (l_i2 (k8 I hk)).1, if_pos (l_i3 (k8 I hk)).1, k_levelOf H I hk, xov_some, if_pos (l_i0 (k8 I hk)).1, l_lv L I hk, if_pos rfl, k_stepsOf H I hk, xov_some, l_st L I hk, if_pos rfl, e1, xov_some, e2, Option.bind_some, if_pos (by rw [hb]), k_sizeOf H I hk, xov_some, sl_size L I hk, Option.bind_some, if_pos rfl, k_labelOf H I hk, xov_some, l_lb L I hk, if_pos rfl, e]
end IL
