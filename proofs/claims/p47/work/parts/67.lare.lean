/-! all lines told by the class and by the law -/
def tri : Nat → Nat
  | 0 => 0
  | i + 1 => tri i + i
theorem tri_le : ∀ i, i ≤ 8 → tri i ≤ 28 := by decide
section AL
variable {σ : Sh} {ν : Nat → Int32} {ζ : Nat → Int64} {ψ : Nat → Int32} {a : Ab} {cap : Nat}
theorem k_lines (H : RepS σ a) : fX6_lines σ = some (iI (an a)) := by unfold fX6_lines; rw [sp_lineCount H, Option.bind_some]
theorem k_gap (H : RepS σ a) : fX6_gap σ = some (iI (ag a)) := by unfold fX6_gap; rw [sp_gapWidth H, Option.bind_some]
theorem k_labels (H : RepS σ a) (I : InvA a) : fX6_labels σ = some (iI (lbA a (an a) 0 0)) := by unfold fX6_labels; rw [sp_labelCount H I, Option.bind_some]
theorem k_tooNear (H : RepS σ a) (I : InvA a) : fX6_tooNear σ = some (iI (smI (fun i => smI (fun j => nrA a i j) i 0) (an a) 0)) := by unfold fX6_tooNear; rw [sp_pairs H I, Option.bind_some]
theorem k_lineByLevel (H : RepS σ a) (I : InvA a) {i : Nat} (hi : i < an a) : fX6_lineByLevel σ (iI (rank a i)) = some (.ok (iI i)) := by
  have h8 := I.1
  have hr := rank_lt hi
  obtain ⟨b, hb, ib⟩ := sp_hasLine H I (z := (rank a i : Int)) (by omega)
  unfold fX6_lineByLevel
  rw [hb, Option.bind_some, if_pos (ib.mpr (by omega)), sp_lineOfRank H I hi, Option.bind_some]
theorem k_pointsWithin (H : RepS σ a) (I : InvA a) {k : Nat} (hk : k < an a) : fX6_pointsWithin σ (iI k) = some (.ok (iI (smI (iwA a k) 384 0))) := by
  have e := sp_within_loop H I hk 384 0 FU 0 (by omega) (FU_gt (by omega))
  rw [Z0, Z0', Int.zero_add] at e
  unfold fX6_pointsWithin
  rw [rql H I hk, xth_ok]
  exact e
theorem al_287 (H : RepS σ a) (I : InvA a) {i : Nat} (hi : i < an a) (c : Int32) {r : Nat} (hr : fL_low (c >>> (iI (i : Int) &&& 31)) (3 : Int32) = some (iI r)) (hr3 : r < 3) {pts : Int} (hp : r = 0 → pts = smI (iwA a i) 384 0) (K : Int32 → Int32 → Bool → Int32 → (Nat → Int32) → Nat → Option Bool) (x y : Int32) (n : Nat) :
    fL_areLines_287 cap σ ν ζ c K x y (iI i) (iI (rank a i)) (iI pts) ψ n = K x y true (iI ((i + 1 : Nat) : Int)) ψ n := by
  unfold fL_areLines_287
  rw [k_lineByLevel H I hi, xov_some, if_pos rfl, hr, Option.bind_some, L0, iI_s]
  by_cases q : r = 0
  · rw [if_neg (nlt (by omega) (by omega) (by omega)), k_pointsWithin H I hi, xov_some, if_pos (by rw [hp q])]
  · rw [if_pos (ylt (by omega) (by omega) (by omega))]
theorem al_239 (H : RepS σ a) (L : RepL ν ζ a) (I : InvA a) {i : Nat} (hi : i < an a) (P : RepP ψ a i) (c : Int32) {r : Nat} (hr : fL_low (c >>> (iI (i : Int) &&& 31)) (3 : Int32) = some (iI r)) (hr3 : r < 3) (K : Int32 → Int32 → Bool → Int32 → (Nat → Int32) → Nat → Option Bool) (x y : Int32) (n : Nat) : ∀ (m p fu : Nat) (acc : Int), p + m = 384 → m < fu → acc + smI (iwA a i) m p = smI (iwA a i) 384 0 →
    fL_areLines_239 cap σ ν ζ c x y (iI i) (iI (rank a i)) ψ K fu (iI acc) (iI p) n = K x y true (iI ((i + 1 : Nat) : Int)) ψ n := by
  intro m
  induction m with
  | zero =>
    intro p fu acc h1 h2 h3
    obtain ⟨f, rfl⟩ : ∃ f, fu = f + 1 := ⟨fu - 1, by omega⟩
    rw [smI, Int.add_zero] at h3
    rw [fL_areLines_239, L384, if_pos (yle (by omega) (by omega) (by omega)), al_287 H I hi c hr hr3 (fun _ => h3)]
  | succ m ih =>
    intro p fu acc h1 h2 h3
    obtain ⟨f, rfl⟩ : ∃ f, fu = f + 1 := ⟨fu - 1, by omega⟩
    obtain ⟨b, hb, ib⟩ := sl_within L I hi P (p := p) (by omega)
    rw [smI] at h3
    rw [fL_areLines_239, L384, if_neg (nle (by omega) (by omega) (by omega)), hr, Option.bind_some, L0]
    by_cases q : r = 0
    · rw [if_pos (by rw [q]; rfl), hb, Option.bind_some, iI_s]
      rcases iw_rng a i p with ⟨e1, w1⟩ | ⟨e1, w1⟩
      · rw [if_pos (ib.mpr w1), iI_s', ih (p + 1) f (acc + 1) (by omega) (by omega) (by omega)]
      · rw [if_neg (fun z => w1 (ib.mp z)), iI_add, Int.add_zero, ih (p + 1) f acc (by omega) (by omega) (by omega)]
    · rw [if_neg (neq (by omega) (by omega) (by omega)), al_287 H I hi c hr hr3 (fun w => absurd w q)]
theorem al_97 (H : RepS σ a) (L : RepL ν ζ a) (I : InvA a) {i : Nat} (hi : i < an a) (P : RepP ψ a i) (c : Int32) {r : Nat} (hr : fL_low (c >>> (iI (i : Int) &&& 31)) (3 : Int32) = some (iI r)) (hr3 : r < 3) (K : Int32 → Int32 → Bool → Int32 → (Nat → Int32) → Nat → Option Bool) (x : Int32) : ∀ (m j fu : Nat) (acc : Int) (w n : Nat), j + m = an a → m < fu → w + rkA a i m j = rank a i → n + (i - j) ≤ cap →
    ∃ n', n' ≤ n + (i - j) ∧ fL_areLines_97 cap σ ν ζ c x (iI i) false ψ K fu (iI acc) (iI w) (iI j) n = K x (iI (acc + smI (fun j => nrA a i j) (i - j) j)) true (iI ((i + 1 : Nat) : Int)) ψ n' := by
  have h8 := I.1
  have hli := lab_rng I hi
  intro m
  induction m with
  | zero =>
    intro j fu acc w n h1 h2 h3 h4
    obtain ⟨f, rfl⟩ : ∃ f, fu = f + 1 := ⟨fu - 1, by omega⟩
    have e := al_239 (cap := cap) H L I hi P c hr hr3 K x (iI acc) n 384 0 FU 0 (by omega) (FU_gt (by omega)) (by rw [Int.zero_add])
    rw [Z0'] at e
    rw [rkA, Nat.add_zero] at h3
    refine ⟨n, by omega, ?_⟩
    rw [fL_areLines_97, l_n L, if_pos (yle (by omega) (by omega) (by omega)), show i - j = 0 by omega, smI, Int.add_zero, h3]
    exact e
  | succ m ih =>
    intro j fu acc w n h1 h2 h3 h4
    obtain ⟨f, rfl⟩ : ∃ f, fu = f + 1 := ⟨fu - 1, by omega⟩
    have hj : j < an a := by omega
    have hlj := lab_rng I hj
    have l1 := (I.2.2.2.1 i hi).1
    have l2 := (I.2.2.2.1 j hj).1
    have s180 : ∀ (t : Bool) (z : Int) (n2 : Nat), b2i t = iI z → (∃ n', n' ≤ n2 + (i - (j + 1)) ∧ n2 + (i - (j + 1)) ≤ cap ∧ True ∧ n' = n') → n2 + (i - (j + 1)) ≤ cap →
        ∃ n', n' ≤ n2 + (i - (j + 1)) ∧ fL_areLines_180 cap σ ν ζ c x (iI i) false ψ K (fL_areLines_97 cap σ ν ζ c x (iI i) false ψ K f) (iI w) (iI j) (iI acc) t n2 = K x (iI (acc + z + smI (fun j => nrA a i j) (i - (j + 1)) (j + 1))) true (iI ((i + 1 : Nat) : Int)) ψ n' := by
      intro t z n2 ht _ hn2
      unfold fL_areLines_180
      rw [if_pos (l_i0 (k8 I hj)).1, if_pos (l_i0 (k8 I hi)).1, l_lv L I hj, l_lv L I hi, ht, iI_add, iI_s]
      by_cases q : ahd a i j
      · rw [rk_add a i m j q] at h3
        obtain ⟨n', g1, g2⟩ := ih (j + 1) f (acc + z) (w + 1) n2 (by omega) (by omega) (by omega) hn2
        rw [iI_s]
        unfold ahd at q
        by_cases q1 : al a j < al a i
        · rw [if_pos (ylt (by omega) (by omega) (by omega))]; exact ⟨n', g1, g2⟩
        · rw [if_neg (nlt (by omega) (by omega) (by omega)), if_pos (by exact congrArg iI (by omega)), if_neg (nle (by omega) (by omega) (by omega))]; exact ⟨n', g1, g2⟩
      · rw [rk_skip a i m j q] at h3
        obtain ⟨n', g1, g2⟩ := ih (j + 1) f (acc + z) w n2 (by omega) (by omega) (by omega) hn2
        have e0 : iI (w : Int) + (0 : Int32) = iI (w : Int) := by rw [L0, iI_add, Int.add_zero]
        rw [e0, iI_s]
        unfold ahd at q
        rw [if_neg (nlt (by omega) (by omega) (by omega))]
        by_cases q1 : al a j = al a i
        · rw [if_pos (by exact congrArg iI (by omega)), if_pos (yle (by omega) (by omega) (by omega))]; exact ⟨n', g1, g2⟩
        · rw [if_neg (neq (by omega) (by omega) (by omega))]; exact ⟨n', g1, g2⟩
    have none_ : nrA a i j = 0 ∨ i ≤ j → ∃ n', n' ≤ n + (i - j) ∧ fL_areLines_140 cap σ ν ζ c x (iI i) false ψ K (fL_areLines_97 cap σ ν ζ c x (iI i) false ψ K f) (iI acc) (iI w) (iI j) false n = K x (iI (acc + smI (fun j => nrA a i j) (i - j) j)) true (iI ((i + 1 : Nat) : Int)) ψ n' := by
      intro hh
      obtain ⟨n', g1, g2⟩ := s180 false 0 n rfl ⟨0, by omega, by omega, trivial, rfl⟩ (by omega)
      refine ⟨n', by omega, ?_⟩
      unfold fL_areLines_140
      rw [if_neg nft, g2, Int.add_zero]
      rcases Nat.lt_or_ge j i with w1 | w1
      · rw [show i - j = (i - (j + 1)) + 1 by omega, smI]
        have : nrA a i j = 0 := by rcases hh with h | h <;> omega
        rw [this, Int.zero_add]
      · rw [show i - (j + 1) = 0 by omega, show i - j = 0 by omega, smI, smI]
    rw [fL_areLines_97, l_n L, if_neg (nle (by omega) (by omega) (by omega))]
    by_cases c1 : i ≤ j
    · rw [if_pos (yle (by omega) (by omega) (by omega))]; exact none_ (Or.inr c1)
    · rw [if_neg (nle (by omega) (by omega) (by omega)), if_pos (l_i3 (k8 I hi)).1, l_lb L I hi]
      by_cases c2 : ab a i = -1
      · rw [if_pos (xlt0 (by omega))]; exact none_ (Or.inl (by unfold nrA; rw [cIf_neg (fun z => z.1 c2)]))
      · rw [if_neg (nlt0 (by omega)), if_pos (l_i3 (k8 I hj)).1, l_lb L I hj]
        by_cases c3 : ab a j = -1
        · rw [if_pos (xlt0 (by omega))]; exact none_ (Or.inl (by unfold nrA; rw [cIf_neg (fun z => z.2.1 c3)]))
        · rw [if_neg (nlt0 (by omega))]
          clear none_
          obtain ⟨p1, p2, p3, p4⟩ := lab_pl I hi c2
          obtain ⟨q1, q2, q3, q4⟩ := lab_pl I hj c3
          have hfar := sl_far (cap := 1) L I hi hj P p2 q1 (Nat.le_refl _)
          rw [p4] at hfar
          have hr2 := dl_rng I hi hj p2 q2
          have hg := I.2.2.1
          unfold fL_areLines_140
          rw [if_pos rfl, if_pos (l_i3 (k8 I hi)).1, l_lb L I hi, if_pos (by omega), hfar, Option.bind_some, l_g L]
          have es : i - j = (i - (j + 1)) + 1 := by omega
          by_cases c4 : (ag a : Int) ≤ dlA a i (ab a i).toNat j (ab a j).toNat
          · obtain ⟨n', g1, g2⟩ := s180 false 0 (n + 1) rfl ⟨0, by omega, by omega, trivial, rfl⟩ (by omega)
            refine ⟨n', by omega, ?_⟩
            have e0 : nrA a i j = 0 := by unfold nrA; rw [cIf_neg (fun z => by have := z.2.2; omega)]
            rw [if_pos (yle (by omega) (by omega) c4), g2, es, smI, e0, Int.add_zero, Int.zero_add]
          · obtain ⟨n', g1, g2⟩ := s180 true 1 (n + 1) rfl ⟨0, by omega, by omega, trivial, rfl⟩ (by omega)
            refine ⟨n', by omega, ?_⟩
            have e0 : nrA a i j = 1 := by unfold nrA; rw [cIf_pos ⟨c2, c3, by omega⟩]
            rw [if_neg (nle (by omega) (by omega) (by omega)), g2, es, smI, e0, Int.add_assoc]
theorem al_44 (H : RepS σ a) (L : RepL ν ζ a) (I : InvA a) (c : Int32) (hc : 29 ≤ cap) : ∀ (m i fu : Nat) (acc : Int) (ψ : Nat → Int32) (n : Nat), i + m = an a → m < fu → lbA a m i acc = lbA a (an a) 0 0 → n ≤ 1 + tri i →
    fL_areLines_44 cap σ ν ζ c fu (iI acc) (iI (smI (fun i => smI (fun j => nrA a i j) i 0) i 0)) true (iI i) ψ n = some true := by
  have h8 := I.1
  intro m
  induction m with
  | zero =>
    intro i fu acc ψ n h1 h2 h3 h4
    obtain ⟨f, rfl⟩ : ∃ f, fu = f + 1 := ⟨fu - 1, by omega⟩
    rw [lbA] at h3
    obtain rfl : i = an a := by omega
    rw [fL_areLines_44, l_n L, if_pos (yle (by omega) (by omega) (by omega))]
    unfold fL_areLines_333
    rw [if_pos rfl, k_labels H I, Option.bind_some, if_pos (by rw [h3]), k_tooNear H I, Option.bind_some, if_pos rfl]
  | succ m ih =>
    intro i fu acc ψ n h1 h2 h3 h4
    obtain ⟨f, rfl⟩ : ∃ f, fu = f + 1 := ⟨fu - 1, by omega⟩
    have hi : i < an a := by omega
    have hl := lab_rng I hi
    have ht := tri_le (i + 1) (by omega)
    rw [tri] at ht
    obtain ⟨ψ', hw, P⟩ := sl_walks L I hi ψ
    obtain ⟨r, hr3, hr⟩ := sl_low (c >>> (iI (i : Int) &&& 31)) (n := 3) (by omega)
    rw [lbA] at h3
    rw [fL_areLines_44, l_n L, if_neg (nle (by omega) (by omega) (by omega)), if_pos rfl, hw, Option.bind_some, if_pos (l_i3 (k8 I hi)).1, l_lb L I hi]
    have go : ∀ acc2 : Int, lbA a m (i + 1) acc2 = lbA a (an a) 0 0 → fL_areLines_97 cap σ ν ζ c (iI acc2) (iI i) false ψ' (fL_areLines_44 cap σ ν ζ c f) FU (iI (smI (fun i => smI (fun j => nrA a i j) i 0) i 0)) (0 : Int32) (0 : Int32) n = some true := by
      intro acc2 ha
      obtain ⟨n', g1, g2⟩ := al_97 (cap := cap) H L I hi P c hr hr3 (fL_areLines_44 cap σ ν ζ c f) (iI acc2) (an a) 0 FU (smI (fun i => smI (fun j => nrA a i j) i 0) i 0) 0 n (by omega) (FU_gt (by omega)) (by unfold rank; omega) (by omega)
      rw [Z0, Nat.sub_zero] at g2
      have es : smI (fun i => smI (fun j => nrA a i j) i 0) i 0 + smI (fun j => nrA a i j) i 0 = smI (fun i => smI (fun j => nrA a i j) i 0) (i + 1) 0 := by rw [smI_snoc, Nat.zero_add]
      rw [g2, es]
      exact ih (i + 1) f acc2 ψ' n' (by omega) (by omega) ha (by rw [tri]; omega)
    by_cases q : ab a i = -1
    · rw [if_pos q] at h3
      rw [if_neg (xnge0 (by omega)), L0, iI_add, Int.add_zero]
      exact go acc h3
    · rw [if_neg q] at h3
      rw [if_pos (nge0 (by omega)), iI_s']
      exact go (acc + 1) h3
theorem are_lines (H : RepS σ a) (L : RepL ν ζ a) (I : InvA a) (c : Int32) (hc : 29 ≤ cap) : fL_areLines cap σ ν ζ c = some true := by
  have h8 := I.1
  have e := al_44 (cap := cap) H L I c hc (an a) 0 FU 0 (fun _ => (0 : Int32)) (0 + 1) (by omega) (FU_gt (by omega)) rfl (by decide)
  rw [Z0, Z0', show smI (fun i => smI (fun j => nrA a i j) i 0) 0 0 = 0 from rfl, Z0'] at e
  unfold fL_areLines
  rw [if_pos (by omega), k_lines H, Option.bind_some, l_n L, if_pos rfl, k_gap H, Option.bind_some, l_g L, if_pos rfl, e]
end AL
