/-! bends, places, distances, the best place: the law's side -/
theorem bend_bits : ∀ x y : Fin 8, (if ((iI (y.val : Int) - iI (x.val : Int)) &&& (7 : Int32)) ≤ (4 : Int32) then some ((iI (y.val : Int) - iI (x.val : Int)) &&& (7 : Int32)) else some ((8 : Int32) - ((iI (y.val : Int) - iI (x.val : Int)) &&& (7 : Int32)))) = some (iI (bndI (x.val : Int) (y.val : Int))) := by decide +kernel
theorem bend_bit {x y : Int} (hx : 0 ≤ x ∧ x ≤ 7) (hy : 0 ≤ y ∧ y ≤ 7) : (if ((iI y - iI x) &&& (7 : Int32)) ≤ (4 : Int32) then some ((iI y - iI x) &&& (7 : Int32)) else some ((8 : Int32) - ((iI y - iI x) &&& (7 : Int32)))) = some (iI (bndI x y)) := by
  have h := bend_bits ⟨x.toNat, by omega⟩ ⟨y.toNat, by omega⟩
  rw [show (((⟨x.toNat, by omega⟩ : Fin 8).val : Nat) : Int) = x from by show ((x.toNat : Nat) : Int) = x; omega, show (((⟨y.toNat, by omega⟩ : Fin 8).val : Nat) : Int) = y from by show ((y.toNat : Nat) : Int) = y; omega] at h
  exact h
theorem bsum_zero (a : Ab) (k : Nat) : ∀ (m : Nat) (z : Int), (ah a k : Int) < z → bsum a k m z = 0 := by
  intro m
  induction m with
  | zero => intro z _; rfl
  | succ m ih => intro z h; rw [bsum, cIf_neg (by omega), ih (z + 1) (by omega)]; rfl
theorem sq_le (r c : Int) : r * r ≤ c * c ↔ r.natAbs ≤ c.natAbs := by
  rw [← Int.natAbs_mul_self (a := r), ← Int.natAbs_mul_self (a := c)]
  exact Int.ofNat_le.trans Nat.mul_self_le_mul_self_iff
theorem nge0 {z : Int} (h : 0 ≤ z ∧ z < 2147483648) : (0 : Int32) ≤ iI z := by rw [L0]; exact yle (by omega) (by omega) h.1
theorem xlt0 {z : Int} (h : -2147483648 ≤ z ∧ z < 0) : iI z < 0 := by rw [L0]; exact ylt (by omega) (by omega) h.2
theorem xnge0 {z : Int} (h : -2147483648 ≤ z ∧ z < 0) : ¬ (0 : Int32) ≤ iI z := by rw [L0]; exact nle (by omega) (by omega) h.2
theorem sq_rng {r : Int} (h : -23 ≤ r ∧ r ≤ 23) : -2147483648 ≤ r * r ∧ r * r < 2147483648 := by
  have h1 : r.natAbs * r.natAbs ≤ 23 * 23 := Nat.mul_le_mul (by omega) (by omega)
  rw [← Int.natAbs_mul_self (a := r)]
  omega
section SB
variable {ν : Nat → Int32} {ζ : Nat → Int64} {ψ θ : Nat → Int32} {a : Ab} {cap : Nat}
theorem sl_bend78 (H : RepL ν ζ a) (I : InvA a) {k : Nat} (hk : k < an a) {j : Nat} (hj : j < ah a k) {y : Int} (hy : 0 ≤ y ∧ y ≤ 7) (x1 x2 : Int32) : fL_bend_78 ν ζ ψ x1 x2 (iI y) (iI k) (iI j) = some (iI (bndI (drA a k j) y)) := by
  unfold fL_bend_78
  rw [sl_dir H I hk hj, Option.bind_some]
  exact bend_bit (dr_all a k j) hy
theorem sl_bend (H : RepL ν ζ a) (I : InvA a) {k : Nat} (hk : k < an a) (P : RepP ψ a k) {j : Nat} (hj : j ≤ ah a k) : fL_bend ν ζ ψ (iI k) (iI j) = some (iI (bndA a k j)) := by
  have h6 := h60 I hk
  obtain ⟨b, hb, ib⟩ := sl_closed H I hk P
  have ring : ringA a k → fL_bend_44 ν ζ ψ (iI k) (iI j) (iI (ah a k)) true = some (iI (bndI (drA a k (ah a k - 1)) (drA a k 0))) := by
    intro hr
    have h4 := hr.1
    have e0 := sl_dir H I hk (j := 0) (by omega)
    rw [Z0] at e0
    unfold fL_bend_44
    rw [if_pos rfl, e0, Option.bind_some, L1, iI_sub, show (ah a k : Int) - 1 = ((ah a k - 1 : Nat) : Int) by omega]
    exact sl_bend78 H I hk (by omega) (dr_all a k 0) _ _
  unfold fL_bend bndA
  rw [if_pos (l_i2 (k8 I hk)).1, l_st H I hk, L0]
  by_cases c0 : j = 0
  · subst c0
    rw [if_pos (show iI ((0 : Nat) : Int) = iI 0 from rfl), hb, Option.bind_some, cIf_neg (by omega)]
    by_cases hr : ringA a k
    · rw [if_pos (ib.mpr hr), cIf_pos hr]; exact ring hr
    · rw [if_neg (fun q => hr (ib.mp q)), cIf_neg hr]
  · rw [if_neg (neq (by omega) (by omega) (by omega))]
    by_cases c1 : j = ah a k
    · rw [if_pos (by rw [c1]), hb, Option.bind_some, cIf_neg (by omega)]
      by_cases hr : ringA a k
      · rw [if_pos (ib.mpr hr), cIf_pos hr]; exact ring hr
      · rw [if_neg (fun q => hr (ib.mp q)), cIf_neg hr]
    · rw [if_neg (neq (by omega) (by omega) (by omega)), cIf_pos (by omega)]
      unfold fL_bend_44
      rw [if_neg nft, sl_dir H I hk (by omega), Option.bind_some, L1, iI_sub, show (j : Int) - 1 = ((j - 1 : Nat) : Int) by omega]
      exact sl_bend78 H I hk (by omega) (dr_all a k j) _ _
theorem sl_bends_loop (H : RepL ν ζ a) (I : InvA a) {k : Nat} (hk : k < an a) (P : RepP ψ a k) {e : Nat} (he : e ≤ 100) (x : Int32) : ∀ (m z fu : Nat) (acc : Int), z + m = e + 2 → m < fu →
    fL_bends_72 ν ζ ψ (iI k) x (iI (ah a k)) (iI e) fu (iI acc) (iI z) = some (iI (acc + bsum a k m z)) := by
  have h6 := h60 I hk
  intro m
  induction m with
  | zero =>
    intro z fu acc h1 h2
    obtain ⟨f, rfl⟩ : ∃ f, fu = f + 1 := ⟨fu - 1, by omega⟩
    rw [fL_bends_72, L1, iI_add, if_pos (ylt (by omega) (by omega) (by omega)), bsum, Int.add_zero]
  | succ m ih =>
    intro z fu acc h1 h2
    obtain ⟨f, rfl⟩ : ∃ f, fu = f + 1 := ⟨fu - 1, by omega⟩
    rw [fL_bends_72, iI_s, iI_s, if_neg (nlt (by omega) (by omega) (by omega))]
    by_cases q : z ≤ ah a k
    · rw [if_neg (nlt (by omega) (by omega) (by omega)), sl_bend H I hk P q, Option.bind_some, iI_add, ih (z + 1) f _ (by omega) (by omega), bsum, cIf_pos (by omega), Int.toNat_natCast, Int.add_assoc]
      rfl
    · rw [if_pos (ylt (by omega) (by omega) (by omega)), bsum_zero a k (m + 1) z (by omega), Int.add_zero]
theorem sl_bends (H : RepL ν ζ a) (I : InvA a) {k : Nat} (hk : k < an a) (P : RepP ψ a k) {p : Nat} (hp : p ≤ ah a k) : fL_bends ν ζ ψ (iI k) (iI p) = some (iI (cIf (plA a k p) (bopA a k p) (-1))) := by
  have h6 := h60 I hk
  have hs := sz_rng a k
  obtain ⟨b, hb, ib⟩ := sl_closed H I hk P
  have e1 : iI (p : Int) + iI (szA a k : Int) - (1 : Int32) = iI ((p + szA a k - 1 : Nat) : Int) := by rw [L1, iI_add, iI_sub]; exact congrArg iI (by omega)
  have body : fL_bends_46 ν ζ ψ (iI k) (iI p) (iI (ah a k)) (iI ((p + szA a k - 1 : Nat) : Int)) = some (iI (bopA a k p)) := by
    unfold fL_bends_46 bopA
    rw [bsum]
    by_cases c0 : p = 0
    · subst c0
      have e := sl_bends_loop H I hk P (e := 0 + szA a k - 1) (by omega) (iI ((0 : Nat) : Int)) (szA a k + 1) 0 FU 0 (by omega) (FU_gt (by omega))
      rw [L0, if_pos (yle (by omega) (by omega) (by omega)), e, cIf_neg (by omega)]
      rfl
    · have e := sl_bends_loop H I hk P (e := p + szA a k - 1) (by omega) (iI (p : Int)) (szA a k + 1) p FU (bndA a k (p - 1)) (by omega) (FU_gt (by omega))
      rw [L0, if_neg (nle (by omega) (by omega) (by omega)), L1, iI_sub, show (p : Int) - 1 = ((p - 1 : Nat) : Int) by omega, sl_bend H I hk P (by omega), Option.bind_some, e, cIf_pos (by omega), Int.toNat_natCast, show (((p - 1 : Nat) : Int) + 1) = (p : Int) by omega]
  unfold fL_bends
  rw [if_pos (l_i2 (k8 I hk)).1, sl_size H I hk, Option.bind_some, l_st H I hk, e1]
  by_cases c1 : ah a k < p + szA a k - 1
  · rw [if_pos (ylt (by omega) (by omega) (by omega)), cIf_neg (by unfold plA; omega)]; rfl
  · rw [if_neg (nlt (by omega) (by omega) (by omega))]
    by_cases c2 : p + szA a k - 1 = ah a k
    · rw [if_pos (by rw [c2]), hb, Option.bind_some]
      by_cases hr : ringA a k
      · rw [if_pos (ib.mpr hr), cIf_neg (by unfold plA r01; rw [cIf_pos hr]; omega)]; rfl
      · rw [if_neg (fun q => hr (ib.mp q)), cIf_pos (by unfold plA r01; rw [cIf_neg hr]; omega)]; exact body
    · have hr1 := r01_le a k
      rw [if_neg (neq (by omega) (by omega) (by omega)), cIf_pos (by unfold plA; omega)]; exact body
theorem sl_gap {p q : Int} (hp : 0 ≤ p ∧ p < 384) (hq : 0 ≤ q ∧ q < 384) : fL_gap (iI p) (iI q) = some (iI (dstI p q)) := by
  have e30 : ∀ (x y : Int32) (v t : Int), -100 ≤ v → v ≤ 100 → -100 ≤ t → t ≤ 100 → fL_gap_30 x y (iI v) (iI t) = some (iI (max t (v.natAbs : Int))) := by
    intro x y v t h1 h2 h3 h4
    unfold fL_gap_30
    rw [L0, iI_neg]
    by_cases c1 : 0 ≤ v
    · rw [if_pos (yle (by omega) (by omega) c1)]
      by_cases c2 : v ≤ t
      · rw [if_pos (yle (by omega) (by omega) c2)]; exact congrArg (fun z => some (iI z)) (by omega)
      · rw [if_neg (nle (by omega) (by omega) (by omega))]; exact congrArg (fun z => some (iI z)) (by omega)
    · rw [if_neg (nle (by omega) (by omega) (by omega))]
      by_cases c2 : -v ≤ t
      · rw [if_pos (yle (by omega) (by omega) c2)]; exact congrArg (fun z => some (iI z)) (by omega)
      · rw [if_neg (nle (by omega) (by omega) (by omega))]; exact congrArg (fun z => some (iI z)) (by omega)
  unfold fL_gap
  rw [L24, iI_irm (by omega) (by omega), iI_irm (by omega) (by omega), iI_div (by omega) (by omega), iI_div (by omega) (by omega), iI_sub, iI_sub, iI_neg, L0]
  unfold dstI
  by_cases c : 0 ≤ p % 24 - q % 24
  · rw [if_pos (yle (by omega) (by omega) c), e30 _ _ _ _ (by omega) (by omega) (by omega) (by omega)]; exact congrArg (fun z => some (iI z)) (by omega)
  · rw [if_neg (nle (by omega) (by omega) (by omega)), e30 _ _ _ _ (by omega) (by omega) (by omega) (by omega)]; exact congrArg (fun z => some (iI z)) (by omega)
theorem sl_far_in (H : RepL ν ζ a) (I : InvA a) {k k2 p i : Nat} (hk : k < an a) (hk2 : k2 < an a) (P : RepP ψ a k) (Q : RepP θ a k2) (hi : p + i ≤ ah a k) (hl : 0 ≤ ab a k2) (K : Int32 → Int32 → Nat → Option Int32) : ∀ (m e fu : Nat) (acc : Int) (n : Nat), e + m = szA a k2 → m < fu → 0 ≤ acc → acc ≤ 99 →
    fL_far_35 cap ν ζ ψ (iI k) (iI p) (iI k2) θ (iI i) K fu (iI acc) (iI e) n = K (iI (minJ (fun j => dstI (ap a k (p + i)) (ap a k2 j)) m ((ab a k2).toNat + e) acc)) (iI ((i + 1 : Nat) : Int)) n := by
  have h6 := h60 I hk
  have h62 := h60 I hk2
  have hs := sz_rng a k2
  have hlb := lab_pl I hk2 (by omega)
  intro m
  induction m with
  | zero =>
    intro e fu acc n h1 h2 h3 h4
    obtain ⟨f, rfl⟩ : ∃ f, fu = f + 1 := ⟨fu - 1, by omega⟩
    rw [fL_far_35, sl_size H I hk2, Option.bind_some, if_pos (yle (by omega) (by omega) (by omega)), iI_s, minJ]
  | succ m ih =>
    intro e fu acc n h1 h2 h3 h4
    obtain ⟨f, rfl⟩ : ∃ f, fu = f + 1 := ⟨fu - 1, by omega⟩
    have p1 := p384 I hk hi
    have p2 := p384 I hk2 (j := (ab a k2).toNat + e) (by omega)
    have dr := dst_rng (p := ap a k (p + i)) (q := ap a k2 ((ab a k2).toNat + e)) (by omega) (by omega)
    have e1 : iI (p : Int) + iI (i : Int) = iI ((p + i : Nat) : Int) := by rw [iI_add]; rfl
    have e2 : iI (ab a k2) + iI (e : Int) = iI (((ab a k2).toNat + e : Nat) : Int) := by rw [iI_add]; exact congrArg iI (by omega)
    rw [fL_far_35, sl_size H I hk2, Option.bind_some, if_neg (nle (by omega) (by omega) (by omega)), e1, if_pos (inR_iI (by omega) (by omega) (by omega)), if_pos (l_i3 (k8 I hk2)).1, l_lb H I hk2, e2, if_pos (inR_iI (by omega) (by omega) (by omega)), tnN (by omega), tnN (by omega), P _ hi, Q _ (by omega), sl_gap (by omega) (by omega), Option.bind_some, iI_s, minJ_s]
    generalize hD : dstI (ap a k (p + i) : Int) (ap a k2 ((ab a k2).toNat + e) : Int) = D at dr
    have e3 : (ab a k2).toNat + (e + 1) = (ab a k2).toNat + e + 1 := by omega
    by_cases c : acc ≤ D
    · rw [if_pos (yle (by omega) (by omega) c), ih (e + 1) f acc n (by omega) (by omega) h3 h4, e3]
      rw [show min acc D = acc by omega]
    · rw [if_neg (nle (by omega) (by omega) (by omega)), ih (e + 1) f D n (by omega) (by omega) (by omega) (by omega), e3]
      rw [show min acc D = D by omega]
theorem sl_far_out (H : RepL ν ζ a) (I : InvA a) {k k2 p : Nat} (hk : k < an a) (hk2 : k2 < an a) (P : RepP ψ a k) (Q : RepP θ a k2) (hp : p + szA a k ≤ ah a k + 1) (hl : 0 ≤ ab a k2) : ∀ (m i fu : Nat) (acc : Int) (n : Nat), i + m = szA a k → m < fu → 0 ≤ acc → acc ≤ 99 →
    fL_far_22 cap ν ζ ψ (iI k) (iI p) (iI k2) θ fu (iI acc) (iI i) n = some (iI (minI (fun i j => dstI (ap a k i) (ap a k2 j)) (szA a k2) (ab a k2).toNat m (p + i) acc)) := by
  have h6 := h60 I hk
  have hs := sz_rng a k
  have hs2 := sz_rng a k2
  have hlb := lab_pl I hk2 (by omega)
  intro m
  induction m with
  | zero =>
    intro i fu acc n h1 h2 h3 h4
    obtain ⟨f, rfl⟩ : ∃ f, fu = f + 1 := ⟨fu - 1, by omega⟩
    rw [fL_far_22, sl_size H I hk, Option.bind_some, if_pos (yle (by omega) (by omega) (by omega)), minI]
  | succ m ih =>
    intro i fu acc n h1 h2 h3 h4
    obtain ⟨f, rfl⟩ : ∃ f, fu = f + 1 := ⟨fu - 1, by omega⟩
    have e := sl_far_in (cap := cap) (p := p) H I hk hk2 P Q (i := i) (by omega) hl (fL_far_22 cap ν ζ ψ (iI k) (iI p) (iI k2) θ f) (szA a k2) 0 FU acc n (by omega) (FU_gt (by omega)) h3 h4
    have hr := minJ_rng (fun j => dstI (ap a k (p + i)) (ap a k2 j)) (szA a k2) ((ab a k2).toNat + 0) acc h3 h4 (fun j h5 h6' => (dst_rng (by have := p384 I hk (j := p + i) (by omega); omega) (by have := p384 I hk2 (j := j) (by omega); omega)).1)
    rw [Z0] at e
    rw [fL_far_22, sl_size H I hk, Option.bind_some, if_neg (nle (by omega) (by omega) (by omega)), e, ih (i + 1) f _ n (by omega) (by omega) hr.1 hr.2, minI, show p + (i + 1) = p + i + 1 by omega]
    rfl
theorem sl_far (H : RepL ν ζ a) (I : InvA a) {k k2 p : Nat} (hk : k < an a) (hk2 : k2 < an a) (P : RepP ψ a k) (hp : p + szA a k ≤ ah a k + 1) (hl : 0 ≤ ab a k2) (hc : 1 ≤ cap) : fL_far cap ν ζ ψ (iI k) (iI p) (iI k2) = some (iI (dlA a k p k2 (ab a k2).toNat)) := by
  obtain ⟨θ, hw, Q⟩ := sl_walks H I hk2 (fun _ => (0 : Int32))
  have hs := sz_rng a k
  have e := sl_far_out (cap := cap) H I hk hk2 P Q hp hl (szA a k) 0 FU 99 (0 + 1) (by omega) (FU_gt (by omega)) (by omega) (by omega)
  rw [Z0, Z99] at e
  unfold fL_far
  rw [if_pos (by omega), hw, Option.bind_some, e]
  rfl
theorem nI_iI (i : Nat) : Int32.ofNat i = iI (i : Int) := iI_nat i
theorem uFr_s (H : RepL ν ζ a) (I : InvA a) {k : Nat} (hk : k < an a) {i : Nat} (hi : i < an a) (m : Nat) : uFr ν (iI k) (m + 1) i = (if i = k ∨ ab a i = -1 then 0 else 1) + uFr ν (iI k) m (i + 1) := by
  have h8 := I.1
  have hl := lab_rng I hi
  have e1 : (Int32.ofNat i = iI (k : Int)) ↔ i = k := by rw [nI_iI, iI_eq (by omega) (by omega)]; omega
  have e2 : (ν (4 * i + 3) < 0) ↔ ab a i = -1 := by rw [(H.2.2 i hi).2.2.2.1, L0, iI_lt (by omega) (by omega)]; omega
  rw [uFr]
  congr 1
  by_cases c : i = k ∨ ab a i = -1
  · rw [if_pos c, if_pos (c.elim (fun q => Or.inl (e1.mpr q)) (fun q => Or.inr (e2.mpr q)))]
  · rw [if_neg c, if_neg (fun q => c (q.elim (fun w => Or.inl (e1.mp w)) (fun w => Or.inr (e2.mp w))))]
theorem uF_e (H : RepL ν ζ a) (I : InvA a) (x : Int32) : uF ν x = uFr ν x (an a) 0 := by
  have h8 := I.1
  unfold uF
  rw [H.1, tnN (by omega)]
theorem sl_free_loop (H : RepL ν ζ a) (I : InvA a) {k p : Nat} (hk : k < an a) (P : RepP ψ a k) (hp : p + szA a k ≤ ah a k + 1) : ∀ (m i fu : Nat) (acc : Int) (n : Nat), i + m = an a → m < fu → 0 ≤ acc → acc ≤ 99 → n + uFr ν (iI k) m i ≤ cap →
    fL_free_7 cap ν ζ ψ (iI k) (iI p) fu (iI acc) (iI i) n = some (iI (frA a k p m i acc)) := by
  have h8 := I.1
  intro m
  induction m with
  | zero =>
    intro i fu acc n h1 h2 h3 h4 h5
    obtain ⟨f, rfl⟩ : ∃ f, fu = f + 1 := ⟨fu - 1, by omega⟩
    rw [fL_free_7, l_n H, if_pos (yle (by omega) (by omega) (by omega)), frA]
  | succ m ih =>
    intro i fu acc n h1 h2 h3 h4 h5
    obtain ⟨f, rfl⟩ : ∃ f, fu = f + 1 := ⟨fu - 1, by omega⟩
    have hi : i < an a := by omega
    have hl := lab_rng I hi
    rw [uFr_s H I hk hi] at h5
    have skip : ∀ n2, n2 = n → n + uFr ν (iI k) m (i + 1) ≤ cap → fL_free_49 cap ν ζ ψ (iI k) (iI p) (fL_free_7 cap ν ζ ψ (iI k) (iI p) f) (iI acc) (iI i) (99 : Int32) n2 = some (iI (frA a k p m (i + 1) acc)) := by
      intro n2 hn h5
      subst hn
      unfold fL_free_49
      rw [← Z99, if_pos (yle (by omega) (by omega) (by omega)), iI_s]
      exact ih (i + 1) f acc n2 (by omega) (by omega) h3 h4 h5
    rw [fL_free_7, l_n H, if_neg (nle (by omega) (by omega) (by omega)), frA]
    by_cases c1 : i = k
    · rw [if_pos (Or.inl c1)] at h5
      rw [if_pos (by rw [c1]), if_pos (Or.inl c1)]
      exact skip n rfl (by omega)
    · rw [if_neg (neq (by omega) (by omega) (by omega)), if_pos (l_i3 (k8 I hi)).1, l_lb H I hi, L0]
      by_cases c2 : ab a i = -1
      · rw [if_pos (Or.inr c2)] at h5
        rw [if_neg (nle (by omega) (by omega) (by omega)), if_pos (Or.inr c2)]
        exact skip n rfl (by omega)
      · rw [if_neg (fun q => q.elim c1 c2)] at h5
        have hlp := lab_pl I hi c2
        have hr := dl_rng I hk hi hp hlp.2.1
        rw [if_pos (yle (by omega) (by omega) (by omega)), if_pos (by omega), sl_far H I hk hi P hp (by omega) (Nat.le_refl _), Option.bind_some, if_neg (fun q => q.elim c1 c2)]
        unfold fL_free_49
        rw [iI_s]
        by_cases c3 : acc ≤ dlA a k p i (ab a i).toNat
        · rw [if_pos (yle (by omega) (by omega) c3), ih (i + 1) f acc (n + 1) (by omega) (by omega) h3 h4 (by omega), show min acc (dlA a k p i (ab a i).toNat) = acc by omega]
        · rw [if_neg (nle (by omega) (by omega) (by omega)), ih (i + 1) f _ (n + 1) (by omega) (by omega) (by omega) (by omega) (by omega), show min acc (dlA a k p i (ab a i).toNat) = dlA a k p i (ab a i).toNat by omega]
theorem sl_free (H : RepL ν ζ a) (I : InvA a) {k p : Nat} (hk : k < an a) (P : RepP ψ a k) (hp : p + szA a k ≤ ah a k + 1) (hc : uF ν (iI k) ≤ cap) : fL_free cap ν ζ ψ (iI k) (iI p) = some (iI (freeA a k p)) := by
  have h8 := I.1
  have e := sl_free_loop (cap := cap) H I hk P hp (an a) 0 FU 99 0 (by omega) (FU_gt (by omega)) (by omega) (by omega) (by rw [uF_e H I] at hc; omega)
  rw [Z0, Z99] at e
  unfold fL_free
  exact e
theorem uA_lt (H : RepL ν ζ a) (I : InvA a) {k : Nat} (hk : k < an a) {p : Nat} (hp : p < ah a k) : uA ν (iI k) (iI p) = uF ν (iI k) := by
  have h8 := I.1
  have h6 := h60 I hk
  unfold uA
  rw [tnN (by omega), (H.2.2 k hk).2.2.1, if_pos (ylt (by omega) (by omega) (by omega))]
theorem uA_ge (H : RepL ν ζ a) (I : InvA a) {k : Nat} (hk : k < an a) {p : Nat} (hp : ah a k ≤ p) (h2 : p ≤ 1000) : uA ν (iI k) (iI p) = 0 := by
  have h8 := I.1
  have h6 := h60 I hk
  unfold uA
  rw [tnN (by omega), (H.2.2 k hk).2.2.1, if_neg (nlt (by omega) (by omega) (by omega))]
theorem sl_against (H : RepL ν ζ a) (I : InvA a) {k : Nat} (hk : k < an a) (P : RepP ψ a k) {p : Nat} (hp : p ≤ ah a k) (hc : uA ν (iI k) (iI p) ≤ cap) : fL_against cap ν ζ ψ (iI k) (iI p) = some (iI (whlA a k p)) := by
  have h6 := h60 I hk
  have hs := sz_rng a k
  have hg := I.2.2.1
  unfold fL_against whlA shpA
  rw [sl_bends H I hk P hp, Option.bind_some]
  by_cases c1 : plA a k p
  · have hb := bop_rng I hk p
    have hpl := pl_le c1
    simp only [cIf_pos c1]
    rw [if_neg (nlt0 (by omega))]
    by_cases c2 : bopA a k p ≤ 1
    · have p1 := p384 I hk hp
      have p2 := p384 I hk (j := p + szA a k - 1) (by omega)
      have e1 : iI (p : Int) + iI (szA a k : Int) - (1 : Int32) = iI ((p + szA a k - 1 : Nat) : Int) := by rw [L1, iI_add, iI_sub]; exact congrArg iI (by omega)
      have hfr := free_rng I hk hpl
      rw [if_pos (show iI (bopA a k p) ≤ (1 : Int32) by rw [L1]; exact yle (by omega) (by omega) c2), if_pos (inR_iI (by omega) (by omega) (by omega)), sl_size H I hk, Option.bind_some, e1, if_pos (inR_iI (by omega) (by omega) (by omega)), tnN (by omega), tnN (by omega), P _ hp, P _ (by omega), L24, iI_div (by omega) (by omega), iI_div (by omega) (by omega), iI_irm (by omega) (by omega), iI_irm (by omega) (by omega), iI_sub, iI_sub, iI_mul, iI_mul]
      have sq : (iI (((ap a k p : Int) / 24 - (ap a k (p + szA a k - 1) : Int) / 24) * ((ap a k p : Int) / 24 - (ap a k (p + szA a k - 1) : Int) / 24)) ≤ iI (((ap a k p : Int) % 24 - (ap a k (p + szA a k - 1) : Int) % 24) * ((ap a k p : Int) % 24 - (ap a k (p + szA a k - 1) : Int) % 24))) ↔ ¬ stdA a k p := by
        rw [iI_le (sq_rng (by omega)) (sq_rng (by omega)), sq_le]
        unfold stdA
        omega
      by_cases c3 : stdA a k p
      · rw [if_neg (fun q => (sq.mp q) c3), if_pos c2, cIf_pos c3, if_neg (by decide)]; rfl
      · rw [if_pos (sq.mpr c3), if_pos (by rw [uA_lt H I hk (by omega)] at hc; omega), sl_free H I hk P hpl (Nat.le_refl _), Option.bind_some, l_g H, if_pos c2, cIf_neg c3, if_pos rfl]
        by_cases c4 : (ag a : Int) ≤ freeA a k p
        · rw [if_pos (yle (by omega) (by omega) c4), if_pos c4]; rfl
        · rw [if_neg (nle (by omega) (by omega) (by omega)), if_neg c4]; rfl
    · rw [if_neg (show ¬ iI (bopA a k p) ≤ (1 : Int32) by rw [L1]; exact nle (by omega) (by omega) (by omega)), if_pos (nge0 (by omega)), if_neg c2, if_neg (by decide)]; rfl
  · simp only [cIf_neg c1]
    rw [if_pos (xlt0 (by omega)), if_neg (xnge0 (by omega)), if_neg (by decide)]; rfl
/-- the points of a place: fewer bends first, then further from the other labels -/
noncomputable def itsA (a : Ab) (k j : Nat) : Int := 200 * (1 - bopA a k j) + freeA a k j
def isB (a : Ab) (k lo hi : Nat) (x : Int) : Prop := (x = -1 ∧ ∀ j, lo ≤ j → j < hi → ¬ whlA a k j = 0) ∨ ∃ i : Nat, x = i ∧ lo ≤ i ∧ i < hi ∧ whlA a k i = 0 ∧ ∀ j, lo ≤ j → j < hi → whlA a k j = 0 → itsA a k j < itsA a k i ∨ (itsA a k j = itsA a k i ∧ i ≤ j)
theorem isB_uniq {k lo hi : Nat} {x y : Int} (h1 : isB a k lo hi x) (h2 : isB a k lo hi y) : x = y := by
  rcases h1 with ⟨e1, f1⟩ | ⟨i, e1, a1, b1, w1, f1⟩
  · rcases h2 with ⟨e2, _⟩ | ⟨j, e2, a2, b2, w2, _⟩
    · omega
    · exact absurd w2 (f1 j a2 b2)
  · rcases h2 with ⟨e2, f2⟩ | ⟨j, e2, a2, b2, w2, f2⟩
    · exact absurd w1 (f2 i a1 b1)
    · have g1 := f1 j a2 b2 w2
      have g2 := f2 i a1 b1 w1
      omega
theorem whl_bop (I : InvA a) {k j : Nat} (hk : k < an a) (h : whlA a k j = 0) : 0 ≤ bopA a k j ∧ bopA a k j ≤ 1 ∧ 0 ≤ freeA a k j ∧ freeA a k j ≤ 99 ∧ plA a k j := by
  have h1 := (whl_shp h).1
  have hpl := shp_pl h1
  have hf := free_rng I hk (pl_le hpl)
  have hb := bop_rng I hk j
  refine ⟨hb.1, ?_, hf.1, hf.2, hpl⟩
  unfold shpA at h1
  rw [cIf_pos hpl] at h1
  by_cases c : bopA a k j ≤ 1
  · exact c
  · rw [if_neg c] at h1; omega
theorem bst_is (I : InvA a) {k : Nat} (hk : k < an a) : ∀ (m j : Nat) (x y z : Int), j + m = ah a k + 1 → isB a k 0 j x → (∀ i : Nat, x = i → y = bopA a k i ∧ z = freeA a k i) → isB a k 0 (ah a k + 1) (bstA a k m j x y z) := by
  intro m
  induction m with
  | zero => intro j x y z h1 h2 _; obtain rfl : j = ah a k + 1 := by omega
            exact h2
  | succ m ih =>
    intro j x y z h1 h2 h3
    rw [bstA]
    by_cases c : whlA a k j = 0 ∧ (x = -1 ∨ bopA a k j < y ∨ (bopA a k j = y ∧ z < freeA a k j))
    · rw [cIf_pos c]
      refine ih (j + 1) j _ _ (by omega) (Or.inr ⟨j, rfl, Nat.zero_le _, by omega, c.1, fun i _ hi hw => ?_⟩) (fun i hi => by
        obtain rfl : j = i := by omega
        exact ⟨rfl, rfl⟩)
      rcases Nat.lt_or_ge i j with w | w
      · rcases h2 with ⟨_, g2⟩ | ⟨i0, g1, _, g3, g4, g5⟩
        · exact absurd hw (g2 i (Nat.zero_le _) w)
        · obtain ⟨q1, q2⟩ := h3 i0 g1
          have g6 := g5 i (Nat.zero_le _) w hw
          have b1 := whl_bop I hk g4
          have b2 := whl_bop I hk c.1
          have hlt : itsA a k i0 < itsA a k j := by unfold itsA; omega
          exact Or.inl (by omega)
      · obtain rfl : i = j := by omega
        exact Or.inr ⟨rfl, Nat.le_refl _⟩
    · rw [cIf_neg c]
      refine ih (j + 1) x y z (by omega) ?_ h3
      rcases h2 with ⟨g1, g2⟩ | ⟨i0, g1, g2, g3, g4, g5⟩
      · refine Or.inl ⟨g1, fun i hi1 hi2 hw => ?_⟩
        rcases Nat.lt_or_ge i j with w | w
        · exact g2 i hi1 w hw
        · obtain rfl : i = j := by omega
          exact c ⟨hw, Or.inl g1⟩
      · refine Or.inr ⟨i0, g1, g2, by omega, g4, fun i hi1 hi2 hw => ?_⟩
        rcases Nat.lt_or_ge i j with w | w
        · exact g5 i hi1 w hw
        · obtain rfl : i = j := by omega
          obtain ⟨q1, q2⟩ := h3 i0 g1
          have b1 := whl_bop I hk g4
          have b2 := whl_bop I hk hw
          have hn : ¬ (bopA a k i < y ∨ (bopA a k i = y ∧ z < freeA a k i)) := fun q => c ⟨hw, Or.inr q⟩
          have hge : itsA a k i ≤ itsA a k i0 := by unfold itsA; omega
          omega
theorem best_is (I : InvA a) {k : Nat} (hk : k < an a) : isB a k 0 (ah a k + 1) (bestA a k) :=
  bst_is I hk (ah a k + 1) 0 (-1) 0 0 (by omega) (Or.inl ⟨rfl, fun j _ h => by omega⟩) (fun i hi => by omega)
theorem isB_rng {k lo hi : Nat} {x : Int} (h : isB a k lo hi x) (hh : hi ≤ 100) : -1 ≤ x ∧ x ≤ 100 := by
  rcases h with ⟨e, _⟩ | ⟨i, e, _, _, _⟩ <;> omega
theorem sl_best_loop (H : RepL ν ζ a) (I : InvA a) {k : Nat} (hk : k < an a) (P : RepP ψ a k) : ∀ (m fu : Nat) (x y : Int) (n : Nat), m ≤ ah a k + 1 → m < fu → isB a k m (ah a k + 1) x → (∀ i : Nat, x = i → y = itsA a k i) → (0 ≤ y ∧ y ≤ 1000) → n + 2 * (min m (ah a k) * uF ν (iI k)) ≤ cap →
    ∃ r : Int, fL_best_27 cap ν ζ (iI k) ψ fu (iI x) (iI y) (iI ((m : Int) - 1)) n = some (iI r) ∧ isB a k 0 (ah a k + 1) r := by
  have h6 := h60 I hk
  have hs := sz_rng a k
  intro m
  induction m with
  | zero =>
    intro fu x y n h1 h2 h3 h4 h5 h7
    obtain ⟨f, rfl⟩ : ∃ f, fu = f + 1 := ⟨fu - 1, by omega⟩
    exact ⟨x, by rw [fL_best_27, L0, if_pos (ylt (by omega) (by omega) (by omega))], h3⟩
  | succ m ih =>
    intro fu x y n h1 h2 h3 h4 h5 h7
    obtain ⟨f, rfl⟩ : ∃ f, fu = f + 1 := ⟨fu - 1, by omega⟩
    have hx := isB_rng h3 (by omega)
    have em : (((m + 1 : Nat) : Int) - 1) = ((m : Nat) : Int) := by omega
    have em2 : iI ((m : Nat) : Int) + (-1) = iI ((m : Int) - 1) := by rw [Lm1, iI_add]; rfl
    have hmm : min (m + 1) (ah a k) * uF ν (iI k) = min m (ah a k) * uF ν (iI k) + (if m < ah a k then uF ν (iI k) else 0) := by
      by_cases c : m < ah a k
      · rw [if_pos c, show min (m + 1) (ah a k) = m + 1 by omega, show min m (ah a k) = m by omega, Nat.succ_mul]
      · rw [if_neg c, show min (m + 1) (ah a k) = ah a k by omega, show min m (ah a k) = ah a k by omega, Nat.add_zero]
    have hua : uA ν (iI k) (iI m) = (if m < ah a k then uF ν (iI k) else 0) := by
      by_cases c : m < ah a k
      · rw [if_pos c, uA_lt H I hk c]
      · rw [if_neg c, uA_ge H I hk (by omega) (by omega)]
    rw [hmm] at h7
    rw [fL_best_27, em, em2, L0, if_neg (nlt (by omega) (by omega) (by omega)), if_pos (by rw [hua]; omega), sl_against H I hk P (p := m) (by omega) (Nat.le_refl _), Option.bind_some]
    by_cases c0 : whlA a k m = 0
    · have hb := whl_bop I hk c0
      have hml : m < ah a k := by have := pl_le hb.2.2.2.2; omega
      rw [if_pos hml] at hua h7
      have hits : 0 ≤ itsA a k m ∧ itsA a k m ≤ 1000 := by unfold itsA; omega
      have e1 : (200 : Int32) * ((1 : Int32) - iI (bopA a k m)) + iI (freeA a k m) = iI (itsA a k m) := by
        rw [L200, L1, iI_sub, iI_mul, iI_add]; rfl
      rw [if_pos (by rw [c0]), sl_bends H I hk P (by omega), Option.bind_some, cIf_pos hb.2.2.2.2, if_pos (by rw [hua]; omega), sl_free H I hk P (pl_le hb.2.2.2.2) (Nat.le_refl _), Option.bind_some, e1]
      have take : (x = -1 ∨ itsA a k m ≥ y) → ∃ r : Int, fL_best_90 cap ν ζ (iI k) ψ (fL_best_27 cap ν ζ (iI k) ψ f) (iI y) (iI ((m : Nat) : Int)) (iI (itsA a k m)) (iI ((m : Nat) : Int)) (n + uA ν (iI k) (iI m) + uF ν (iI k)) = some (iI r) ∧ isB a k 0 (ah a k + 1) r := by
        intro hh
        unfold fL_best_90
        rw [if_pos rfl, em2]
        refine ih f m (itsA a k m) _ (by omega) (by omega) (Or.inr ⟨m, rfl, Nat.le_refl _, by omega, c0, fun i hi1 hi2 hw => ?_⟩) (fun i hi => by
          obtain rfl : m = i := by omega
          rfl) hits (by rw [hua]; omega)
        rcases Nat.lt_or_ge m i with w | w
        · rcases h3 with ⟨_, g2⟩ | ⟨i0, g1, _, g3, g4, g5⟩
          · exact absurd hw (g2 i w hi2)
          · have g6 := g5 i w hi2 hw
            have g7 := h4 i0 g1
            omega
        · obtain rfl : i = m := by omega
          exact Or.inr ⟨rfl, Nat.le_refl _⟩
      by_cases c1 : x = -1
      · rw [if_pos (ylt (by omega) (by omega) (by omega))]; exact take (Or.inl c1)
      · rw [if_neg (nlt (by omega) (by omega) (by omega))]
        by_cases c2 : itsA a k m < y
        · rw [if_pos (ylt (by omega) (by omega) c2)]
          have hxm : ¬ x = m := by
            rcases h3 with ⟨g1, _⟩ | ⟨i0, g1, g2, _⟩
            · exact absurd g1 c1
            · omega
          unfold fL_best_90
          rw [if_neg (neq (by omega) (by omega) hxm), em2]
          refine ih f x y _ (by omega) (by omega) ?_ h4 h5 (by rw [hua]; omega)
          rcases h3 with ⟨g1, _⟩ | ⟨i0, g1, g2, g3, g4, g5⟩
          · exact absurd g1 c1
          · refine Or.inr ⟨i0, g1, by omega, g3, g4, fun i hi1 hi2 hw => ?_⟩
            rcases Nat.lt_or_ge m i with w | w
            · exact g5 i w hi2 hw
            · obtain rfl : i = m := by omega
              have g7 := h4 i0 g1
              exact Or.inl (by omega)
        · rw [if_neg (nlt (by omega) (by omega) (by omega))]; exact take (Or.inr (by omega))
    · have hwr := whl_rng a k m
      rw [if_neg (neq (by omega) (by omega) c0)]
      refine ih f x y _ (by omega) (by omega) ?_ h4 h5 (by rw [hua]; omega)
      rcases h3 with ⟨g1, g2⟩ | ⟨i0, g1, g2, g3, g4, g5⟩
      · refine Or.inl ⟨g1, fun i hi1 hi2 hw => ?_⟩
        rcases Nat.lt_or_ge m i with w | w
        · exact g2 i w hi2 hw
        · obtain rfl : i = m := by omega
          exact c0 hw
      · refine Or.inr ⟨i0, g1, by omega, g3, g4, fun i hi1 hi2 hw => ?_⟩
        rcases Nat.lt_or_ge m i with w | w
        · exact g5 i w hi2 hw
        · obtain rfl : i = m := by omega
          exact absurd hw c0
theorem uSt_e (H : RepL ν ζ a) (I : InvA a) {k : Nat} (hk : k < an a) : uSt ν (iI k) = ah a k := by
  have h8 := I.1
  have h6 := h60 I hk
  unfold uSt
  rw [tnN (by omega), (H.2.2 k hk).2.2.1, tnN (by omega)]
theorem sl_best (H : RepL ν ζ a) (I : InvA a) {k : Nat} (hk : k < an a) (hc : uB ν (iI k) ≤ cap) : fL_best cap ν ζ (iI k) = some (iI (bestA a k)) := by
  have h6 := h60 I hk
  obtain ⟨ψ, hw, P⟩ := sl_walks H I hk (fun _ => (0 : Int32))
  unfold uB at hc
  rw [uSt_e H I hk] at hc
  obtain ⟨r, e, hr⟩ := sl_best_loop (cap := cap) H I hk P (ah a k + 1) FU (-1) 0 (0 + 1) (Nat.le_refl _) (FU_gt (by omega)) (Or.inl ⟨rfl, fun j _ h => by omega⟩) (fun i hi => by omega) (by omega) (by rw [show min (ah a k + 1) (ah a k) = ah a k by omega]; omega)
  rw [Z0', Zm1, show (((ah a k + 1 : Nat) : Int) - 1) = (ah a k : Int) by omega] at e
  unfold fL_best
  rw [if_pos (by omega), hw, Option.bind_some, if_pos (l_i2 (k8 I hk)).1, l_st H I hk, e, isB_uniq hr (best_is I hk)]
end SB
