/-! the calls that change nothing: both answer alike -/
def RI (x : Option (Except String Int32)) (y : Option (Int32 × Mo)) (μ : Mo) : Prop := (x = some (.error "java/lang/IndexOutOfBoundsException") ∧ ∃ z, y = some (z, M_th' μ (1 : Int32))) ∨ (∃ z, x = some (.ok z) ∧ y = some (z, M_th' μ (0 : Int32)))
def RB (x : Option (Except String Bool)) (y : Option (Bool × Mo)) (μ : Mo) : Prop := (x = some (.error "java/lang/IndexOutOfBoundsException") ∧ ∃ z, y = some (z, M_th' μ (1 : Int32))) ∨ (∃ z, x = some (.ok z) ∧ y = some (z, M_th' μ (0 : Int32)))
def RD (x : Option (Except String UInt64)) (y : Option (UInt64 × Mo)) (μ : Mo) : Prop := (x = some (.error "java/lang/IndexOutOfBoundsException") ∧ ∃ z, y = some (z, M_th' μ (1 : Int32))) ∨ (∃ z, x = some (.ok z) ∧ y = some (z, M_th' μ (0 : Int32)))
theorem xth_ok {α β : Type} {v : α} {k : α → Option (Except String β)} : xthen (some (.ok v)) k = k v := rfl
theorem xth_err {α β : Type} {e : String} {k : α → Option (Except String β)} : xthen (some (.error e)) k = some (.error e) := rfl
theorem nft : ¬ (false = true) := by decide
section RDR
variable {σ : Sh} {μ : Mo} {a : Ab}
theorem rq_line (H : RepS σ a) (I : InvA a) {z : Int} (hz : -2147483648 ≤ z ∧ z < 2147483648) : (0 ≤ z ∧ z < an a → fX6_requireLine σ (iI z) = some (.ok ())) ∧ (¬ (0 ≤ z ∧ z < an a) → fX6_requireLine σ (iI z) = some (.error "java/lang/IndexOutOfBoundsException")) := by
  obtain ⟨b, hb, ib⟩ := sp_hasLine H I hz
  unfold fX6_requireLine
  rw [hb, Option.bind_some]
  exact ⟨fun h => by rw [if_pos (ib.mpr h)], fun h => by rw [if_neg (fun w => h (ib.mp w))]⟩
theorem rq_num (H : RepS σ a) (I : InvA a) {z w : Int} (hz : -2147483648 ≤ z ∧ z < 2147483648) (hw : -2147483648 ≤ w ∧ w < 2147483648) : ((0 ≤ z ∧ z < an a) ∧ 0 ≤ w ∧ w ≤ ah a z.toNat → fX6_requireNumber σ (iI z) (iI w) = some (.ok ())) ∧ (¬ ((0 ≤ z ∧ z < an a) ∧ 0 ≤ w ∧ w ≤ ah a z.toNat) → fX6_requireNumber σ (iI z) (iI w) = some (.error "java/lang/IndexOutOfBoundsException")) := by
  obtain ⟨b, hb, ib⟩ := sp_hasNumber H I hz hw
  unfold fX6_requireNumber
  rw [hb, Option.bind_some]
  exact ⟨fun h => by rw [if_pos (ib.mpr h)], fun h => by rw [if_neg (fun w => h (ib.mp w))]⟩
theorem rq_pt {z : Int} (hz : -2147483648 ≤ z ∧ z < 2147483648) : (0 ≤ z ∧ z ≤ 383 → fX6_requirePoint (iI z) = some (.ok ())) ∧ (¬ (0 ≤ z ∧ z ≤ 383) → fX6_requirePoint (iI z) = some (.error "java/lang/IndexOutOfBoundsException")) := by
  obtain ⟨b, hb, ib⟩ := sp_isOnMap hz
  unfold fX6_requirePoint
  rw [hb, Option.bind_some]
  exact ⟨fun h => by rw [if_pos (ib.mpr h)], fun h => by rw [if_neg (fun w => h (ib.mp w))]⟩
theorem rq_dir {z : Int} (hz : -2147483648 ≤ z ∧ z < 2147483648) : (0 ≤ z ∧ z ≤ 7 → fX6_requireDirection (iI z) = some (.ok ())) ∧ (¬ (0 ≤ z ∧ z ≤ 7) → fX6_requireDirection (iI z) = some (.error "java/lang/IllegalArgumentException")) := by
  obtain ⟨b, hb, ib⟩ := sp_isDirection hz
  unfold fX6_requireDirection
  rw [hb, Option.bind_some]
  exact ⟨fun h => by rw [if_pos (ib.mpr h)], fun h => by rw [if_neg (fun w => h (ib.mp w))]⟩
theorem sm_inB {x y z : Int} (hx : -2147483648 ≤ x ∧ x < 2147483648) (hy : -2147483648 ≤ y ∧ y < 2147483648) (hz : -2147483648 ≤ z ∧ z < 2147483648) : (y ≤ x ∧ x ≤ z → fX7_in (iI x) (iI y) (iI z) = some true) ∧ (¬ (y ≤ x ∧ x ≤ z) → fX7_in (iI x) (iI y) (iI z) = some false) := by
  obtain ⟨b, hb, ib⟩ := sm_in hx hy hz
  rw [hb]
  exact ⟨fun h => by rw [ib.mpr h], fun h => by
    cases b
    · rfl
    · exact absurd (ib.mp rfl) h⟩
theorem sm_isLine (M : RepM (M_row μ) a) (I : InvA a) {z : Int} (hz : -2147483648 ≤ z ∧ z < 2147483648) : (0 ≤ z ∧ z < an a → fX7_isLine μ (iI z) = some true) ∧ (¬ (0 ≤ z ∧ z < an a) → fX7_isLine μ (iI z) = some false) := by
  have h8 := I.1
  have i := sm_inB (x := z) (y := 0) (z := (an a : Int) - 1) hz (by omega) (by omega)
  unfold fX7_isLine
  rw [sm_n M, L0, L1, iI_sub]
  exact ⟨fun h => by rw [i.1 (by omega), Option.bind_some], fun h => by rw [i.2 (by omega), Option.bind_some]⟩
theorem sm_isPoint {z : Int} (hz : -2147483648 ≤ z ∧ z < 2147483648) : (0 ≤ z ∧ z ≤ 383 → fX7_isPoint (iI z) = some true) ∧ (¬ (0 ≤ z ∧ z ≤ 383) → fX7_isPoint (iI z) = some false) := by
  have i := sm_inB (x := z) (y := 0) (z := 383) hz (by omega) (by omega)
  unfold fX7_isPoint
  rw [L0, L383]
  exact ⟨fun h => by rw [i.1 h, Option.bind_some], fun h => by rw [i.2 h, Option.bind_some]⟩
theorem sm_knows (M : RepM (M_row μ) a) (I : InvA a) {z : Int} (hz : -2147483648 ≤ z ∧ z < 2147483648) : (0 ≤ z ∧ z < an a → fX7_knows μ (iI z) = some (true, M_th' μ (0 : Int32))) ∧ (¬ (0 ≤ z ∧ z < an a) → fX7_knows μ (iI z) = some (false, M_th' μ (1 : Int32))) := by
  have i := sm_isLine M I hz
  unfold fX7_knows
  exact ⟨fun h => by rw [i.1 h, Option.bind_some, if_pos (rfl : true = true), if_pos (by decide)], fun h => by rw [i.2 h, Option.bind_some, if_neg nft, if_neg (by decide)]⟩
theorem sm_has (M : RepM (M_row μ) a) (I : InvA a) {z w : Int} (hz : -2147483648 ≤ z ∧ z < 2147483648) (hw : -2147483648 ≤ w ∧ w < 2147483648) : ((0 ≤ z ∧ z < an a) ∧ 0 ≤ w ∧ w ≤ ah a z.toNat → fX7_has μ (iI z) (iI w) = some (true, M_th' μ (0 : Int32))) ∧ (¬ ((0 ≤ z ∧ z < an a) ∧ 0 ≤ w ∧ w ≤ ah a z.toNat) → fX7_has μ (iI z) (iI w) = some (false, M_th' μ (1 : Int32))) := by
  have i := sm_isLine M I hz
  unfold fX7_has
  by_cases h : 0 ≤ z ∧ z < an a
  · obtain ⟨k, rfl⟩ : ∃ k : Nat, z = k := ⟨z.toNat, by omega⟩
    have hk : k < an a := by omega
    have h60 := (I.2.2.2.1 k hk).2.1
    have j := sm_inB (x := w) (y := 0) (z := (ah a k : Int)) hw (by omega) (by omega)
    rw [i.1 h, Option.bind_some, if_pos (rfl : true = true), sm_steps M I hk, Option.bind_some, L0, Int.toNat_natCast]
    exact ⟨fun q => by rw [j.1 q.2, Option.bind_some, if_pos (rfl : true = true), if_pos (by decide)], fun q => by rw [j.2 (fun w => q ⟨h, w⟩), Option.bind_some, if_neg nft, if_neg (by decide)]⟩
  · rw [i.2 h, Option.bind_some, if_neg nft, if_neg (by decide)]
    exact ⟨fun q => absurd q.1 h, fun _ => rfl⟩
theorem sm_look_out (M : RepM (M_row μ) a) (I : InvA a) {z : Int} (hz : -2147483648 ≤ z ∧ z < 2147483648) (h : ¬ (0 ≤ z ∧ z < an a)) (w : Int32) : fX7_look μ (iI z) w = some ((0 : Int32), M_th' μ (1 : Int32)) := by
  unfold fX7_look
  rw [(sm_isLine (μ := M_th' μ (0 : Int32)) M I hz).2 h, Option.bind_some, if_neg nft]
  rfl
theorem sm_look_in (M : RepM (M_row μ) a) (I : InvA a) {k : Nat} (hk : k < an a) {w v : Int32} (h : fX7_of (M_th' μ (0 : Int32)) (iI (k : Int)) w = some v) : fX7_look μ (iI (k : Int)) w = some (v, M_th' μ (0 : Int32)) := by
  have h8 := I.1
  unfold fX7_look
  rw [(sm_isLine (μ := M_th' μ (0 : Int32)) M I (z := k) (by omega)).1 (by omega), Option.bind_some, if_pos (rfl : true = true), h, Option.bind_some]
theorem natz {z : Int} {n : Nat} (h : 0 ≤ z ∧ z < n) : ∃ k : Nat, z = k ∧ k < n := ⟨z.toNat, by omega, by omega⟩
theorem rd_levelOf (H : RepS σ a) (M : RepM (M_row μ) a) (I : InvA a) {z : Int} (hz : -2147483648 ≤ z ∧ z < 2147483648) : RI (fX6_levelOf σ (iI z)) (fX7_levelOf μ (iI z)) μ := by
  unfold fX6_levelOf fX7_levelOf
  by_cases h : 0 ≤ z ∧ z < an a
  · obtain ⟨k, rfl, hk⟩ := natz h
    right
    exact ⟨iI (al a k), by rw [(rq_line H I hz).1 h, xth_ok, sp_levelIn H I hk, Option.bind_some], by rw [sm_look_in M I hk (sm_lev (μ := M_th' μ (0 : Int32)) M I hk), Option.bind_some]⟩
  · left
    exact ⟨by rw [(rq_line H I hz).2 h, xth_err], _, by rw [sm_look_out M I hz h, Option.bind_some]⟩
theorem rd_stepsOf (H : RepS σ a) (M : RepM (M_row μ) a) (I : InvA a) {z : Int} (hz : -2147483648 ≤ z ∧ z < 2147483648) : RI (fX6_stepsOf σ (iI z)) (fX7_stepsOf μ (iI z)) μ := by
  unfold fX6_stepsOf fX7_stepsOf
  by_cases h : 0 ≤ z ∧ z < an a
  · obtain ⟨k, rfl, hk⟩ := natz h
    right
    exact ⟨iI (ah a k), by rw [(rq_line H I hz).1 h, xth_ok, sp_stepCount H I hk, Option.bind_some], by rw [sm_look_in M I hk (sm_steps (μ := M_th' μ (0 : Int32)) M I hk), Option.bind_some]⟩
  · left
    exact ⟨by rw [(rq_line H I hz).2 h, xth_err], _, by rw [sm_look_out M I hz h, Option.bind_some]⟩
theorem rd_labelOf (H : RepS σ a) (M : RepM (M_row μ) a) (I : InvA a) {z : Int} (hz : -2147483648 ≤ z ∧ z < 2147483648) : RI (fX6_labelOf σ (iI z)) (fX7_labelOf μ (iI z)) μ := by
  unfold fX6_labelOf fX7_labelOf
  by_cases h : 0 ≤ z ∧ z < an a
  · obtain ⟨k, rfl, hk⟩ := natz h
    right
    exact ⟨iI (ab a k), by rw [(rq_line H I hz).1 h, xth_ok, sp_labelIn H I hk, Option.bind_some], by rw [sm_look_in M I hk (sm_lab (μ := M_th' μ (0 : Int32)) M I hk), Option.bind_some]⟩
  · left
    exact ⟨by rw [(rq_line H I hz).2 h, xth_err], _, by rw [sm_look_out M I hz h, Option.bind_some]⟩
theorem rd_pointOf (H : RepS σ a) (M : RepM (M_row μ) a) (I : InvA a) {z w : Int} (hz : -2147483648 ≤ z ∧ z < 2147483648) (hw : -2147483648 ≤ w ∧ w < 2147483648) : RI (fX6_pointOf σ (iI z) (iI w)) (fX7_pointOf μ (iI z) (iI w)) μ := by
  unfold fX6_pointOf fX7_pointOf
  by_cases h : (0 ≤ z ∧ z < an a) ∧ 0 ≤ w ∧ w ≤ ah a z.toNat
  · have h' := h
    obtain ⟨⟨k, rfl, hk⟩, h2⟩ := And.intro (natz h.1) h.2
    rw [Int.toNat_natCast] at h2
    obtain ⟨j, rfl⟩ : ∃ j : Nat, w = j := ⟨w.toNat, by omega⟩
    right
    exact ⟨iI (ap a k j), by rw [(rq_num H I hz hw).1 h', xth_ok, sp_pointAt H I hk (by omega), Option.bind_some], by rw [(sm_has M I hz hw).1 h', Option.bind_some, if_pos (rfl : true = true), sm_at (μ := M_th' μ (0 : Int32)) M I hk (by omega), Option.bind_some]⟩
  · left
    exact ⟨by rw [(rq_num H I hz hw).2 h, xth_err], _, by rw [(sm_has M I hz hw).2 h, Option.bind_some, if_neg nft]⟩
theorem rd_bendAt (H : RepS σ a) (M : RepM (M_row μ) a) (I : InvA a) {z w : Int} (hz : -2147483648 ≤ z ∧ z < 2147483648) (hw : -2147483648 ≤ w ∧ w < 2147483648) : RI (fX6_bendAt σ (iI z) (iI w)) (fX7_bendAt μ (iI z) (iI w)) μ := by
  unfold fX6_bendAt fX7_bendAt
  by_cases h : (0 ≤ z ∧ z < an a) ∧ 0 ≤ w ∧ w ≤ ah a z.toNat
  · have h' := h
    obtain ⟨⟨k, rfl, hk⟩, h2⟩ := And.intro (natz h.1) h.2
    rw [Int.toNat_natCast] at h2
    obtain ⟨j, rfl⟩ : ∃ j : Nat, w = j := ⟨w.toNat, by omega⟩
    right
    exact ⟨iI (bndA a k j), by rw [(rq_num H I hz hw).1 h', xth_ok, sp_bendThere H I hk (by omega), Option.bind_some], by rw [(sm_has M I hz hw).1 h', Option.bind_some, if_pos (rfl : true = true), sm_bend (μ := M_th' μ (0 : Int32)) M I hk (by omega), Option.bind_some]⟩
  · left
    exact ⟨by rw [(rq_num H I hz hw).2 h, xth_err], _, by rw [(sm_has M I hz hw).2 h, Option.bind_some, if_neg nft]⟩
theorem rd_whyNotLabelled (H : RepS σ a) (M : RepM (M_row μ) a) (I : InvA a) {z w : Int} (hz : -2147483648 ≤ z ∧ z < 2147483648) (hw : -2147483648 ≤ w ∧ w < 2147483648) : RI (fX6_whyNotLabelled σ (iI z) (iI w)) (fX7_whyNotLabelled μ (iI z) (iI w)) μ := by
  unfold fX6_whyNotLabelled fX7_whyNotLabelled
  by_cases h : (0 ≤ z ∧ z < an a) ∧ 0 ≤ w ∧ w ≤ ah a z.toNat
  · have h' := h
    obtain ⟨⟨k, rfl, hk⟩, h2⟩ := And.intro (natz h.1) h.2
    rw [Int.toNat_natCast] at h2
    obtain ⟨j, rfl⟩ : ∃ j : Nat, w = j := ⟨w.toNat, by omega⟩
    right
    exact ⟨iI (whlA a k j), by rw [(rq_num H I hz hw).1 h', xth_ok, sp_reason H I hk (by omega), Option.bind_some], by rw [(sm_has M I hz hw).1 h', Option.bind_some, if_pos (rfl : true = true), sm_whl (μ := M_th' μ (0 : Int32)) M I hk (by omega), Option.bind_some]⟩
  · left
    exact ⟨by rw [(rq_num H I hz hw).2 h, xth_err], _, by rw [(sm_has M I hz hw).2 h, Option.bind_some, if_neg nft]⟩
theorem rd_bendOf (H : RepS σ a) (M : RepM (M_row μ) a) (I : InvA a) {z w : Int} (hz : -2147483648 ≤ z ∧ z < 2147483648) (hw : -2147483648 ≤ w ∧ w < 2147483648) : RI (fX6_bendOf σ (iI z) (iI w)) (fX7_bendOf μ (iI z) (iI w)) μ := by
  unfold fX6_bendOf fX7_bendOf
  by_cases h : (0 ≤ z ∧ z < an a) ∧ 0 ≤ w ∧ w ≤ ah a z.toNat
  · have h' := h
    obtain ⟨⟨k, rfl, hk⟩, h2⟩ := And.intro (natz h.1) h.2
    rw [Int.toNat_natCast] at h2
    obtain ⟨j, rfl⟩ : ∃ j : Nat, w = j := ⟨w.toNat, by omega⟩
    obtain ⟨b, hb, ib⟩ := sm_isPlace (μ := M_th' μ (0 : Int32)) M I hk (p := j) (by omega)
    right
    refine ⟨iI (cIf (plA a k j) (bopA a k j) (-1)), by rw [(rq_num H I hz hw).1 h', xth_ok, sp_bendOfPlace H I hk (by omega), Option.bind_some], ?_⟩
    rw [(sm_has M I hz hw).1 h', Option.bind_some, if_pos (rfl : true = true), hb, Option.bind_some]
    by_cases q : plA a k j
    · rw [if_pos (ib.mpr q), sm_bends (μ := M_th' μ (0 : Int32)) M I hk (by omega), Option.bind_some, cIf_pos q]
    · rw [if_neg (fun w => q (ib.mp w)), cIf_neg q, Zm1]
  · left
    exact ⟨by rw [(rq_num H I hz hw).2 h, xth_err], _, by rw [(sm_has M I hz hw).2 h, Option.bind_some, if_neg nft]⟩
theorem rd_lineAt (H : RepS σ a) (M : RepM (M_row μ) a) (I : InvA a) {z : Int} (hz : -2147483648 ≤ z ∧ z < 2147483648) : RI (fX6_lineAt σ (iI z)) (fX7_lineAt μ (iI z)) μ := by
  unfold fX6_lineAt fX7_lineAt
  by_cases h : 0 ≤ z ∧ z ≤ 383
  · right
    by_cases q : ∃ i, i < an a ∧ onL a i z
    · obtain ⟨i, hi, ho⟩ := q
      exact ⟨iI i, by rw [(rq_pt hz).1 h, xth_ok, sp_lineOn_some H I (by omega) hi ho, Option.bind_some], by rw [(sm_isPoint hz).1 h, Option.bind_some, if_pos (rfl : true = true), sm_owner_some (μ := M_th' μ (0 : Int32)) M I (by omega) hi ho, Option.bind_some]⟩
    · have q' : ∀ i, i < an a → ¬ onL a i z := fun i hi ho => q ⟨i, hi, ho⟩
      exact ⟨iI (-1), by rw [(rq_pt hz).1 h, xth_ok, sp_lineOn_none H I (by omega) q', Option.bind_some], by rw [(sm_isPoint hz).1 h, Option.bind_some, if_pos (rfl : true = true), sm_owner_none (μ := M_th' μ (0 : Int32)) M I (by omega) q', Option.bind_some]⟩
  · left
    exact ⟨by rw [(rq_pt hz).2 h, xth_err], _, by rw [(sm_isPoint hz).2 h, Option.bind_some, if_neg nft]; rfl⟩
theorem rd_sizeOf (H : RepS σ a) (M : RepM (M_row μ) a) (I : InvA a) {z : Int} (hz : -2147483648 ≤ z ∧ z < 2147483648) : RI (fX6_sizeOf σ (iI z)) (fX7_sizeOf μ (iI z)) μ := by
  unfold fX6_sizeOf fX7_sizeOf
  by_cases h : 0 ≤ z ∧ z < an a
  · obtain ⟨k, rfl, hk⟩ := natz h
    right
    exact ⟨iI (szA a k), by rw [(rq_line H I hz).1 h, xth_ok, sp_sizeIn H I hk, Option.bind_some], by rw [(sm_knows M I hz).1 h, Option.bind_some, if_pos (rfl : true = true), sm_size (μ := M_th' μ (0 : Int32)) M I hk, Option.bind_some]⟩
  · left
    exact ⟨by rw [(rq_line H I hz).2 h, xth_err], _, by rw [(sm_knows M I hz).2 h, Option.bind_some, if_neg nft]⟩
theorem rd_bestPlace (H : RepS σ a) (M : RepM (M_row μ) a) (I : InvA a) {z : Int} (hz : -2147483648 ≤ z ∧ z < 2147483648) : RI (fX6_bestPlace σ (iI z)) (fX7_bestPlace μ (iI z)) μ := by
  unfold fX6_bestPlace fX7_bestPlace
  by_cases h : 0 ≤ z ∧ z < an a
  · obtain ⟨k, rfl, hk⟩ := natz h
    right
    exact ⟨iI (bestA a k), by rw [(rq_line H I hz).1 h, xth_ok, sp_best H I hk, Option.bind_some], by rw [(sm_knows M I hz).1 h, Option.bind_some, if_pos (rfl : true = true), sm_best (μ := M_th' μ (0 : Int32)) M I hk, Option.bind_some]⟩
  · left
    exact ⟨by rw [(rq_line H I hz).2 h, xth_err], _, by rw [(sm_knows M I hz).2 h, Option.bind_some, if_neg nft]⟩
theorem rd_lineRound (H : RepS σ a) (M : RepM (M_row μ) a) (I : InvA a) {z : Int} (hz : -2147483648 ≤ z ∧ z < 2147483648) : RI (fX6_lineRound σ (iI z)) (fX7_lineRound μ (iI z)) μ := by
  unfold fX6_lineRound fX7_lineRound
  by_cases h : 0 ≤ z ∧ z < an a
  · obtain ⟨k, rfl, hk⟩ := natz h
    right
    exact ⟨iI (rndA a k), by rw [(rq_line H I hz).1 h, xth_ok, sp_round H I hk, Option.bind_some], by rw [(sm_knows M I hz).1 h, Option.bind_some, if_pos (rfl : true = true), sm_round (μ := M_th' μ (0 : Int32)) M I hk, Option.bind_some]⟩
  · left
    exact ⟨by rw [(rq_line H I hz).2 h, xth_err], _, by rw [(sm_knows M I hz).2 h, Option.bind_some, if_neg nft]⟩
theorem rd_placesOf (H : RepS σ a) (M : RepM (M_row μ) a) (I : InvA a) {z : Int} (hz : -2147483648 ≤ z ∧ z < 2147483648) : RI (fX6_placesOf σ (iI z)) (fX7_placesOf μ (iI z)) μ := by
  unfold fX6_placesOf fX7_placesOf
  by_cases h : 0 ≤ z ∧ z < an a
  · obtain ⟨k, rfl, hk⟩ := natz h
    have h60 := (I.2.2.2.1 k hk).2.1
    have e := sm_cnt_loop (μ := M_th' μ (0 : Int32)) M I hk (ah a k + 1) 0 FU 0 (by omega) (FU_gt (by omega))
    rw [Z0, Z0'] at e
    right
    exact ⟨iI (cntA a k (ah a k + 1) 0 0), by rw [(rq_line H I hz).1 h, xth_ok, sp_countPlaces H I hk, Option.bind_some], by rw [(sm_knows M I hz).1 h, Option.bind_some]; exact e⟩
  · left
    exact ⟨by rw [(rq_line H I hz).2 h, xth_err], _, by rw [(sm_knows M I hz).2 h, Option.bind_some]; exact sm_places_no _ FU (by decide)⟩
theorem rd_pointsWithin (H : RepS σ a) (M : RepM (M_row μ) a) (I : InvA a) {z : Int} (hz : -2147483648 ≤ z ∧ z < 2147483648) : RI (fX6_pointsWithin σ (iI z)) (fX7_pointsWithin μ (iI z)) μ := by
  unfold fX6_pointsWithin fX7_pointsWithin
  by_cases h : 0 ≤ z ∧ z < an a
  · obtain ⟨k, rfl, hk⟩ := natz h
    have e := sm_within_loop (μ := M_th' μ (0 : Int32)) M I hk 384 0 FU 0 (by omega) (FU_gt (by omega))
    have e' := sp_within_loop H I hk 384 0 FU 0 (by omega) (FU_gt (by omega))
    rw [Z0, Z0'] at e e'
    right
    exact ⟨iI (0 + smI (iwA a k) 384 0), by rw [(rq_line H I hz).1 h, xth_ok]; exact e', by rw [(sm_knows M I hz).1 h, Option.bind_some]; exact e⟩
  · left
    exact ⟨by rw [(rq_line H I hz).2 h, xth_err], _, by rw [(sm_knows M I hz).2 h, Option.bind_some]; exact sm_within_no _ FU (by decide)⟩
theorem rd_lineByLevel (H : RepS σ a) (M : RepM (M_row μ) a) (I : InvA a) {z : Int} (hz : -2147483648 ≤ z ∧ z < 2147483648) : RI (fX6_lineByLevel σ (iI z)) (fX7_lineByLevel μ (iI z)) μ := by
  have h8 := I.1
  have i := sm_inB (x := z) (y := 0) (z := (an a : Int) - 1) hz (by omega) (by omega)
  obtain ⟨b, hb, ib⟩ := sp_hasLine H I hz
  unfold fX6_lineByLevel fX7_lineByLevel
  rw [hb, Option.bind_some, sm_n M, L0, L1, iI_sub]
  by_cases h : 0 ≤ z ∧ z < an a
  · obtain ⟨k, rfl, hk⟩ := natz h
    obtain ⟨j, hj, hr⟩ := rank_sur (a := a) hk
    have e1 := sp_lineOfRank H I hj
    have e2 := sm_byLevel (μ := M_th' μ (0 : Int32)) M I hj
    rw [hr] at e1 e2
    right
    refine ⟨iI j, by rw [if_pos (ib.mpr h), e1, Option.bind_some], ?_⟩
    rw [i.1 (by omega), Option.bind_some, if_pos (rfl : true = true)]
    have e2' : fX7_byLevel (M_th' μ (iI 0)) (iI (k : Int)) = some (iI (j : Int)) := e2
    rw [e2', Option.bind_some]
    rfl
  · left
    exact ⟨by rw [if_neg (fun w => h (ib.mp w))], _, by rw [i.2 (by omega), Option.bind_some, if_neg nft]; rfl⟩
theorem rd_readFrom (H : RepS σ a) (M : RepM (M_row μ) a) (I : InvA a) {z : Int} (hz : -2147483648 ≤ z ∧ z < 2147483648) : RI (fX6_readFrom σ (iI z)) (fX7_readFrom μ (iI z)) μ := by
  unfold fX6_readFrom fX7_readFrom
  by_cases h : 0 ≤ z ∧ z < an a
  · obtain ⟨k, rfl, hk⟩ := natz h
    have hs := sz_rng a k
    have hr := lab_rng I hk
    rw [(rq_line H I hz).1 h, xth_ok, sp_labelIn H I hk, Option.bind_some, (sm_knows M I hz).1 h, Option.bind_some, if_pos (rfl : true = true), sm_lab (μ := M_th' μ (0 : Int32)) M I hk, Option.bind_some]
    right
    by_cases q : ab a k = -1
    · exact ⟨(-1 : Int32), by rw [if_pos (by rw [q]; rfl)], by rw [if_pos (by rw [q]; rfl)]⟩
    · have hl := lab_pl I hk q
      obtain ⟨b, hb, ib⟩ := sp_goesLeft H I hk (p := (ab a k).toNat) hl.2.1
      obtain ⟨c, hc, ic⟩ := sm_isLeft (μ := M_th' μ (0 : Int32)) M I hk
      have e1 := sp_lastNumber H I hk (ab a k)
      have e2 := sp_pointAt H I hk (j := (ab a k).toNat + szA a k - 1) (by omega)
      have e3 := sp_pointAt H I hk (j := (ab a k).toNat) (by omega)
      have e4 := sm_labelEnd (μ := M_th' μ (0 : Int32)) M I hk q
      have e5 := sm_at (μ := M_th' μ (0 : Int32)) M I hk (j := (ab a k).toNat) (by omega)
      have e6 : (((ab a k).toNat + szA a k - 1 : Nat) : Int) = ab a k + szA a k - 1 := by omega
      rw [hl.2.2.2] at hb e3 e5
      rw [e6] at e2
      rw [if_neg (by rw [Lm1]; exact neq (by omega) (by omega) q), hb, Option.bind_some, if_neg (show ¬ iI (ab a k) = (-1 : Int32) from by rw [Lm1]; exact neq (by omega) (by omega) q), hc, Option.bind_some]
      by_cases w : lefA a k (ab a k).toNat
      · refine ⟨iI (ap a k ((ab a k).toNat + szA a k - 1)), ?_, ?_⟩
        · rw [if_pos (ib.mpr w), e1, Option.bind_some, e2, Option.bind_some]
        · rw [if_pos (ic.mpr ⟨q, w⟩), e4, Option.bind_some]
      · refine ⟨iI (ap a k (ab a k).toNat), ?_, ?_⟩
        · rw [if_neg (fun v => w (ib.mp v)), e3, Option.bind_some]
        · rw [if_neg (fun v => w (ic.mp v).2), Option.bind_some, e5, Option.bind_some]
  · left
    exact ⟨by rw [(rq_line H I hz).2 h, xth_err], _, by rw [(sm_knows M I hz).2 h, Option.bind_some, if_neg nft]⟩
theorem bool_eq {b c : Bool} {P : Prop} (h1 : b = true ↔ P) (h2 : c = true ↔ P) : b = c := by
  cases b <;> cases c
  · rfl
  · exact absurd (h1.mpr (h2.mp rfl)) nft
  · exact absurd (h2.mpr (h1.mp rfl)) nft
  · rfl
theorem rd_isClosed (H : RepS σ a) (M : RepM (M_row μ) a) (I : InvA a) {z : Int} (hz : -2147483648 ≤ z ∧ z < 2147483648) : RB (fX6_isClosed σ (iI z)) (fX7_isClosed μ (iI z)) μ := by
  unfold fX6_isClosed fX7_isClosed
  by_cases h : 0 ≤ z ∧ z < an a
  · obtain ⟨k, rfl, hk⟩ := natz h
    obtain ⟨b, hb, ib⟩ := sp_isRing H I hk
    obtain ⟨c, hc, ic⟩ := sm_closes (μ := M_th' μ (0 : Int32)) M I hk
    have e := bool_eq ib ic
    subst e
    right
    refine ⟨b, by rw [(rq_line H I hz).1 h, xth_ok, hb, Option.bind_some], ?_⟩
    rw [(sm_knows M I hz).1 h, Option.bind_some, if_pos (rfl : true = true), hc, Option.bind_some]
    cases b
    · rw [if_neg nft]
    · rw [if_pos (rfl : true = true)]
  · left
    exact ⟨by rw [(rq_line H I hz).2 h, xth_err], _, by rw [(sm_knows M I hz).2 h, Option.bind_some, if_neg nft]⟩
theorem rd_isTurned (H : RepS σ a) (M : RepM (M_row μ) a) (I : InvA a) {z : Int} (hz : -2147483648 ≤ z ∧ z < 2147483648) : RB (fX6_isTurned σ (iI z)) (fX7_isTurned μ (iI z)) μ := by
  unfold fX6_isTurned fX7_isTurned
  by_cases h : 0 ≤ z ∧ z < an a
  · obtain ⟨k, rfl, hk⟩ := natz h
    have hr := lab_rng I hk
    obtain ⟨c, hc, ic⟩ := sm_isLeft (μ := M_th' μ (0 : Int32)) M I hk
    right
    refine ⟨c, ?_, ?_⟩
    · rw [(rq_line H I hz).1 h, xth_ok, sp_labelIn H I hk, Option.bind_some]
      by_cases q : ab a k = -1
      · rw [if_pos (by rw [q]; rfl)]
        cases c
        · rfl
        · exact absurd q (ic.mp rfl).1
      · have hl := lab_pl I hk q
        obtain ⟨b, hb, ib⟩ := sp_goesLeft H I hk (p := (ab a k).toNat) hl.2.1
        rw [hl.2.2.2] at hb
        rw [if_neg (by rw [Lm1]; exact neq (by omega) (by omega) q), hb, Option.bind_some]
        have e : b = c := bool_eq ib (ic.trans ⟨fun w => w.2, fun w => ⟨q, w⟩⟩)
        subst e
        cases b
        · rw [if_neg nft]
        · rw [if_pos (rfl : true = true)]
    · rw [(sm_knows M I hz).1 h, Option.bind_some, if_pos (rfl : true = true), hc, Option.bind_some]
      cases c
      · rw [if_neg nft]
      · rw [if_pos (rfl : true = true)]
  · left
    exact ⟨by rw [(rq_line H I hz).2 h, xth_err], _, by rw [(sm_knows M I hz).2 h, Option.bind_some, if_neg nft]⟩
theorem rd_isSteady (H : RepS σ a) (M : RepM (M_row μ) a) (I : InvA a) {z : Int} (hz : -2147483648 ≤ z ∧ z < 2147483648) : RB (fX6_isSteady σ (iI z)) (fX7_isSteady μ (iI z)) μ := by
  unfold fX6_isSteady fX7_isSteady
  by_cases h : 0 ≤ z ∧ z < an a
  · obtain ⟨k, rfl, hk⟩ := natz h
    have h8 := I.1
    have hr := rnd_rng a k
    have l1 := (I.2.2.2.1 k hk).1
    right
    rw [(rq_line H I hz).1 h, xth_ok, sp_round H I hk, Option.bind_some, (sm_knows M I hz).1 h, Option.bind_some, if_pos (rfl : true = true), sm_round (μ := M_th' μ (0 : Int32)) M I hk, Option.bind_some]
    by_cases q : rndA a k = -1
    · exact ⟨true, by rw [if_pos (by rw [q]; rfl)], by rw [if_pos (by rw [q]; rfl)]⟩
    · generalize rndA a k = w at hr q ⊢
      obtain ⟨j, rfl⟩ : ∃ j : Nat, w = j := ⟨w.toNat, by omega⟩
      have hj : j < an a := by omega
      have l2 := (I.2.2.2.1 j hj).1
      rw [if_neg (by rw [Lm1]; exact neq (by omega) (by omega) q), sp_levelIn H I hk, Option.bind_some, sp_levelIn H I hj, Option.bind_some, iI_sub, iabs_iI (by omega), L5, if_neg (show ¬ iI (j : Int) = (-1 : Int32) from by rw [Lm1]; exact neq (by omega) (by omega) q), sm_lev (μ := M_th' μ (0 : Int32)) M I hk, Option.bind_some, sm_lev (μ := M_th' μ (0 : Int32)) M I hj, Option.bind_some, sm_apart (by omega) (by omega), Option.bind_some]
      have e : (((al a j : Int) - al a k).natAbs : Int) = (((al a k : Int) - al a j).natAbs : Int) := by omega
      rw [e]
      by_cases w : iI ((((al a k : Int) - al a j).natAbs : Nat) : Int) = iI 5
      · exact ⟨true, by rw [if_pos w], by rw [if_pos w]⟩
      · exact ⟨false, by rw [if_neg w], by rw [if_neg w]⟩
  · left
    exact ⟨by rw [(rq_line H I hz).2 h, xth_err], _, by rw [(sm_knows M I hz).2 h, Option.bind_some, if_neg nft]⟩
theorem sm_rays (M : RepM (M_row μ) a) (I : InvA a) {z w : Int} (hz : -2147483648 ≤ z ∧ z < 2147483648) (hw : -2147483648 ≤ w ∧ w < 2147483648) :
    (∀ k p : Nat, z = k → k < an a → w = p → p < 384 → ∃ b, fX7_isWithinByRays μ (iI z) (iI w) = some (b, M_th' μ (0 : Int32)) ∧ (b = true ↔ insA a k p)) ∧
    (¬ (0 ≤ z ∧ z < an a) ∨ ¬ (0 ≤ w ∧ w ≤ 383) → fX7_isWithinByRays μ (iI z) (iI w) = some (false, M_th' μ (1 : Int32))) := by
  constructor
  · rintro k p rfl hk rfl hp
    obtain ⟨b, hb, ib⟩ := sm_contains (μ := M_th' μ (0 : Int32)) M I hk hp
    refine ⟨b, ?_, ib⟩
    have hb' : fX7_contains (M_th' μ (b2i false)) (iI (k : Int)) (iI (p : Int)) = some b := hb
    unfold fX7_isWithinByRays
    rw [(sm_isLine M I hz).1 (by omega), Option.bind_some, if_pos (rfl : true = true), (sm_isPoint hw).1 (by omega), Option.bind_some, if_pos (rfl : true = true)]
    unfold fX7_isWithinByRays_21
    rw [if_pos (by decide), hb', Option.bind_some]
    cases b
    · rw [if_neg nft]; rfl
    · rw [if_pos (rfl : true = true)]; rfl
  · intro h
    unfold fX7_isWithinByRays
    by_cases h1 : 0 ≤ z ∧ z < an a
    · rw [(sm_isLine M I hz).1 h1, Option.bind_some, if_pos (rfl : true = true), (sm_isPoint hw).2 (h.resolve_left (fun w => w h1)), Option.bind_some, if_neg nft]
      unfold fX7_isWithinByRays_21
      rw [if_neg (by decide)]; rfl
    · rw [(sm_isLine M I hz).2 h1, Option.bind_some, if_neg nft]
      unfold fX7_isWithinByRays_21
      rw [if_neg (by decide)]; rfl
theorem rd_rays (H : RepS σ a) (M : RepM (M_row μ) a) (I : InvA a) {z w : Int} (hz : -2147483648 ≤ z ∧ z < 2147483648) (hw : -2147483648 ≤ w ∧ w < 2147483648) : RB (fX6_isWithinByRays σ (iI z) (iI w)) (fX7_isWithinByRays μ (iI z) (iI w)) μ := by
  unfold fX6_isWithinByRays
  obtain ⟨r1, r2⟩ := sm_rays M I hz hw
  by_cases h : 0 ≤ z ∧ z < an a
  · rw [(rq_line H I hz).1 h, xth_ok]
    by_cases h2 : 0 ≤ w ∧ w ≤ 383
    · obtain ⟨k, ek, hk⟩ := natz h
      obtain ⟨p, ep⟩ : ∃ p : Nat, w = p := ⟨w.toNat, by omega⟩
      obtain ⟨b, hb, ib⟩ := r1 k p ek hk ep (by omega)
      obtain ⟨c, hc, ic⟩ := sp_goesRound H I hk (p := p) (by omega)
      have e := bool_eq ib ic
      subst e
      right
      rw [← ek, ← ep] at hc
      exact ⟨b, by rw [(rq_pt hw).1 h2, xth_ok, hc, Option.bind_some], hb⟩
    · left
      exact ⟨by rw [(rq_pt hw).2 h2, xth_err], _, r2 (Or.inr h2)⟩
  · left
    exact ⟨by rw [(rq_line H I hz).2 h, xth_err], _, r2 (Or.inl h)⟩
theorem rd_spread (H : RepS σ a) (M : RepM (M_row μ) a) (I : InvA a) (N : NoX a) (δ : Dr) {z w : Int} (hz : -2147483648 ≤ z ∧ z < 2147483648) (hw : -2147483648 ≤ w ∧ w < 2147483648) :
    (fX6_isWithinBySpreading σ δ (iI z) (iI w) = some (.error "java/lang/IndexOutOfBoundsException") ∧ ∃ b, fX7_isWithinBySpreading μ (iI z) (iI w) = some (b, M_th' μ (1 : Int32))) ∨
    (∃ b δ', fX6_isWithinBySpreading σ δ (iI z) (iI w) = some (.ok (b, δ')) ∧ fX7_isWithinBySpreading μ (iI z) (iI w) = some (b, M_th' μ (0 : Int32))) := by
  unfold fX6_isWithinBySpreading fX7_isWithinBySpreading
  obtain ⟨r1, r2⟩ := sm_rays M I hz hw
  by_cases h : 0 ≤ z ∧ z < an a
  · rw [(rq_line H I hz).1 h, xth_ok]
    by_cases h2 : 0 ≤ w ∧ w ≤ 383
    · obtain ⟨k, rfl, hk⟩ := natz h
      obtain ⟨p, rfl⟩ : ∃ p : Nat, w = p := ⟨w.toNat, by omega⟩
      obtain ⟨b, hb, ib⟩ := r1 k p rfl hk rfl (by omega)
      obtain ⟨c, hc, ic⟩ := sp_isRing H I hk
      right
      rw [(rq_pt hw).1 h2, xth_ok, hc, Option.bind_some]
      by_cases hr : ringA a k
      · obtain ⟨δ', e, he, ie⟩ := sp_leftOut (δ := δ) H I N hk hr (p := p) (by omega)
        have eb : b = e := bool_eq ib (ie.trans ⟨fun w => ⟨hr, w⟩, fun w => w.2⟩)
        subst eb
        refine ⟨b, δ', ?_, by rw [hb, Option.bind_some]⟩
        rw [if_pos (ic.mpr hr)]
        have he' := congrArg (fun x : Option (Bool × Dr) => x.bind fun y => some (Except.ok (ε := String) y)) he
        simp only [Option.bind_assoc, Option.bind_some] at he'
        exact he'
      · have eb : b = false := by
          cases b
          · rfl
          · exact absurd (ib.mp rfl).1 hr
        subst eb
        exact ⟨false, δ, by rw [if_neg (fun w => hr (ic.mp w))], by rw [hb, Option.bind_some]⟩
    · left
      exact ⟨by rw [(rq_pt hw).2 h2, xth_err], _, by rw [r2 (Or.inr h2), Option.bind_some]⟩
  · left
    exact ⟨by rw [(rq_line H I hz).2 h, xth_err], _, by rw [r2 (Or.inl h), Option.bind_some]⟩
theorem rd_kinds (H : RepS σ a) (M : RepM (M_row μ) a) (I : InvA a) {z : Int} (hz : -2147483648 ≤ z ∧ z < 2147483648) : RD (fX6_lengthByKinds σ (iI z)) (fX7_lengthByKinds μ (iI z)) μ := by
  unfold fX6_lengthByKinds fX7_lengthByKinds
  by_cases h : 0 ≤ z ∧ z < an a
  · obtain ⟨k, rfl, hk⟩ := natz h
    have h60 := (I.2.2.2.1 k hk).2.1
    have hs := sl_sum a k (ah a k) 0
    have e := sp_kinds_loop H I hk (ah a k) 0 FU 0 (by omega) (FU_gt (by omega)) (by omega) (by omega)
    rw [Z0, Z0', Int.zero_add] at e
    have nn := nn_kinds (s := smI (fun i => drA a k i % 2) (ah a k) 0) (t := (ah a k : Int) - smI (fun i => drA a k i % 2) (ah a k) 0) (by omega) (by omega)
    right
    refine ⟨_, by rw [(rq_line H I hz).1 h, xth_ok, sp_stepCount H I hk, Option.bind_some]; exact e, ?_⟩
    rw [(sm_knows M I hz).1 h, Option.bind_some, if_pos (rfl : true = true), sm_steps (μ := M_th' μ (0 : Int32)) M I hk, Option.bind_some, sm_slanting (μ := M_th' μ (0 : Int32)) M I hk, Option.bind_some, Option.bind_some, if_pos nn.1, iI_sub, if_pos nn.2]
  · left
    exact ⟨by rw [(rq_line H I hz).2 h, xth_err], _, by rw [(sm_knows M I hz).2 h, Option.bind_some, if_neg nft]⟩
theorem rd_lsteps (H : RepS σ a) (M : RepM (M_row μ) a) (I : InvA a) {z : Int} (hz : -2147483648 ≤ z ∧ z < 2147483648) : RD (fX6_lengthBySteps σ (iI z)) (fX7_lengthBySteps μ (iI z)) μ := by
  unfold fX6_lengthBySteps fX7_lengthBySteps
  by_cases h : 0 ≤ z ∧ z < an a
  · obtain ⟨k, rfl, hk⟩ := natz h
    have h60 := (I.2.2.2.1 k hk).2.1
    have e := sp_lsteps_loop H I hk (ah a k) 0 FU 0 (by omega) (FU_gt (by omega)) nn_zero
    have e' := sm_lsteps_loop (μ := M_th' μ (0 : Int32)) M I hk (ah a k) 0 FU 0 (by omega) (FU_gt (by omega)) nn_zero
    rw [Z0] at e e'
    right
    exact ⟨_, by rw [(rq_line H I hz).1 h, xth_ok, sp_stepCount H I hk, Option.bind_some]; exact e, by rw [(sm_knows M I hz).1 h, Option.bind_some]; exact e'⟩
  · left
    exact ⟨by rw [(rq_line H I hz).2 h, xth_err], _, by rw [(sm_knows M I hz).2 h, Option.bind_some]; exact sm_lsteps_no _ FU _ (by decide)⟩
theorem rd_whyNotStepped (H : RepS σ a) (M : RepM (M_row μ) a) (I : InvA a) {z w : Int} (hz : -2147483648 ≤ z ∧ z < 2147483648) (hw : -2147483648 ≤ w ∧ w < 2147483648) :
    RI (fX6_whyNotStepped σ (iI z) (iI w)) (fX7_whyNotStepped μ (iI z) (iI w)) μ ∨ (fX6_whyNotStepped σ (iI z) (iI w) = some (.error "java/lang/IllegalArgumentException") ∧ ∃ z', fX7_whyNotStepped μ (iI z) (iI w) = some (z', M_th' μ (2 : Int32))) := by
  unfold fX6_whyNotStepped fX7_whyNotStepped
  have i := sm_inB (x := w) (y := 0) (z := 7) hw (by omega) (by omega)
  by_cases h : 0 ≤ z ∧ z < an a
  · obtain ⟨k, rfl, hk⟩ := natz h
    rw [(rq_line H I hz).1 h, xth_ok, (sm_isLine (μ := M_th' μ (0 : Int32)) M I hz).1 h, Option.bind_some, if_pos (rfl : true = true), ← Z0', L7]
    by_cases h2 : 0 ≤ w ∧ w ≤ 7
    · left; right
      refine ⟨iI (whyA a k w), by rw [(rq_dir hw).1 h2, xth_ok, sp_why H I hk h2, Option.bind_some], ?_⟩
      rw [i.1 h2, Option.bind_some, if_pos (rfl : true = true)]
      have e : fX7_whyNot (M_th' μ (iI 0)) (iI (k : Int)) (iI w) = some (iI (whyA a k w)) := sm_whyNot (μ := M_th' μ (0 : Int32)) M I hk h2
      rw [e, Option.bind_some]; rfl
    · right
      refine ⟨by rw [(rq_dir hw).2 h2, xth_err], (0 : Int32), ?_⟩
      rw [i.2 h2, Option.bind_some, if_neg nft]; rfl
  · left; left
    exact ⟨by rw [(rq_line H I hz).2 h, xth_err], _, by rw [(sm_isLine (μ := M_th' μ (0 : Int32)) M I hz).2 h, Option.bind_some, if_neg nft]; rfl⟩
end RDR
