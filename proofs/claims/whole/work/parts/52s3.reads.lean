/-! an order is read: the model -/
def FrM (μ μ' : Mo) : Prop := M_row μ' = M_row μ ∧ M_sv μ' = M_sv μ ∧ M_sm μ' = M_sm μ ∧ M_kp μ' = M_kp μ ∧ M_ik μ' = M_ik μ ∧ M_tx μ' = M_tx μ ∧ M_len μ' = M_len μ ∧ M_th μ' = M_th μ
def LF (μ μ' : Mo) : Prop := M_le μ' = M_le μ ∧ M_f1 μ' = M_f1 μ ∧ M_f2 μ' = M_f2 μ
section MR
variable {μ : Mo} {l : Nat} {t : Nat → Int}
theorem frM_refl (μ : Mo) : FrM μ μ := ⟨rfl, rfl, rfl, rfl, rfl, rfl, rfl, rfl⟩
theorem frM_trans {μ1 μ2 μ3 : Mo} (h : FrM μ1 μ2) (h' : FrM μ2 μ3) : FrM μ1 μ3 := by
  obtain ⟨a1, a2, a3, a4, a5, a6, a7, a8⟩ := h
  obtain ⟨b1, b2, b3, b4, b5, b6, b7, b8⟩ := h'
  exact ⟨b1.trans a1, b2.trans a2, b3.trans a3, b4.trans a4, b5.trans a5, b6.trans a6, b7.trans a7, b8.trans a8⟩
theorem txm_fr {μ' : Mo} (T : TXm μ l t) (h : FrM μ μ') : TXm μ' l t := by
  obtain ⟨-, -, -, -, -, a6, a7, -⟩ := h
  exact ⟨a7.trans T.1, fun i hi => by rw [a6]; exact T.2 i hi⟩
theorem sm_sign (T : TXm μ l t) (g : TG l t) {x : Nat} (hx : M_sp μ = iI x) (h : x ≤ 1000) : fX7_sign μ = some (iI (sgM t l x)) := by
  have hl := g.1
  unfold fX7_sign sgM
  rw [T.1, hx]
  by_cases q : x < l
  · rw [if_neg (nle (by omega) (by omega) (by omega)), if_pos (inR_iI (by omega) (by omega) (by omega)), tnN (by omega), T.2 x q, if_pos q]
  · rw [if_pos (yle (by omega) (by omega) (by omega)), if_neg q]; rfl
theorem dgM {x : Nat} (h : 0 ≤ dgN t l x) : sgM t l x - 48 = dgN t l x ∧ 48 ≤ sgM t l x ∧ sgM t l x ≤ 57 := by
  have hl := dg_lt h
  rw [sgM_eq hl]
  unfold dgN at h ⊢
  by_cases q : 48 ≤ sgN t l x ∧ sgN t l x ≤ 57
  · rw [if_pos q]; exact ⟨rfl, q⟩
  · rw [if_neg q] at h; omega
theorem dgM' {x : Nat} (h : ¬ 0 ≤ dgN t l x) : ¬ (48 ≤ sgM t l x ∧ sgM t l x ≤ 57) := by
  rw [sgM_in x (by omega)]
  intro q
  apply h
  unfold dgN
  rw [if_pos q]; omega
theorem nm_stop (T : TXm μ l t) (g : TG l t) (hw : M_iw μ = true) {most v : Int} (hm : 0 ≤ most ∧ most ≤ 383) (hv : 0 ≤ v ∧ v ≤ 383) {x : Nat} (hx : x ≤ 1000) (x0 : Int32) (f : Nat) (h : ¬ (0 < v ∧ 0 ≤ dgN t l x ∧ 10 * v + dgN t l x ≤ most)) :
    fX7_number_64 x0 (iI most) (f + 1) (iI v) (M_sp' μ (iI x)) = some (iI v, M_sp' μ (iI x)) := by
  have es : fX7_sign (M_sp' μ (iI x)) = some (iI (sgM t l x)) := sm_sign (μ := M_sp' μ (iI x)) T g rfl hx
  have r := sgM_rng g x
  have i := sm_inB (x := sgM t l x) (y := 48) (z := 57) (by omega) (by omega) (by omega)
  rw [fX7_number_64, if_pos (show M_iw (M_sp' μ (iI x)) = true from hw)]
  by_cases q0 : v ≤ 0
  · rw [if_pos (show iI v ≤ (0 : Int32) from by rw [L0]; exact yle (by omega) (by omega) q0)]
  · rw [if_neg (show ¬ iI v ≤ (0 : Int32) from by rw [L0]; exact nle (by omega) (by omega) (by omega)), es, Option.bind_some, k48, k57]
    by_cases q1 : 0 ≤ dgN t l x
    · obtain ⟨d1, d2, d3⟩ := dgM q1
      rw [i.1 ⟨d2, d3⟩, Option.bind_some, if_pos (rfl : true = true), Option.bind_some, L10, iI_mul, iI_add, iI_sub, if_pos (ylt (by omega) (by omega) (by omega))]
    · rw [i.2 (dgM' q1), Option.bind_some, if_neg nft]
theorem nm_go (T : TXm μ l t) (g : TG l t) (hw : M_iw μ = true) {most v : Int} (hm : 0 ≤ most ∧ most ≤ 383) (hv : 0 ≤ v ∧ v ≤ 383) {x : Nat} (hx : x ≤ 1000) (x0 : Int32) (f : Nat) (h : 0 < v ∧ 0 ≤ dgN t l x ∧ 10 * v + dgN t l x ≤ most) :
    fX7_number_64 x0 (iI most) (f + 1) (iI v) (M_sp' μ (iI x)) = fX7_number_64 x0 (iI most) f (iI (10 * v + dgN t l x)) (M_sp' μ (iI ((x + 1 : Nat) : Int))) := by
  have es : fX7_sign (M_sp' μ (iI x)) = some (iI (sgM t l x)) := sm_sign (μ := M_sp' μ (iI x)) T g rfl hx
  have i := sm_inB (x := sgM t l x) (y := 48) (z := 57) (by have := sgM_rng g x; omega) (by omega) (by omega)
  obtain ⟨d1, d2, d3⟩ := dgM h.2.1
  rw [fX7_number_64, if_pos (show M_iw (M_sp' μ (iI x)) = true from hw), if_neg (show ¬ iI v ≤ (0 : Int32) from by rw [L0]; exact nle (by omega) (by omega) (by omega)), es, Option.bind_some, k48, k57, i.1 ⟨d2, d3⟩, Option.bind_some, if_pos (rfl : true = true), Option.bind_some, L10, iI_mul, iI_add, iI_sub, if_neg (nlt (by omega) (by omega) (by omega)), Option.bind_some, iI_add, iI_sub]
  show fX7_number_64 x0 (iI most) f (iI (10 * v + sgM t l x - 48)) (M_sp' μ (iI (x : Int) + (1 : Int32))) = _
  rw [iI_s, show 10 * v + sgM t l x - 48 = 10 * v + dgN t l x by omega]
theorem nm_all (T : TXm μ l t) (g : TG l t) (hw : M_iw μ = true) {most v : Int} (hm : 0 ≤ most ∧ most ≤ 383) (hv : 0 ≤ v ∧ v ≤ 9) {x : Nat} (hx : x ≤ 900) (x0 : Int32) :
    fX7_number_64 x0 (iI most) FU (iI v) (M_sp' μ (iI x)) = some (iI (nmN t l most 2 v x).1, M_sp' μ (iI ((nmN t l most 2 v x).2 : Nat))) := by
  have e0 : FU = 9997 + 1 + 1 + 1 := rfl
  rw [e0, nmN]
  by_cases h1 : 0 < v ∧ 0 ≤ dgN t l x ∧ 10 * v + dgN t l x ≤ most
  · rw [if_pos h1, nm_go T g hw hm (by omega) (by omega) x0 _ h1, nmN]
    by_cases h2 : 0 < 10 * v + dgN t l x ∧ 0 ≤ dgN t l (x + 1) ∧ 10 * (10 * v + dgN t l x) + dgN t l (x + 1) ≤ most
    · rw [if_pos h2, nm_go T g hw hm (by omega) (by omega) x0 _ h2, nmN, nm_stop T g hw hm (by omega) (by omega) x0 _ (by omega)]
    · rw [if_neg h2, nm_stop T g hw hm (by omega) (by omega) x0 _ h2]
  · rw [if_neg h1, nm_stop T g hw hm (by omega) (by omega) x0 _ h1]
theorem num64_no {ν : Mo} (hw : M_iw ν = false) (x0 x1 v : Int32) (f : Nat) : fX7_number_64 x0 x1 (f + 1) v ν = some (v, ν) := by
  rw [fX7_number_64, if_neg (show ¬ M_iw ν = true from by rw [hw]; exact nft)]
theorem sm_number (T : TXm μ l t) (g : TG l t) (hw : M_iw μ = true) {least most : Int} (hm : 0 ≤ least ∧ least ≤ most ∧ most ≤ 383) {x : Nat} (hx : M_sp μ = iI x) (h : x ≤ l) :
    ∃ v' ν, fX7_number μ (iI least) (iI most) = some (iI v', ν) ∧ FrM μ ν ∧ LF μ ν ∧ M_sp ν = iI ((numN t l least most x).2.2 : Nat) ∧ M_iw ν = (numN t l least most x).1 ∧ ((numN t l least most x).1 = true → v' = (numN t l least most x).2.1) := by
  have h60 := g.1
  have r := sgM_rng g x
  have i1 := sm_inB (x := sgM t l x - 48) (y := 0) (z := 9) (by omega) (by omega) (by omega)
  have i2 := sm_inB (x := sgM t l x - 48) (y := least) (z := most) (by omega) (by omega) (by omega)
  have bad : fX7_number_40 (iI least) (iI most) (iI (sgM t l x - 48)) false μ = some (iI (sgM t l x - 48), M_sp' (M_iw' μ false) (iI x)) := by
    unfold fX7_number_40
    rw [if_neg nft, hx, L0, iI_add, Int.add_zero]
    exact num64_no rfl _ _ _ 9999
  unfold fX7_number numN
  rw [sm_sign T g hx (by omega), Option.bind_some, if_pos hw, k48, iI_sub, L0, show (9 : Int32) = iI 9 from rfl]
  by_cases q : 0 ≤ dgN t l x ∧ least ≤ dgN t l x ∧ dgN t l x ≤ most
  · obtain ⟨d1, d2, d3⟩ := dgM q.1
    rw [i1.1 (by omega), Option.bind_some, if_pos (rfl : true = true), i2.1 (by omega), Option.bind_some, if_pos (rfl : true = true), if_pos q]
    unfold fX7_number_40
    rw [if_pos (rfl : true = true), hx, iI_s, d1]
    have e := nm_all (μ := M_iw' μ true) T g rfl (most := most) (v := dgN t l x) (by omega) (by omega) (x := x + 1) (by omega) (iI least)
    exact ⟨_, _, e, ⟨rfl, rfl, rfl, rfl, rfl, rfl, rfl, rfl⟩, ⟨rfl, rfl, rfl⟩, rfl, rfl, fun _ => rfl⟩
  · rw [if_neg q]
    have fin : ∃ v' ν, some (iI (sgM t l x - 48), M_sp' (M_iw' μ false) (iI x)) = some (iI v', ν) ∧ FrM μ ν ∧ LF μ ν ∧ M_sp ν = iI (x : Int) ∧ M_iw ν = false ∧ (false = true → v' = -1) :=
      ⟨_, _, rfl, ⟨rfl, rfl, rfl, rfl, rfl, rfl, rfl, rfl⟩, ⟨rfl, rfl, rfl⟩, rfl, rfl, fun w => absurd w nft⟩
    by_cases q1 : 0 ≤ dgN t l x
    · obtain ⟨d1, d2, d3⟩ := dgM q1
      rw [i1.1 (by omega), Option.bind_some, if_pos (rfl : true = true), i2.2 (by omega), Option.bind_some, if_neg nft, bad]
      exact fin
    · have d := dgM' q1
      rw [i1.2 (by omega), Option.bind_some, if_neg nft, bad]
      exact fin
theorem sm_needs (T : TXm μ l t) (g : TG l t) (hw : M_iw μ = true) {c : Int} (hc : 1 ≤ c ∧ c ≤ 1000) {x : Nat} (hx : M_sp μ = iI x) (h : x ≤ 1000) :
    fX7_needs μ (iI c) = some (if sgN t l x = c then M_sp' (M_iw' μ true) (iI ((x + 1 : Nat) : Int)) else M_sp' (M_iw' μ false) (iI x)) := by
  have r := sgM_rng g x
  unfold fX7_needs
  rw [if_pos hw, sm_sign T g hx h, Option.bind_some]
  by_cases q : sgN t l x = c
  · have q' := (sgM_N (t := t) (l := l) x hc.1).mpr q
    rw [if_pos (by rw [q']), if_pos q]
    unfold fX7_needs_21
    rw [if_pos (rfl : true = true), hx, iI_s]
  · have q' : ¬ sgM t l x = c := fun w => q ((sgM_N (t := t) (l := l) x hc.1).mp w)
    rw [if_neg (neq (by omega) (by omega) q'), if_neg q]
    unfold fX7_needs_21
    rw [if_neg nft, hx, L0, iI_add, Int.add_zero]
theorem sm_needs_no (hw : M_iw μ = false) (c : Int32) {x : Nat} (hx : M_sp μ = iI x) : fX7_needs μ c = some (M_sp' (M_iw' μ false) (iI x)) := by
  unfold fX7_needs
  rw [if_neg (show ¬ M_iw μ = true from by rw [hw]; exact nft)]
  unfold fX7_needs_21
  rw [if_neg nft, hx, L0, iI_add, Int.add_zero]
/-- the second half of an order with two numbers -/
theorem sm_296 (T : TXm μ l t) (g : TG l t) (hw : M_iw μ = true) {c m2 : Int} (hc : 1 ≤ c ∧ c ≤ 1000) (hm : (M_le μ = (110 : Int32) ∧ m2 = 383) ∨ (¬ M_le μ = (110 : Int32) ∧ m2 = 59)) {x : Nat} (hx : M_sp μ = iI x) (h : x ≤ l) :
    ∃ ν, fX7_reads_296 (iI c) μ = some ν ∧ FrM μ ν ∧ M_le ν = M_le μ ∧ M_f1 ν = M_f1 μ ∧ M_sp ν = iI ((if sgN t l x = c then (numN t l 0 m2 (x + 1)).2.2 else x : Nat) : Int) ∧ M_iw ν = (if sgN t l x = c then (numN t l 0 m2 (x + 1)).1 else false) ∧ (M_iw ν = true → M_f2 ν = iI (numN t l 0 m2 (x + 1)).2.1) := by
  have h60 := g.1
  unfold fX7_reads_296
  rw [sm_needs T g hw hc hx (by omega), Option.bind_some]
  by_cases q : sgN t l x = c
  · have hl := sgN_lt (t := t) (l := l) (x := x) (by omega)
    rw [if_pos q, if_pos q, if_pos q, if_pos (show M_iw (M_sp' (M_iw' μ true) (iI ((x + 1 : Nat) : Int))) = true from rfl)]
    have num : ∀ m : Int, 0 ≤ m ∧ m ≤ 383 → ∃ v' ν, fX7_number (M_sp' (M_iw' μ true) (iI ((x + 1 : Nat) : Int))) (iI 0) (iI m) = some (iI v', ν) ∧ FrM (M_sp' (M_iw' μ true) (iI ((x + 1 : Nat) : Int))) ν ∧ LF (M_sp' (M_iw' μ true) (iI ((x + 1 : Nat) : Int))) ν ∧ M_sp ν = iI ((numN t l 0 m (x + 1)).2.2 : Nat) ∧ M_iw ν = (numN t l 0 m (x + 1)).1 ∧ ((numN t l 0 m (x + 1)).1 = true → v' = (numN t l 0 m (x + 1)).2.1) := fun m hm =>
      sm_number (μ := M_sp' (M_iw' μ true) (iI ((x + 1 : Nat) : Int))) T g rfl (least := 0) (most := m) (by omega) (x := x + 1) rfl (by omega)
    rcases hm with ⟨h1, h2⟩ | ⟨h1, h2⟩
    · subst h2
      obtain ⟨v', ν, e, n1, n2, n3, n4, n5⟩ := num 383 (by omega)
      rw [if_pos (show M_le (M_sp' (M_iw' μ true) (iI ((x + 1 : Nat) : Int))) = (110 : Int32) from h1), L0, L383, e, Option.bind_some]
      exact ⟨_, rfl, frM_trans (μ2 := M_sp' (M_iw' μ true) (iI ((x + 1 : Nat) : Int))) ⟨rfl, rfl, rfl, rfl, rfl, rfl, rfl, rfl⟩ n1, n2.1, n2.2.1, n3, n4, fun w => congrArg iI (n5 (n4.symm.trans w))⟩
    · subst h2
      obtain ⟨v', ν, e, n1, n2, n3, n4, n5⟩ := num 59 (by omega)
      rw [if_neg (show ¬ M_le (M_sp' (M_iw' μ true) (iI ((x + 1 : Nat) : Int))) = (110 : Int32) from h1), L0, k59, e, Option.bind_some]
      exact ⟨_, rfl, frM_trans (μ2 := M_sp' (M_iw' μ true) (iI ((x + 1 : Nat) : Int))) ⟨rfl, rfl, rfl, rfl, rfl, rfl, rfl, rfl⟩ n1, n2.1, n2.2.1, n3, n4, fun w => congrArg iI (n5 (n4.symm.trans w))⟩
  · rw [if_neg q, if_neg q, if_neg q, if_neg (show ¬ M_iw (M_sp' (M_iw' μ false) (iI x)) = true from nft)]
    exact ⟨_, rfl, ⟨rfl, rfl, rfl, rfl, rfl, rfl, rfl, rfl⟩, rfl, rfl, rfl, rfl, fun w => absurd w nft⟩
theorem sm_296_no (hw : M_iw μ = false) (c : Int32) {x : Nat} (hx : M_sp μ = iI x) : ∃ ν, fX7_reads_296 c μ = some ν ∧ FrM μ ν ∧ M_sp ν = iI x ∧ M_iw ν = false := by
  unfold fX7_reads_296
  rw [sm_needs_no hw c hx, Option.bind_some, if_neg (show ¬ M_iw (M_sp' (M_iw' μ false) (iI x)) = true from nft)]
  exact ⟨_, rfl, ⟨rfl, rfl, rfl, rfl, rfl, rfl, rfl, rfl⟩, rfl, rfl⟩
/-- orders with one number -/
theorem sm_255s (T : TXm μ l t) (g : TG l t) (hw : M_iw μ = true) (hle : ¬ M_le μ = (110 : Int32) ∧ ¬ M_le μ = (108 : Int32)) (b : Bool) {least most : Int} (hb : b2i b = iI least) (hm : 0 ≤ least ∧ least ≤ most ∧ most ≤ 383) {x : Nat} (hx : M_sp μ = iI x) (h : x ≤ l) :
    ∃ ν, fX7_reads_255 b (iI most) μ = some ν ∧ FrM μ ν ∧ M_le ν = M_le μ ∧ M_sp ν = iI ((numN t l least most x).2.2 : Nat) ∧ M_iw ν = (numN t l least most x).1 ∧ (M_iw ν = true → M_f1 ν = iI (numN t l least most x).2.1) := by
  obtain ⟨v', ν, e, n1, n2, n3, n4, n5⟩ := sm_number T g hw hm hx h
  unfold fX7_reads_255
  rw [hb, e, Option.bind_some, if_neg (show ¬ M_le ν = (110 : Int32) from fun w => hle.1 (n2.1.symm.trans w)), if_neg (show ¬ M_le ν = (108 : Int32) from fun w => hle.2 (n2.1.symm.trans w))]
  exact ⟨_, rfl, n1, n2.1, n3, n4, fun w => congrArg iI (n5 (n4.symm.trans w))⟩
/-- orders with two -/
theorem sm_255p (T : TXm μ l t) (g : TG l t) (hw : M_iw μ = true) {m1 c m2 : Int} (hm1 : 0 ≤ m1 ∧ m1 ≤ 383) (hle : (M_le μ = (110 : Int32) ∧ c = 64 ∧ m2 = 383) ∨ (M_le μ = (108 : Int32) ∧ c = 46 ∧ m2 = 59)) {x : Nat} (hx : M_sp μ = iI x) (h : x ≤ l) :
    ∃ ν, fX7_reads_255 false (iI m1) μ = some ν ∧ FrM μ ν ∧ M_sp ν = iI ((pairN t l m1 c m2 x).2.1 : Nat) ∧ M_iw ν = (pairN t l m1 c m2 x).1 ∧ (M_iw ν = true → M_le ν = M_le μ ∧ M_f1 ν = iI (pairN t l m1 c m2 x).2.2.1 ∧ M_f2 ν = iI (pairN t l m1 c m2 x).2.2.2) := by
  have h60 := g.1
  have ne := num_end (t := t) (l := l) (least := 0) (most := m1) (x := x) h
  obtain ⟨v', ν, e, n1, n2, n3, n4, n5⟩ := sm_number T g hw (least := 0) (most := m1) (by omega) hx h
  have T' : TXm (M_f1' ν (iI v')) l t := txm_fr T n1
  have body : ∃ ν2, fX7_reads_255 false (iI m1) μ = fX7_reads_296 (iI c) (M_f1' ν (iI v')) ∧ ν2 = ν := by
    refine ⟨ν, ?_, rfl⟩
    unfold fX7_reads_255
    rw [show b2i false = iI 0 from rfl, e, Option.bind_some]
    rcases hle with ⟨h1, h2, -⟩ | ⟨h1, h2, -⟩
    · rw [if_pos (show M_le ν = (110 : Int32) from n2.1.trans h1), h2]; rfl
    · rw [if_neg (show ¬ M_le ν = (110 : Int32) from by rw [n2.1, h1]; decide), if_pos (show M_le ν = (108 : Int32) from n2.1.trans h1), h2]; rfl
  obtain ⟨-, body, -⟩ := body
  rw [body]
  unfold pairN
  have hm : (M_le (M_f1' ν (iI v')) = (110 : Int32) ∧ m2 = 383) ∨ (¬ M_le (M_f1' ν (iI v')) = (110 : Int32) ∧ m2 = 59) := by
    rcases hle with ⟨h1, -, h3⟩ | ⟨h1, -, h3⟩
    · exact Or.inl ⟨n2.1.trans h1, h3⟩
    · exact Or.inr ⟨by show ¬ M_le ν = (110 : Int32); rw [n2.1, h1]; decide, h3⟩
  cases hk : (numN t l 0 m1 x).1 with
  | true =>
    rw [hk] at n4 n5
    rw [if_pos (rfl : true = true)]
    have n5' := n5 rfl
    obtain ⟨ν3, e3, f1, f2, f3, f4, f5, f6⟩ := sm_296 (μ := M_f1' ν (iI v')) T' g n4 (c := c) (m2 := m2) (by rcases hle with ⟨-, h2, -⟩ | ⟨-, h2, -⟩ <;> omega) hm (x := (numN t l 0 m1 x).2.2) n3 ne.2
    refine ⟨ν3, e3, frM_trans n1 f1, ?_, ?_, fun w => ?_⟩
    · rw [f4]
      by_cases q : sgN t l (numN t l 0 m1 x).2.2 = c
      · rw [if_pos q, if_pos q]
      · rw [if_neg q, if_neg q]
    · rw [f5]
      by_cases q : sgN t l (numN t l 0 m1 x).2.2 = c
      · rw [if_pos q, if_pos q]
      · rw [if_neg q, if_neg q]
    · have f6' := f6 w
      rw [f5] at w
      by_cases q : sgN t l (numN t l 0 m1 x).2.2 = c
      · rw [if_pos q]
        refine ⟨f2.trans n2.1, ?_, f6'⟩
        rw [f3]
        show iI v' = iI (numN t l 0 m1 x).2.1
        rw [n5']
      · rw [if_neg q] at w; exact absurd w nft
  | false =>
    rw [hk] at n4
    rw [if_neg nft]
    obtain ⟨ν3, e3, f1, f2, f3⟩ := sm_296_no (μ := M_f1' ν (iI v')) n4 (iI c) (x := (numN t l 0 m1 x).2.2) n3
    exact ⟨ν3, e3, frM_trans n1 f1, f2, f3, fun w => absurd (f3.symm.trans w) nft⟩
theorem sm_dirs (T : TXm μ l t) (g : TG l t) : ∀ (m d x fu : Nat), d + m = 20 → m < fu → x ≤ 100 →
    fX7_reads_147 fu (M_sp' (M_f2' μ (iI d)) (iI x)) = some (M_sp' (M_f2' μ (iI ((d + drN t l m x : Nat) : Int))) (iI ((x + drN t l m x : Nat) : Int))) := by
  intro m
  induction m with
  | zero =>
    intro d x fu h1 h2 h3
    obtain ⟨f, rfl⟩ : ∃ f, fu = f + 1 := ⟨fu - 1, by omega⟩
    rw [fX7_reads_147, if_pos (show (20 : Int32) ≤ iI (d : Int) from by rw [show (20 : Int32) = iI 20 from rfl]; exact yle (by omega) (by omega) (by omega)), drN]
    rfl
  | succ m ih =>
    intro d x fu h1 h2 h3
    obtain ⟨f, rfl⟩ : ∃ f, fu = f + 1 := ⟨fu - 1, by omega⟩
    have r := sgM_rng g x
    have es : fX7_sign (M_sp' (M_f2' μ (iI d)) (iI x)) = some (iI (sgM t l x)) := sm_sign (μ := M_sp' (M_f2' μ (iI d)) (iI x)) T g rfl (by omega)
    have i := sm_inB (x := sgM t l x) (y := 48) (z := 55) (by omega) (by omega) (by omega)
    rw [fX7_reads_147, if_neg (show ¬ (20 : Int32) ≤ iI (d : Int) from by rw [show (20 : Int32) = iI 20 from rfl]; exact nle (by omega) (by omega) (by omega)), es, Option.bind_some, k48, k55, drN]
    by_cases q : 48 ≤ sgN t l x ∧ sgN t l x ≤ 55
    · rw [i.1 ((sgM_in x (by omega)).mpr q), Option.bind_some, if_pos (rfl : true = true), if_pos q]
      show fX7_reads_147 f (M_sp' (M_f2' μ (iI (d : Int) + (1 : Int32))) (iI (x : Int) + (1 : Int32))) = _
      rw [iI_s, iI_s, ih (d + 1) (x + 1) f (by omega) (by omega) (by
        have := sgN_lt (t := t) (l := l) (x := x) (by omega)
        have := g.1
        omega), show d + 1 + drN t l m (x + 1) = d + (drN t l m (x + 1) + 1) by omega, show x + 1 + drN t l m (x + 1) = x + (drN t l m (x + 1) + 1) by omega]
    · rw [i.2 (fun w => q ((sgM_in x (by omega)).mp w)), Option.bind_some, if_neg nft, if_neg q]
      rfl
/-- what the model's reader leaves of an order -/
def OrdM (t : Nat → Int) (l : Nat) (x : Nat) (μ : Mo) : Prop := M_le μ = iI (sgN t l x) ∧ (¬ sgN t l x = 97 → M_f1 μ = iI (ordN t l x).2.2.1) ∧ (sgN t l x = 108 ∨ sgN t l x = 110 ∨ sgN t l x = 115 → M_f2 μ = iI (ordN t l x).2.2.2)
theorem sm_reads (T : TXm μ l t) (g : TG l t) {x : Nat} (hx : M_sp μ = iI x) (h : x ≤ l) :
    ∃ ν, fX7_reads μ = some ν ∧ FrM μ ν ∧ M_sp ν = iI ((ordN t l x).2.1 : Nat) ∧ M_iw ν = (ordN t l x).1 ∧ ((ordN t l x).1 = true → OrdM t l x ν) := by
  have h60 := g.1
  have r := sgM_rng g x
  have N : ∀ c : Int, 0 ≤ c ∧ c ≤ 1000 → ¬ sgM t l x = c → ¬ iI (sgM t l x) = iI c := fun c hc h => neq (by omega) (by omega) h
  have MN : ∀ c : Int, 1 ≤ c → sgM t l x = c → sgN t l x = c := fun c hc h => (sgM_N x hc).mp h
  -- the state behind the letter
  let B : Bool → Mo := fun b => M_f2' (M_f1' (M_sp' (M_iw' (M_le' μ (iI (sgM t l x))) b) (M_sp μ + b2i b)) (M_sp μ + b2i b)) (0 : Int32)
  have bsp : M_sp (B true) = iI ((x + 1 : Nat) : Int) := by
    show M_sp μ + (1 : Int32) = _
    rw [hx, iI_s]
  have bf1 : M_f1 (B true) = iI ((x + 1 : Nat) : Int) := bsp
  have Tb : TXm (B true) l t := T
  have fb : FrM μ (B true) := ⟨rfl, rfl, rfl, rfl, rfl, rfl, rfl, rfl⟩
  have good : (sgM t l x = 110 ∨ sgM t l x = 115 ∨ sgM t l x = 119 ∨ sgM t l x = 108 ∨ sgM t l x = 117 ∨ sgM t l x = 98 ∨ sgM t l x = 97 ∨ sgM t l x = 103) → fX7_reads μ = fX7_reads_106 (M_sp μ) true (M_iw' (M_le' μ (iI (sgM t l x))) true) := by
    intro hs
    unfold fX7_reads
    rw [sm_sign T g hx (by omega), Option.bind_some]
    rcases hs with q | q | q | q | q | q | q | q <;> rw [q]
    · rw [if_pos (by decide), if_pos (rfl : true = true)]
    · rw [if_neg (by decide), if_pos (by decide), if_pos (rfl : true = true)]
    · rw [if_neg (by decide), if_neg (by decide), if_pos (by decide), if_pos (rfl : true = true)]
    · rw [if_neg (by decide), if_neg (by decide), if_neg (by decide), if_pos (by decide), if_pos (rfl : true = true)]
    · rw [if_neg (by decide), if_neg (by decide), if_neg (by decide), if_neg (by decide), if_pos (by decide), if_pos (rfl : true = true)]
    · rw [if_neg (by decide), if_neg (by decide), if_neg (by decide), if_neg (by decide), if_neg (by decide), if_pos (by decide), if_pos (rfl : true = true)]
    · rw [if_neg (by decide), if_neg (by decide), if_neg (by decide), if_neg (by decide), if_neg (by decide), if_neg (by decide), if_pos (by decide), if_pos (rfl : true = true)]
    · rw [if_neg (by decide), if_neg (by decide), if_neg (by decide), if_neg (by decide), if_neg (by decide), if_neg (by decide), if_neg (by decide), if_pos (by decide), if_pos (rfl : true = true)]
  have le : ∀ c : Int, sgM t l x = c → M_le (B true) = iI c := fun c hc => by show iI (sgM t l x) = iI c; rw [hc]
  have xl : ∀ c : Int, 1 ≤ c → sgM t l x = c → x + 1 ≤ l := fun c hc h => sgN_lt (t := t) (l := l) (x := x) (by have := MN c hc h; omega)
  -- one number
  have sing : ∀ (c : Int) (b : Bool) (least most : Int), 1 ≤ c → sgM t l x = c → ¬ c = 110 → ¬ c = 108 → b2i b = iI least → 0 ≤ least ∧ least ≤ most ∧ most ≤ 383 → ∃ ν, fX7_reads_255 b (iI most) (B true) = some ν ∧ FrM μ ν ∧ M_sp ν = iI ((singN t l least most (x + 1)).2.1 : Nat) ∧ M_iw ν = (singN t l least most (x + 1)).1 ∧ ((singN t l least most (x + 1)).1 = true → M_le ν = iI (sgN t l x) ∧ M_f1 ν = iI (singN t l least most (x + 1)).2.2.1) := by
    intro c b least most hc hs n1 n2 hb hm
    have hcr : 0 ≤ c ∧ c ≤ 126 := by omega
    obtain ⟨ν, e, f1, f2, f3, f4, f5⟩ := sm_255s (μ := B true) Tb g rfl (l := l) ⟨by rw [le c hs, k110]; exact neq (by omega) (by omega) n1, by rw [le c hs, k108]; exact neq (by omega) (by omega) n2⟩ b hb hm bsp (xl c hc hs)
    refine ⟨ν, e, frM_trans fb f1, f3, f4, fun w => ⟨?_, f5 (f4.trans w)⟩⟩
    rw [f2, le c hs, MN c hc hs]
  have pair : ∀ (c : Int) (m1 c2 m2 : Int), 1 ≤ c → sgM t l x = c → 0 ≤ m1 ∧ m1 ≤ 383 → (c = 110 ∧ c2 = 64 ∧ m2 = 383) ∨ (c = 108 ∧ c2 = 46 ∧ m2 = 59) → ∃ ν, fX7_reads_255 false (iI m1) (B true) = some ν ∧ FrM μ ν ∧ M_sp ν = iI ((pairN t l m1 c2 m2 (x + 1)).2.1 : Nat) ∧ M_iw ν = (pairN t l m1 c2 m2 (x + 1)).1 ∧ ((pairN t l m1 c2 m2 (x + 1)).1 = true → M_le ν = iI (sgN t l x) ∧ M_f1 ν = iI (pairN t l m1 c2 m2 (x + 1)).2.2.1 ∧ M_f2 ν = iI (pairN t l m1 c2 m2 (x + 1)).2.2.2) := by
    intro c m1 c2 m2 hc hs hm hh
    obtain ⟨ν, e, f1, f3, f4, f5⟩ := sm_255p (μ := B true) Tb g rfl (l := l) (m1 := m1) (c := c2) (m2 := m2) hm (by
      rcases hh with ⟨a1, a2, a3⟩ | ⟨a1, a2, a3⟩
      · exact Or.inl ⟨by rw [le c hs, a1]; rfl, a2, a3⟩
      · exact Or.inr ⟨by rw [le c hs, a1]; rfl, a2, a3⟩) bsp (xl c hc hs)
    refine ⟨ν, e, frM_trans fb f1, f3, f4, fun w => ?_⟩
    obtain ⟨w1, w2, w3⟩ := f5 (f4.trans w)
    exact ⟨by rw [w1, le c hs, MN c hc hs], w2, w3⟩
  unfold OrdM ordN
  by_cases h1 : sgM t l x = 97
  · have n1 := MN 97 (by omega) h1
    rw [good (by omega), if_pos n1]
    unfold fX7_reads_106
    rw [if_neg (show ¬ M_le (M_iw' (M_le' μ (iI (sgM t l x))) true) = (115 : Int32) from by show ¬ iI (sgM t l x) = _; rw [h1]; decide), if_pos (show M_le (M_iw' (M_le' μ (iI (sgM t l x))) true) = (97 : Int32) from by show iI (sgM t l x) = _; rw [h1]; rfl)]
    refine ⟨B true, rfl, fb, bsp, rfl, fun _ => ⟨?_, fun w => absurd n1 w, fun w => by omega⟩⟩
    rw [n1]; exact le 97 h1
  have n1 : ¬ sgN t l x = 97 := fun w => h1 ((sgM_N x (by omega)).mpr w)
  rw [if_neg n1]
  by_cases h6 : sgM t l x = 115
  · have n6 := MN 115 (by omega) h6
    have hl := xl 115 (by omega) h6
    rw [good (by omega), if_neg (show ¬ sgN t l x = 98 from by omega), if_neg (show ¬ sgN t l x = 103 from by omega), if_neg (show ¬ sgN t l x = 108 from by omega), if_neg (show ¬ sgN t l x = 110 from by omega), if_pos n6]
    unfold fX7_reads_106
    rw [if_pos (show M_le (M_iw' (M_le' μ (iI (sgM t l x))) true) = (115 : Int32) from by show iI (sgM t l x) = _; rw [h6]; rfl)]
    have es := sm_sign (μ := B true) Tb g bsp (by omega)
    have i := sm_inB (x := sgM t l (x + 1)) (y := 48) (z := 55) (by have := sgM_rng g (x + 1); omega) (by omega) (by omega)
    have d : ∀ b : Bool, fX7_reads_147 FU (M_iw' (B true) b) = some (M_sp' (M_f2' (M_iw' (B true) b) (iI ((drN t l 20 (x + 1) : Nat) : Int))) (iI ((x + 1 + drN t l 20 (x + 1) : Nat) : Int))) := by
      intro b
      have q := sm_dirs (μ := M_iw' (B true) b) Tb g 20 0 (x + 1) FU (by omega) (FU_gt (by omega)) (by omega)
      rw [Nat.zero_add, Z0, ← bsp] at q
      exact q
    show ∃ ν, ((fX7_sign (B true)).bind fun r_21 => (fX7_in r_21 (48 : Int32) (55 : Int32)).bind fun r_22 => fX7_reads_147 FU (M_iw' (B true) r_22)) = some ν ∧ _
    rw [es, Option.bind_some, k48, k55]
    have fin : ∀ b : Bool, b = decide (0 < drN t l 20 (x + 1)) → ∃ ν, fX7_reads_147 FU (M_iw' (B true) b) = some ν ∧ FrM μ ν ∧ M_sp ν = iI ((x + 1 + drN t l 20 (x + 1) : Nat) : Int) ∧ M_iw ν = decide (0 < drN t l 20 (x + 1)) ∧ (decide (0 < drN t l 20 (x + 1)) = true → M_le ν = iI (sgN t l x) ∧ (¬ sgN t l x = 97 → M_f1 ν = iI ((x + 1 : Nat) : Int)) ∧ (sgN t l x = 108 ∨ sgN t l x = 110 ∨ sgN t l x = 115 → M_f2 ν = iI ((drN t l 20 (x + 1) : Nat) : Int))) := by
      intro b hb
      exact ⟨_, d b, ⟨rfl, rfl, rfl, rfl, rfl, rfl, rfl, rfl⟩, rfl, hb, fun _ => ⟨by rw [n6]; exact le 115 h6, fun _ => bf1, fun _ => rfl⟩⟩
    by_cases q : 48 ≤ sgN t l (x + 1) ∧ sgN t l (x + 1) ≤ 55
    · have e : 0 < drN t l 20 (x + 1) := by
        rw [show (20 : Nat) = 19 + 1 from rfl, drN, if_pos q]; omega
      rw [i.1 ((sgM_in (x + 1) (by omega)).mpr q), Option.bind_some]
      exact fin true (decide_eq_true e).symm
    · have e : ¬ 0 < drN t l 20 (x + 1) := by
        rw [show (20 : Nat) = 19 + 1 from rfl, drN, if_neg q]; omega
      rw [i.2 (fun w => q ((sgM_in (x + 1) (by omega)).mp w)), Option.bind_some]
      exact fin false (decide_eq_false e).symm
  have n6 : ¬ sgN t l x = 115 := fun w => h6 ((sgM_N x (by omega)).mpr w)
  -- the rest of the letters
  have rest : (sgM t l x = 110 ∨ sgM t l x = 115 ∨ sgM t l x = 119 ∨ sgM t l x = 108 ∨ sgM t l x = 117 ∨ sgM t l x = 98 ∨ sgM t l x = 97 ∨ sgM t l x = 103) → fX7_reads μ = (if sgM t l x = 103 then fX7_reads_225 true (B true) else fX7_reads_225 false (B true)) := by
    intro hs
    rw [good hs]
    unfold fX7_reads_106
    rw [if_neg (show ¬ M_le (M_iw' (M_le' μ (iI (sgM t l x))) true) = (115 : Int32) from by show ¬ iI (sgM t l x) = _; exact N 115 (by omega) h6), if_neg (show ¬ M_le (M_iw' (M_le' μ (iI (sgM t l x))) true) = (97 : Int32) from by show ¬ iI (sgM t l x) = _; exact N 97 (by omega) h1), if_pos (show M_iw (M_iw' (M_le' μ (iI (sgM t l x))) true) = true from rfl)]
    by_cases q : sgM t l x = 103
    · rw [if_pos (show M_le (M_iw' (M_le' μ (iI (sgM t l x))) true) = (103 : Int32) from by show iI (sgM t l x) = _; rw [q]; rfl), if_pos q]
    · rw [if_neg (show ¬ M_le (M_iw' (M_le' μ (iI (sgM t l x))) true) = (103 : Int32) from by show ¬ iI (sgM t l x) = _; exact N 103 (by omega) q), if_neg q]
  have r225 : ∀ b : Bool, fX7_reads_225 b (B true) = (if sgM t l x = 110 then fX7_reads_255 b (iI 99) (B true) else if sgM t l x = 103 then fX7_reads_255 b (iI 6) (B true) else fX7_reads_255 b (iI 7) (B true)) := by
    intro b
    unfold fX7_reads_225
    by_cases q : sgM t l x = 110
    · rw [if_pos (show M_le (B true) = (110 : Int32) from le 110 q), if_pos q]; rfl
    · rw [if_neg (show ¬ M_le (B true) = (110 : Int32) from N 110 (by omega) q), if_neg q]
      by_cases q2 : sgM t l x = 103
      · rw [if_pos (show M_le (B true) = (103 : Int32) from le 103 q2), if_pos q2]; rfl
      · rw [if_neg (show ¬ M_le (B true) = (103 : Int32) from N 103 (by omega) q2), if_neg q2]; rfl
  have one : ∀ c : Int, c = 98 ∨ c = 117 ∨ c = 119 → sgM t l x = c → ∃ ν, fX7_reads μ = some ν ∧ FrM μ ν ∧ M_sp ν = iI ((singN t l 0 7 (x + 1)).2.1 : Nat) ∧ M_iw ν = (singN t l 0 7 (x + 1)).1 ∧ ((singN t l 0 7 (x + 1)).1 = true → M_le ν = iI (sgN t l x) ∧ (¬ sgN t l x = 97 → M_f1 ν = iI (singN t l 0 7 (x + 1)).2.2.1) ∧ (sgN t l x = 108 ∨ sgN t l x = 110 ∨ sgN t l x = 115 → M_f2 ν = iI (singN t l 0 7 (x + 1)).2.2.2)) := by
    intro c hc hs
    have n := MN c (by omega) hs
    obtain ⟨ν, e, f1, f2, f3, f4⟩ := sing c false 0 7 (by omega) hs (by omega) (by omega) rfl (by omega)
    refine ⟨ν, ?_, f1, f2, f3, fun w => ⟨(f4 w).1, fun _ => (f4 w).2, fun w => by omega⟩⟩
    rw [rest (by omega), if_neg (by omega), r225, if_neg (by omega), if_neg (by omega), e]
  by_cases h2 : sgM t l x = 98
  · have n := MN 98 (by omega) h2
    rw [if_pos n]; exact one 98 (by omega) h2
  rw [if_neg (show ¬ sgN t l x = 98 from fun w => h2 ((sgM_N x (by omega)).mpr w))]
  by_cases h3 : sgM t l x = 103
  · have n := MN 103 (by omega) h3
    obtain ⟨ν, e, f1, f2, f3, f4⟩ := sing 103 true 1 6 (by omega) h3 (by omega) (by omega) rfl (by omega)
    rw [if_pos n]
    refine ⟨ν, ?_, f1, f2, f3, fun w => ⟨(f4 w).1, fun _ => (f4 w).2, fun w => by omega⟩⟩
    rw [rest (by omega), if_pos h3, r225, if_neg (by omega), if_pos h3, e]
  rw [if_neg (show ¬ sgN t l x = 103 from fun w => h3 ((sgM_N x (by omega)).mpr w))]
  by_cases h4 : sgM t l x = 108
  · have n := MN 108 (by omega) h4
    obtain ⟨ν, e, f1, f2, f3, f4⟩ := pair 108 7 46 59 (by omega) h4 (by omega) (Or.inr ⟨rfl, rfl, rfl⟩)
    rw [if_pos n]
    refine ⟨ν, ?_, f1, f2, f3, fun w => ⟨(f4 w).1, fun _ => (f4 w).2.1, fun _ => (f4 w).2.2⟩⟩
    rw [rest (by omega), if_neg h3, r225, if_neg (by omega), if_neg h3, e]
  rw [if_neg (show ¬ sgN t l x = 108 from fun w => h4 ((sgM_N x (by omega)).mpr w))]
  by_cases h5 : sgM t l x = 110
  · have n := MN 110 (by omega) h5
    obtain ⟨ν, e, f1, f2, f3, f4⟩ := pair 110 99 64 383 (by omega) h5 (by omega) (Or.inl ⟨rfl, rfl, rfl⟩)
    rw [if_pos n]
    refine ⟨ν, ?_, f1, f2, f3, fun w => ⟨(f4 w).1, fun _ => (f4 w).2.1, fun _ => (f4 w).2.2⟩⟩
    rw [rest (by omega), if_neg h3, r225, if_pos h5, e]
  rw [if_neg (show ¬ sgN t l x = 110 from fun w => h5 ((sgM_N x (by omega)).mpr w)), if_neg n6]
  by_cases h7 : sgM t l x = 117
  · have n := MN 117 (by omega) h7
    rw [if_pos n]; exact one 117 (by omega) h7
  rw [if_neg (show ¬ sgN t l x = 117 from fun w => h7 ((sgM_N x (by omega)).mpr w))]
  by_cases h8 : sgM t l x = 119
  · have n := MN 119 (by omega) h8
    rw [if_pos n]; exact one 119 (by omega) h8
  rw [if_neg (show ¬ sgN t l x = 119 from fun w => h8 ((sgM_N x (by omega)).mpr w))]
  -- no letter of an order
  refine ⟨B false, ?_, ⟨rfl, rfl, rfl, rfl, rfl, rfl, rfl, rfl⟩, ?_, rfl, fun w => absurd w nft⟩
  · unfold fX7_reads
    rw [sm_sign T g hx (by omega), Option.bind_some, if_neg (show ¬ iI (sgM t l x) = (110 : Int32) from N 110 (by omega) h5), if_neg (show ¬ iI (sgM t l x) = (115 : Int32) from N 115 (by omega) h6), if_neg (show ¬ iI (sgM t l x) = (119 : Int32) from N 119 (by omega) h8), if_neg (show ¬ iI (sgM t l x) = (108 : Int32) from N 108 (by omega) h4), if_neg (show ¬ iI (sgM t l x) = (117 : Int32) from N 117 (by omega) h7), if_neg (show ¬ iI (sgM t l x) = (98 : Int32) from N 98 (by omega) h2), if_neg (show ¬ iI (sgM t l x) = (97 : Int32) from N 97 (by omega) h1), if_neg (show ¬ iI (sgM t l x) = (103 : Int32) from N 103 (by omega) h3), if_neg nft]
    unfold fX7_reads_106
    rw [if_neg (show ¬ M_le (M_iw' (M_le' μ (iI (sgM t l x))) false) = (115 : Int32) from N 115 (by omega) h6), if_neg (show ¬ M_le (M_iw' (M_le' μ (iI (sgM t l x))) false) = (97 : Int32) from N 97 (by omega) h1), if_neg (show ¬ M_iw (M_iw' (M_le' μ (iI (sgM t l x))) false) = true from nft)]
  · show M_sp μ + (0 : Int32) = iI x
    rw [hx, L0, iI_add, Int.add_zero]
end MR
