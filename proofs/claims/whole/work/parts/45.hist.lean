/-! copies, wiping, the history: both sides -/
theorem tnN {x : Nat} (h : x < 2147483648) : (iI (x : Int)).toNatClampNeg = x := by rw [iI_tn (by omega) (by omega)]; omega
theorem cpy0 {f g : Nat → Int32} {n i : Nat} (h : i < n) : va_cpy f g 0 0 n i = f i := by
  unfold va_cpy
  rw [if_pos ⟨Nat.zero_le _, by omega⟩]
  exact congrArg f (by omega)
section HI
variable {σ ρ : Sh} {μ : Mo} {a : Ab}
theorem sp_copyFrom (H : RepS ρ a) (I : InvA a) : ∃ σ', fX4_copyFrom σ ρ = some σ' ∧ RepS σ' a := by
  refine ⟨S_pt' (S_lb' (S_sc' (S_lv' (S_gap' (S_n' σ (S_n ρ)) (S_gap ρ)) (va_cpy (S_lv ρ) (S_lv σ) 0 0 8)) (va_cpy (S_sc ρ) (S_sc σ) 0 0 8)) (va_cpy (S_lb ρ) (S_lb σ) 0 0 8)) (va_cpy (S_pt ρ) (S_pt σ) 0 0 488), rfl, H.1, H.2.1, fun i hi => ?_⟩
  have h8 := I.1
  have h60 := (I.2.2.2.1 i hi).2.1
  obtain ⟨h1, h2, h3, h4⟩ := H.2.2 i hi
  exact ⟨(cpy0 (f := S_lv ρ) (g := S_lv σ) (n := 8) (by omega)).trans h1, (cpy0 (f := S_sc ρ) (g := S_sc σ) (n := 8) (by omega)).trans h2, (cpy0 (f := S_lb ρ) (g := S_lb σ) (n := 8) (by omega)).trans h3, fun j hj => (cpy0 (f := S_pt ρ) (g := S_pt σ) (n := 488) (by omega)).trans (h4 j hj)⟩
theorem sp_copy (H : RepS ρ a) (I : InvA a) : ∃ σ', fX1_copy σ ρ = some σ' ∧ RepS σ' a := by
  obtain ⟨s, h1, h2⟩ := sp_copyFrom (σ := σ) H I
  exact ⟨s, by unfold fX1_copy; rw [h1]; rfl, h2⟩
theorem cu_e {n k : Nat} (hn : n ≤ 8) (hk : k < n) (w : Nat) (hw : w ≤ 100) : (iI (k : Int) + (1 : Int32)) * iI (w : Int) = iI (((k + 1) * w : Nat) : Int) ∧ iI (k : Int) * iI (w : Int) = iI ((k * w : Nat) : Int) ∧ (iI (n : Int) - iI (k : Int) - (1 : Int32)) * iI (w : Int) = iI (((n - k - 1) * w : Nat) : Int) := by
  refine ⟨?_, ?_, ?_⟩
  · rw [L1, iI_add, iI_mul]; exact congrArg iI (by rw [Int.natCast_mul]; rfl)
  · rw [iI_mul]; exact congrArg iI (by rw [Int.natCast_mul])
  · rw [L1, iI_sub, iI_sub, iI_mul]; exact congrArg iI (by rw [Int.natCast_mul, show ((n - k - 1 : Nat) : Int) = (n : Int) - k - 1 by omega])
theorem cu1 {n k : Nat} (h : S_n σ = iI n) (hn : n ≤ 8) (hk : k < n) : fX4_closeUp_a1 σ (iI k) (1 : Int32) = some (S_lv' σ (va_cpy (S_lv σ) (S_lv σ) ((k + 1) * 1) (k * 1) ((n - k - 1) * 1))) := by
  obtain ⟨e1, e2, e3⟩ := cu_e hn hk 1 (by omega)
  have e1' : (iI (k : Int) + (1 : Int32)) * (1 : Int32) = iI (((k + 1) * 1 : Nat) : Int) := e1
  have e2' : iI (k : Int) * (1 : Int32) = iI ((k * 1 : Nat) : Int) := e2
  have e3' : (iI (n : Int) - iI (k : Int) - (1 : Int32)) * (1 : Int32) = iI (((n - k - 1) * 1 : Nat) : Int) := e3
  unfold fX4_closeUp_a1
  rw [h, e1', e2', e3', tnN (by omega), tnN (by omega), tnN (by omega), if_pos ⟨nlt0 (by omega), nlt0 (by omega), nlt0 (by omega), by omega, by omega⟩]
theorem cu2 {n k : Nat} (h : S_n σ = iI n) (hn : n ≤ 8) (hk : k < n) : fX4_closeUp_a2 σ (iI k) (1 : Int32) = some (S_sc' σ (va_cpy (S_sc σ) (S_sc σ) ((k + 1) * 1) (k * 1) ((n - k - 1) * 1))) := by
  obtain ⟨e1, e2, e3⟩ := cu_e hn hk 1 (by omega)
  have e1' : (iI (k : Int) + (1 : Int32)) * (1 : Int32) = iI (((k + 1) * 1 : Nat) : Int) := e1
  have e2' : iI (k : Int) * (1 : Int32) = iI ((k * 1 : Nat) : Int) := e2
  have e3' : (iI (n : Int) - iI (k : Int) - (1 : Int32)) * (1 : Int32) = iI (((n - k - 1) * 1 : Nat) : Int) := e3
  unfold fX4_closeUp_a2
  rw [h, e1', e2', e3', tnN (by omega), tnN (by omega), tnN (by omega), if_pos ⟨nlt0 (by omega), nlt0 (by omega), nlt0 (by omega), by omega, by omega⟩]
theorem cu3 {n k : Nat} (h : S_n σ = iI n) (hn : n ≤ 8) (hk : k < n) : fX4_closeUp_a3 σ (iI k) (1 : Int32) = some (S_lb' σ (va_cpy (S_lb σ) (S_lb σ) ((k + 1) * 1) (k * 1) ((n - k - 1) * 1))) := by
  obtain ⟨e1, e2, e3⟩ := cu_e hn hk 1 (by omega)
  have e1' : (iI (k : Int) + (1 : Int32)) * (1 : Int32) = iI (((k + 1) * 1 : Nat) : Int) := e1
  have e2' : iI (k : Int) * (1 : Int32) = iI ((k * 1 : Nat) : Int) := e2
  have e3' : (iI (n : Int) - iI (k : Int) - (1 : Int32)) * (1 : Int32) = iI (((n - k - 1) * 1 : Nat) : Int) := e3
  unfold fX4_closeUp_a3
  rw [h, e1', e2', e3', tnN (by omega), tnN (by omega), tnN (by omega), if_pos ⟨nlt0 (by omega), nlt0 (by omega), nlt0 (by omega), by omega, by omega⟩]
theorem cu4 {n k : Nat} (h : S_n σ = iI n) (hn : n ≤ 8) (hk : k < n) : fX4_closeUp_a4 σ (iI k) (61 : Int32) = some (S_pt' σ (va_cpy (S_pt σ) (S_pt σ) ((k + 1) * 61) (k * 61) ((n - k - 1) * 61))) := by
  obtain ⟨e1, e2, e3⟩ := cu_e hn hk 61 (by omega)
  have e1' : (iI (k : Int) + (1 : Int32)) * (61 : Int32) = iI (((k + 1) * 61 : Nat) : Int) := e1
  have e2' : iI (k : Int) * (61 : Int32) = iI ((k * 61 : Nat) : Int) := e2
  have e3' : (iI (n : Int) - iI (k : Int) - (1 : Int32)) * (61 : Int32) = iI (((n - k - 1) * 61 : Nat) : Int) := e3
  unfold fX4_closeUp_a4
  rw [h, e1', e2', e3', tnN (by omega), tnN (by omega), tnN (by omega), if_pos ⟨nlt0 (by omega), nlt0 (by omega), nlt0 (by omega), by omega, by omega⟩]
theorem cpyw {f : Nat → Int32} {n k i : Nat} (hk : k < n) (hi : i < n - 1) : va_cpy f f ((k + 1) * 1) (k * 1) ((n - k - 1) * 1) i = f (if i < k then i else i + 1) := by
  unfold va_cpy
  by_cases q : i < k
  · rw [if_neg (by omega), if_pos q]
  · rw [if_pos (by omega), if_neg q]; exact congrArg f (by omega)
theorem cpyw61 {f : Nat → Int32} {n k i j : Nat} (hk : k < n) (hi : i < n - 1) (hj : j < 61) : va_cpy f f ((k + 1) * 61) (k * 61) ((n - k - 1) * 61) (61 * i + j) = f (61 * (if i < k then i else i + 1) + j) := by
  unfold va_cpy
  by_cases q : i < k
  · rw [if_neg (by omega), if_pos q]
  · rw [if_pos (by omega), if_neg q]; exact congrArg f (by omega)
theorem sp_removeLine (H : RepS σ a) (I : InvA a) {k : Nat} (hk : k < an a) : ∃ σ', fX4_removeLine σ (iI k) = some (true, σ') ∧ RepS σ' (aWipe a k) := by
  have h8 := I.1
  obtain ⟨b, hb, ib⟩ := sp_hasLine H I (z := k) (by omega)
  have hbt : b = true := ib.mpr (by omega)
  subst hbt
  have hn := H.1
  refine ⟨S_n' (S_pt' (S_lb' (S_sc' (S_lv' σ (va_cpy (S_lv σ) (S_lv σ) ((k + 1) * 1) (k * 1) ((an a - k - 1) * 1))) (va_cpy (S_sc σ) (S_sc σ) ((k + 1) * 1) (k * 1) ((an a - k - 1) * 1))) (va_cpy (S_lb σ) (S_lb σ) ((k + 1) * 1) (k * 1) ((an a - k - 1) * 1))) (va_cpy (S_pt σ) (S_pt σ) ((k + 1) * 61) (k * 61) ((an a - k - 1) * 61))) (S_n σ - (1 : Int32)), ?_, ?_, H.2.1, fun i hi => ?_⟩
  · unfold fX4_removeLine
    rw [hb]
    simp only [Option.bind_some]
    rw [if_pos trivial, cu1 hn h8 hk]
    simp only [Option.bind_some]
    rw [cu2 (n := an a) (by exact hn) h8 hk]
    simp only [Option.bind_some]
    rw [cu3 (n := an a) (by exact hn) h8 hk]
    simp only [Option.bind_some]
    rw [cu4 (n := an a) (by exact hn) h8 hk]
    rfl
  · show S_n σ - (1 : Int32) = iI ((an a - 1 : Nat) : Int)
    rw [hn, L1, iI_sub]; exact congrArg iI (by omega)
  · have hi' : i < an a - 1 := hi
    have hs : (if i < k then i else i + 1) < an a := by split <;> omega
    obtain ⟨h1, h2, h3, h4⟩ := H.2.2 _ hs
    have h60 := (I.2.2.2.1 _ hs).2.1
    have el : al (aWipe a k) i = al a (if i < k then i else i + 1) := by show (if i < k then al a i else al a (i + 1)) = _; split <;> rfl
    have eh : ah (aWipe a k) i = ah a (if i < k then i else i + 1) := by show (if i < k then ah a i else ah a (i + 1)) = _; split <;> rfl
    have eb : ab (aWipe a k) i = ab a (if i < k then i else i + 1) := by show (if i < k then ab a i else ab a (i + 1)) = _; split <;> rfl
    have ep : ∀ j, ap (aWipe a k) i j = ap a (if i < k then i else i + 1) j := by intro j; show (if i < k then ap a i j else ap a (i + 1) j) = _; split <;> rfl
    rw [el, eh, eb]
    refine ⟨(cpyw (f := S_lv σ) hk hi').trans h1, (cpyw (f := S_sc σ) hk hi').trans h2, (cpyw (f := S_lb σ) hk hi').trans h3, fun j hj => ?_⟩
    rw [ep]
    exact (cpyw61 (f := S_pt σ) hk hi' (by omega)).trans (h4 j hj)
end HI
/-! the history: the component's ring of sheets beside the model's slices -/
/-- no two steps of a line cross -/
def NoX (a : Ab) : Prop := ∀ k i j, k < an a → i < ah a k → j < ah a k → drA a k i % 2 = 1 → ¬ jnA a k ((ap a k i : Int) + acI (drA a k i)) ((ap a k i : Int) + 24 * dnI (drA a k i)) j
def GoodA (a : Ab) : Prop := InvA a ∧ NoX a
def RepH (η : Hi) (μ : Mo) : Prop := ∃ (c o : Nat) (A : Nat → Ab), c ≤ 5 ∧ o < 5 ∧ H_cnt η = iI c ∧ H_old η = iI o ∧ M_sm μ = iI c ∧ ∀ i, i < c → GoodA (A i) ∧ RepS (H_sv η ((o + i) % 5)) (A i) ∧ RepM (fun j => M_sv μ (514 * i + j)) (A i)
def RepT (η : Hi) (μ : Mo) : Prop := H_tk η = M_ik μ ∧ (H_tk η = true → ∃ a, GoodA a ∧ RepS (H_sn η) a ∧ RepM (M_kp μ) a)
theorem repM_congr {f g : Nat → Int32} {a : Ab} (I : InvA a) (h : ∀ j, j < 514 → f j = g j) (H : RepM f a) : RepM g a := by
  have h8 := I.1
  refine ⟨(h 0 (by omega)).symm.trans H.1, (h 1 (by omega)).symm.trans H.2.1, fun k hk => ?_⟩
  obtain ⟨h1, h2, h3, h4, h5⟩ := H.2.2 k hk
  have h60 := (I.2.2.2.1 k hk).2.1
  exact ⟨(h _ (by omega)).symm.trans h1, (h _ (by omega)).symm.trans h2, (h _ (by omega)).symm.trans h3, (h _ (by omega)).symm.trans h4, fun j hj => (h _ (by omega)).symm.trans (h5 j hj)⟩
theorem sm_rec51 {c : Nat} (hc : c ≤ 4) : ∀ (m v fu : Nat) (μ : Mo), v + m = 514 → m < fu → M_sm μ = iI c →
    fX7_records_51 fu (iI v) μ = some (M_sm' (M_sv' μ (fun j => if 514 * c + v ≤ j ∧ j < 514 * c + 514 then M_row μ (j - 514 * c) else M_sv μ j)) (iI ((c + 1 : Nat) : Int))) := by
  intro m
  induction m with
  | zero =>
    intro v fu μ h1 h2 h3
    obtain ⟨f, rfl⟩ : ∃ f, fu = f + 1 := ⟨fu - 1, by omega⟩
    rw [fX7_records_51, if_pos (show (514 : Int32) ≤ iI (v : Int) from by rw [show (514 : Int32) = iI 514 from rfl]; exact yle (by omega) (by omega) (by omega)), h3, iI_s]
    have e : (fun j => if 514 * c + v ≤ j ∧ j < 514 * c + 514 then M_row μ (j - 514 * c) else M_sv μ j) = M_sv μ := by
      funext j; rw [if_neg (by omega)]
    rw [e]
  | succ m ih =>
    intro v fu μ h1 h2 h3
    obtain ⟨f, rfl⟩ : ∃ f, fu = f + 1 := ⟨fu - 1, by omega⟩
    have e1 : (514 : Int32) * iI (c : Int) + iI (v : Int) = iI ((514 * c + v : Nat) : Int) := by
      rw [show (514 : Int32) = iI 514 from rfl, iI_mul, iI_add]; exact congrArg iI (by omega)
    rw [fX7_records_51, if_neg (show ¬ (514 : Int32) ≤ iI (v : Int) from by rw [show (514 : Int32) = iI 514 from rfl]; exact nle (by omega) (by omega) (by omega)), h3, e1, if_pos (inR_iI (by omega) (by omega) (by omega)), if_pos (inR_iI (by omega) (by omega) (by omega)), tnN (by omega), tnN (by omega), iI_s, ih (v + 1) f _ (by omega) (by omega) (by exact h3)]
    have e : (fun j => if 514 * c + (v + 1) ≤ j ∧ j < 514 * c + 514 then M_row μ (j - 514 * c) else (upd (M_sv μ) (514 * c + v) (M_row μ v)) j) = (fun j => if 514 * c + v ≤ j ∧ j < 514 * c + 514 then M_row μ (j - 514 * c) else M_sv μ j) := by
      funext j
      unfold upd
      by_cases q : j = 514 * c + v
      · rw [if_neg (by omega), if_pos q, if_pos (by omega)]; exact congrArg (M_row μ) (by omega)
      · by_cases r : 514 * c + (v + 1) ≤ j ∧ j < 514 * c + 514
        · rw [if_pos r, if_pos (by omega)]
        · rw [if_neg r, if_neg q, if_neg (by omega)]
    show some (M_sm' (M_sv' μ (fun j => if 514 * c + (v + 1) ≤ j ∧ j < 514 * c + 514 then M_row μ (j - 514 * c) else (upd (M_sv μ) (514 * c + v) (M_row μ v)) j)) (iI ((c + 1 : Nat) : Int))) = _
    rw [e]
theorem sm_rec10 : ∀ (m v fu : Nat) (μ : Mo), v + m = 2056 → m < fu →
    fX7_records_10 fu (iI v) μ = fX7_records_51 FU (0 : Int32) (M_sm' (M_sv' μ (fun j => if v ≤ j ∧ j < 2056 then M_sv μ (514 + j) else M_sv μ j)) (M_sm μ - (1 : Int32))) := by
  intro m
  induction m with
  | zero =>
    intro v fu μ h1 h2
    obtain ⟨f, rfl⟩ : ∃ f, fu = f + 1 := ⟨fu - 1, by omega⟩
    have e : (fun j => if v ≤ j ∧ j < 2056 then M_sv μ (514 + j) else M_sv μ j) = M_sv μ := by
      funext j; rw [if_neg (by omega)]
    rw [fX7_records_10, if_pos (show (2056 : Int32) ≤ iI (v : Int) from by rw [show (2056 : Int32) = iI 2056 from rfl]; exact yle (by omega) (by omega) (by omega)), e]
  | succ m ih =>
    intro v fu μ h1 h2
    obtain ⟨f, rfl⟩ : ∃ f, fu = f + 1 := ⟨fu - 1, by omega⟩
    have e1 : (514 : Int32) + iI (v : Int) = iI ((514 + v : Nat) : Int) := by
      rw [show (514 : Int32) = iI 514 from rfl, iI_add]; exact congrArg iI (by omega)
    rw [fX7_records_10, if_neg (show ¬ (2056 : Int32) ≤ iI (v : Int) from by rw [show (2056 : Int32) = iI 2056 from rfl]; exact nle (by omega) (by omega) (by omega)), e1, if_pos (inR_iI (by omega) (by omega) (by omega)), if_pos (inR_iI (by omega) (by omega) (by omega)), tnN (by omega), tnN (by omega), iI_s, ih (v + 1) f _ (by omega) (by omega)]
    have e : (fun j => if v + 1 ≤ j ∧ j < 2056 then (upd (M_sv μ) v (M_sv μ (514 + v))) (514 + j) else (upd (M_sv μ) v (M_sv μ (514 + v))) j) = (fun j => if v ≤ j ∧ j < 2056 then M_sv μ (514 + j) else M_sv μ j) := by
      funext j
      unfold upd
      by_cases q : j = v
      · rw [if_neg (by omega), if_pos q, if_pos (by omega), q]
      · by_cases r : v + 1 ≤ j ∧ j < 2056
        · rw [if_pos r, if_neg (by omega), if_pos (by omega)]
        · rw [if_neg r, if_neg q, if_neg (by omega)]
    show fX7_records_51 FU (0 : Int32) (M_sm' (M_sv' μ (fun j => if v + 1 ≤ j ∧ j < 2056 then (upd (M_sv μ) v (M_sv μ (514 + v))) (514 + j) else (upd (M_sv μ) v (M_sv μ (514 + v))) j)) (M_sm μ - (1 : Int32))) = _
    rw [e]
theorem sp_savedAt {η : Hi} {o i : Nat} (ho : H_old η = iI o) (h1 : o < 5) (h2 : i ≤ 5) : fX1_savedAt η (iI i) = some ((o + i) % 5) := by
  have e : irm (iI (o : Int) + iI (i : Int)) (5 : Int32) = iI (((o + i) % 5 : Nat) : Int) := by
    rw [iI_add, show (5 : Int32) = iI 5 from rfl, iI_irm (by omega) (by omega)]; exact congrArg iI (by omega)
  unfold fX1_savedAt
  rw [ho, e, if_pos (inR_iI (by omega) (by omega) (by omega)), tnN (by omega)]
theorem save_ok {η : Hi} {μ : Mo} {σ : Sh} {a : Ab} (hH : RepH η μ) (H : RepS σ a) (M : RepM (M_row μ) a) (I : InvA a) (N : NoX a) : ∃ η' sv c, fX1_save σ η = some η' ∧ fX7_records μ = some (M_sm' (M_sv' μ sv) c) ∧ RepH η' (M_sm' (M_sv' μ sv) c) ∧ H_tk η' = H_tk η ∧ H_sn η' = H_sn η := by
  obtain ⟨c, o, A, hc, ho, e1, e2, e3, hA⟩ := hH
  by_cases h5 : c = 5
  · subst h5
    have f1 : irm (H_old η + (1 : Int32)) (5 : Int32) = iI (((o + 1) % 5 : Nat) : Int) := by
      rw [e2, L1, iI_add, show (5 : Int32) = iI 5 from rfl, iI_irm (by omega) (by omega)]; exact congrArg iI (by omega)
    have f2 : H_cnt η - (1 : Int32) = iI ((4 : Nat) : Int) := by rw [e1]; rfl
    have f3 : fX1_savedAt (H_cnt' (H_old' η (iI (((o + 1) % 5 : Nat) : Int))) (iI ((4 : Nat) : Int))) (iI ((4 : Nat) : Int)) = some (((o + 1) % 5 + 4) % 5) := sp_savedAt (o := (o + 1) % 5) (i := 4) rfl (by omega) (by omega)
    obtain ⟨ρ, g1, g2⟩ := sp_copy (σ := H_sv η (((o + 1) % 5 + 4) % 5)) H I
    refine ⟨H_cnt' (H_sv' (H_cnt' (H_old' η (iI (((o + 1) % 5 : Nat) : Int))) (iI ((4 : Nat) : Int))) (updS (H_sv η) (((o + 1) % 5 + 4) % 5) ρ)) (iI ((4 : Nat) : Int) + (1 : Int32)), (fun j => if 514 * 4 + 0 ≤ j ∧ j < 514 * 4 + 514 then M_row μ (j - 514 * 4) else (if 0 ≤ j ∧ j < 2056 then M_sv μ (514 + j) else M_sv μ j)), iI ((4 + 1 : Nat) : Int), ?_, ?_, ⟨5, (o + 1) % 5, fun i => if i < 4 then A (i + 1) else a, by omega, by omega, rfl, rfl, ?_, fun i hi => ?_⟩, rfl, rfl⟩
    · unfold fX1_save
      rw [if_pos (show H_cnt η = (5 : Int32) from e1), f1, f2, f3]
      simp only [Option.bind_some]
      rw [g1]
      rfl
    · unfold fX7_records
      rw [if_pos (show M_sm μ = (5 : Int32) from e3)]
      have t1 := sm_rec10 2056 0 FU μ (by omega) (FU_gt (by omega))
      have t1' : fX7_records_10 FU (0 : Int32) μ = _ := t1
      rw [t1', show M_sm μ - (1 : Int32) = iI ((4 : Nat) : Int) from by rw [e3]; rfl]
      exact sm_rec51 (c := 4) (by omega) 514 0 FU _ (by omega) (FU_gt (by omega)) rfl
    · rfl
    · by_cases q : i < 4
      · obtain ⟨k1, k2, k3⟩ := hA (i + 1) (by omega)
        show GoodA (if i < 4 then A (i + 1) else a) ∧ RepS (updS (H_sv η) (((o + 1) % 5 + 4) % 5) ρ (((o + 1) % 5 + i) % 5)) (if i < 4 then A (i + 1) else a) ∧ RepM _ (if i < 4 then A (i + 1) else a)
        rw [if_pos q]
        refine ⟨k1, ?_, ?_⟩
        · unfold updS
          rw [if_neg (by omega), show ((o + 1) % 5 + i) % 5 = (o + (i + 1)) % 5 by omega]; exact k2
        · refine repM_congr k1.1 (fun j hj => ?_) k3
          show M_sv μ (514 * (i + 1) + j) = (if 514 * 4 + 0 ≤ 514 * i + j ∧ 514 * i + j < 514 * 4 + 514 then _ else (if 0 ≤ 514 * i + j ∧ 514 * i + j < 2056 then M_sv μ (514 + (514 * i + j)) else M_sv μ (514 * i + j)))
          rw [if_neg (by omega), if_pos (by omega)]; exact congrArg (M_sv μ) (by omega)
      · show GoodA (if i < 4 then A (i + 1) else a) ∧ RepS (updS (H_sv η) (((o + 1) % 5 + 4) % 5) ρ (((o + 1) % 5 + i) % 5)) (if i < 4 then A (i + 1) else a) ∧ RepM _ (if i < 4 then A (i + 1) else a)
        rw [if_neg q]
        refine ⟨⟨I, N⟩, ?_, ?_⟩
        · unfold updS
          rw [if_pos (by omega)]; exact g2
        · refine repM_congr I (fun j hj => ?_) M
          show M_row μ j = (if 514 * 4 + 0 ≤ 514 * i + j ∧ 514 * i + j < 514 * 4 + 514 then M_row μ (514 * i + j - 514 * 4) else _)
          rw [if_pos (by omega)]; exact congrArg (M_row μ) (by omega)
  · have hc4 : c ≤ 4 := by omega
    obtain ⟨ρ, g1, g2⟩ := sp_copy (σ := H_sv η ((o + c) % 5)) H I
    have f3 : fX1_savedAt η (iI (c : Int)) = some ((o + c) % 5) := sp_savedAt e2 ho hc
    refine ⟨H_cnt' (H_sv' η (updS (H_sv η) ((o + c) % 5) ρ)) (iI (c : Int) + (1 : Int32)), (fun j => if 514 * c + 0 ≤ j ∧ j < 514 * c + 514 then M_row μ (j - 514 * c) else M_sv μ j), iI ((c + 1 : Nat) : Int), ?_, ?_, ⟨c + 1, o, fun i => if i < c then A i else a, by omega, ho, iI_s c, e2, rfl, fun i hi => ?_⟩, rfl, rfl⟩
    · unfold fX1_save
      rw [if_neg (show ¬ H_cnt η = (5 : Int32) from by rw [e1, L5]; exact neq (by omega) (by omega) (by omega)), e1, f3]
      simp only [Option.bind_some]
      rw [g1]
      rfl
    · unfold fX7_records
      rw [if_neg (show ¬ M_sm μ = (5 : Int32) from by rw [e3, L5]; exact neq (by omega) (by omega) (by omega))]
      exact sm_rec51 hc4 514 0 FU μ (by omega) (FU_gt (by omega)) e3
    · show GoodA (if i < c then A i else a) ∧ RepS (updS (H_sv η) ((o + c) % 5) ρ ((o + i) % 5)) (if i < c then A i else a) ∧ RepM _ (if i < c then A i else a)
      by_cases q : i < c
      · obtain ⟨k1, k2, k3⟩ := hA i q
        rw [if_pos q]
        refine ⟨k1, ?_, ?_⟩
        · unfold updS
          rw [if_neg (by omega)]; exact k2
        · refine repM_congr k1.1 (fun j hj => ?_) k3
          show M_sv μ (514 * i + j) = (if 514 * c + 0 ≤ 514 * i + j ∧ 514 * i + j < 514 * c + 514 then _ else M_sv μ (514 * i + j))
          rw [if_neg (by omega)]
      · have hic : i = c := by omega
        rw [if_neg q, hic]
        refine ⟨⟨I, N⟩, ?_, ?_⟩
        · unfold updS
          rw [if_pos rfl]; exact g2
        · refine repM_congr I (fun j hj => ?_) M
          show M_row μ j = (if 514 * c + 0 ≤ 514 * c + j ∧ 514 * c + j < 514 * c + 514 then M_row μ (514 * c + j - 514 * c) else _)
          rw [if_pos (by omega)]; exact congrArg (M_row μ) (by omega)
theorem sm_undo30 {c : Nat} (hc : c ≤ 4) : ∀ (m v fu : Nat) (μ : Mo), v + m = 514 → m < fu → M_sm μ = iI c →
    fX7_undo_30 fu (iI v) μ = some (iI c, M_row' μ (fun j => if v ≤ j ∧ j < 514 then M_sv μ (514 * c + j) else M_row μ j)) := by
  intro m
  induction m with
  | zero =>
    intro v fu μ h1 h2 h3
    obtain ⟨f, rfl⟩ : ∃ f, fu = f + 1 := ⟨fu - 1, by omega⟩
    have e : (fun j => if v ≤ j ∧ j < 514 then M_sv μ (514 * c + j) else M_row μ j) = M_row μ := by
      funext j; rw [if_neg (by omega)]
    rw [fX7_undo_30, if_pos (show (514 : Int32) ≤ iI (v : Int) from by rw [show (514 : Int32) = iI 514 from rfl]; exact yle (by omega) (by omega) (by omega)), h3, e]
  | succ m ih =>
    intro v fu μ h1 h2 h3
    obtain ⟨f, rfl⟩ : ∃ f, fu = f + 1 := ⟨fu - 1, by omega⟩
    have e1 : (514 : Int32) * iI (c : Int) + iI (v : Int) = iI ((514 * c + v : Nat) : Int) := by
      rw [show (514 : Int32) = iI 514 from rfl, iI_mul, iI_add]; exact congrArg iI (by omega)
    rw [fX7_undo_30, if_neg (show ¬ (514 : Int32) ≤ iI (v : Int) from by rw [show (514 : Int32) = iI 514 from rfl]; exact nle (by omega) (by omega) (by omega)), h3, e1, if_pos (inR_iI (by omega) (by omega) (by omega)), if_pos (inR_iI (by omega) (by omega) (by omega)), tnN (by omega), tnN (by omega), iI_s, ih (v + 1) f _ (by omega) (by omega) (by exact h3)]
    have e : (fun j => if v + 1 ≤ j ∧ j < 514 then M_sv μ (514 * c + j) else (upd (M_row μ) v (M_sv μ (514 * c + v))) j) = (fun j => if v ≤ j ∧ j < 514 then M_sv μ (514 * c + j) else M_row μ j) := by
      funext j
      unfold upd
      by_cases q : j = v
      · rw [if_neg (by omega), if_pos q, if_pos (by omega), q]
      · by_cases r : v + 1 ≤ j ∧ j < 514
        · rw [if_pos r, if_pos (by omega)]
        · rw [if_neg r, if_neg q, if_neg (by omega)]
    show some (iI (c : Int), M_row' μ (fun j => if v + 1 ≤ j ∧ j < 514 then M_sv μ (514 * c + j) else (upd (M_row μ) v (M_sv μ (514 * c + v))) j)) = _
    rw [e]
