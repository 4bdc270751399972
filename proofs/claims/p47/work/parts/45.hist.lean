/-! copies, wiping, the history: both sides -/
theorem tnN {x : Nat} (h : x < 2147483648) : (iI (x : Int)).toNatClampNeg = x := by rw [iI_tn (by omega) (by omega)]; omega
theorem cpy0 {f g : Nat → Int32} {n i : Nat} (h : i < n) : va_cpy f g 0 0 n i = f i := by
  unfold va_cpy
  rw [if_pos ⟨Nat.zero_le _, by omega⟩]
  exact congrArg f (by omega)
section HI
variable {σ ρ : Sh} {a : Ab}
theorem sp_copyFrom (H : RepS ρ a) (I : InvA a) : ∃ σ', fX4_copyFrom σ ρ = some σ' ∧ RepS σ' a := by
  refine ⟨S_pt' (S_lb' (S_sc' (S_lv' (S_gap' (S_n' σ (S_n ρ)) (S_gap ρ)) (va_cpy (S_lv ρ) (S_lv σ) 0 0 8)) (va_cpy (S_sc ρ) (S_sc σ) 0 0 8)) (va_cpy (S_lb ρ) (S_lb σ) 0 0 8)) (va_cpy (S_pt ρ) (S_pt σ) 0 0 488), rfl, H.1, H.2.1, fun i hi => ?_⟩
  have h8 := I.1
  have h60 := (I.2.2.2.1 i hi).2.1
  obtain ⟨h1, h2, h3, h4⟩ := H.2.2 i hi
  exact ⟨(cpy0 (f := S_lv ρ) (g := S_lv σ) (n := 8) (by omega)).trans h1, (cpy0 (f := S_sc ρ) (g := S_sc σ) (n := 8) (by omega)).trans h2, (cpy0 (f := S_lb ρ) (g := S_lb σ) (n := 8) (by omega)).trans h3, fun j hj => (cpy0 (f := S_pt ρ) (g := S_pt σ) (n := 488) (by omega)).trans (h4 j hj)⟩
theorem sp_copy (H : RepS ρ a) (I : InvA a) : ∃ σ', fX1_copy σ ρ = some σ' ∧ RepS σ' a := by
  obtain ⟨s, h1, h2⟩ := sp_copyFrom (σ := σ) H I
  exact ⟨s, by unfold fX1_copy; rw [h1]; rfl, h2⟩
theorem cu_e {n k : Nat} (hn : n ≤ 8) (hk : k < n) (w : Nat) (hw : w ≤ 100) : (iI (k : Int) + (1 : Int32)) * iI (w : Int) = iI (((k + 1) * w : Nat) : Int) ∧ iI (k : Int) * iI (w : Int) = iI ((k * w : Nat) : Int) ∧ (iI (n : Int) - iI (k : Int) - (1 : Int32)) * iI (w : Int) = iI (((n - k - 1) * w : Nat) : Int) := by
  refine ⟨?_, ?_, ?_⟩
  · rw [L1, iI_add, iI_mul]; exact congrArg iI (by rw [Int.natCast_mul]; rfl)
  · rw [iI_mul]; exact congrArg iI (by rw [Int.natCast_mul])
  · rw [L1, iI_sub, iI_sub, iI_mul]; exact congrArg iI (by rw [Int.natCast_mul, show ((n - k - 1 : Nat) : Int) = (n : Int) - k - 1 by omega])
theorem cu1 {n k : Nat} (h : S_n σ = iI n) (hn : n ≤ 8) (hk : k < n) : fX4_closeUp_a1 σ (iI k) (1 : Int32) = some (S_lv' σ (va_cpy (S_lv σ) (S_lv σ) ((k + 1) * 1) (k * 1) ((n - k - 1) * 1))) := by
  obtain ⟨e1, e2, e3⟩ := cu_e hn hk 1 (by omega)
  have e1' : (iI (k : Int) + (1 : Int32)) * (1 : Int32) = iI (((k + 1) * 1 : Nat) : Int) := e1
  have e2' : iI (k : Int) * (1 : Int32) = iI ((k * 1 : Nat) : Int) := e2
  have e3' : (iI (n : Int) - iI (k : Int) - (1 : Int32)) * (1 : Int32) = iI (((n - k - 1) * 1 : Nat) : Int) := e3
  unfold fX4_closeUp_a1
  rw [h, e1', e2', e3', tnN (by omega), tnN (by omega), tnN (by omega), if_pos ⟨nlt0 (by omega), nlt0 (by omega), nlt0 (by omega), by omega, by omega⟩]
theorem cu2 {n k : Nat} (h : S_n σ = iI n) (hn : n ≤ 8) (hk : k < n) : fX4_closeUp_a2 σ (iI k) (1 : Int32) = some (S_sc' σ (va_cpy (S_sc σ) (S_sc σ) ((k + 1) * 1) (k * 1) ((n - k - 1) * 1))) := by
  obtain ⟨e1, e2, e3⟩ := cu_e hn hk 1 (by omega)
  have e1' : (iI (k : Int) + (1 : Int32)) * (1 : Int32) = iI (((k + 1) * 1 : Nat) : Int) := e1
  have e2' : iI (k : Int) * (1 : Int32) = iI ((k * 1 : Nat) : Int) := e2
  have e3' : (iI (n : Int) - iI (k : Int) - (1 : Int32)) * (1 : Int32) = iI (((n - k - 1) * 1 : Nat) : Int) := e3
  unfold fX4_closeUp_a2
  rw [h, e1', e2', e3', tnN (by omega), tnN (by omega), tnN (by omega), if_pos ⟨nlt0 (by omega), nlt0 (by omega), nlt0 (by omega), by omega, by omega⟩]
theorem cu3 {n k : Nat} (h : S_n σ = iI n) (hn : n ≤ 8) (hk : k < n) : fX4_closeUp_a3 σ (iI k) (1 : Int32) = some (S_lb' σ (va_cpy (S_lb σ) (S_lb σ) ((k + 1) * 1) (k * 1) ((n - k - 1) * 1))) := by
  obtain ⟨e1, e2, e3⟩ := cu_e hn hk 1 (by omega)
  have e1' : (iI (k : Int) + (1 : Int32)) * (1 : Int32) = iI (((k + 1) * 1 : Nat) : Int) := e1
  have e2' : iI (k : Int) * (1 : Int32) = iI ((k * 1 : Nat) : Int) := e2
  have e3' : (iI (n : Int) - iI (k : Int) - (1 : Int32)) * (1 : Int32) = iI (((n - k - 1) * 1 : Nat) : Int) := e3
  unfold fX4_closeUp_a3
  rw [h, e1', e2', e3', tnN (by omega), tnN (by omega), tnN (by omega), if_pos ⟨nlt0 (by omega), nlt0 (by omega), nlt0 (by omega), by omega, by omega⟩]
theorem cu4 {n k : Nat} (h : S_n σ = iI n) (hn : n ≤ 8) (hk : k < n) : fX4_closeUp_a4 σ (iI k) (61 : Int32) = some (S_pt' σ (va_cpy (S_pt σ) (S_pt σ) ((k + 1) * 61) (k * 61) ((n - k - 1) * 61))) := by
  obtain ⟨e1, e2, e3⟩ := cu_e hn hk 61 (by omega)
  have e1' : (iI (k : Int) + (1 : Int32)) * (61 : Int32) = iI (((k + 1) * 61 : Nat) : Int) := e1
  have e2' : iI (k : Int) * (61 : Int32) = iI ((k * 61 : Nat) : Int) := e2
  have e3' : (iI (n : Int) - iI (k : Int) - (1 : Int32)) * (61 : Int32) = iI (((n - k - 1) * 61 : Nat) : Int) := e3
  unfold fX4_closeUp_a4
  rw [h, e1', e2', e3', tnN (by omega), tnN (by omega), tnN (by omega), if_pos ⟨nlt0 (by omega), nlt0 (by omega), nlt0 (by omega), by omega, by omega⟩]
theorem cpyw {f : Nat → Int32} {n k i : Nat} (hk : k < n) (hi : i < n - 1) : va_cpy f f ((k + 1) * 1) (k * 1) ((n - k - 1) * 1) i = f (if i < k then i else i + 1) := by
  unfold va_cpy
  by_cases q : i < k
  · rw [if_neg (by omega), if_pos q]
  · rw [if_pos (by omega), if_neg q]; exact congrArg f (by omega)
theorem cpyw61 {f : Nat → Int32} {n k i j : Nat} (hk : k < n) (hi : i < n - 1) (hj : j < 61) : va_cpy f f ((k + 1) * 61) (k * 61) ((n - k - 1) * 61) (61 * i + j) = f (61 * (if i < k then i else i + 1) + j) := by
  unfold va_cpy
  by_cases q : i < k
  · rw [if_neg (by omega), if_pos q]
  · rw [if_pos (by omega), if_neg q]; exact congrArg f (by omega)
theorem sp_removeLine (H : RepS σ a) (I : InvA a) {k : Nat} (hk : k < an a) : ∃ σ', fX4_removeLine σ (iI k) = some (true, σ') ∧ RepS σ' (aWipe a k) := by
  have h8 := I.1
  obtain ⟨b, hb, ib⟩ := sp_hasLine H I (z := k) (by omega)
  have hbt : b = true := ib.mpr (by omega)
  subst hbt
  have hn := H.1
  refine ⟨S_n' (S_pt' (S_lb' (S_sc' (S_lv' σ (va_cpy (S_lv σ) (S_lv σ) ((k + 1) * 1) (k * 1) ((an a - k - 1) * 1))) (va_cpy (S_sc σ) (S_sc σ) ((k + 1) * 1) (k * 1) ((an a - k - 1) * 1))) (va_cpy (S_lb σ) (S_lb σ) ((k + 1) * 1) (k * 1) ((an a - k - 1) * 1))) (va_cpy (S_pt σ) (S_pt σ) ((k + 1) * 61) (k * 61) ((an a - k - 1) * 61))) (S_n σ - (1 : Int32)), ?_, ?_, H.2.1, fun i hi => ?_⟩
  · unfold fX4_removeLine
    rw [hb]
    simp only [Option.bind_some]
    rw [if_pos trivial, cu1 hn h8 hk]
    simp only [Option.bind_some]
    rw [cu2 (n := an a) (by exact hn) h8 hk]
    simp only [Option.bind_some]
    rw [cu3 (n := an a) (by exact hn) h8 hk]
    simp only [Option.bind_some]
    rw [cu4 (n := an a) (by exact hn) h8 hk]
    rfl
  · show S_n σ - (1 : Int32) = iI ((an a - 1 : Nat) : Int)
    rw [hn, L1, iI_sub]; exact congrArg iI (by omega)
  · have hi' : i < an a - 1 := hi
    have hs : (if i < k then i else i + 1) < an a := by split <;> omega
    obtain ⟨h1, h2, h3, h4⟩ := H.2.2 _ hs
    have h60 := (I.2.2.2.1 _ hs).2.1
    have el : al (aWipe a k) i = al a (if i < k then i else i + 1) := by show (if i < k then al a i else al a (i + 1)) = _; split <;> rfl
    have eh : ah (aWipe a k) i = ah a (if i < k then i else i + 1) := by show (if i < k then ah a i else ah a (i + 1)) = _; split <;> rfl
    have eb : ab (aWipe a k) i = ab a (if i < k then i else i + 1) := by show (if i < k then ab a i else ab a (i + 1)) = _; split <;> rfl
    have ep : ∀ j, ap (aWipe a k) i j = ap a (if i < k then i else i + 1) j := by intro j; show (if i < k then ap a i j else ap a (i + 1) j) = _; split <;> rfl
    rw [el, eh, eb]
    refine ⟨(cpyw (f := S_lv σ) hk hi').trans h1, (cpyw (f := S_sc σ) hk hi').trans h2, (cpyw (f := S_lb σ) hk hi').trans h3, fun j hj => ?_⟩
    rw [ep]
    exact (cpyw61 (f := S_pt σ) hk hi' (by omega)).trans (h4 j hj)
end HI
/-! the history: the component's ring of sheets beside the model's slices -/
/-- no two steps of a line cross -/
def NoX (a : Ab) : Prop := ∀ k i j, k < an a → i < ah a k → j < ah a k → drA a k i % 2 = 1 → ¬ jnA a k ((ap a k i : Int) + acI (drA a k i)) ((ap a k i : Int) + 24 * dnI (drA a k i)) j
def GoodA (a : Ab) : Prop := InvA a ∧ NoX a
theorem sp_savedAt {η : Hi} {o i : Nat} (ho : H_old η = iI o) (h1 : o < 5) (h2 : i ≤ 5) : fX1_savedAt η (iI i) = some ((o + i) % 5) := by
  have e : irm (iI (o : Int) + iI (i : Int)) (5 : Int32) = iI (((o + i) % 5 : Nat) : Int) := by
    rw [iI_add, show (5 : Int32) = iI 5 from rfl, iI_irm (by omega) (by omega)]; exact congrArg iI (by omega)
  unfold fX1_savedAt
  rw [ho, e, if_pos (inR_iI (by omega) (by omega) (by omega)), tnN (by omega)]
