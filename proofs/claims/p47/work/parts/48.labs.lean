/-! counted labels, pairs too near, the model's changes -/
noncomputable def lbA (a : Ab) : Nat → Nat → Int → Int
  | 0, _, acc => acc
  | m + 1, i, acc => lbA a m (i + 1) (if ab a i = -1 then acc else acc + 1)
section LB
variable {σ : Sh} {a : Ab}
theorem sp_near (H : RepS σ a) (I : InvA a) {i j : Nat} (hi : i < an a) (hj : j < an a) : ∃ b, fX2_areTooNear σ (iI i) (iI j) = some b ∧ (b = true ↔ nearA a i j) := by
  have l1 := lab_rng I hi
  have l2 := lab_rng I hj
  have hg := I.2.2.1
  unfold fX2_areTooNear nearA
  rw [sp_labelIn H I hi, Option.bind_some]
  by_cases q1 : ab a i = -1
  · rw [if_pos (by rw [q1]; rfl)]; exact ⟨false, rfl, (fun h => by cases h), (fun h => absurd q1 h.1)⟩
  · rw [if_neg (by rw [Lm1]; exact neq (by omega) (by omega) q1), sp_labelIn H I hj, Option.bind_some]
    by_cases q2 : ab a j = -1
    · rw [if_pos (by rw [q2]; rfl)]; exact ⟨false, rfl, (fun h => by cases h), (fun h => absurd q2 h.2.1)⟩
    · have p1 := lab_pl I hi q1
      have p2 := lab_pl I hj q2
      have e := sp_distanceToLabel H I hi hj (p := (ab a i).toNat) p1.2.1 p2.1
      rw [p1.2.2.2] at e
      have hr := dl_rng I hi hj p1.2.1 p2.2.1
      rw [if_neg (by rw [Lm1]; exact neq (by omega) (by omega) q2), e, Option.bind_some, sp_gapWidth H, Option.bind_some]
      by_cases q3 : (ag a : Int) ≤ dlA a i (ab a i).toNat j (ab a j).toNat
      · rw [if_pos (yle (by omega) (by omega) q3)]; exact ⟨false, rfl, (fun h => by cases h), (fun h => by have := h.2.2; omega)⟩
      · rw [if_neg (nle (by omega) (by omega) (by omega))]; exact ⟨true, rfl, (fun _ => ⟨q1, q2, by omega⟩), (fun _ => rfl)⟩
theorem sp_lb_loop (H : RepS σ a) (I : InvA a) : ∀ (m i fu : Nat) (acc : Int), i + m = an a → m < fu → fX4_labelCount_4 σ fu (iI acc) (iI i) = some (iI (lbA a m i acc)) := by
  have h8 := I.1
  intro m
  induction m with
  | zero =>
    intro i fu acc h1 h2
    obtain ⟨f, rfl⟩ : ∃ f, fu = f + 1 := ⟨fu - 1, by omega⟩
    rw [fX4_labelCount_4, H.1, if_pos (yle (by omega) (by omega) (by omega)), lbA]
  | succ m ih =>
    intro i fu acc h1 h2
    obtain ⟨f, rfl⟩ : ∃ f, fu = f + 1 := ⟨fu - 1, by omega⟩
    have hi : i < an a := by omega
    have hl := lab_rng I hi
    rw [fX4_labelCount_4, H.1, if_neg (nle (by omega) (by omega) (by omega)), sp_labelIn H I hi, Option.bind_some, iI_s, iI_s', lbA]
    by_cases q : ab a i = -1
    · rw [if_pos (by rw [q]; rfl), if_pos q]; exact ih (i + 1) f acc (by omega) (by omega)
    · rw [if_neg (by rw [Lm1]; exact neq (by omega) (by omega) q), if_neg q]; exact ih (i + 1) f (acc + 1) (by omega) (by omega)
theorem sp_labelCount (H : RepS σ a) (I : InvA a) : fX4_labelCount σ = some (iI (lbA a (an a) 0 0)) := by
  have e := sp_lb_loop H I (an a) 0 FU 0 (by omega) (FU_gt (by have := I.1; omega))
  rw [Z0, Z0'] at e
  unfold fX4_labelCount
  exact e
end LB
