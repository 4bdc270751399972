/-! the model wipes a line -/
theorem sm_w7 (x : Int32) : ∀ (m v fu : Nat) (μ : Mo), v + m = 450 → m < fu →
    fX7_wipes_7 x fu (iI v) μ = fX7_wipes_39 x FU (450 : Int32) (M_row' μ (fun j => if v ≤ j ∧ j < 450 then M_row μ (j + 64) else M_row μ j)) := by
  intro m
  induction m with
  | zero =>
    intro v fu μ h1 h2
    obtain ⟨f, rfl⟩ : ∃ f, fu = f + 1 := ⟨fu - 1, by omega⟩
    have e : (fun j => if v ≤ j ∧ j < 450 then M_row μ (j + 64) else M_row μ j) = M_row μ := by
      funext j; rw [if_neg (by omega)]
    rw [fX7_wipes_7, if_pos (show (450 : Int32) ≤ iI (v : Int) from by rw [show (450 : Int32) = iI 450 from rfl]; exact yle (by omega) (by omega) (by omega)), e]
  | succ m ih =>
    intro v fu μ h1 h2
    obtain ⟨f, rfl⟩ : ∃ f, fu = f + 1 := ⟨fu - 1, by omega⟩
    have e1 : iI (v : Int) + (64 : Int32) = iI ((v + 64 : Nat) : Int) := by
      rw [L64, iI_add]; exact congrArg iI (by omega)
    rw [fX7_wipes_7, if_neg (show ¬ (450 : Int32) ≤ iI (v : Int) from by rw [show (450 : Int32) = iI 450 from rfl]; exact nle (by omega) (by omega) (by omega)), e1, if_pos (inR_iI (by omega) (by omega) (by omega)), if_pos (inR_iI (by omega) (by omega) (by omega)), tnN (by omega), tnN (by omega), iI_s, ih (v + 1) f _ (by omega) (by omega)]
    have e : (fun j => if v + 1 ≤ j ∧ j < 450 then (upd (M_row μ) v (M_row μ (v + 64))) (j + 64) else (upd (M_row μ) v (M_row μ (v + 64))) j) = (fun j => if v ≤ j ∧ j < 450 then M_row μ (j + 64) else M_row μ j) := by
      funext j
      unfold upd
      by_cases q : j = v
      · rw [if_neg (by omega), if_pos q, if_pos (by omega), q]
      · by_cases r : v + 1 ≤ j ∧ j < 450
        · rw [if_pos r, if_neg (by omega), if_pos (by omega)]
        · rw [if_neg r, if_neg q, if_neg (by omega)]
    show fX7_wipes_39 x FU (450 : Int32) (M_row' μ (fun j => if v + 1 ≤ j ∧ j < 450 then (upd (M_row μ) v (M_row μ (v + 64))) (j + 64) else (upd (M_row μ) v (M_row μ (v + 64))) j)) = _
    rw [e]
