/-! what the law's entry holds: the classes, the arrays' classes, the words, the strings, the two static arrays -/
theorem arr_of {args : Array Value} {s : State} {ty : FieldType} (h : (Cond.arrayClass ty).before args s = true) : ∃ cA : ClassId, ArrOfT s cA ty ∧ s.vm.findClass ("[" ++ ty.toString) = some cA := by
  obtain ⟨cA, kA, comp, h1, h2, h3⟩ := Cond.arrayClass_spec h
  exact ⟨cA, fun n z => ⟨fun k h => (by cases h), kA, h2, comp, h3⟩, h1⟩
theorem arr_ofO {args : Array Value} {s : State} {C : String} (h : (Cond.arrayOver (.object C)).before args s = true) : ∃ cA : ClassId, ArrOfT s cA (.object C) ∧ va_RA s cA (.object C) := by
  obtain ⟨comp, cA, kA, h1, h2, h3, h4, h5⟩ := Cond.arrayOver_spec h
  exact ⟨cA, fun n z => ⟨fun k h => (by cases h), kA, h3, comp, h4⟩, kA, comp, h3, h4, h1, h5⟩
def gv1 : Cond := Jvm.Cond.and given_1 narrow_1
theorem nwl_in : ∀ w ∈ nwl, w ∈ lw_tbl := by decide +kernel
theorem ncl_in : ∀ q ∈ ncl, (Cond.not (.castable q.1 q.2)) ∈ flatC gv1 := by decide +kernel
theorem stl_in : ∀ q ∈ stl, (Cond.stringRef RX6 q.1 q.2) ∈ lw_tbl := by decide +kernel
theorem stl_ex : ∀ q ∈ stl, (Cond.exactly (.string RX6 q.1) "java/lang/String") ∈ flatC gv1 := by decide +kernel
theorem ac_in : (Cond.arrayOf (.static "ContourLabels" "ACROSS" "[I") .int) ∈ flatC gv1 ∧ (Cond.eq (.length (.static "ContourLabels" "ACROSS" "[I")) (.int (Int32.ofNat 8))) ∈ flatC gv1 ∧ (∀ j, j < 8 → (Cond.eq (.elem (.static "ContourLabels" "ACROSS" "[I") (.int (Int32.ofNat j))) (.int (([1, 1, 0, -1, -1, -1, 0, 1] : List Int32).getD j 0))) ∈ flatC gv1) := by decide +kernel
theorem dn_in : (Cond.arrayOf (.static "ContourLabels" "DOWN" "[I") .int) ∈ flatC gv1 ∧ (Cond.eq (.length (.static "ContourLabels" "DOWN" "[I")) (.int (Int32.ofNat 8))) ∈ flatC gv1 ∧ (∀ j, j < 8 → (Cond.eq (.elem (.static "ContourLabels" "DOWN" "[I") (.int (Int32.ofNat j))) (.int (([0, 1, 1, 1, 0, -1, -1, -1] : List Int32).getD j 0))) ∈ flatC gv1) := by decide +kernel
theorem zq_in : (Cond.isRef (.static Bundle.tN "UNASSIGNED_STACK" Bundle.steD)) ∈ flatC gv1 ∧ (Cond.isRef (.static Bundle.tN "SUPPRESSED_SENTINEL" Bundle.listD)) ∈ flatC gv1 := by decide +kernel
theorem tb_st : (Cond.laysStatic "ContourLabels" "ACROSS" "[I") ∈ lw_tbl ∧ (Cond.laysStatic "ContourLabels" "DOWN" "[I") ∈ lw_tbl ∧ (Cond.laysStatic Bundle.tN "UNASSIGNED_STACK" Bundle.steD) ∈ lw_tbl ∧ (Cond.laysStatic Bundle.tN "SUPPRESSED_SENTINEL" Bundle.listD) ∈ lw_tbl ∧ (Cond.initialized "ContourLabels") ∈ lw_tbl ∧ (Cond.initialized Bundle.tN) ∈ lw_tbl := by decide +kernel
theorem tb_ar : (Cond.arrayClass .int) ∈ lw_tbl ∧ (Cond.arrayClass .long) ∈ lw_tbl ∧ (Cond.arrayOver (.object "ContourLabels$Sheet")) ∈ lw_tbl := by decide +kernel
theorem tb_in : (Cond.instantiable RX0 3) ∈ lw_tbl ∧ (Cond.instantiable RX1 5) ∈ lw_tbl ∧ (Cond.instantiable RX3 8) ∈ lw_tbl ∧ (Cond.instantiable RX4 6) ∈ lw_tbl ∧ (Cond.instantiable RX6 4) ∈ lw_tbl := by decide +kernel
theorem lw_env {s : State} {b : Nat} (hts : ∀ w ∈ lw_tbl, w.before #[Value.ref b] s = true) (hgv : (Jvm.Cond.and given_1 narrow_1).before #[Value.ref b] s = true) : ∃ g : Gg, EV g s ∧ SZ g (fun q => s.heap.size ≤ q) s s.heap := by
  have hf : ∀ w ∈ flatC gv1, w.before #[Value.ref b] s = true := flat_of_before gv1 hgv
  obtain ⟨t1, t2, t3, t4, t5⟩ := tb_in
  obtain ⟨c0, i0, k0⟩ := u_known (C := RX0) (T := TX0) (N := 3) (n := 3) hts inX0 (hts _ t1)
  obtain ⟨c1, i1, k1⟩ := u_known (C := RX1) (T := TX1) (N := 5) (n := 5) hts inX1 (hts _ t2)
  obtain ⟨c3, i3, k3⟩ := u_known (C := RX3) (T := TX3) (N := 8) (n := 8) hts inX3 (hts _ t3)
  obtain ⟨c4, i4, k4⟩ := u_known (C := RX4) (T := TX4) (N := 6) (n := 6) hts inX4 (hts _ t4)
  obtain ⟨c6, i6, k6⟩ := u_known (C := RX6) (T := TX6) (N := 4) (n := 4) hts inX6 (hts _ t5)
  obtain ⟨dC, dI, hKc⟩ : ∃ (dC : Nat → ClassId) (dI : Nat → Nat → Nat), ∀ (k : Nat) (q : vw_C), vwCl[k]? = some q → u_Kn s q.1 q.2.1 q.2.2 (dC k) (dI k) := by
    refine ⟨fun k => if k = 0 then c0 else if k = 1 then c1 else if k = 2 then c3 else if k = 3 then c4 else c6, fun k => if k = 0 then i0 else if k = 1 then i1 else if k = 2 then i3 else if k = 3 then i4 else i6, ?_⟩
    intro k q hq
    match k, hq with
    | 0, hq => cases hq; exact k0
    | 1, hq => cases hq; exact k1
    | 2, hq => cases hq; exact k3
    | 3, hq => cases hq; exact k4
    | 4, hq => cases hq; exact k6
    | k + 5, hq => simp [vwCl] at hq
  obtain ⟨a1, a2, a4⟩ := tb_ar
  obtain ⟨aI, aI1, aI2⟩ := arr_of (hts _ a1)
  obtain ⟨aL, aL1, aL2⟩ := arr_of (hts _ a2)
  obtain ⟨aQ, aQ1, aQ2⟩ := arr_ofO (hts _ a4)
  have hA : ∀ a : Nat, a < s.heap.size → ¬ (fun q => s.heap.size ≤ q) a := fun a h => Nat.not_le.mpr h
  obtain ⟨x1, x2, x3⟩ := ac_in
  obtain ⟨tA, eA, TA⟩ := va_Tof (s := s) (args := #[Value.ref b]) (tm := .static "ContourLabels" "ACROSS" "[I") (ty := .int) (N := 8) (f := tAC) (A := fun q => s.heap.size ≤ q) (by decide) (hf _ x1) (va_eqt (hf _ x2)) (fun j hj => va_eqt (hf _ (x3 j hj))) hA
  obtain ⟨y1, y2, y3⟩ := dn_in
  obtain ⟨tD, eD, TD⟩ := va_Tof (s := s) (args := #[Value.ref b]) (tm := .static "ContourLabels" "DOWN" "[I") (ty := .int) (N := 8) (f := tDN) (A := fun q => s.heap.size ≤ q) (by decide) (hf _ y1) (va_eqt (hf _ y2)) (fun j hj => va_eqt (hf _ (y3 j hj))) hA
  obtain ⟨s1, s2, s3, s4, s5, s6⟩ := tb_st
  have ZA := va_Zof (A := fun q => s.heap.size ≤ q) (hts _ s1) (hts _ s5) eA hA
  have ZD := va_Zof (A := fun q => s.heap.size ≤ q) (hts _ s2) (hts _ s5) eD hA
  have ZU := vx_Zqof (A := fun q => s.heap.size ≤ q) (hts _ s3) (hts _ s6) (hf _ zq_in.1) hA
  have ZS := vx_Zqof (A := fun q => s.heap.size ≤ q) (hts _ s4) (hts _ s6) (hf _ zq_in.2) hA
  have hs : ∀ k : Nat, ∃ a : Nat, (∃ q ∈ stl, q.1 = k) → (Term.string RX6 k).eval #[Value.ref b] s none [] s = some (.ref a) := by
    intro k
    by_cases h : ∃ q ∈ stl, q.1 = k
    · obtain ⟨q, hq, rfl⟩ := h
      obtain ⟨a, c, cA, kA, q1, -⟩ := Cond.exactly_spec (args := #[Value.ref b]) (first := s) (o := none) (s := s) (idx := []) (t := .string RX6 q.1) (cls := "java/lang/String") (hf _ (stl_ex q hq))
      exact ⟨a, fun _ => q1⟩
    · exact ⟨0, fun h' => absurd h' h⟩
  obtain ⟨ad, had⟩ := Classical.axiomOfChoice hs
  refine ⟨((dC, dI), (fun k => if k = 0 then aI else if k = 1 then aQ else aL), (fun k => if k = 0 then tA else if k = 1 then tD else ad (k - 100))), ⟨⟨hKc, ?_⟩, ?_, ?_, ?_, ?_⟩, ZA, TA, ZD, TD, ZU, ZS⟩
  · intro k q hq
    match k, hq with
    | 0, hq => cases hq; exact ⟨aI1, aI2⟩
    | 1, hq => cases hq; exact ⟨aQ1, aQ2⟩
    | 2, hq => cases hq; exact ⟨aL1, aL2⟩
    | k + 3, hq => simp [tz] at hq
  · intro w hw
    exact va_Nw.of (nwl_ot w hw) (hts w (nwl_in w hw))
  · intro q hq
    have e : (if 100 + q.1 = 0 then tA else if 100 + q.1 = 1 then tD else ad (100 + q.1 - 100)) = ad q.1 := by
      rw [if_neg (by omega), if_neg (by omega), show 100 + q.1 - 100 = q.1 by omega]
    show vk_R RX6 q.1 q.2 (if 100 + q.1 = 0 then tA else if 100 + q.1 = 1 then tD else ad (100 + q.1 - 100)) s
    rw [e]
    exact vk_R.of (hts _ (stl_in q hq)) (had q.1 ⟨q, hq, rfl⟩)
  · intro q hq
    exact va_Nc.of (hf _ (ncl_in q hq))
  · exact va_AO.of (hts _ a4)
theorem traces0 (l : Launch) (h : l.flags = flags0) : l.stackTraces = false := by
  show (!l.flags.contains noTraceFlag) = false
  rw [h]
  decide +kernel
/-! the start values stand beside each other -/
theorem la_start : LA S00 H00 (upd (fun _ => (0 : Int32)) (Int32.toNatClampNeg (33 : Int32)) (2 : Int32)) (fun _ => (0 : Int64)) (0, 2, fun _ => 0, fun _ => 0, fun _ => 0, fun _ _ => 0) := by
  refine ⟨⟨⟨rfl, rfl, fun k hk => absurd hk (Nat.not_lt_zero _)⟩, ⟨⟨by show 0 ≤ 8; omega, by show 1 ≤ 2; omega, by show 2 ≤ 6; omega, fun k hk => absurd hk (Nat.not_lt_zero _), fun k _ _ hk => absurd hk (Nat.not_lt_zero _), fun k _ _ _ hk => absurd hk (Nat.not_lt_zero _)⟩, fun k _ _ _ hk => absurd hk (Nat.not_lt_zero _)⟩, ⟨0, 0, by omega, by omega, rfl, rfl⟩⟩, ⟨?_, ?_, fun k hk => absurd hk (Nat.not_lt_zero _)⟩⟩
  · rw [show Int32.toNatClampNeg (33 : Int32) = 33 from rfl, upd_ne (by omega)]; rfl
  · rw [show Int32.toNatClampNeg (33 : Int32) = 33 from rfl, upd_eq]; rfl
