/-! YOUR PART: from the law's entry to its loop -/
theorem lg_X6_0 : (Cond.classLink RL 8 RX6) ∈ lw_tbl ∧ (Cond.initialized RX6) ∈ lw_tbl ∧ (Cond.methodLink RL 126 yX6_init) ∈ lw_tbl ∧ (Cond.instanceMethod yX6_init) ∈ lw_tbl ∧ (Cond.classLink RL 127 RX7) ∈ lw_tbl ∧ (Cond.initialized RX7) ∈ lw_tbl ∧ (Cond.methodLink RL 129 yX7_init) ∈ lw_tbl ∧ (Cond.instanceMethod yX7_init) ∈ lw_tbl := by decide +kernel
set_option maxHeartbeats 40000000 in
set_option maxRecDepth 100000 in
theorem whole_start {p : Program} {e : Env} {s : State} {m : MethodId} {below : List Frame} {meth : Method} {c : Code} (l : Launch) (hflags : l.flags = flags0) {b L : Nat} {xs : Nat → Int32} (hL : L ≤ 1536) (C0 : lw_At p s m meth c b L xs) : W p l e room_1 s m #[Value.ref b] below meth c s.heap [] 0 0 (lw_Z below #[Value.ref b] s) (entryFrame m ([Value.ref b] : List Value).toArray 9) := by
  obtain ⟨hx, hb, hr, hml, hown, hts0, hX, hbl, hlocks, hgv⟩ := id C0
  have hl0 := traces0 l hflags
  obtain ⟨g, hE, hZ⟩ := lw_env hts0 hgv
  obtain ⟨n1, n2, n3, n4, n5, n6, n7, n8⟩ := lg_X6_0
  obtain ⟨t1, t2, t3, t4, t5, t6⟩ := tb_in
  obtain ⟨a1, a2, a3, a4⟩ := tb_ar
  have hts : ∀ w ∈ wsL_law, w.before #[Value.ref b] s = true := fun w h => hts0 w (wsL_law_in w h)
  have hown : s.vm.findClass RL = some m.cls := hown
  generalize hAe : (fun q : Nat => s.heap.size ≤ q) = A at hZ
  have hA : ∀ q : Nat, s.heap.size ≤ q → A q := fun q h => by rw [← hAe]; exact h
  have hAl : ∀ q : Nat, A q → s.heap.size ≤ q := fun q h => by rw [← hAe] at h; exact h
  have hbA : ¬ A b := fun h => absurd (hAl b h) (Nat.not_le.mpr hbl)
  have hS : va_S A s.heap s.heap [] := va_S.rf
  have hP : va_P g.1 vwCl ([] : va_W) s.heap := fun k q h => by simp at h
  have hD : va_D A ([] : va_W) := ⟨fun i j p q h => by simp at h, fun k q h => by simp at h⟩
  have hl := lv_entry ([.ref b]) (n := 9) (Nat.le_of_ble_eq_true rfl)
  rw [lg_entry_eq]
  generalize (lg_sl ([.ref b]) ++ List.replicate (9 - (lg_sl ([.ref b])).length) Slot.unset).toArray = ls at hl ⊢
  have hl : lv_has ls 9 [(0, .ref b)] := hl
  refine va_new (ci := 4) (fs := [.null, .null, .null, .null]) (C := RX6) (T := TX6) (N := 4) hx hb hts0 inX6 tyX6 tyX6_ok hown (hts0 _ n1) (hts0 _ t5) (hts0 _ n2) hE.1 hP hD hS hA rfl (fun j hj => by rcases (show j = 0 ∨ j = 1 ∨ j = 2 ∨ j = 3 by omega) with rfl | rfl | rfl | rfl <;> rfl) (Nat.le_of_ble_eq_true rfl) (Nat.le_of_ble_eq_true rfl) dL_law_0 (fun c0 H hP hD hS => ?_)
  have hP : va_P g.1 vwCl ([(c0, .inr (4, [.null, .null, .null, .null]))] : va_W) H := hP
  have hD : va_D A ([(c0, .inr (4, [.null, .null, .null, .null]))] : va_W) := hD
  refine lv_dup hx hb dL_law_3 rfl ?_
  refine mcallIv (W0 := ([(c0, .inr (4, [.null, .null, .null, .null]))] : va_W)) (Wc := ([(c0, .inr (4, [.null, .null, .null, .null]))] : va_W)) (Wr := ([] : va_W)) (W1 := fun u : Nat × (Nat × Nat × Nat × Nat) × Nat × (Nat × (Nat → Nat → Nat)) × Nat × Nat × Nat × (Nat × Nat) => wC c0 u.1 u.2.2.1 u.2.2.2.2.1 u.2.2.2.2.2.2.1 ++ (wS g u.1 u.2.1.1 u.2.1.2.1 u.2.1.2.2.1 u.2.1.2.2.2 S00 ++ (wH g u.2.2.1 u.2.2.2.1.1 u.2.2.2.1.2 H00 ++ (wX g u.2.2.2.2.1 u.2.2.2.2.2.1 X00 ++ (wD g u.2.2.2.2.2.2.1 u.2.2.2.2.2.2.2.1 u.2.2.2.2.2.2.2.2 D00))))) (W2 := fun u : Nat × (Nat × Nat × Nat × Nat) × Nat × (Nat × (Nat → Nat → Nat)) × Nat × Nat × Nat × (Nat × Nat) => wC c0 u.1 u.2.2.1 u.2.2.2.2.1 u.2.2.2.2.2.2.1 ++ (wS g u.1 u.2.1.1 u.2.1.2.1 u.2.1.2.2.1 u.2.1.2.2.2 S00 ++ (wH g u.2.2.1 u.2.2.2.1.1 u.2.2.2.1.2 H00 ++ (wX g u.2.2.2.2.1 u.2.2.2.2.2.1 X00 ++ (wD g u.2.2.2.2.2.2.1 u.2.2.2.2.2.2.2.1 u.2.2.2.2.2.2.2.2 D00))))) (As := []) (rest := [.ref c0]) [0] [] [0, 1, 2, 3, 4, 5, 6, 7, 8, 9, 10, 11, 12, 13, 14, 15, 16, 17, 18, 19, 20, 21, 22, 23, 24, 25, 26, 27, 28, 29, 30, 31, 32, 33, 34, 35, 36, 37, 38, 39, 40, 41, 42] ⟨hx, hb, hml, hown, hts⟩ hP hD hE hZ hS hA (cX6_init_ok l g c0 _) (cwI 0 hts gL_law_X6_init rfl rfl rfl (hts0 _ n2) (hts0 _ n3) (hts0 _ n4) rfl (by decide +kernel) ⟨(Nat.le_of_ble_eq_true rfl), (Nat.le_of_ble_eq_true rfl)⟩) rfl rfl (fun _ => rfl) (by decide) (by decide) (by decide) (by decide) rfl hl.1 rfl (Nat.le_of_ble_eq_true rfl) ⟨(Nat.le_of_ble_eq_true rfl), (Nat.le_of_ble_eq_true rfl)⟩ dL_law_4 (fun u H locs hP hD hS => ?_)
  obtain ⟨h, ⟨b1, b2, b3, b4⟩, k0, ⟨k1, γ⟩, x0, x1, d0, d1, d2⟩ := u
  have hP : va_P g.1 vwCl (wC c0 h k0 x0 d0 ++ (wS g h b1 b2 b3 b4 S00 ++ (wH g k0 k1 γ H00 ++ (wX g x0 x1 X00 ++ (wD g d0 d1 d2 D00))))) H := hP
  have hD : va_D A (wC c0 h k0 x0 d0 ++ (wS g h b1 b2 b3 b4 S00 ++ (wH g k0 k1 γ H00 ++ (wX g x0 x1 X00 ++ (wD g d0 d1 d2 D00))))) := hD
  refine lv_astore_n (lv' := [(1, .ref c0), (0, .ref b)]) hx hb dL_law_7 rfl hl (by decide) rfl (fun ls hl => ?_)
  refine va_new (ci := 5) (fs := [.null, .null, .int 0, .null, .int 0, .null, .int 0, .int 0, .int 0, .int 0, .int 0, .int 0, .int 0]) (C := RX7) (T := TX7) (N := 13) hx hb hts0 inX7 tyX7 tyX7_ok hown (hts0 _ n5) (hts0 _ t6) (hts0 _ n6) hE.1 hP hD hS hA rfl (fun j hj => by rcases (show j = 0 ∨ j = 1 ∨ j = 2 ∨ j = 3 ∨ j = 4 ∨ j = 5 ∨ j = 6 ∨ j = 7 ∨ j = 8 ∨ j = 9 ∨ j = 10 ∨ j = 11 ∨ j = 12 by omega) with rfl | rfl | rfl | rfl | rfl | rfl | rfl | rfl | rfl | rfl | rfl | rfl | rfl <;> rfl) (Nat.le_of_ble_eq_true rfl) (Nat.le_of_ble_eq_true rfl) dL_law_8 (fun m0 H hP hD hS => ?_)
  have hP : va_P g.1 vwCl (wC c0 h k0 x0 d0 ++ (wS g h b1 b2 b3 b4 S00 ++ (wH g k0 k1 γ H00 ++ (wX g x0 x1 X00 ++ (wD g d0 d1 d2 D00 ++ ([(m0, .inr (5, [.null, .null, .int 0, .null, .int 0, .null, .int 0, .int 0, .int 0, .int 0, .int 0, .int 0, .int 0]))] : va_W)))))) H := hP
  have hD : va_D A (wC c0 h k0 x0 d0 ++ (wS g h b1 b2 b3 b4 S00 ++ (wH g k0 k1 γ H00 ++ (wX g x0 x1 X00 ++ (wD g d0 d1 d2 D00 ++ ([(m0, .inr (5, [.null, .null, .int 0, .null, .int 0, .null, .int 0, .int 0, .int 0, .int 0, .int 0, .int 0, .int 0]))] : va_W)))))) := hD
  refine lv_dup hx hb dL_law_11 rfl ?_
  refine mcallIv (W0 := wC c0 h k0 x0 d0 ++ (wS g h b1 b2 b3 b4 S00 ++ (wH g k0 k1 γ H00 ++ (wX g x0 x1 X00 ++ (wD g d0 d1 d2 D00 ++ ([(m0, .inr (5, [.null, .null, .int 0, .null, .int 0, .null, .int 0, .int 0, .int 0, .int 0, .int 0, .int 0, .int 0]))] : va_W)))))) (Wc := ([(m0, .inr (5, [.null, .null, .int 0, .null, .int 0, .null, .int 0, .int 0, .int 0, .int 0, .int 0, .int 0, .int 0]))] : va_W)) (Wr := wC c0 h k0 x0 d0 ++ (wS g h b1 b2 b3 b4 S00 ++ (wH g k0 k1 γ H00 ++ (wX g x0 x1 X00 ++ (wD g d0 d1 d2 D00))))) (W1 := fun v : Nat × Nat × Nat × Nat => wM g m0 v.1 v.2.1 v.2.2.1 v.2.2.2 M00) (W2 := fun v : Nat × Nat × Nat × Nat => wC c0 h k0 x0 d0 ++ (wS g h b1 b2 b3 b4 S00 ++ (wH g k0 k1 γ H00 ++ (wX g x0 x1 X00 ++ (wD g d0 d1 d2 D00 ++ (wM g m0 v.1 v.2.1 v.2.2.1 v.2.2.2 M00)))))) (As := []) (rest := [.ref m0]) [43] [0, 1, 2, 3, 4, 5, 6, 7, 8, 9, 10, 11, 12, 13, 14, 15, 16, 17, 18, 19, 20, 21, 22, 23, 24, 25, 26, 27, 28, 29, 30, 31, 32, 33, 34, 35, 36, 37, 38, 39, 40, 41, 42] [0, 1, 2, 3, 4, 5, 6, 7, 8, 9, 10, 11, 12, 13, 14, 15, 16, 17, 18, 19, 20, 21, 22, 23, 24, 25, 26, 27, 28, 29, 30, 31, 32, 33, 34, 35, 36, 37, 38, 39, 40, 41, 42, 43, 44, 45, 46, 47] ⟨hx, hb, hml, hown, hts⟩ hP hD hE hZ hS hA (cX7_init_ok l g m0 _) (cwI 0 hts gL_law_X7_init rfl rfl rfl (hts0 _ n6) (hts0 _ n7) (hts0 _ n8) rfl (by decide +kernel) ⟨(Nat.le_of_ble_eq_true rfl), (Nat.le_of_ble_eq_true rfl)⟩) rfl rfl (fun _ => rfl) (by decide) (by decide) (by decide) (by decide) rfl hl.1 rfl (Nat.le_of_ble_eq_true rfl) ⟨(Nat.le_of_ble_eq_true rfl), (Nat.le_of_ble_eq_true rfl)⟩ dL_law_12 (fun v H locs hP hD hS => ?_)
  obtain ⟨m1, m2, m3, m4⟩ := v
  have hP : va_P g.1 vwCl (wC c0 h k0 x0 d0 ++ (wS g h b1 b2 b3 b4 S00 ++ (wH g k0 k1 γ H00 ++ (wX g x0 x1 X00 ++ (wD g d0 d1 d2 D00 ++ (wM g m0 m1 m2 m3 m4 M00)))))) H := hP
  have hD : va_D A (wC c0 h k0 x0 d0 ++ (wS g h b1 b2 b3 b4 S00 ++ (wH g k0 k1 γ H00 ++ (wX g x0 x1 X00 ++ (wD g d0 d1 d2 D00 ++ (wM g m0 m1 m2 m3 m4 M00)))))) := hD
  refine lv_astore_n (lv' := [(2, .ref m0), (1, .ref c0), (0, .ref b)]) hx hb dL_law_15 rfl hl (by decide) rfl (fun ls hl => ?_)
  refine lv_iconst (v := 1) hx hb dL_law_16 (by decide) ?_
  refine va_newa (atype := .long) (ty := .long) (a0 := (1, .inr (.inl (fun _ => 0)))) hx hb (hts0 _ a2) rfl hE.1 hP hD hS hA (fun _ => rfl) (by decide) (by decide) (Nat.le_of_ble_eq_true rfl) (Nat.le_of_ble_eq_true rfl) (Nat.le_of_ble_eq_true rfl) dL_law_17 (fun o0 cL H hK1 hP hD hS => ?_)
  have eL : cL = g.2.1 2 := Option.some.inj ((show _ = some cL from (hK1.2 4 (cL, .long) rfl).2).symm.trans (show _ = some (g.2.1 2) from (hK1.2 2 (g.2.1 2, .long) rfl).2))
  rw [eL] at hP hD
  have hP : va_P g.1 vwCl (wC c0 h k0 x0 d0 ++ (wS g h b1 b2 b3 b4 S00 ++ (wH g k0 k1 γ H00 ++ (wX g x0 x1 X00 ++ (wD g d0 d1 d2 D00 ++ (wM g m0 m1 m2 m3 m4 M00 ++ (wO g o0 (fun _ => 0)))))))) H := hP
  have hD : va_D A (wC c0 h k0 x0 d0 ++ (wS g h b1 b2 b3 b4 S00 ++ (wH g k0 k1 γ H00 ++ (wX g x0 x1 X00 ++ (wD g d0 d1 d2 D00 ++ (wM g m0 m1 m2 m3 m4 M00 ++ (wO g o0 (fun _ => 0)))))))) := hD
  refine lv_astore_n (lv' := [(3, .ref o0), (2, .ref m0), (1, .ref c0), (0, .ref b)]) hx hb dL_law_19 rfl hl (by decide) rfl (fun ls hl => ?_)
  refine lv_iconst (v := 1) hx hb dL_law_20 (by decide) ?_
  refine va_newa (atype := .double) (ty := .double) (a0 := (1, .inr (.inr (.inr (.inl (fun _ => 0)))))) hx hb (hts0 _ a3) rfl hE.1 hP hD hS hA (fun _ => rfl) (by decide) (by decide) (Nat.le_of_ble_eq_true rfl) (Nat.le_of_ble_eq_true rfl) (Nat.le_of_ble_eq_true rfl) dL_law_21 (fun e0 cD H hK2 hP hD hS => ?_)
  have eD : cD = g.2.1 3 := Option.some.inj ((show _ = some cD from (hK2.2 4 (cD, .double) rfl).2).symm.trans (show _ = some (g.2.1 3) from (hK2.2 3 (g.2.1 3, .double) rfl).2))
  rw [eD] at hP hD
  have hP : va_P g.1 vwCl (wC c0 h k0 x0 d0 ++ (wS g h b1 b2 b3 b4 S00 ++ (wH g k0 k1 γ H00 ++ (wX g x0 x1 X00 ++ (wD g d0 d1 d2 D00 ++ (wM g m0 m1 m2 m3 m4 M00 ++ (wO g o0 (fun _ => 0) ++ (wE g e0 (fun _ => 0))))))))) H := hP
  have hD : va_D A (wC c0 h k0 x0 d0 ++ (wS g h b1 b2 b3 b4 S00 ++ (wH g k0 k1 γ H00 ++ (wX g x0 x1 X00 ++ (wD g d0 d1 d2 D00 ++ (wM g m0 m1 m2 m3 m4 M00 ++ (wO g o0 (fun _ => 0) ++ (wE g e0 (fun _ => 0))))))))) := hD
  refine lv_astore (lv' := [(4, .ref e0), (3, .ref o0), (2, .ref m0), (1, .ref c0), (0, .ref b)]) hx hb dL_law_23 hl (by decide) rfl (fun ls hl => ?_)
  refine lv_iconst (v := 0) hx hb dL_law_25 (by decide) ?_
  refine lv_istore (lv' := [(5, .int 0), (4, .ref e0), (3, .ref o0), (2, .ref m0), (1, .ref c0), (0, .ref b)]) hx hb dL_law_26 hl (by decide) rfl (fun ls hl => ?_)
  have hf := law_pure hL xs 600 0 (Nat.zero_le L) (by omega) S00 H00 X00 D00 M00 (fun _ => 0) (fun _ => 0) rr_start txr_start
  rw [Z0] at hf
  refine law_loop hl0 g hE hA hAl hbA hZ C0 c0 h k0 x0 d0 b1 b2 b3 b4 k1 x1 d1 d2 m0 m1 m2 m3 m4 o0 e0 γ 600 0 S00 H00 X00 D00 M00 (fun _ => 0) (fun _ => 0) _ _ ?_ ?_ H locs ls hP hD hS (lv_sub hl [5, 4, 3, 2, 1, 0] rfl) hf
  · exact Nat.le_of_ble_eq_true rfl
  · exact Nat.le_of_ble_eq_true rfl
