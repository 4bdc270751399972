/-! YOUR PART: from the law's entry to its loops -/
theorem lg_X6_0 : (Cond.classLink RL 64 RX6) ∈ lw_tbl ∧ (Cond.initialized RX6) ∈ lw_tbl ∧ (Cond.methodLink RL 219 yX6_init) ∈ lw_tbl ∧ (Cond.instanceMethod yX6_init) ∈ lw_tbl := by decide +kernel
set_option maxHeartbeats 40000000 in
set_option maxRecDepth 100000 in
theorem whole_start {p : Program} {e : Env} {s : State} {m : MethodId} {below : List Frame} {meth : Method} {c : Code} (l : Launch) (hflags : l.flags = flags0) {b L : Nat} {xs : Nat → Int32} (hL : L ≤ 260) (C0 : lw_At p s m meth c b L xs) : W p l e room_1 s m #[Value.ref b] below meth c s.heap [] 0 0 (lw_Z below #[Value.ref b] s) (entryFrame m ([Value.ref b] : List Value).toArray 7) := by
  obtain ⟨hx, hb, hr, hml, hown, hts0, hX, hbl, hlocks, hgv⟩ := id C0
  have hl0 := traces0 l hflags
  obtain ⟨g, hE, hZ⟩ := lw_env hts0 hgv
  obtain ⟨n1, n2, n3, n4⟩ := lg_X6_0
  obtain ⟨t1, t2, t3, t4, t5⟩ := tb_in
  obtain ⟨a1, a2, a4⟩ := tb_ar
  have hts : ∀ w ∈ wsL_law, w.before #[Value.ref b] s = true := fun w h => hts0 w (wsL_law_in w h)
  have hown : s.vm.findClass RL = some m.cls := hown
  generalize hAe : (fun q : Nat => s.heap.size ≤ q) = A at hZ
  have hA : ∀ q : Nat, s.heap.size ≤ q → A q := fun q h => by rw [← hAe]; exact h
  have hAl : ∀ q : Nat, A q → s.heap.size ≤ q := fun q h => by rw [← hAe] at h; exact h
  have hbA : ¬ A b := fun h => absurd (hAl b h) (Nat.not_le.mpr hbl)
  have hS : va_S A s.heap s.heap [] := va_S.rf
  have hP : va_P g.1 vwCl ([] : va_W) s.heap := fun k q h => by simp at h
  have hD : va_D A ([] : va_W) := ⟨fun i j p q h => by simp at h, fun k q h => by simp at h⟩
  have hl := lv_entry ([.ref b]) (n := 7) (Nat.le_of_ble_eq_true rfl)
  rw [lg_entry_eq]
  generalize (lg_sl ([.ref b]) ++ List.replicate (7 - (lg_sl ([.ref b])).length) Slot.unset).toArray = ls at hl ⊢
  have hl : lv_has ls 7 [(0, .ref b)] := hl
  refine va_new (ci := 4) (fs := [.null, .null, .null, .null]) (C := RX6) (T := TX6) (N := 4) hx hb hts0 inX6 tyX6 tyX6_ok hown (hts0 _ n1) (hts0 _ t5) (hts0 _ n2) hE.1 hP hD hS hA rfl (fun j hj => by rcases (show j = 0 ∨ j = 1 ∨ j = 2 ∨ j = 3 by omega) with rfl | rfl | rfl | rfl <;> rfl) (Nat.le_of_ble_eq_true rfl) (Nat.le_of_ble_eq_true rfl) dL_law_0 (fun c0 H hP hD hS => ?_)
  have hP : va_P g.1 vwCl ([(c0, .inr (4, [.null, .null, .null, .null]))] : va_W) H := hP
  have hD : va_D A ([(c0, .inr (4, [.null, .null, .null, .null]))] : va_W) := hD
  refine lv_dup hx hb dL_law_3 rfl ?_
  refine mcallIv (W0 := ([(c0, .inr (4, [.null, .null, .null, .null]))] : va_W)) (Wc := ([(c0, .inr (4, [.null, .null, .null, .null]))] : va_W)) (Wr := ([] : va_W)) (W1 := fun u : Nat × (Nat × Nat × Nat × Nat) × Nat × (Nat × (Nat → Nat → Nat)) × Nat × Nat × Nat × (Nat × Nat) => wC c0 u.1 u.2.2.1 u.2.2.2.2.1 u.2.2.2.2.2.2.1 ++ (wS g u.1 u.2.1.1 u.2.1.2.1 u.2.1.2.2.1 u.2.1.2.2.2 S00 ++ (wH g u.2.2.1 u.2.2.2.1.1 u.2.2.2.1.2 H00 ++ (wX g u.2.2.2.2.1 u.2.2.2.2.2.1 X00 ++ (wD g u.2.2.2.2.2.2.1 u.2.2.2.2.2.2.2.1 u.2.2.2.2.2.2.2.2 D00))))) (W2 := fun u : Nat × (Nat × Nat × Nat × Nat) × Nat × (Nat × (Nat → Nat → Nat)) × Nat × Nat × Nat × (Nat × Nat) => wC c0 u.1 u.2.2.1 u.2.2.2.2.1 u.2.2.2.2.2.2.1 ++ (wS g u.1 u.2.1.1 u.2.1.2.1 u.2.1.2.2.1 u.2.1.2.2.2 S00 ++ (wH g u.2.2.1 u.2.2.2.1.1 u.2.2.2.1.2 H00 ++ (wX g u.2.2.2.2.1 u.2.2.2.2.2.1 X00 ++ (wD g u.2.2.2.2.2.2.1 u.2.2.2.2.2.2.2.1 u.2.2.2.2.2.2.2.2 D00))))) (As := []) (rest := [.ref c0]) [0] [] [0, 1, 2, 3, 4, 5, 6, 7, 8, 9, 10, 11, 12, 13, 14, 15, 16, 17, 18, 19, 20, 21, 22, 23, 24, 25, 26, 27, 28, 29, 30, 31, 32, 33, 34, 35, 36, 37, 38, 39, 40, 41, 42] ⟨hx, hb, hml, hown, hts⟩ hP hD hE hZ hS hA (cX6_init_ok l g c0 _) (cwI 0 hts gL_law_X6_init rfl rfl rfl (hts0 _ n2) (hts0 _ n3) (hts0 _ n4) rfl (by decide +kernel) ⟨(Nat.le_of_ble_eq_true rfl), (Nat.le_of_ble_eq_true rfl)⟩) rfl rfl (fun _ => rfl) (by decide) (by decide) (by decide) (by decide) rfl hl.1 rfl (Nat.le_of_ble_eq_true rfl) ⟨(Nat.le_of_ble_eq_true rfl), (Nat.le_of_ble_eq_true rfl)⟩ dL_law_4 (fun u H locs hP hD hS => ?_)
  obtain ⟨h, ⟨b1, b2, b3, b4⟩, k0, ⟨k1, γ⟩, x0, x1, d0, d1, d2⟩ := u
  have hP : va_P g.1 vwCl (wC c0 h k0 x0 d0 ++ (wS g h b1 b2 b3 b4 S00 ++ (wH g k0 k1 γ H00 ++ (wX g x0 x1 X00 ++ (wD g d0 d1 d2 D00))))) H := hP
  have hD : va_D A (wC c0 h k0 x0 d0 ++ (wS g h b1 b2 b3 b4 S00 ++ (wH g k0 k1 γ H00 ++ (wX g x0 x1 X00 ++ (wD g d0 d1 d2 D00))))) := hD
  have hP := hP.sub (ws' := (wC c0 h k0 x0 d0 ++ (wS g h b1 b2 b3 b4 S00 ++ (wH g k0 k1 γ H00 ++ (wD g d0 d1 d2 D00))))) [0, 1, 2, 3, 4, 5, 6, 7, 8, 9, 10, 11, 12, 13, 14, 15, 16, 17, 18, 19, 20, 21, 22, 23, 24, 25, 26, 27, 28, 29, 30, 31, 32, 33, 34, 35, 36, 37, 40, 41, 42] rfl
  have hD := hD.sub (ws' := (wC c0 h k0 x0 d0 ++ (wS g h b1 b2 b3 b4 S00 ++ (wH g k0 k1 γ H00 ++ (wD g d0 d1 d2 D00))))) [0, 1, 2, 3, 4, 5, 6, 7, 8, 9, 10, 11, 12, 13, 14, 15, 16, 17, 18, 19, 20, 21, 22, 23, 24, 25, 26, 27, 28, 29, 30, 31, 32, 33, 34, 35, 36, 37, 40, 41, 42] (by decide) rfl
  refine lv_astore_n (lv' := [(1, .ref c0), (0, .ref b)]) hx hb dL_law_7 rfl hl (by decide) rfl (fun ls hl => ?_)
  refine lv_bipush (v := (34 : Int32)) hx hb dL_law_8 (by decide) ?_
  refine newaI (N' := 34) (W0 := (wC c0 h k0 x0 d0 ++ (wS g h b1 b2 b3 b4 S00 ++ (wH g k0 k1 γ H00 ++ (wD g d0 d1 d2 D00))))) hx hb (hts0 _ a1) hE hP hD hS hA (by decide) (by decide) (Nat.le_of_ble_eq_true rfl) (Nat.le_of_ble_eq_true rfl) (Nat.le_of_ble_eq_true rfl) dL_law_10 (fun v0 H hP hD hS => ?_)
  have hP : va_P g.1 vwCl (wC c0 h k0 x0 d0 ++ (wS g h b1 b2 b3 b4 S00 ++ (wH g k0 k1 γ H00 ++ (wD g d0 d1 d2 D00 ++ (wV g v0 (fun _ => (0 : Int32))))))) H := hP
  have hD : va_D A (wC c0 h k0 x0 d0 ++ (wS g h b1 b2 b3 b4 S00 ++ (wH g k0 k1 γ H00 ++ (wD g d0 d1 d2 D00 ++ (wV g v0 (fun _ => (0 : Int32))))))) := hD
  refine lv_astore_n (lv' := [(2, .ref v0), (1, .ref c0), (0, .ref b)]) hx hb dL_law_12 rfl hl (by decide) rfl (fun ls hl => ?_)
  refine lv_bipush (v := (24 : Int32)) hx hb dL_law_13 (by decide) ?_
  refine va_newa (atype := .long) (ty := .long) (a0 := (24, .inr (.inl (fun _ => 0)))) hx hb (hts0 _ a2) rfl hE.1 hP hD hS hA (fun _ => rfl) (by decide) (by decide) (Nat.le_of_ble_eq_true rfl) (Nat.le_of_ble_eq_true rfl) (Nat.le_of_ble_eq_true rfl) dL_law_15 (fun z0 cL H hK1 hP hD hS => ?_)
  have eL : cL = g.2.1 2 := Option.some.inj ((show _ = some cL from (hK1.2 3 (cL, .long) rfl).2).symm.trans (show _ = some (g.2.1 2) from (hK1.2 2 (g.2.1 2, .long) rfl).2))
  rw [eL] at hP hD
  have hP : va_P g.1 vwCl (wC c0 h k0 x0 d0 ++ (wS g h b1 b2 b3 b4 S00 ++ (wH g k0 k1 γ H00 ++ (wD g d0 d1 d2 D00 ++ (wV g v0 (fun _ => (0 : Int32)) ++ (wZ g z0 (fun _ => (0 : Int64)))))))) H := hP
  have hD : va_D A (wC c0 h k0 x0 d0 ++ (wS g h b1 b2 b3 b4 S00 ++ (wH g k0 k1 γ H00 ++ (wD g d0 d1 d2 D00 ++ (wV g v0 (fun _ => (0 : Int32)) ++ (wZ g z0 (fun _ => (0 : Int64)))))))) := hD
  refine lv_astore_n (lv' := [(3, .ref z0), (2, .ref v0), (1, .ref c0), (0, .ref b)]) hx hb dL_law_17 rfl hl (by decide) rfl (fun ls hl => ?_)
  refine lv_aload_n hx hb dL_law_18 rfl (lv_at hl 1 rfl) ?_
  refine lv_bipush (v := (33 : Int32)) hx hb dL_law_19 (by decide) ?_
  refine lv_iconst (v := (2 : Int32)) hx hb dL_law_21 (by decide) ?_
  refine va_iast hx hb hE.1 hP hD hS 41 0 rfl rfl (vin (by decide)) dL_law_22 (fun H locs hP hD hS => ?_)
  have hP : va_P g.1 vwCl (wC c0 h k0 x0 d0 ++ (wS g h b1 b2 b3 b4 S00 ++ (wH g k0 k1 γ H00 ++ (wD g d0 d1 d2 D00 ++ (wV g v0 (upd (fun _ => (0 : Int32)) (Int32.toNatClampNeg (33 : Int32)) (2 : Int32)) ++ (wZ g z0 (fun _ => (0 : Int64)))))))) H := hP
  have hD : va_D A (wC c0 h k0 x0 d0 ++ (wS g h b1 b2 b3 b4 S00 ++ (wH g k0 k1 γ H00 ++ (wD g d0 d1 d2 D00 ++ (wV g v0 (upd (fun _ => (0 : Int32)) (Int32.toNatClampNeg (33 : Int32)) (2 : Int32)) ++ (wZ g z0 (fun _ => (0 : Int64)))))))) := hD
  refine W.cs (cells' := 45) (slots' := 10681) rfl rfl ?_
  refine lv_aload_n hx hb dL_law_23 rfl (lv_at hl 2 rfl) ?_
  refine lv_aload_n hx hb dL_law_24 rfl (lv_at hl 1 rfl) ?_
  refine lv_aload_n hx hb dL_law_25 rfl (lv_at hl 0 rfl) ?_
  refine lv_iconst (v := (0 : Int32)) hx hb dL_law_26 (by decide) ?_
  have are_29 := are_lines (cap := 29) la_start.1.1 la_start.2 la_start.1.2.1.1 (0 : Int32) (Nat.le_refl _)
  refine mcallSi (W0 := (wC c0 h k0 x0 d0 ++ (wS g h b1 b2 b3 b4 S00 ++ (wH g k0 k1 γ H00 ++ (wD g d0 d1 d2 D00 ++ (wV g v0 (upd (fun _ => (0 : Int32)) (Int32.toNatClampNeg (33 : Int32)) (2 : Int32)) ++ (wZ g z0 (fun _ => (0 : Int64))))))))) (Wc := (wC c0 h k0 x0 d0 ++ (wS g h b1 b2 b3 b4 S00 ++ (wV g v0 (upd (fun _ => (0 : Int32)) (Int32.toNatClampNeg (33 : Int32)) (2 : Int32)) ++ (wZ g z0 (fun _ => (0 : Int64))))))) (Wr := (wH g k0 k1 γ H00 ++ (wD g d0 d1 d2 D00))) (W1 := (wC c0 h k0 x0 d0 ++ (wS g h b1 b2 b3 b4 S00 ++ (wV g v0 (upd (fun _ => (0 : Int32)) (Int32.toNatClampNeg (33 : Int32)) (2 : Int32)) ++ (wZ g z0 (fun _ => (0 : Int64))))))) (W2 := (wC c0 h k0 x0 d0 ++ (wS g h b1 b2 b3 b4 S00 ++ (wH g k0 k1 γ H00 ++ (wD g d0 d1 d2 D00 ++ (wV g v0 (upd (fun _ => (0 : Int32)) (Int32.toNatClampNeg (33 : Int32)) (2 : Int32)) ++ (wZ g z0 (fun _ => (0 : Int64))))))))) (As := [.ref c0, .ref v0, .ref z0, .int (0 : Int32)]) (rest := []) [0, 1, 2, 3, 4, 5, 41, 42] [6, 7, 8, 9, 10, 11, 12, 13, 14, 15, 16, 17, 18, 19, 20, 21, 22, 23, 24, 25, 26, 27, 28, 29, 30, 31, 32, 33, 34, 35, 36, 37, 38, 39, 40] [35, 36, 37, 38, 39, 40, 0, 1, 2, 3, 4, 5, 6, 7, 8, 9, 10, 11, 12, 13, 14, 15, 16, 17, 18, 19, 20, 21, 22, 23, 24, 25, 26, 27, 28, 29, 30, 31, 32, 33, 34, 41, 42] ⟨hx, hb, hml, hown, hts⟩ hP hD hE hZ hS hA (cL_areLines_ok l hl0 g 29 c0 h k0 x0 d0 b1 b2 b3 b4 v0 z0 S00 (upd (fun _ => (0 : Int32)) (Int32.toNatClampNeg (33 : Int32)) (2 : Int32)) (fun _ => (0 : Int64)) (0 : Int32) _ are_29) (va_cwS 4 hts gL_law_L_areLines rfl rfl rfl hdL_areLines.2 ⟨(Nat.le_of_ble_eq_true rfl), (Nat.le_of_ble_eq_true rfl)⟩) rfl rfl rfl (by decide) (by decide) (by decide) (by decide) rfl hl.1 rfl (Nat.le_of_ble_eq_true rfl) ⟨(Nat.le_of_ble_eq_true rfl), (Nat.le_of_ble_eq_true rfl)⟩ dL_law_27 (fun H locs hP hD hS => ?_)
  refine lv_istore (lv' := [(4, .int (b2i true)), (3, .ref z0), (2, .ref v0), (1, .ref c0), (0, .ref b)]) hx hb dL_law_30 hl (by decide) rfl (fun ls hl => ?_)
  refine lv_iconst (v := (0 : Int32)) hx hb dL_law_32 (by decide) ?_
  refine lv_istore (lv' := [(5, .int (0 : Int32)), (4, .int (b2i true)), (3, .ref z0), (2, .ref v0), (1, .ref c0), (0, .ref b)]) hx hb dL_law_33 hl (by decide) rfl (fun ls hl => ?_)
  have hf := law_pure (xs := xs) hL 30 0 FU S00 H00 D00 (upd (fun _ => (0 : Int32)) (Int32.toNatClampNeg (33 : Int32)) (2 : Int32)) (fun _ => (0 : Int64)) _ 0 29 rfl (FU_gt (by omega)) la_start (Nat.le_refl _) (Nat.le_of_ble_eq_true rfl) (Nat.le_of_ble_eq_true rfl)
  rw [Z0] at hf
  exact law_35 hl0 g hE hA hAl hbA hZ C0 c0 h k0 x0 d0 b1 b2 b3 b4 k1 d1 d2 v0 z0 γ (cap := 119507) (cl := 45) (sl := 10681) (Nat.le_of_ble_eq_true rfl) (Nat.le_of_ble_eq_true rfl) FU true (0 : Int32) S00 H00 D00 (upd (fun _ => (0 : Int32)) (Int32.toNatClampNeg (33 : Int32)) (2 : Int32)) (fun _ => (0 : Int64)) 29 (Nat.le_of_ble_eq_true rfl) _ _ ls hP hD hS (lv_sub hl [5, 4, 3, 2, 1, 0] rfl) hf
