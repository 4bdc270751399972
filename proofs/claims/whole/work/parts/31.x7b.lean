def fX7_labelsAll_27  : Nat → Int32 → Mo → Option (Int32 × Mo)
  | 0, _, _ => none
  | n + 1, v1_27, μ_27 => (if (M_row μ_27 (Int32.toNatClampNeg (0 : Int32))) ≤ v1_27 then ((fX7_labelled μ_27).bind fun r_2 => (some (r_2, μ_27))) else ((fX7_byLevel μ_27 v1_27).bind fun r_3 => ((fX7_best μ_27 r_3).bind fun r_4 => ((fX7_puts μ_27 r_3 (3 : Int32) r_4).bind fun r_5 => fX7_labelsAll_27 n (v1_27 + 1) r_5))))
def fX7_labelsAll_2  : Nat → Int32 → Mo → Option (Int32 × Mo)
  | 0, _, _ => none
  | n + 1, v1_2, μ_2 => (if (M_row μ_2 (Int32.toNatClampNeg (0 : Int32))) ≤ v1_2 then fX7_labelsAll_27 FU (0 : Int32) μ_2 else ((fX7_puts μ_2 v1_2 (3 : Int32) (-1 : Int32)).bind fun r_7 => fX7_labelsAll_2 n (v1_2 + 1) r_7))
def fX7_labelsAll (μ : Mo) : Option (Int32 × Mo) := fX7_labelsAll_2 FU (0 : Int32) μ
abbrev rmX7_labelsAll : Room := { frames := 9, cells := 0, slots := 0, locals := 207 }
theorem hdX7_labelsAll : yX7_labelsAll.cls = RX7 ∧ yX7_labelsAll.cls ≠ "java/lang/invoke/MethodHandle" ∧ yX7_labelsAll.cls ≠ "java/lang/invoke/VarHandle" ∧ (parseMethodDescriptor yX7_labelsAll.desc).map (fun d => d.parameters.length) = some 0 := by decide +kernel
theorem fiX7_labelsAll_X7 : ∀ w ∈ wsX70, w ∈ wsX7_labelsAll := by decide +kernel
theorem flX7_labelsAll_7 : (.fieldLink RX7 7 "ContourLabelsModel" "row" "[I" : Cond) ∈ wsX7_labelsAll := by decide +kernel
set_option maxHeartbeats 4000000 in
set_option maxRecDepth 100000 in
theorem cX7_labelsAll_ok (l : Launch) (g : Gg) (m0 m1 m2 m3 m4 : Nat) (μ : Mo) (sz : Nat) {o : Int32 × Mo} (hf : fX7_labelsAll μ = some o) : Met l yX7_labelsAll wsX7_labelsAll rmX7_labelsAll (va_Pc [.ref m0] (PM g (wM g m0 m1 m2 m3 m4 μ) sz)) (va_Qi (fun r' (_ : Unit) => r' = o.1) (fun _ t => PQ g (wM g m0 m1 m2 m3 m4 o.2) (va_A (wM g m0 m1 m2 m3 m4 μ) sz) t) (va_A (wM g m0 m1 m2 m3 m4 μ) sz)) 0 0 (va_A (wM g m0 m1 m2 m3 m4 μ) sz) := by
  refine Met.ofW (cc := cX7_labelsAll) (maxL := 3) (ret := (some .int)) (by decide) rfl ?_
  intro p e s m args below meth c s₁ B hml hv
  obtain ⟨rfl, rfl, hP, hD0, hE, hZ⟩ := hv
  have hx := B.exec
  have hb := B.bytes
  have hr := B.returns
  have hts := atoms_spec (ws := wsX7_labelsAll) B.pre
  have hown : s.vm.findClass RX7 = some m.cls := findClass_of_methodNamed B.named
  have hlocks := B.notSynchronized
  have hD := hD0.self (sz := s.heap.size)
  generalize hAe : (va_A (wM g m0 m1 m2 m3 m4 μ) s.heap.size) = A at hD hZ ⊢
  have hA : ∀ q : Nat, s.heap.size ≤ q → A q := fun q h => by rw [← hAe]; exact Or.inr h
  have hS : va_S A s.heap s.heap [] := va_S.rf
  have hP : va_P g.1 vwCl (wM g m0 m1 m2 m3 m4 μ) s.heap := hP
  have hl := lv_entry ([.ref m0]) (n := 3) (Nat.le_of_ble_eq_true rfl)
  rw [lg_entry_eq]
  generalize (lg_sl ([.ref m0]) ++ List.replicate (3 - (lg_sl ([.ref m0])).length) Slot.unset).toArray = ls at hl ⊢
  have hl : lv_has ls 3 [(0, .ref m0)] := hl
  have hB27 : ∀ (n27 : Nat) (v1_27 : Int32) (μ_27 : Mo) (H : Heap) (locs : List Loc) (ls : Array Slot), va_P g.1 vwCl (wM g m0 m1 m2 m3 m4 μ_27) H → va_D A (wM g m0 m1 m2 m3 m4 μ_27) → va_S A s.heap H locs → lv_has ls 3 [(0, .ref m0), (1, .int v1_27)] → fX7_labelsAll_27 n27 v1_27 μ_27 = some o → W p l e (headSpec wsX7_labelsAll rmX7_labelsAll).room s m ([.ref m0] : List Value).toArray below meth c H locs 0 0 (MQ below (va_Qi (fun r' (_ : Unit) => r' = o.1) (fun _ t => PQ g (wM g m0 m1 m2 m3 m4 o.2) A t) A) ([.ref m0] : List Value).toArray s 0 0 A) (F0 m 27 ls []) := by
    intro  n27
    induction n27 with
    | zero => intro v1_27 μ_27 H locs ls hP hD hS hl hf; exact nomatch (show (none : Option (Int32 × Mo)) = some _ from hf)
    | succ n27 ih27 =>
      intro v1_27 μ_27 H locs ls hP hD hS hl hf
      rw [fX7_labelsAll_27] at hf
      refine lv_iload_n hx hb dX7_labelsAll_27 rfl (lv_at hl 1 rfl) ?_
      refine lv_aload_n hx hb dX7_labelsAll_28 rfl (lv_at hl 0 rfl) ?_
      refine va_get (v := .ref m1) (C := RX7) (T := TX7) (N := 13) hx hb hts fiX7_labelsAll_X7 hown hE.1 hP 0 rfl rfl 0 (by decide) (hts _ flX7_labelsAll_7) (fun _ h9 => h9) rfl dX7_labelsAll_29 ?_
      refine lv_iconst (v := (0 : Int32)) hx hb dX7_labelsAll_32 (by decide) ?_
      refine va_iald hx hb hE.1 hP 1 0 rfl rfl (vin (by decide)) dX7_labelsAll_33 ?_
      refine lv_icmp_ge (tgt := 60) hx hb dX7_labelsAll_34 (by decide) (fun c_1 => ?_) (fun c_1 => ?_)
      · have hf := ip c_1 hf
        refine lv_aload_n hx hb dX7_labelsAll_60 rfl (lv_at hl 0 rfl) ?_
        obtain ⟨r_2, e_2, hf⟩ := bo hf
        refine pcallV (W0 := (wM g m0 m1 m2 m3 m4 μ_27)) (As := []) (rest := []) [0, 1, 2, 3, 4] 5 0 ⟨hx, hb, hml, hown, hts⟩ hP hE hZ hS (cX7_labelled_ok l g m0 m1 m2 m3 m4 μ_27 e_2) (cwV 0 hts gX7_labelsAll_X7_labelled rfl rfl rfl hdX7_labelled ⟨(Nat.le_of_ble_eq_true rfl), (Nat.le_of_ble_eq_true rfl)⟩) rfl rfl rfl rfl rfl hl.1 rfl (Nat.le_of_ble_eq_true rfl) ⟨(Nat.le_of_ble_eq_true rfl), (Nat.le_of_ble_eq_true rfl)⟩ dX7_labelsAll_61 ?_
        have ho := Option.some.inj hf
        subst ho
        exact m_iret (v := r_2) hx hb hr hlocks hP hD hS rfl dX7_labelsAll_64
      · have hf := iq c_1 hf
        refine lv_aload_n hx hb dX7_labelsAll_37 rfl (lv_at hl 0 rfl) ?_
        refine lv_iload_n hx hb dX7_labelsAll_38 rfl (lv_at hl 1 rfl) ?_
        obtain ⟨r_3, e_3, hf⟩ := bo hf
        refine pcallV (W0 := (wM g m0 m1 m2 m3 m4 μ_27)) (As := [.int v1_27]) (rest := []) [0, 1, 2, 3, 4] 5 0 ⟨hx, hb, hml, hown, hts⟩ hP hE hZ hS (cX7_byLevel_ok l g m0 m1 m2 m3 m4 μ_27 v1_27 e_3) (cwV 1 hts gX7_labelsAll_X7_byLevel rfl rfl rfl hdX7_byLevel ⟨(Nat.le_of_ble_eq_true rfl), (Nat.le_of_ble_eq_true rfl)⟩) rfl rfl rfl rfl rfl hl.1 rfl (Nat.le_of_ble_eq_true rfl) ⟨(Nat.le_of_ble_eq_true rfl), (Nat.le_of_ble_eq_true rfl)⟩ dX7_labelsAll_39 ?_
        refine lv_istore_n (lv' := [(2, .int r_3), (0, .ref m0), (1, .int v1_27)]) hx hb dX7_labelsAll_42 rfl hl (by decide) rfl (fun ls hl => ?_)
        refine lv_aload_n hx hb dX7_labelsAll_43 rfl (lv_at hl 1 rfl) ?_
        refine lv_iload_n hx hb dX7_labelsAll_44 rfl (lv_at hl 0 rfl) ?_
        refine lv_iconst (v := (3 : Int32)) hx hb dX7_labelsAll_45 (by decide) ?_
        refine lv_aload_n hx hb dX7_labelsAll_46 rfl (lv_at hl 1 rfl) ?_
        refine lv_iload_n hx hb dX7_labelsAll_47 rfl (lv_at hl 0 rfl) ?_
        obtain ⟨r_4, e_4, hf⟩ := bo hf
        refine pcallV (W0 := (wM g m0 m1 m2 m3 m4 μ_27)) (As := [.int r_3]) (rest := [.int (3 : Int32), .int r_3, .ref m0]) [0, 1, 2, 3, 4] 5 0 ⟨hx, hb, hml, hown, hts⟩ hP hE hZ hS (cX7_best_ok l g m0 m1 m2 m3 m4 μ_27 r_3 e_4) (cwV 1 hts gX7_labelsAll_X7_best rfl rfl rfl hdX7_best ⟨(Nat.le_of_ble_eq_true rfl), (Nat.le_of_ble_eq_true rfl)⟩) rfl rfl rfl rfl rfl hl.1 rfl (Nat.le_of_ble_eq_true rfl) ⟨(Nat.le_of_ble_eq_true rfl), (Nat.le_of_ble_eq_true rfl)⟩ dX7_labelsAll_48 ?_
        obtain ⟨r_5, e_5, hf⟩ := bo hf
        refine mcallVv (W0 := (wM g m0 m1 m2 m3 m4 μ_27)) (Wc := (wM g m0 m1 m2 m3 m4 μ_27)) (Wr := ([] : va_W)) (W1 := (wM g m0 m1 m2 m3 m4 r_5)) (W2 := (wM g m0 m1 m2 m3 m4 r_5)) (As := [.int r_3, .int (3 : Int32), .int r_4]) (rest := []) [0, 1, 2, 3, 4] [] [0, 1, 2, 3, 4] 5 0 ⟨hx, hb, hml, hown, hts⟩ hP hD hE hZ hS hA (cX7_puts_ok l g m0 m1 m2 m3 m4 μ_27 r_3 (3 : Int32) r_4 _ e_5) (cwV 3 hts gX7_labelsAll_X7_puts rfl rfl rfl hdX7_puts ⟨(Nat.le_of_ble_eq_true rfl), (Nat.le_of_ble_eq_true rfl)⟩) rfl rfl rfl (by decide) (by decide) (by decide) (by decide) rfl rfl rfl rfl hl.1 rfl (Nat.le_of_ble_eq_true rfl) ⟨(Nat.le_of_ble_eq_true rfl), (Nat.le_of_ble_eq_true rfl)⟩ dX7_labelsAll_51 (fun H locs hP hD hS => ?_)
        refine lv_iinc (v := (v1_27 + 1)) (lv' := [(1, .int (v1_27 + 1)), (2, .int r_3), (0, .ref m0)]) hx hb dX7_labelsAll_54 hl (k := 2) rfl rfl (by decide) rfl (fun ls hl => ?_)
        refine lv_goto (tgt := 27) hx hb dX7_labelsAll_57 (by decide) ?_
        exact ih27 (v1_27 + 1) r_5 _ _ ls hP hD hS (lv_sub hl [2, 0] rfl) hf
  have hB2 : ∀ (n2 : Nat) (v1_2 : Int32) (μ_2 : Mo) (H : Heap) (locs : List Loc) (ls : Array Slot), va_P g.1 vwCl (wM g m0 m1 m2 m3 m4 μ_2) H → va_D A (wM g m0 m1 m2 m3 m4 μ_2) → va_S A s.heap H locs → lv_has ls 3 [(0, .ref m0), (1, .int v1_2)] → fX7_labelsAll_2 n2 v1_2 μ_2 = some o → W p l e (headSpec wsX7_labelsAll rmX7_labelsAll).room s m ([.ref m0] : List Value).toArray below meth c H locs 0 0 (MQ below (va_Qi (fun r' (_ : Unit) => r' = o.1) (fun _ t => PQ g (wM g m0 m1 m2 m3 m4 o.2) A t) A) ([.ref m0] : List Value).toArray s 0 0 A) (F0 m 2 ls []) := by
    intro  n2
    induction n2 with
    | zero => intro v1_2 μ_2 H locs ls hP hD hS hl hf; exact nomatch (show (none : Option (Int32 × Mo)) = some _ from hf)
    | succ n2 ih2 =>
      intro v1_2 μ_2 H locs ls hP hD hS hl hf
      rw [fX7_labelsAll_2] at hf
      refine lv_iload_n hx hb dX7_labelsAll_2 rfl (lv_at hl 1 rfl) ?_
      refine lv_aload_n hx hb dX7_labelsAll_3 rfl (lv_at hl 0 rfl) ?_
      refine va_get (v := .ref m1) (C := RX7) (T := TX7) (N := 13) hx hb hts fiX7_labelsAll_X7 hown hE.1 hP 0 rfl rfl 0 (by decide) (hts _ flX7_labelsAll_7) (fun _ h9 => h9) rfl dX7_labelsAll_4 ?_
      refine lv_iconst (v := (0 : Int32)) hx hb dX7_labelsAll_7 (by decide) ?_
      refine va_iald hx hb hE.1 hP 1 0 rfl rfl (vin (by decide)) dX7_labelsAll_8 ?_
      refine lv_icmp_ge (tgt := 25) hx hb dX7_labelsAll_9 (by decide) (fun c_6 => ?_) (fun c_6 => ?_)
      · have hf := ip c_6 hf
        refine lv_iconst (v := (0 : Int32)) hx hb dX7_labelsAll_25 (by decide) ?_
        refine lv_istore_n (lv' := [(1, .int (0 : Int32)), (0, .ref m0)]) hx hb dX7_labelsAll_26 rfl hl (by decide) rfl (fun ls hl => ?_)
        exact hB27 FU (0 : Int32) μ_2 _ _ ls hP hD hS (lv_sub hl [1, 0] rfl) hf
      · have hf := iq c_6 hf
        refine lv_aload_n hx hb dX7_labelsAll_12 rfl (lv_at hl 0 rfl) ?_
        refine lv_iload_n hx hb dX7_labelsAll_13 rfl (lv_at hl 1 rfl) ?_
        refine lv_iconst (v := (3 : Int32)) hx hb dX7_labelsAll_14 (by decide) ?_
        refine lv_iconst (v := (-1 : Int32)) hx hb dX7_labelsAll_15 (by decide) ?_
        obtain ⟨r_7, e_7, hf⟩ := bo hf
        refine mcallVv (W0 := (wM g m0 m1 m2 m3 m4 μ_2)) (Wc := (wM g m0 m1 m2 m3 m4 μ_2)) (Wr := ([] : va_W)) (W1 := (wM g m0 m1 m2 m3 m4 r_7)) (W2 := (wM g m0 m1 m2 m3 m4 r_7)) (As := [.int v1_2, .int (3 : Int32), .int (-1 : Int32)]) (rest := []) [0, 1, 2, 3, 4] [] [0, 1, 2, 3, 4] 5 0 ⟨hx, hb, hml, hown, hts⟩ hP hD hE hZ hS hA (cX7_puts_ok l g m0 m1 m2 m3 m4 μ_2 v1_2 (3 : Int32) (-1 : Int32) _ e_7) (cwV 3 hts gX7_labelsAll_X7_puts rfl rfl rfl hdX7_puts ⟨(Nat.le_of_ble_eq_true rfl), (Nat.le_of_ble_eq_true rfl)⟩) rfl rfl rfl (by decide) (by decide) (by decide) (by decide) rfl rfl rfl rfl hl.1 rfl (Nat.le_of_ble_eq_true rfl) ⟨(Nat.le_of_ble_eq_true rfl), (Nat.le_of_ble_eq_true rfl)⟩ dX7_labelsAll_16 (fun H locs hP hD hS => ?_)
        refine lv_iinc (v := (v1_2 + 1)) (lv' := [(1, .int (v1_2 + 1)), (0, .ref m0)]) hx hb dX7_labelsAll_19 hl (k := 1) rfl rfl (by decide) rfl (fun ls hl => ?_)
        refine lv_goto (tgt := 2) hx hb dX7_labelsAll_22 (by decide) ?_
        exact ih2 (v1_2 + 1) r_7 _ _ ls hP hD hS (lv_sub hl [1, 0] rfl) hf
  unfold fX7_labelsAll at hf
  refine lv_iconst (v := (0 : Int32)) hx hb dX7_labelsAll_0 (by decide) ?_
  refine lv_istore_n (lv' := [(1, .int (0 : Int32)), (0, .ref m0)]) hx hb dX7_labelsAll_1 rfl hl (by decide) rfl (fun ls hl => ?_)
  exact hB2 FU (0 : Int32) μ _ _ ls hP hD hS (lv_sub hl [1, 0] rfl) hf

def fX7_does (μ : Mo) (p0 p1 p2 : Int32) : Option (Int32 × Mo) := (if p0 = (97 : Int32) then ((fX7_labelsAll μ).bind fun r_2 => (some (r_2.1, r_2.2))) else (if p0 = (98 : Int32) then ((fX7_best μ p1).bind fun r_4 => ((fX7_puts μ p1 (3 : Int32) r_4).bind fun r_5 => ((fX7_of r_5 p1 (3 : Int32)).bind fun r_6 => (some (r_6, r_5))))) else (if p0 = (108 : Int32) then ((fX7_puts μ p1 (3 : Int32) p2).bind fun r_8 => ((fX7_bends r_8 p1 p2).bind fun r_9 => (some (r_9, r_8)))) else (if p0 = (110 : Int32) then ((fX7_puts (M_row' μ (upd (M_row μ) (Int32.toNatClampNeg (0 : Int32)) ((M_row μ (Int32.toNatClampNeg (0 : Int32))) + (1 : Int32)))) (M_row μ (Int32.toNatClampNeg (0 : Int32))) (0 : Int32) p1).bind fun r_11 => ((fX7_puts r_11 (M_row μ (Int32.toNatClampNeg (0 : Int32))) (1 : Int32) p2).bind fun r_12 => ((fX7_puts r_12 (M_row μ (Int32.toNatClampNeg (0 : Int32))) (2 : Int32) (0 : Int32)).bind fun r_13 => ((fX7_puts r_13 (M_row μ (Int32.toNatClampNeg (0 : Int32))) (3 : Int32) (-1 : Int32)).bind fun r_14 => (some ((M_row μ (Int32.toNatClampNeg (0 : Int32))), r_14)))))) else (if p0 = (115 : Int32) then ((fX7_of μ p1 (2 : Int32)).bind fun r_16 => ((fX7_puts μ p1 ((4 : Int32) + r_16) p2).bind fun r_17 => ((fX7_of r_17 p1 (2 : Int32)).bind fun r_18 => ((fX7_puts r_17 p1 (2 : Int32) (r_18 + (1 : Int32))).bind fun r_19 => ((fX7_closes r_19 p1).bind fun r_20 => (if r_20 = true then (some ((1 : Int32), r_19)) else (some ((0 : Int32), r_19)))))))) else (if p0 = (117 : Int32) then ((fX7_of μ p1 (3 : Int32)).bind fun r_23 => ((fX7_puts μ p1 (3 : Int32) (-1 : Int32)).bind fun r_24 => (some (r_23, r_24)))) else (if p0 = (119 : Int32) then ((fX7_wipes μ p1).bind fun r_26 => (some (r_26.1, r_26.2))) else (some ((M_row μ (Int32.toNatClampNeg (1 : Int32))), (M_row' μ (upd (M_row μ) (Int32.toNatClampNeg (1 : Int32)) p1)))))))))))
abbrev rmX7_does : Room := { frames := 10, cells := 0, slots := 0, locals := 229 }
theorem hdX7_does : yX7_does.cls = RX7 ∧ yX7_does.cls ≠ "java/lang/invoke/MethodHandle" ∧ yX7_does.cls ≠ "java/lang/invoke/VarHandle" ∧ (parseMethodDescriptor yX7_does.desc).map (fun d => d.parameters.length) = some 3 := by decide +kernel
theorem fiX7_does_X7 : ∀ w ∈ wsX70, w ∈ wsX7_does := by decide +kernel
theorem flX7_does_7 : (.fieldLink RX7 7 "ContourLabelsModel" "row" "[I" : Cond) ∈ wsX7_does := by decide +kernel
set_option maxHeartbeats 4000000 in
set_option maxRecDepth 100000 in
theorem cX7_does_ok (l : Launch) (g : Gg) (m0 m1 m2 m3 m4 : Nat) (μ : Mo) (p0 p1 p2 : Int32) (sz : Nat) {o : Int32 × Mo} (hf : fX7_does μ p0 p1 p2 = some o) : Met l yX7_does wsX7_does rmX7_does (va_Pc [.ref m0, .int p0, .int p1, .int p2] (PM g (wM g m0 m1 m2 m3 m4 μ) sz)) (va_Qi (fun r' (_ : Unit) => r' = o.1) (fun _ t => PQ g (wM g m0 m1 m2 m3 m4 o.2) (va_A (wM g m0 m1 m2 m3 m4 μ) sz) t) (va_A (wM g m0 m1 m2 m3 m4 μ) sz)) 0 0 (va_A (wM g m0 m1 m2 m3 m4 μ) sz) := by
  refine Met.ofW (cc := cX7_does) (maxL := 6) (ret := (some .int)) (by decide) rfl ?_
  intro p e s m args below meth c s₁ B hml hv
  obtain ⟨rfl, rfl, hP, hD0, hE, hZ⟩ := hv
  have hx := B.exec
  have hb := B.bytes
  have hr := B.returns
  have hts := atoms_spec (ws := wsX7_does) B.pre
  have hown : s.vm.findClass RX7 = some m.cls := findClass_of_methodNamed B.named
  have hlocks := B.notSynchronized
  have hD := hD0.self (sz := s.heap.size)
  generalize hAe : (va_A (wM g m0 m1 m2 m3 m4 μ) s.heap.size) = A at hD hZ ⊢
  have hA : ∀ q : Nat, s.heap.size ≤ q → A q := fun q h => by rw [← hAe]; exact Or.inr h
  have hS : va_S A s.heap s.heap [] := va_S.rf
  have hP : va_P g.1 vwCl (wM g m0 m1 m2 m3 m4 μ) s.heap := hP
  have hl := lv_entry ([.ref m0, .int p0, .int p1, .int p2]) (n := 6) (Nat.le_of_ble_eq_true rfl)
  rw [lg_entry_eq]
  generalize (lg_sl ([.ref m0, .int p0, .int p1, .int p2]) ++ List.replicate (6 - (lg_sl ([.ref m0, .int p0, .int p1, .int p2])).length) Slot.unset).toArray = ls at hl ⊢
  have hl : lv_has ls 6 [(0, .ref m0), (1, .int p0), (2, .int p1), (3, .int p2)] := hl
  unfold fX7_does at hf
  refine lv_iconst (v := (0 : Int32)) hx hb dX7_does_0 (by decide) ?_
  refine lv_istore (lv' := [(4, .int (0 : Int32)), (0, .ref m0), (1, .int p0), (2, .int p1), (3, .int p2)]) hx hb dX7_does_1 hl (by decide) rfl (fun ls hl => ?_)
  refine lv_iload_n hx hb dX7_does_3 rfl (lv_at hl 2 rfl) ?_
  by_cases s_1 : p0 = (97 : Int32)
  · have hf := ip s_1 hf
    refine lv_tableIn (off := 259) (tgt := 263) hx hb dX7_does_4 (by rw [s_1]; decide) (by rw [s_1]; decide) (by rw [s_1]; rfl) (by decide) ?_
    refine lv_aload_n hx hb dX7_does_263 rfl (lv_at hl 1 rfl) ?_
    obtain ⟨r_2, e_2, hf⟩ := bo hf
    refine mcallVi (W0 := (wM g m0 m1 m2 m3 m4 μ)) (Wc := (wM g m0 m1 m2 m3 m4 μ)) (Wr := ([] : va_W)) (W1 := (wM g m0 m1 m2 m3 m4 r_2.2)) (W2 := (wM g m0 m1 m2 m3 m4 r_2.2)) (As := []) (rest := []) [0, 1, 2, 3, 4] [] [0, 1, 2, 3, 4] 5 0 ⟨hx, hb, hml, hown, hts⟩ hP hD hE hZ hS hA (cX7_labelsAll_ok l g m0 m1 m2 m3 m4 μ _ e_2) (cwV 0 hts gX7_does_X7_labelsAll rfl rfl rfl hdX7_labelsAll ⟨(Nat.le_of_ble_eq_true rfl), (Nat.le_of_ble_eq_true rfl)⟩) rfl rfl rfl (by decide) (by decide) (by decide) (by decide) rfl rfl rfl rfl hl.1 rfl (Nat.le_of_ble_eq_true rfl) ⟨(Nat.le_of_ble_eq_true rfl), (Nat.le_of_ble_eq_true rfl)⟩ dX7_does_264 (fun H locs hP hD hS => ?_)
    have ho := Option.some.inj hf
    subst ho
    exact m_iret (v := r_2.1) hx hb hr hlocks hP hD hS rfl dX7_does_267
  · have hf := iq s_1 hf
    by_cases s_3 : p0 = (98 : Int32)
    · have hf := ip s_3 hf
      refine lv_tableIn (off := 241) (tgt := 245) hx hb dX7_does_4 (by rw [s_3]; decide) (by rw [s_3]; decide) (by rw [s_3]; rfl) (by decide) ?_
      refine lv_aload_n hx hb dX7_does_245 rfl (lv_at hl 1 rfl) ?_
      refine lv_iload_n hx hb dX7_does_246 rfl (lv_at hl 3 rfl) ?_
      refine lv_iconst (v := (3 : Int32)) hx hb dX7_does_247 (by decide) ?_
      refine lv_aload_n hx hb dX7_does_248 rfl (lv_at hl 1 rfl) ?_
      refine lv_iload_n hx hb dX7_does_249 rfl (lv_at hl 3 rfl) ?_
      obtain ⟨r_4, e_4, hf⟩ := bo hf
      refine pcallV (W0 := (wM g m0 m1 m2 m3 m4 μ)) (As := [.int p1]) (rest := [.int (3 : Int32), .int p1, .ref m0]) [0, 1, 2, 3, 4] 5 0 ⟨hx, hb, hml, hown, hts⟩ hP hE hZ hS (cX7_best_ok l g m0 m1 m2 m3 m4 μ p1 e_4) (cwV 1 hts gX7_does_X7_best rfl rfl rfl hdX7_best ⟨(Nat.le_of_ble_eq_true rfl), (Nat.le_of_ble_eq_true rfl)⟩) rfl rfl rfl rfl rfl hl.1 rfl (Nat.le_of_ble_eq_true rfl) ⟨(Nat.le_of_ble_eq_true rfl), (Nat.le_of_ble_eq_true rfl)⟩ dX7_does_250 ?_
      obtain ⟨r_5, e_5, hf⟩ := bo hf
      refine mcallVv (W0 := (wM g m0 m1 m2 m3 m4 μ)) (Wc := (wM g m0 m1 m2 m3 m4 μ)) (Wr := ([] : va_W)) (W1 := (wM g m0 m1 m2 m3 m4 r_5)) (W2 := (wM g m0 m1 m2 m3 m4 r_5)) (As := [.int p1, .int (3 : Int32), .int r_4]) (rest := []) [0, 1, 2, 3, 4] [] [0, 1, 2, 3, 4] 5 0 ⟨hx, hb, hml, hown, hts⟩ hP hD hE hZ hS hA (cX7_puts_ok l g m0 m1 m2 m3 m4 μ p1 (3 : Int32) r_4 _ e_5) (cwV 3 hts gX7_does_X7_puts rfl rfl rfl hdX7_puts ⟨(Nat.le_of_ble_eq_true rfl), (Nat.le_of_ble_eq_true rfl)⟩) rfl rfl rfl (by decide) (by decide) (by decide) (by decide) rfl rfl rfl rfl hl.1 rfl (Nat.le_of_ble_eq_true rfl) ⟨(Nat.le_of_ble_eq_true rfl), (Nat.le_of_ble_eq_true rfl)⟩ dX7_does_253 (fun H locs hP hD hS => ?_)
      refine lv_aload_n hx hb dX7_does_256 rfl (lv_at hl 1 rfl) ?_
      refine lv_iload_n hx hb dX7_does_257 rfl (lv_at hl 3 rfl) ?_
      refine lv_iconst (v := (3 : Int32)) hx hb dX7_does_258 (by decide) ?_
      obtain ⟨r_6, e_6, hf⟩ := bo hf
      refine pcallV (W0 := (wM g m0 m1 m2 m3 m4 r_5)) (As := [.int p1, .int (3 : Int32)]) (rest := []) [0, 1, 2, 3, 4] 5 0 ⟨hx, hb, hml, hown, hts⟩ hP hE hZ hS (cX7_of_ok l g m0 m1 m2 m3 m4 r_5 p1 (3 : Int32) e_6) (cwV 2 hts gX7_does_X7_of rfl rfl rfl hdX7_of ⟨(Nat.le_of_ble_eq_true rfl), (Nat.le_of_ble_eq_true rfl)⟩) rfl rfl rfl rfl rfl hl.1 rfl (Nat.le_of_ble_eq_true rfl) ⟨(Nat.le_of_ble_eq_true rfl), (Nat.le_of_ble_eq_true rfl)⟩ dX7_does_259 ?_
      have ho := Option.some.inj hf
      subst ho
      exact m_iret (v := r_6) hx hb hr hlocks hP hD hS rfl dX7_does_262
    · have hf := iq s_3 hf
      by_cases s_7 : p0 = (108 : Int32)
      · have hf := ip s_7 hf
        refine lv_tableIn (off := 209) (tgt := 213) hx hb dX7_does_4 (by rw [s_7]; decide) (by rw [s_7]; decide) (by rw [s_7]; rfl) (by decide) ?_
        refine lv_aload_n hx hb dX7_does_213 rfl (lv_at hl 1 rfl) ?_
        refine lv_iload_n hx hb dX7_does_214 rfl (lv_at hl 3 rfl) ?_
        refine lv_iconst (v := (3 : Int32)) hx hb dX7_does_215 (by decide) ?_
        refine lv_iload_n hx hb dX7_does_216 rfl (lv_at hl 4 rfl) ?_
        obtain ⟨r_8, e_8, hf⟩ := bo hf
        refine mcallVv (W0 := (wM g m0 m1 m2 m3 m4 μ)) (Wc := (wM g m0 m1 m2 m3 m4 μ)) (Wr := ([] : va_W)) (W1 := (wM g m0 m1 m2 m3 m4 r_8)) (W2 := (wM g m0 m1 m2 m3 m4 r_8)) (As := [.int p1, .int (3 : Int32), .int p2]) (rest := []) [0, 1, 2, 3, 4] [] [0, 1, 2, 3, 4] 5 0 ⟨hx, hb, hml, hown, hts⟩ hP hD hE hZ hS hA (cX7_puts_ok l g m0 m1 m2 m3 m4 μ p1 (3 : Int32) p2 _ e_8) (cwV 3 hts gX7_does_X7_puts rfl rfl rfl hdX7_puts ⟨(Nat.le_of_ble_eq_true rfl), (Nat.le_of_ble_eq_true rfl)⟩) rfl rfl rfl (by decide) (by decide) (by decide) (by decide) rfl rfl rfl rfl hl.1 rfl (Nat.le_of_ble_eq_true rfl) ⟨(Nat.le_of_ble_eq_true rfl), (Nat.le_of_ble_eq_true rfl)⟩ dX7_does_217 (fun H locs hP hD hS => ?_)
        refine lv_aload_n hx hb dX7_does_220 rfl (lv_at hl 1 rfl) ?_
        refine lv_iload_n hx hb dX7_does_221 rfl (lv_at hl 3 rfl) ?_
        refine lv_iload_n hx hb dX7_does_222 rfl (lv_at hl 4 rfl) ?_
        obtain ⟨r_9, e_9, hf⟩ := bo hf
        refine pcallV (W0 := (wM g m0 m1 m2 m3 m4 r_8)) (As := [.int p1, .int p2]) (rest := []) [0, 1, 2, 3, 4] 5 0 ⟨hx, hb, hml, hown, hts⟩ hP hE hZ hS (cX7_bends_ok l g m0 m1 m2 m3 m4 r_8 p1 p2 e_9) (cwV 2 hts gX7_does_X7_bends rfl rfl rfl hdX7_bends ⟨(Nat.le_of_ble_eq_true rfl), (Nat.le_of_ble_eq_true rfl)⟩) rfl rfl rfl rfl rfl hl.1 rfl (Nat.le_of_ble_eq_true rfl) ⟨(Nat.le_of_ble_eq_true rfl), (Nat.le_of_ble_eq_true rfl)⟩ dX7_does_223 ?_
        have ho := Option.some.inj hf
        subst ho
        exact m_iret (v := r_9) hx hb hr hlocks hP hD hS rfl dX7_does_226
      · have hf := iq s_7 hf
        by_cases s_10 : p0 = (110 : Int32)
        · have hf := ip s_10 hf
          refine lv_tableIn (off := 108) (tgt := 112) hx hb dX7_does_4 (by rw [s_10]; decide) (by rw [s_10]; decide) (by rw [s_10]; rfl) (by decide) ?_
          refine lv_aload_n hx hb dX7_does_112 rfl (lv_at hl 1 rfl) ?_
          refine va_get (v := .ref m1) (C := RX7) (T := TX7) (N := 13) hx hb hts fiX7_does_X7 hown hE.1 hP 0 rfl rfl 0 (by decide) (hts _ flX7_does_7) (fun _ h9 => h9) rfl dX7_does_113 ?_
          refine lv_iconst (v := (0 : Int32)) hx hb dX7_does_116 (by decide) ?_
          refine va_iald hx hb hE.1 hP 1 0 rfl rfl (vin (by decide)) dX7_does_117 ?_
          refine lv_istore (lv' := [(5, .int (M_row μ (Int32.toNatClampNeg (0 : Int32)))), (4, .int (0 : Int32)), (0, .ref m0), (1, .int p0), (2, .int p1), (3, .int p2)]) hx hb dX7_does_118 hl (by decide) rfl (fun ls hl => ?_)
          refine lv_aload_n hx hb dX7_does_120 rfl (lv_at hl 2 rfl) ?_
          refine va_get (v := .ref m1) (C := RX7) (T := TX7) (N := 13) hx hb hts fiX7_does_X7 hown hE.1 hP 0 rfl rfl 0 (by decide) (hts _ flX7_does_7) (fun _ h9 => h9) rfl dX7_does_121 ?_
          refine lv_iconst (v := (0 : Int32)) hx hb dX7_does_124 (by decide) ?_
          refine lv_dup2_11 hx hb dX7_does_125 rfl rfl ?_
          refine va_iald hx hb hE.1 hP 1 0 rfl rfl (vin (by decide)) dX7_does_126 ?_
          refine lv_iconst (v := (1 : Int32)) hx hb dX7_does_127 (by decide) ?_
          refine lv_iadd hx hb dX7_does_128 ?_
          refine va_iast hx hb hE.1 hP hD hS 1 0 rfl rfl (vin (by decide)) dX7_does_129 (fun H locs hP hD hS => ?_)
          have hP : va_P g.1 vwCl (wM g m0 m1 m2 m3 m4 (M_row' μ (upd (M_row μ) (Int32.toNatClampNeg (0 : Int32)) ((M_row μ (Int32.toNatClampNeg (0 : Int32))) + (1 : Int32))))) H := hP
          have hD : va_D A (wM g m0 m1 m2 m3 m4 (M_row' μ (upd (M_row μ) (Int32.toNatClampNeg (0 : Int32)) ((M_row μ (Int32.toNatClampNeg (0 : Int32))) + (1 : Int32))))) := hD
          refine lv_aload_n hx hb dX7_does_130 rfl (lv_at hl 2 rfl) ?_
          refine lv_iload hx hb dX7_does_131 (lv_at hl 0 rfl) ?_
          refine lv_iconst (v := (0 : Int32)) hx hb dX7_does_133 (by decide) ?_
          refine lv_iload_n hx hb dX7_does_134 rfl (lv_at hl 4 rfl) ?_
          obtain ⟨r_11, e_11, hf⟩ := bo hf
          refine mcallVv (W0 := (wM g m0 m1 m2 m3 m4 (M_row' μ (upd (M_row μ) (Int32.toNatClampNeg (0 : Int32)) ((M_row μ (Int32.toNatClampNeg (0 : Int32))) + (1 : Int32)))))) (Wc := (wM g m0 m1 m2 m3 m4 (M_row' μ (upd (M_row μ) (Int32.toNatClampNeg (0 : Int32)) ((M_row μ (Int32.toNatClampNeg (0 : Int32))) + (1 : Int32)))))) (Wr := ([] : va_W)) (W1 := (wM g m0 m1 m2 m3 m4 r_11)) (W2 := (wM g m0 m1 m2 m3 m4 r_11)) (As := [.int (M_row μ (Int32.toNatClampNeg (0 : Int32))), .int (0 : Int32), .int p1]) (rest := []) [0, 1, 2, 3, 4] [] [0, 1, 2, 3, 4] 5 0 ⟨hx, hb, hml, hown, hts⟩ hP hD hE hZ hS hA (cX7_puts_ok l g m0 m1 m2 m3 m4 (M_row' μ (upd (M_row μ) (Int32.toNatClampNeg (0 : Int32)) ((M_row μ (Int32.toNatClampNeg (0 : Int32))) + (1 : Int32)))) (M_row μ (Int32.toNatClampNeg (0 : Int32))) (0 : Int32) p1 _ e_11) (cwV 3 hts gX7_does_X7_puts rfl rfl rfl hdX7_puts ⟨(Nat.le_of_ble_eq_true rfl), (Nat.le_of_ble_eq_true rfl)⟩) rfl rfl rfl (by decide) (by decide) (by decide) (by decide) rfl rfl rfl rfl hl.1 rfl (Nat.le_of_ble_eq_true rfl) ⟨(Nat.le_of_ble_eq_true rfl), (Nat.le_of_ble_eq_true rfl)⟩ dX7_does_135 (fun H locs hP hD hS => ?_)
          refine lv_aload_n hx hb dX7_does_138 rfl (lv_at hl 2 rfl) ?_
          refine lv_iload hx hb dX7_does_139 (lv_at hl 0 rfl) ?_
          refine lv_iconst (v := (1 : Int32)) hx hb dX7_does_141 (by decide) ?_
          refine lv_iload_n hx hb dX7_does_142 rfl (lv_at hl 5 rfl) ?_
          obtain ⟨r_12, e_12, hf⟩ := bo hf
          refine mcallVv (W0 := (wM g m0 m1 m2 m3 m4 r_11)) (Wc := (wM g m0 m1 m2 m3 m4 r_11)) (Wr := ([] : va_W)) (W1 := (wM g m0 m1 m2 m3 m4 r_12)) (W2 := (wM g m0 m1 m2 m3 m4 r_12)) (As := [.int (M_row μ (Int32.toNatClampNeg (0 : Int32))), .int (1 : Int32), .int p2]) (rest := []) [0, 1, 2, 3, 4] [] [0, 1, 2, 3, 4] 5 0 ⟨hx, hb, hml, hown, hts⟩ hP hD hE hZ hS hA (cX7_puts_ok l g m0 m1 m2 m3 m4 r_11 (M_row μ (Int32.toNatClampNeg (0 : Int32))) (1 : Int32) p2 _ e_12) (cwV 3 hts gX7_does_X7_puts rfl rfl rfl hdX7_puts ⟨(Nat.le_of_ble_eq_true rfl), (Nat.le_of_ble_eq_true rfl)⟩) rfl rfl rfl (by decide) (by decide) (by decide) (by decide) rfl rfl rfl rfl hl.1 rfl (Nat.le_of_ble_eq_true rfl) ⟨(Nat.le_of_ble_eq_true rfl), (Nat.le_of_ble_eq_true rfl)⟩ dX7_does_143 (fun H locs hP hD hS => ?_)
          refine lv_aload_n hx hb dX7_does_146 rfl (lv_at hl 2 rfl) ?_
          refine lv_iload hx hb dX7_does_147 (lv_at hl 0 rfl) ?_
          refine lv_iconst (v := (2 : Int32)) hx hb dX7_does_149 (by decide) ?_
          refine lv_iconst (v := (0 : Int32)) hx hb dX7_does_150 (by decide) ?_
          obtain ⟨r_13, e_13, hf⟩ := bo hf
          refine mcallVv (W0 := (wM g m0 m1 m2 m3 m4 r_12)) (Wc := (wM g m0 m1 m2 m3 m4 r_12)) (Wr := ([] : va_W)) (W1 := (wM g m0 m1 m2 m3 m4 r_13)) (W2 := (wM g m0 m1 m2 m3 m4 r_13)) (As := [.int (M_row μ (Int32.toNatClampNeg (0 : Int32))), .int (2 : Int32), .int (0 : Int32)]) (rest := []) [0, 1, 2, 3, 4] [] [0, 1, 2, 3, 4] 5 0 ⟨hx, hb, hml, hown, hts⟩ hP hD hE hZ hS hA (cX7_puts_ok l g m0 m1 m2 m3 m4 r_12 (M_row μ (Int32.toNatClampNeg (0 : Int32))) (2 : Int32) (0 : Int32) _ e_13) (cwV 3 hts gX7_does_X7_puts rfl rfl rfl hdX7_puts ⟨(Nat.le_of_ble_eq_true rfl), (Nat.le_of_ble_eq_true rfl)⟩) rfl rfl rfl (by decide) (by decide) (by decide) (by decide) rfl rfl rfl rfl hl.1 rfl (Nat.le_of_ble_eq_true rfl) ⟨(Nat.le_of_ble_eq_true rfl), (Nat.le_of_ble_eq_true rfl)⟩ dX7_does_151 (fun H locs hP hD hS => ?_)
          refine lv_aload_n hx hb dX7_does_154 rfl (lv_at hl 2 rfl) ?_
          refine lv_iload hx hb dX7_does_155 (lv_at hl 0 rfl) ?_
          refine lv_iconst (v := (3 : Int32)) hx hb dX7_does_157 (by decide) ?_
          refine lv_iconst (v := (-1 : Int32)) hx hb dX7_does_158 (by decide) ?_
          obtain ⟨r_14, e_14, hf⟩ := bo hf
          refine mcallVv (W0 := (wM g m0 m1 m2 m3 m4 r_13)) (Wc := (wM g m0 m1 m2 m3 m4 r_13)) (Wr := ([] : va_W)) (W1 := (wM g m0 m1 m2 m3 m4 r_14)) (W2 := (wM g m0 m1 m2 m3 m4 r_14)) (As := [.int (M_row μ (Int32.toNatClampNeg (0 : Int32))), .int (3 : Int32), .int (-1 : Int32)]) (rest := []) [0, 1, 2, 3, 4] [] [0, 1, 2, 3, 4] 5 0 ⟨hx, hb, hml, hown, hts⟩ hP hD hE hZ hS hA (cX7_puts_ok l g m0 m1 m2 m3 m4 r_13 (M_row μ (Int32.toNatClampNeg (0 : Int32))) (3 : Int32) (-1 : Int32) _ e_14) (cwV 3 hts gX7_does_X7_puts rfl rfl rfl hdX7_puts ⟨(Nat.le_of_ble_eq_true rfl), (Nat.le_of_ble_eq_true rfl)⟩) rfl rfl rfl (by decide) (by decide) (by decide) (by decide) rfl rfl rfl rfl hl.1 rfl (Nat.le_of_ble_eq_true rfl) ⟨(Nat.le_of_ble_eq_true rfl), (Nat.le_of_ble_eq_true rfl)⟩ dX7_does_159 (fun H locs hP hD hS => ?_)
          refine lv_iload hx hb dX7_does_162 (lv_at hl 0 rfl) ?_
          have ho := Option.some.inj hf
          subst ho
          exact m_iret (v := (M_row μ (Int32.toNatClampNeg (0 : Int32)))) hx hb hr hlocks hP hD hS rfl dX7_does_164
        · have hf := iq s_10 hf
          by_cases s_15 : p0 = (115 : Int32)
          · have hf := ip s_15 hf
            refine lv_tableIn (off := 161) (tgt := 165) hx hb dX7_does_4 (by rw [s_15]; decide) (by rw [s_15]; decide) (by rw [s_15]; rfl) (by decide) ?_
            refine lv_aload_n hx hb dX7_does_165 rfl (lv_at hl 1 rfl) ?_
            refine lv_iload_n hx hb dX7_does_166 rfl (lv_at hl 3 rfl) ?_
            refine lv_iconst (v := (4 : Int32)) hx hb dX7_does_167 (by decide) ?_
            refine lv_aload_n hx hb dX7_does_168 rfl (lv_at hl 1 rfl) ?_
            refine lv_iload_n hx hb dX7_does_169 rfl (lv_at hl 3 rfl) ?_
            refine lv_iconst (v := (2 : Int32)) hx hb dX7_does_170 (by decide) ?_
            obtain ⟨r_16, e_16, hf⟩ := bo hf
            refine pcallV (W0 := (wM g m0 m1 m2 m3 m4 μ)) (As := [.int p1, .int (2 : Int32)]) (rest := [.int (4 : Int32), .int p1, .ref m0]) [0, 1, 2, 3, 4] 5 0 ⟨hx, hb, hml, hown, hts⟩ hP hE hZ hS (cX7_of_ok l g m0 m1 m2 m3 m4 μ p1 (2 : Int32) e_16) (cwV 2 hts gX7_does_X7_of rfl rfl rfl hdX7_of ⟨(Nat.le_of_ble_eq_true rfl), (Nat.le_of_ble_eq_true rfl)⟩) rfl rfl rfl rfl rfl hl.1 rfl (Nat.le_of_ble_eq_true rfl) ⟨(Nat.le_of_ble_eq_true rfl), (Nat.le_of_ble_eq_true rfl)⟩ dX7_does_171 ?_
            refine lv_iadd hx hb dX7_does_174 ?_
            refine lv_iload_n hx hb dX7_does_175 rfl (lv_at hl 4 rfl) ?_
            obtain ⟨r_17, e_17, hf⟩ := bo hf
            refine mcallVv (W0 := (wM g m0 m1 m2 m3 m4 μ)) (Wc := (wM g m0 m1 m2 m3 m4 μ)) (Wr := ([] : va_W)) (W1 := (wM g m0 m1 m2 m3 m4 r_17)) (W2 := (wM g m0 m1 m2 m3 m4 r_17)) (As := [.int p1, .int ((4 : Int32) + r_16), .int p2]) (rest := []) [0, 1, 2, 3, 4] [] [0, 1, 2, 3, 4] 5 0 ⟨hx, hb, hml, hown, hts⟩ hP hD hE hZ hS hA (cX7_puts_ok l g m0 m1 m2 m3 m4 μ p1 ((4 : Int32) + r_16) p2 _ e_17) (cwV 3 hts gX7_does_X7_puts rfl rfl rfl hdX7_puts ⟨(Nat.le_of_ble_eq_true rfl), (Nat.le_of_ble_eq_true rfl)⟩) rfl rfl rfl (by decide) (by decide) (by decide) (by decide) rfl rfl rfl rfl hl.1 rfl (Nat.le_of_ble_eq_true rfl) ⟨(Nat.le_of_ble_eq_true rfl), (Nat.le_of_ble_eq_true rfl)⟩ dX7_does_176 (fun H locs hP hD hS => ?_)
            refine lv_aload_n hx hb dX7_does_179 rfl (lv_at hl 1 rfl) ?_
            refine lv_iload_n hx hb dX7_does_180 rfl (lv_at hl 3 rfl) ?_
            refine lv_iconst (v := (2 : Int32)) hx hb dX7_does_181 (by decide) ?_
            refine lv_aload_n hx hb dX7_does_182 rfl (lv_at hl 1 rfl) ?_
            refine lv_iload_n hx hb dX7_does_183 rfl (lv_at hl 3 rfl) ?_
            refine lv_iconst (v := (2 : Int32)) hx hb dX7_does_184 (by decide) ?_
            obtain ⟨r_18, e_18, hf⟩ := bo hf
            refine pcallV (W0 := (wM g m0 m1 m2 m3 m4 r_17)) (As := [.int p1, .int (2 : Int32)]) (rest := [.int (2 : Int32), .int p1, .ref m0]) [0, 1, 2, 3, 4] 5 0 ⟨hx, hb, hml, hown, hts⟩ hP hE hZ hS (cX7_of_ok l g m0 m1 m2 m3 m4 r_17 p1 (2 : Int32) e_18) (cwV 2 hts gX7_does_X7_of rfl rfl rfl hdX7_of ⟨(Nat.le_of_ble_eq_true rfl), (Nat.le_of_ble_eq_true rfl)⟩) rfl rfl rfl rfl rfl hl.1 rfl (Nat.le_of_ble_eq_true rfl) ⟨(Nat.le_of_ble_eq_true rfl), (Nat.le_of_ble_eq_true rfl)⟩ dX7_does_185 ?_
            refine lv_iconst (v := (1 : Int32)) hx hb dX7_does_188 (by decide) ?_
            refine lv_iadd hx hb dX7_does_189 ?_
            obtain ⟨r_19, e_19, hf⟩ := bo hf
            refine mcallVv (W0 := (wM g m0 m1 m2 m3 m4 r_17)) (Wc := (wM g m0 m1 m2 m3 m4 r_17)) (Wr := ([] : va_W)) (W1 := (wM g m0 m1 m2 m3 m4 r_19)) (W2 := (wM g m0 m1 m2 m3 m4 r_19)) (As := [.int p1, .int (2 : Int32), .int (r_18 + (1 : Int32))]) (rest := []) [0, 1, 2, 3, 4] [] [0, 1, 2, 3, 4] 5 0 ⟨hx, hb, hml, hown, hts⟩ hP hD hE hZ hS hA (cX7_puts_ok l g m0 m1 m2 m3 m4 r_17 p1 (2 : Int32) (r_18 + (1 : Int32)) _ e_19) (cwV 3 hts gX7_does_X7_puts rfl rfl rfl hdX7_puts ⟨(Nat.le_of_ble_eq_true rfl), (Nat.le_of_ble_eq_true rfl)⟩) rfl rfl rfl (by decide) (by decide) (by decide) (by decide) rfl rfl rfl rfl hl.1 rfl (Nat.le_of_ble_eq_true rfl) ⟨(Nat.le_of_ble_eq_true rfl), (Nat.le_of_ble_eq_true rfl)⟩ dX7_does_190 (fun H locs hP hD hS => ?_)
            refine lv_aload_n hx hb dX7_does_193 rfl (lv_at hl 1 rfl) ?_
            refine lv_iload_n hx hb dX7_does_194 rfl (lv_at hl 3 rfl) ?_
            obtain ⟨r_20, e_20, hf⟩ := bo hf
            refine pcallV (W0 := (wM g m0 m1 m2 m3 m4 r_19)) (As := [.int p1]) (rest := []) [0, 1, 2, 3, 4] 5 0 ⟨hx, hb, hml, hown, hts⟩ hP hE hZ hS (cX7_closes_ok l g m0 m1 m2 m3 m4 r_19 p1 e_20) (cwV 1 hts gX7_does_X7_closes rfl rfl rfl hdX7_closes ⟨(Nat.le_of_ble_eq_true rfl), (Nat.le_of_ble_eq_true rfl)⟩) rfl rfl rfl rfl rfl hl.1 rfl (Nat.le_of_ble_eq_true rfl) ⟨(Nat.le_of_ble_eq_true rfl), (Nat.le_of_ble_eq_true rfl)⟩ dX7_does_195 ?_
            refine lv_beq (tgt := 205) hx hb dX7_does_198 (by decide) (fun c_21 => ?_) (fun c_21 => ?_)
            · have hf := iq c_21 hf
              refine lv_iconst (v := (0 : Int32)) hx hb dX7_does_205 (by decide) ?_
              have ho := Option.some.inj hf
              subst ho
              exact m_iret (v := (0 : Int32)) hx hb hr hlocks hP hD hS rfl dX7_does_206
            · have hf := ip c_21 hf
              refine lv_iconst (v := (1 : Int32)) hx hb dX7_does_201 (by decide) ?_
              refine lv_goto (tgt := 206) hx hb dX7_does_202 (by decide) ?_
              have ho := Option.some.inj hf
              subst ho
              exact m_iret (v := (1 : Int32)) hx hb hr hlocks hP hD hS rfl dX7_does_206
          · have hf := iq s_15 hf
            by_cases s_22 : p0 = (117 : Int32)
            · have hf := ip s_22 hf
              refine lv_tableIn (off := 223) (tgt := 227) hx hb dX7_does_4 (by rw [s_22]; decide) (by rw [s_22]; decide) (by rw [s_22]; rfl) (by decide) ?_
              refine lv_aload_n hx hb dX7_does_227 rfl (lv_at hl 1 rfl) ?_
              refine lv_iload_n hx hb dX7_does_228 rfl (lv_at hl 3 rfl) ?_
              refine lv_iconst (v := (3 : Int32)) hx hb dX7_does_229 (by decide) ?_
              obtain ⟨r_23, e_23, hf⟩ := bo hf
              refine pcallV (W0 := (wM g m0 m1 m2 m3 m4 μ)) (As := [.int p1, .int (3 : Int32)]) (rest := []) [0, 1, 2, 3, 4] 5 0 ⟨hx, hb, hml, hown, hts⟩ hP hE hZ hS (cX7_of_ok l g m0 m1 m2 m3 m4 μ p1 (3 : Int32) e_23) (cwV 2 hts gX7_does_X7_of rfl rfl rfl hdX7_of ⟨(Nat.le_of_ble_eq_true rfl), (Nat.le_of_ble_eq_true rfl)⟩) rfl rfl rfl rfl rfl hl.1 rfl (Nat.le_of_ble_eq_true rfl) ⟨(Nat.le_of_ble_eq_true rfl), (Nat.le_of_ble_eq_true rfl)⟩ dX7_does_230 ?_
              refine lv_istore (lv' := [(4, .int r_23), (0, .ref m0), (1, .int p0), (2, .int p1), (3, .int p2)]) hx hb dX7_does_233 hl (by decide) rfl (fun ls hl => ?_)
              refine lv_aload_n hx hb dX7_does_235 rfl (lv_at hl 1 rfl) ?_
              refine lv_iload_n hx hb dX7_does_236 rfl (lv_at hl 3 rfl) ?_
              refine lv_iconst (v := (3 : Int32)) hx hb dX7_does_237 (by decide) ?_
              refine lv_iconst (v := (-1 : Int32)) hx hb dX7_does_238 (by decide) ?_
              obtain ⟨r_24, e_24, hf⟩ := bo hf
              refine mcallVv (W0 := (wM g m0 m1 m2 m3 m4 μ)) (Wc := (wM g m0 m1 m2 m3 m4 μ)) (Wr := ([] : va_W)) (W1 := (wM g m0 m1 m2 m3 m4 r_24)) (W2 := (wM g m0 m1 m2 m3 m4 r_24)) (As := [.int p1, .int (3 : Int32), .int (-1 : Int32)]) (rest := []) [0, 1, 2, 3, 4] [] [0, 1, 2, 3, 4] 5 0 ⟨hx, hb, hml, hown, hts⟩ hP hD hE hZ hS hA (cX7_puts_ok l g m0 m1 m2 m3 m4 μ p1 (3 : Int32) (-1 : Int32) _ e_24) (cwV 3 hts gX7_does_X7_puts rfl rfl rfl hdX7_puts ⟨(Nat.le_of_ble_eq_true rfl), (Nat.le_of_ble_eq_true rfl)⟩) rfl rfl rfl (by decide) (by decide) (by decide) (by decide) rfl rfl rfl rfl hl.1 rfl (Nat.le_of_ble_eq_true rfl) ⟨(Nat.le_of_ble_eq_true rfl), (Nat.le_of_ble_eq_true rfl)⟩ dX7_does_239 (fun H locs hP hD hS => ?_)
              refine lv_iload hx hb dX7_does_242 (lv_at hl 0 rfl) ?_
              have ho := Option.some.inj hf
              subst ho
              exact m_iret (v := r_23) hx hb hr hlocks hP hD hS rfl dX7_does_244
            · have hf := iq s_22 hf
              by_cases s_25 : p0 = (119 : Int32)
              · have hf := ip s_25 hf
                refine lv_tableIn (off := 203) (tgt := 207) hx hb dX7_does_4 (by rw [s_25]; decide) (by rw [s_25]; decide) (by rw [s_25]; rfl) (by decide) ?_
                refine lv_aload_n hx hb dX7_does_207 rfl (lv_at hl 1 rfl) ?_
                refine lv_iload_n hx hb dX7_does_208 rfl (lv_at hl 3 rfl) ?_
                obtain ⟨r_26, e_26, hf⟩ := bo hf
                refine mcallVi (W0 := (wM g m0 m1 m2 m3 m4 μ)) (Wc := (wM g m0 m1 m2 m3 m4 μ)) (Wr := ([] : va_W)) (W1 := (wM g m0 m1 m2 m3 m4 r_26.2)) (W2 := (wM g m0 m1 m2 m3 m4 r_26.2)) (As := [.int p1]) (rest := []) [0, 1, 2, 3, 4] [] [0, 1, 2, 3, 4] 5 0 ⟨hx, hb, hml, hown, hts⟩ hP hD hE hZ hS hA (cX7_wipes_ok l g m0 m1 m2 m3 m4 μ p1 _ e_26) (cwV 1 hts gX7_does_X7_wipes rfl rfl rfl hdX7_wipes ⟨(Nat.le_of_ble_eq_true rfl), (Nat.le_of_ble_eq_true rfl)⟩) rfl rfl rfl (by decide) (by decide) (by decide) (by decide) rfl rfl rfl rfl hl.1 rfl (Nat.le_of_ble_eq_true rfl) ⟨(Nat.le_of_ble_eq_true rfl), (Nat.le_of_ble_eq_true rfl)⟩ dX7_does_209 (fun H locs hP hD hS => ?_)
                have ho := Option.some.inj hf
                subst ho
                exact m_iret (v := r_26.1) hx hb hr hlocks hP hD hS rfl dX7_does_212
              · have hf := iq s_25 hf
                refine lv_tabD (tgt := 268) hx hb dX7_does_4 [97, 98, 108, 110, 115, 117, 119] (by decide) (by decide +kernel) (fun v hv => ?_) (by decide) ?_
                · simp only [List.mem_cons, List.not_mem_nil, or_false] at hv
                  rcases hv with rfl | rfl | rfl | rfl | rfl | rfl | rfl
                  · exact lv_neT s_1 (by decide)
                  · exact lv_neT s_3 (by decide)
                  · exact lv_neT s_7 (by decide)
                  · exact lv_neT s_10 (by decide)
                  · exact lv_neT s_15 (by decide)
                  · exact lv_neT s_22 (by decide)
                  · exact lv_neT s_25 (by decide)
                refine lv_aload_n hx hb dX7_does_268 rfl (lv_at hl 1 rfl) ?_
                refine va_get (v := .ref m1) (C := RX7) (T := TX7) (N := 13) hx hb hts fiX7_does_X7 hown hE.1 hP 0 rfl rfl 0 (by decide) (hts _ flX7_does_7) (fun _ h9 => h9) rfl dX7_does_269 ?_
                refine lv_iconst (v := (1 : Int32)) hx hb dX7_does_272 (by decide) ?_
                refine va_iald hx hb hE.1 hP 1 0 rfl rfl (vin (by decide)) dX7_does_273 ?_
                refine lv_istore (lv' := [(4, .int (M_row μ (Int32.toNatClampNeg (1 : Int32)))), (0, .ref m0), (1, .int p0), (2, .int p1), (3, .int p2)]) hx hb dX7_does_274 hl (by decide) rfl (fun ls hl => ?_)
                refine lv_aload_n hx hb dX7_does_276 rfl (lv_at hl 1 rfl) ?_
                refine va_get (v := .ref m1) (C := RX7) (T := TX7) (N := 13) hx hb hts fiX7_does_X7 hown hE.1 hP 0 rfl rfl 0 (by decide) (hts _ flX7_does_7) (fun _ h9 => h9) rfl dX7_does_277 ?_
                refine lv_iconst (v := (1 : Int32)) hx hb dX7_does_280 (by decide) ?_
                refine lv_iload_n hx hb dX7_does_281 rfl (lv_at hl 3 rfl) ?_
                refine va_iast hx hb hE.1 hP hD hS 1 0 rfl rfl (vin (by decide)) dX7_does_282 (fun H locs hP hD hS => ?_)
                have hP : va_P g.1 vwCl (wM g m0 m1 m2 m3 m4 (M_row' μ (upd (M_row μ) (Int32.toNatClampNeg (1 : Int32)) p1))) H := hP
                have hD : va_D A (wM g m0 m1 m2 m3 m4 (M_row' μ (upd (M_row μ) (Int32.toNatClampNeg (1 : Int32)) p1))) := hD
                refine lv_iload hx hb dX7_does_283 (lv_at hl 0 rfl) ?_
                have ho := Option.some.inj hf
                subst ho
                exact m_iret (v := (M_row μ (Int32.toNatClampNeg (1 : Int32)))) hx hb hr hlocks hP hD hS rfl dX7_does_285

def fX7_acts (μ : Mo) (p0 p1 p2 : Int32) : Option (Int32 × Mo) := ((fX7_refusal μ p0 p1 p2).bind fun r_1 => (if r_1 ≤ 0 then ((fX7_records (M_th' μ r_1)).bind fun r_3 => ((fX7_does r_3 p0 p1 p2).bind fun r_4 => (some (r_4.1, r_4.2)))) else (some ((0 : Int32), (M_th' μ r_1)))))
abbrev rmX7_acts : Room := { frames := 11, cells := 0, slots := 0, locals := 254 }
theorem hdX7_acts : yX7_acts.cls = RX7 ∧ yX7_acts.cls ≠ "java/lang/invoke/MethodHandle" ∧ yX7_acts.cls ≠ "java/lang/invoke/VarHandle" ∧ (parseMethodDescriptor yX7_acts.desc).map (fun d => d.parameters.length) = some 3 := by decide +kernel
theorem fiX7_acts_X7 : ∀ w ∈ wsX70, w ∈ wsX7_acts := by decide +kernel
theorem flX7_acts_22 : (.fieldLink RX7 22 "ContourLabelsModel" "thrown" "I" : Cond) ∈ wsX7_acts := by decide +kernel
set_option maxHeartbeats 4000000 in
set_option maxRecDepth 100000 in
theorem cX7_acts_ok (l : Launch) (g : Gg) (m0 m1 m2 m3 m4 : Nat) (μ : Mo) (p0 p1 p2 : Int32) (sz : Nat) {o : Int32 × Mo} (hf : fX7_acts μ p0 p1 p2 = some o) : Met l yX7_acts wsX7_acts rmX7_acts (va_Pc [.ref m0, .int p0, .int p1, .int p2] (PM g (wM g m0 m1 m2 m3 m4 μ) sz)) (va_Qi (fun r' (_ : Unit) => r' = o.1) (fun _ t => PQ g (wM g m0 m1 m2 m3 m4 o.2) (va_A (wM g m0 m1 m2 m3 m4 μ) sz) t) (va_A (wM g m0 m1 m2 m3 m4 μ) sz)) 0 0 (va_A (wM g m0 m1 m2 m3 m4 μ) sz) := by
  refine Met.ofW (cc := cX7_acts) (maxL := 4) (ret := (some .int)) (by decide) rfl ?_
  intro p e s m args below meth c s₁ B hml hv
  obtain ⟨rfl, rfl, hP, hD0, hE, hZ⟩ := hv
  have hx := B.exec
  have hb := B.bytes
  have hr := B.returns
  have hts := atoms_spec (ws := wsX7_acts) B.pre
  have hown : s.vm.findClass RX7 = some m.cls := findClass_of_methodNamed B.named
  have hlocks := B.notSynchronized
  have hD := hD0.self (sz := s.heap.size)
  generalize hAe : (va_A (wM g m0 m1 m2 m3 m4 μ) s.heap.size) = A at hD hZ ⊢
  have hA : ∀ q : Nat, s.heap.size ≤ q → A q := fun q h => by rw [← hAe]; exact Or.inr h
  have hS : va_S A s.heap s.heap [] := va_S.rf
  have hP : va_P g.1 vwCl (wM g m0 m1 m2 m3 m4 μ) s.heap := hP
  have hl := lv_entry ([.ref m0, .int p0, .int p1, .int p2]) (n := 4) (Nat.le_of_ble_eq_true rfl)
  rw [lg_entry_eq]
  generalize (lg_sl ([.ref m0, .int p0, .int p1, .int p2]) ++ List.replicate (4 - (lg_sl ([.ref m0, .int p0, .int p1, .int p2])).length) Slot.unset).toArray = ls at hl ⊢
  have hl : lv_has ls 4 [(0, .ref m0), (1, .int p0), (2, .int p1), (3, .int p2)] := hl
  unfold fX7_acts at hf
  refine lv_aload_n hx hb dX7_acts_0 rfl (lv_at hl 0 rfl) ?_
  refine lv_aload_n hx hb dX7_acts_1 rfl (lv_at hl 0 rfl) ?_
  refine lv_iload_n hx hb dX7_acts_2 rfl (lv_at hl 1 rfl) ?_
  refine lv_iload_n hx hb dX7_acts_3 rfl (lv_at hl 2 rfl) ?_
  refine lv_iload_n hx hb dX7_acts_4 rfl (lv_at hl 3 rfl) ?_
  obtain ⟨r_1, e_1, hf⟩ := bo hf
  refine pcallV (W0 := (wM g m0 m1 m2 m3 m4 μ)) (As := [.int p0, .int p1, .int p2]) (rest := [.ref m0]) [0, 1, 2, 3, 4] 5 0 ⟨hx, hb, hml, hown, hts⟩ hP hE hZ hS (cX7_refusal_ok l g m0 m1 m2 m3 m4 μ p0 p1 p2 e_1) (cwV 3 hts gX7_acts_X7_refusal rfl rfl rfl hdX7_refusal ⟨(Nat.le_of_ble_eq_true rfl), (Nat.le_of_ble_eq_true rfl)⟩) rfl rfl rfl rfl rfl hl.1 rfl (Nat.le_of_ble_eq_true rfl) ⟨(Nat.le_of_ble_eq_true rfl), (Nat.le_of_ble_eq_true rfl)⟩ dX7_acts_5 ?_
  refine va_put (v := .int r_1) (ty := .int) (C := RX7) (T := TX7) (N := 13) hx hb hts fiX7_acts_X7 tyX7 tyX7_ok nmX7 hown hE.1 hP hD hS 0 rfl rfl 7 (by decide) (hts _ flX7_acts_22) (fun _ h9 => h9) rfl (by decide +kernel) rfl rfl (Nat.le_of_ble_eq_true rfl) dX7_acts_8 (fun H locs hP hD hS => ?_)
  have hP : va_P g.1 vwCl (wM g m0 m1 m2 m3 m4 (M_th' μ r_1)) H := hP
  have hD : va_D A (wM g m0 m1 m2 m3 m4 (M_th' μ r_1)) := hD
  refine lv_aload_n hx hb dX7_acts_11 rfl (lv_at hl 0 rfl) ?_
  refine va_get (v := .int r_1) (C := RX7) (T := TX7) (N := 13) hx hb hts fiX7_acts_X7 hown hE.1 hP 0 rfl rfl 7 (by decide) (hts _ flX7_acts_22) (fun _ h9 => h9) rfl dX7_acts_12 ?_
  refine lv_if_le (tgt := 20) hx hb dX7_acts_15 (by decide) (fun c_2 => ?_) (fun c_2 => ?_)
  · have hf := ip c_2 hf
    refine lv_aload_n hx hb dX7_acts_20 rfl (lv_at hl 0 rfl) ?_
    obtain ⟨r_3, e_3, hf⟩ := bo hf
    refine mcallVv (W0 := (wM g m0 m1 m2 m3 m4 (M_th' μ r_1))) (Wc := (wM g m0 m1 m2 m3 m4 (M_th' μ r_1))) (Wr := ([] : va_W)) (W1 := (wM g m0 m1 m2 m3 m4 r_3)) (W2 := (wM g m0 m1 m2 m3 m4 r_3)) (As := []) (rest := []) [0, 1, 2, 3, 4] [] [0, 1, 2, 3, 4] 5 0 ⟨hx, hb, hml, hown, hts⟩ hP hD hE hZ hS hA (cX7_records_ok l g m0 m1 m2 m3 m4 (M_th' μ r_1) _ e_3) (cwV 0 hts gX7_acts_X7_records rfl rfl rfl hdX7_records ⟨(Nat.le_of_ble_eq_true rfl), (Nat.le_of_ble_eq_true rfl)⟩) rfl rfl rfl (by decide) (by decide) (by decide) (by decide) rfl rfl rfl rfl hl.1 rfl (Nat.le_of_ble_eq_true rfl) ⟨(Nat.le_of_ble_eq_true rfl), (Nat.le_of_ble_eq_true rfl)⟩ dX7_acts_21 (fun H locs hP hD hS => ?_)
    refine lv_aload_n hx hb dX7_acts_24 rfl (lv_at hl 0 rfl) ?_
    refine lv_iload_n hx hb dX7_acts_25 rfl (lv_at hl 1 rfl) ?_
    refine lv_iload_n hx hb dX7_acts_26 rfl (lv_at hl 2 rfl) ?_
    refine lv_iload_n hx hb dX7_acts_27 rfl (lv_at hl 3 rfl) ?_
    obtain ⟨r_4, e_4, hf⟩ := bo hf
    refine mcallVi (W0 := (wM g m0 m1 m2 m3 m4 r_3)) (Wc := (wM g m0 m1 m2 m3 m4 r_3)) (Wr := ([] : va_W)) (W1 := (wM g m0 m1 m2 m3 m4 r_4.2)) (W2 := (wM g m0 m1 m2 m3 m4 r_4.2)) (As := [.int p0, .int p1, .int p2]) (rest := []) [0, 1, 2, 3, 4] [] [0, 1, 2, 3, 4] 5 0 ⟨hx, hb, hml, hown, hts⟩ hP hD hE hZ hS hA (cX7_does_ok l g m0 m1 m2 m3 m4 r_3 p0 p1 p2 _ e_4) (cwV 3 hts gX7_acts_X7_does rfl rfl rfl hdX7_does ⟨(Nat.le_of_ble_eq_true rfl), (Nat.le_of_ble_eq_true rfl)⟩) rfl rfl rfl (by decide) (by decide) (by decide) (by decide) rfl rfl rfl rfl hl.1 rfl (Nat.le_of_ble_eq_true rfl) ⟨(Nat.le_of_ble_eq_true rfl), (Nat.le_of_ble_eq_true rfl)⟩ dX7_acts_28 (fun H locs hP hD hS => ?_)
    have ho := Option.some.inj hf
    subst ho
    exact m_iret (v := r_4.1) hx hb hr hlocks hP hD hS rfl dX7_acts_31
  · have hf := iq c_2 hf
    refine lv_iconst (v := (0 : Int32)) hx hb dX7_acts_18 (by decide) ?_
    have ho := Option.some.inj hf
    subst ho
    exact m_iret (v := (0 : Int32)) hx hb hr hlocks hP hD hS rfl dX7_acts_19

def fX7_begin (μ : Mo) (p0 p1 : Int32) : Option (Int32 × Mo) := ((fX7_acts μ (110 : Int32) p0 p1).bind fun r_1 => (some (r_1.1, r_1.2)))
abbrev rmX7_begin : Room := { frames := 12, cells := 0, slots := 0, locals := 277 }
theorem hdX7_begin : yX7_begin.cls = RX7 ∧ yX7_begin.cls ≠ "java/lang/invoke/MethodHandle" ∧ yX7_begin.cls ≠ "java/lang/invoke/VarHandle" ∧ (parseMethodDescriptor yX7_begin.desc).map (fun d => d.parameters.length) = some 2 := by decide +kernel
set_option maxHeartbeats 4000000 in
set_option maxRecDepth 100000 in
theorem cX7_begin_ok (l : Launch) (g : Gg) (m0 m1 m2 m3 m4 : Nat) (μ : Mo) (p0 p1 : Int32) (sz : Nat) {o : Int32 × Mo} (hf : fX7_begin μ p0 p1 = some o) : Met l yX7_begin wsX7_begin rmX7_begin (va_Pc [.ref m0, .int p0, .int p1] (PM g (wM g m0 m1 m2 m3 m4 μ) sz)) (va_Qi (fun r' (_ : Unit) => r' = o.1) (fun _ t => PQ g (wM g m0 m1 m2 m3 m4 o.2) (va_A (wM g m0 m1 m2 m3 m4 μ) sz) t) (va_A (wM g m0 m1 m2 m3 m4 μ) sz)) 0 0 (va_A (wM g m0 m1 m2 m3 m4 μ) sz) := by
  refine Met.ofW (cc := cX7_begin) (maxL := 3) (ret := (some .int)) (by decide) rfl ?_
  intro p e s m args below meth c s₁ B hml hv
  obtain ⟨rfl, rfl, hP, hD0, hE, hZ⟩ := hv
  have hx := B.exec
  have hb := B.bytes
  have hr := B.returns
  have hts := atoms_spec (ws := wsX7_begin) B.pre
  have hown : s.vm.findClass RX7 = some m.cls := findClass_of_methodNamed B.named
  have hlocks := B.notSynchronized
  have hD := hD0.self (sz := s.heap.size)
  generalize hAe : (va_A (wM g m0 m1 m2 m3 m4 μ) s.heap.size) = A at hD hZ ⊢
  have hA : ∀ q : Nat, s.heap.size ≤ q → A q := fun q h => by rw [← hAe]; exact Or.inr h
  have hS : va_S A s.heap s.heap [] := va_S.rf
  have hP : va_P g.1 vwCl (wM g m0 m1 m2 m3 m4 μ) s.heap := hP
  have hl := lv_entry ([.ref m0, .int p0, .int p1]) (n := 3) (Nat.le_of_ble_eq_true rfl)
  rw [lg_entry_eq]
  generalize (lg_sl ([.ref m0, .int p0, .int p1]) ++ List.replicate (3 - (lg_sl ([.ref m0, .int p0, .int p1])).length) Slot.unset).toArray = ls at hl ⊢
  have hl : lv_has ls 3 [(0, .ref m0), (1, .int p0), (2, .int p1)] := hl
  unfold fX7_begin at hf
  refine lv_aload_n hx hb dX7_begin_0 rfl (lv_at hl 0 rfl) ?_
  refine lv_bipush (v := (110 : Int32)) hx hb dX7_begin_1 (by decide) ?_
  refine lv_iload_n hx hb dX7_begin_3 rfl (lv_at hl 1 rfl) ?_
  refine lv_iload_n hx hb dX7_begin_4 rfl (lv_at hl 2 rfl) ?_
  obtain ⟨r_1, e_1, hf⟩ := bo hf
  refine mcallVi (W0 := (wM g m0 m1 m2 m3 m4 μ)) (Wc := (wM g m0 m1 m2 m3 m4 μ)) (Wr := ([] : va_W)) (W1 := (wM g m0 m1 m2 m3 m4 r_1.2)) (W2 := (wM g m0 m1 m2 m3 m4 r_1.2)) (As := [.int (110 : Int32), .int p0, .int p1]) (rest := []) [0, 1, 2, 3, 4] [] [0, 1, 2, 3, 4] 5 0 ⟨hx, hb, hml, hown, hts⟩ hP hD hE hZ hS hA (cX7_acts_ok l g m0 m1 m2 m3 m4 μ (110 : Int32) p0 p1 _ e_1) (cwV 3 hts gX7_begin_X7_acts rfl rfl rfl hdX7_acts ⟨(Nat.le_of_ble_eq_true rfl), (Nat.le_of_ble_eq_true rfl)⟩) rfl rfl rfl (by decide) (by decide) (by decide) (by decide) rfl rfl rfl rfl hl.1 rfl (Nat.le_of_ble_eq_true rfl) ⟨(Nat.le_of_ble_eq_true rfl), (Nat.le_of_ble_eq_true rfl)⟩ dX7_begin_5 (fun H locs hP hD hS => ?_)
  have ho := Option.some.inj hf
  subst ho
  exact m_iret (v := r_1.1) hx hb hr hlocks hP hD hS rfl dX7_begin_8

def fX7_step (μ : Mo) (p0 p1 : Int32) : Option (Bool × Mo) := ((fX7_acts μ (115 : Int32) p0 p1).bind fun r_1 => (if r_1.1 = (1 : Int32) then (some (true, r_1.2)) else (some (false, r_1.2))))
abbrev rmX7_step : Room := { frames := 12, cells := 0, slots := 0, locals := 277 }
theorem hdX7_step : yX7_step.cls = RX7 ∧ yX7_step.cls ≠ "java/lang/invoke/MethodHandle" ∧ yX7_step.cls ≠ "java/lang/invoke/VarHandle" ∧ (parseMethodDescriptor yX7_step.desc).map (fun d => d.parameters.length) = some 2 := by decide +kernel
set_option maxHeartbeats 4000000 in
set_option maxRecDepth 100000 in
theorem cX7_step_ok (l : Launch) (g : Gg) (m0 m1 m2 m3 m4 : Nat) (μ : Mo) (p0 p1 : Int32) (sz : Nat) {o : Bool × Mo} (hf : fX7_step μ p0 p1 = some o) : Met l yX7_step wsX7_step rmX7_step (va_Pc [.ref m0, .int p0, .int p1] (PM g (wM g m0 m1 m2 m3 m4 μ) sz)) (va_Qi (fun r' (_ : Unit) => r' = b2i o.1) (fun _ t => PQ g (wM g m0 m1 m2 m3 m4 o.2) (va_A (wM g m0 m1 m2 m3 m4 μ) sz) t) (va_A (wM g m0 m1 m2 m3 m4 μ) sz)) 0 0 (va_A (wM g m0 m1 m2 m3 m4 μ) sz) := by
  refine Met.ofW (cc := cX7_step) (maxL := 3) (ret := (some .boolean)) (by decide) rfl ?_
  intro p e s m args below meth c s₁ B hml hv
  obtain ⟨rfl, rfl, hP, hD0, hE, hZ⟩ := hv
  have hx := B.exec
  have hb := B.bytes
  have hr := B.returns
  have hts := atoms_spec (ws := wsX7_step) B.pre
  have hown : s.vm.findClass RX7 = some m.cls := findClass_of_methodNamed B.named
  have hlocks := B.notSynchronized
  have hD := hD0.self (sz := s.heap.size)
  generalize hAe : (va_A (wM g m0 m1 m2 m3 m4 μ) s.heap.size) = A at hD hZ ⊢
  have hA : ∀ q : Nat, s.heap.size ≤ q → A q := fun q h => by rw [← hAe]; exact Or.inr h
  have hS : va_S A s.heap s.heap [] := va_S.rf
  have hP : va_P g.1 vwCl (wM g m0 m1 m2 m3 m4 μ) s.heap := hP
  have hl := lv_entry ([.ref m0, .int p0, .int p1]) (n := 3) (Nat.le_of_ble_eq_true rfl)
  rw [lg_entry_eq]
  generalize (lg_sl ([.ref m0, .int p0, .int p1]) ++ List.replicate (3 - (lg_sl ([.ref m0, .int p0, .int p1])).length) Slot.unset).toArray = ls at hl ⊢
  have hl : lv_has ls 3 [(0, .ref m0), (1, .int p0), (2, .int p1)] := hl
  unfold fX7_step at hf
  refine lv_aload_n hx hb dX7_step_0 rfl (lv_at hl 0 rfl) ?_
  refine lv_bipush (v := (115 : Int32)) hx hb dX7_step_1 (by decide) ?_
  refine lv_iload_n hx hb dX7_step_3 rfl (lv_at hl 1 rfl) ?_
  refine lv_iload_n hx hb dX7_step_4 rfl (lv_at hl 2 rfl) ?_
  obtain ⟨r_1, e_1, hf⟩ := bo hf
  refine mcallVi (W0 := (wM g m0 m1 m2 m3 m4 μ)) (Wc := (wM g m0 m1 m2 m3 m4 μ)) (Wr := ([] : va_W)) (W1 := (wM g m0 m1 m2 m3 m4 r_1.2)) (W2 := (wM g m0 m1 m2 m3 m4 r_1.2)) (As := [.int (115 : Int32), .int p0, .int p1]) (rest := []) [0, 1, 2, 3, 4] [] [0, 1, 2, 3, 4] 5 0 ⟨hx, hb, hml, hown, hts⟩ hP hD hE hZ hS hA (cX7_acts_ok l g m0 m1 m2 m3 m4 μ (115 : Int32) p0 p1 _ e_1) (cwV 3 hts gX7_step_X7_acts rfl rfl rfl hdX7_acts ⟨(Nat.le_of_ble_eq_true rfl), (Nat.le_of_ble_eq_true rfl)⟩) rfl rfl rfl (by decide) (by decide) (by decide) (by decide) rfl rfl rfl rfl hl.1 rfl (Nat.le_of_ble_eq_true rfl) ⟨(Nat.le_of_ble_eq_true rfl), (Nat.le_of_ble_eq_true rfl)⟩ dX7_step_5 (fun H locs hP hD hS => ?_)
  refine lv_iconst (v := (1 : Int32)) hx hb dX7_step_8 (by decide) ?_
  refine lv_icmp_ne (tgt := 16) hx hb dX7_step_9 (by decide) (fun c_2 => ?_) (fun c_2 => ?_)
  · have hf := iq c_2 hf
    refine lv_iconst (v := (0 : Int32)) hx hb dX7_step_16 (by decide) ?_
    have ho := Option.some.inj hf
    subst ho
    exact m_zret (v := false) hx hb hr hlocks hP hD hS rfl dX7_step_17
  · have hf := ip c_2 hf
    refine lv_iconst (v := (1 : Int32)) hx hb dX7_step_12 (by decide) ?_
    refine lv_goto (tgt := 17) hx hb dX7_step_13 (by decide) ?_
    have ho := Option.some.inj hf
    subst ho
    exact m_zret (v := true) hx hb hr hlocks hP hD hS rfl dX7_step_17

def fX7_wipe (μ : Mo) (p0 : Int32) : Option (Int32 × Mo) := ((fX7_acts μ (119 : Int32) p0 (0 : Int32)).bind fun r_1 => (some (r_1.1, r_1.2)))
abbrev rmX7_wipe : Room := { frames := 12, cells := 0, slots := 0, locals := 277 }
theorem hdX7_wipe : yX7_wipe.cls = RX7 ∧ yX7_wipe.cls ≠ "java/lang/invoke/MethodHandle" ∧ yX7_wipe.cls ≠ "java/lang/invoke/VarHandle" ∧ (parseMethodDescriptor yX7_wipe.desc).map (fun d => d.parameters.length) = some 1 := by decide +kernel
set_option maxHeartbeats 4000000 in
set_option maxRecDepth 100000 in
theorem cX7_wipe_ok (l : Launch) (g : Gg) (m0 m1 m2 m3 m4 : Nat) (μ : Mo) (p0 : Int32) (sz : Nat) {o : Int32 × Mo} (hf : fX7_wipe μ p0 = some o) : Met l yX7_wipe wsX7_wipe rmX7_wipe (va_Pc [.ref m0, .int p0] (PM g (wM g m0 m1 m2 m3 m4 μ) sz)) (va_Qi (fun r' (_ : Unit) => r' = o.1) (fun _ t => PQ g (wM g m0 m1 m2 m3 m4 o.2) (va_A (wM g m0 m1 m2 m3 m4 μ) sz) t) (va_A (wM g m0 m1 m2 m3 m4 μ) sz)) 0 0 (va_A (wM g m0 m1 m2 m3 m4 μ) sz) := by
  refine Met.ofW (cc := cX7_wipe) (maxL := 2) (ret := (some .int)) (by decide) rfl ?_
  intro p e s m args below meth c s₁ B hml hv
  obtain ⟨rfl, rfl, hP, hD0, hE, hZ⟩ := hv
  have hx := B.exec
  have hb := B.bytes
  have hr := B.returns
  have hts := atoms_spec (ws := wsX7_wipe) B.pre
  have hown : s.vm.findClass RX7 = some m.cls := findClass_of_methodNamed B.named
  have hlocks := B.notSynchronized
  have hD := hD0.self (sz := s.heap.size)
  generalize hAe : (va_A (wM g m0 m1 m2 m3 m4 μ) s.heap.size) = A at hD hZ ⊢
  have hA : ∀ q : Nat, s.heap.size ≤ q → A q := fun q h => by rw [← hAe]; exact Or.inr h
  have hS : va_S A s.heap s.heap [] := va_S.rf
  have hP : va_P g.1 vwCl (wM g m0 m1 m2 m3 m4 μ) s.heap := hP
  have hl := lv_entry ([.ref m0, .int p0]) (n := 2) (Nat.le_of_ble_eq_true rfl)
  rw [lg_entry_eq]
  generalize (lg_sl ([.ref m0, .int p0]) ++ List.replicate (2 - (lg_sl ([.ref m0, .int p0])).length) Slot.unset).toArray = ls at hl ⊢
  have hl : lv_has ls 2 [(0, .ref m0), (1, .int p0)] := hl
  unfold fX7_wipe at hf
  refine lv_aload_n hx hb dX7_wipe_0 rfl (lv_at hl 0 rfl) ?_
  refine lv_bipush (v := (119 : Int32)) hx hb dX7_wipe_1 (by decide) ?_
  refine lv_iload_n hx hb dX7_wipe_3 rfl (lv_at hl 1 rfl) ?_
  refine lv_iconst (v := (0 : Int32)) hx hb dX7_wipe_4 (by decide) ?_
  obtain ⟨r_1, e_1, hf⟩ := bo hf
  refine mcallVi (W0 := (wM g m0 m1 m2 m3 m4 μ)) (Wc := (wM g m0 m1 m2 m3 m4 μ)) (Wr := ([] : va_W)) (W1 := (wM g m0 m1 m2 m3 m4 r_1.2)) (W2 := (wM g m0 m1 m2 m3 m4 r_1.2)) (As := [.int (119 : Int32), .int p0, .int (0 : Int32)]) (rest := []) [0, 1, 2, 3, 4] [] [0, 1, 2, 3, 4] 5 0 ⟨hx, hb, hml, hown, hts⟩ hP hD hE hZ hS hA (cX7_acts_ok l g m0 m1 m2 m3 m4 μ (119 : Int32) p0 (0 : Int32) _ e_1) (cwV 3 hts gX7_wipe_X7_acts rfl rfl rfl hdX7_acts ⟨(Nat.le_of_ble_eq_true rfl), (Nat.le_of_ble_eq_true rfl)⟩) rfl rfl rfl (by decide) (by decide) (by decide) (by decide) rfl rfl rfl rfl hl.1 rfl (Nat.le_of_ble_eq_true rfl) ⟨(Nat.le_of_ble_eq_true rfl), (Nat.le_of_ble_eq_true rfl)⟩ dX7_wipe_5 (fun H locs hP hD hS => ?_)
  have ho := Option.some.inj hf
  subst ho
  exact m_iret (v := r_1.1) hx hb hr hlocks hP hD hS rfl dX7_wipe_8

def fX7_setLevel_28 (p0 p1 : Int32) (t1_28 : Int32) (μ_28 : Mo) : Option (Int32 × Mo) := (if t1_28 ≤ 0 then ((fX7_records (M_th' μ_28 t1_28)).bind fun r_2 => ((fX7_of r_2 p0 (0 : Int32)).bind fun r_3 => ((fX7_puts r_2 p0 (0 : Int32) p1).bind fun r_4 => ((fX7_puts r_4 p0 (3 : Int32) (-1 : Int32)).bind fun r_5 => (some (r_3, r_5)))))) else (some ((0 : Int32), (M_th' μ_28 t1_28))))
def fX7_setLevel (μ : Mo) (p0 p1 : Int32) : Option (Int32 × Mo) := ((fX7_isLine μ p0).bind fun r_6 => (if r_6 = true then ((fX7_in p1 (0 : Int32) (99 : Int32)).bind fun r_8 => (if r_8 = true then fX7_setLevel_28 p0 p1 (0 : Int32) μ else fX7_setLevel_28 p0 p1 (2 : Int32) μ)) else fX7_setLevel_28 p0 p1 (1 : Int32) μ))
abbrev rmX7_setLevel : Room := { frames := 2, cells := 0, slots := 0, locals := 43 }
theorem hdX7_setLevel : yX7_setLevel.cls = RX7 ∧ yX7_setLevel.cls ≠ "java/lang/invoke/MethodHandle" ∧ yX7_setLevel.cls ≠ "java/lang/invoke/VarHandle" ∧ (parseMethodDescriptor yX7_setLevel.desc).map (fun d => d.parameters.length) = some 2 := by decide +kernel
theorem fiX7_setLevel_X7 : ∀ w ∈ wsX70, w ∈ wsX7_setLevel := by decide +kernel
theorem flX7_setLevel_22 : (.fieldLink RX7 22 "ContourLabelsModel" "thrown" "I" : Cond) ∈ wsX7_setLevel := by decide +kernel
set_option maxHeartbeats 4000000 in
set_option maxRecDepth 100000 in
theorem cX7_setLevel_ok (l : Launch) (g : Gg) (m0 m1 m2 m3 m4 : Nat) (μ : Mo) (p0 p1 : Int32) (sz : Nat) {o : Int32 × Mo} (hf : fX7_setLevel μ p0 p1 = some o) : Met l yX7_setLevel wsX7_setLevel rmX7_setLevel (va_Pc [.ref m0, .int p0, .int p1] (PM g (wM g m0 m1 m2 m3 m4 μ) sz)) (va_Qi (fun r' (_ : Unit) => r' = o.1) (fun _ t => PQ g (wM g m0 m1 m2 m3 m4 o.2) (va_A (wM g m0 m1 m2 m3 m4 μ) sz) t) (va_A (wM g m0 m1 m2 m3 m4 μ) sz)) 0 0 (va_A (wM g m0 m1 m2 m3 m4 μ) sz) := by
  refine Met.ofW (cc := cX7_setLevel) (maxL := 4) (ret := (some .int)) (by decide) rfl ?_
  intro p e s m args below meth c s₁ B hml hv
  obtain ⟨rfl, rfl, hP, hD0, hE, hZ⟩ := hv
  have hx := B.exec
  have hb := B.bytes
  have hr := B.returns
  have hts := atoms_spec (ws := wsX7_setLevel) B.pre
  have hown : s.vm.findClass RX7 = some m.cls := findClass_of_methodNamed B.named
  have hlocks := B.notSynchronized
  have hD := hD0.self (sz := s.heap.size)
  generalize hAe : (va_A (wM g m0 m1 m2 m3 m4 μ) s.heap.size) = A at hD hZ ⊢
  have hA : ∀ q : Nat, s.heap.size ≤ q → A q := fun q h => by rw [← hAe]; exact Or.inr h
  have hS : va_S A s.heap s.heap [] := va_S.rf
  have hP : va_P g.1 vwCl (wM g m0 m1 m2 m3 m4 μ) s.heap := hP
  have hl := lv_entry ([.ref m0, .int p0, .int p1]) (n := 4) (Nat.le_of_ble_eq_true rfl)
  rw [lg_entry_eq]
  generalize (lg_sl ([.ref m0, .int p0, .int p1]) ++ List.replicate (4 - (lg_sl ([.ref m0, .int p0, .int p1])).length) Slot.unset).toArray = ls at hl ⊢
  have hl : lv_has ls 4 [(0, .ref m0), (1, .int p0), (2, .int p1)] := hl
  have hB28 : ∀ (t1_28 : Int32) (μ_28 : Mo) (H : Heap) (locs : List Loc) (ls : Array Slot), va_P g.1 vwCl (wM g m0 m1 m2 m3 m4 μ_28) H → va_D A (wM g m0 m1 m2 m3 m4 μ_28) → va_S A s.heap H locs → lv_has ls 4 [(0, .ref m0), (1, .int p0), (2, .int p1)] → fX7_setLevel_28 p0 p1 t1_28 μ_28 = some o → W p l e (headSpec wsX7_setLevel rmX7_setLevel).room s m ([.ref m0, .int p0, .int p1] : List Value).toArray below meth c H locs 0 0 (MQ below (va_Qi (fun r' (_ : Unit) => r' = o.1) (fun _ t => PQ g (wM g m0 m1 m2 m3 m4 o.2) A t) A) ([.ref m0, .int p0, .int p1] : List Value).toArray s 0 0 A) (F0 m 28 ls [.int t1_28, .ref m0]) := by
    intro  t1_28 μ_28 H locs ls hP hD hS hl hf
    unfold fX7_setLevel_28 at hf
    refine va_put (v := .int t1_28) (ty := .int) (C := RX7) (T := TX7) (N := 13) hx hb hts fiX7_setLevel_X7 tyX7 tyX7_ok nmX7 hown hE.1 hP hD hS 0 rfl rfl 7 (by decide) (hts _ flX7_setLevel_22) (fun _ h9 => h9) rfl (by decide +kernel) rfl rfl (Nat.le_of_ble_eq_true rfl) dX7_setLevel_28 (fun H locs hP hD hS => ?_)
    have hP : va_P g.1 vwCl (wM g m0 m1 m2 m3 m4 (M_th' μ_28 t1_28)) H := hP
    have hD : va_D A (wM g m0 m1 m2 m3 m4 (M_th' μ_28 t1_28)) := hD
    refine lv_aload_n hx hb dX7_setLevel_31 rfl (lv_at hl 0 rfl) ?_
    refine va_get (v := .int t1_28) (C := RX7) (T := TX7) (N := 13) hx hb hts fiX7_setLevel_X7 hown hE.1 hP 0 rfl rfl 7 (by decide) (hts _ flX7_setLevel_22) (fun _ h9 => h9) rfl dX7_setLevel_32 ?_
    refine lv_if_le (tgt := 40) hx hb dX7_setLevel_35 (by decide) (fun c_1 => ?_) (fun c_1 => ?_)
    · have hf := ip c_1 hf
      refine lv_aload_n hx hb dX7_setLevel_40 rfl (lv_at hl 0 rfl) ?_
      obtain ⟨r_2, e_2, hf⟩ := bo hf
      refine mcallVv (W0 := (wM g m0 m1 m2 m3 m4 (M_th' μ_28 t1_28))) (Wc := (wM g m0 m1 m2 m3 m4 (M_th' μ_28 t1_28))) (Wr := ([] : va_W)) (W1 := (wM g m0 m1 m2 m3 m4 r_2)) (W2 := (wM g m0 m1 m2 m3 m4 r_2)) (As := []) (rest := []) [0, 1, 2, 3, 4] [] [0, 1, 2, 3, 4] 5 0 ⟨hx, hb, hml, hown, hts⟩ hP hD hE hZ hS hA (cX7_records_ok l g m0 m1 m2 m3 m4 (M_th' μ_28 t1_28) _ e_2) (cwV 0 hts gX7_setLevel_X7_records rfl rfl rfl hdX7_records ⟨(Nat.le_of_ble_eq_true rfl), (Nat.le_of_ble_eq_true rfl)⟩) rfl rfl rfl (by decide) (by decide) (by decide) (by decide) rfl rfl rfl rfl hl.1 rfl (Nat.le_of_ble_eq_true rfl) ⟨(Nat.le_of_ble_eq_true rfl), (Nat.le_of_ble_eq_true rfl)⟩ dX7_setLevel_41 (fun H locs hP hD hS => ?_)
      refine lv_aload_n hx hb dX7_setLevel_44 rfl (lv_at hl 0 rfl) ?_
      refine lv_iload_n hx hb dX7_setLevel_45 rfl (lv_at hl 1 rfl) ?_
      refine lv_iconst (v := (0 : Int32)) hx hb dX7_setLevel_46 (by decide) ?_
      obtain ⟨r_3, e_3, hf⟩ := bo hf
      refine pcallV (W0 := (wM g m0 m1 m2 m3 m4 r_2)) (As := [.int p0, .int (0 : Int32)]) (rest := []) [0, 1, 2, 3, 4] 5 0 ⟨hx, hb, hml, hown, hts⟩ hP hE hZ hS (cX7_of_ok l g m0 m1 m2 m3 m4 r_2 p0 (0 : Int32) e_3) (cwV 2 hts gX7_setLevel_X7_of rfl rfl rfl hdX7_of ⟨(Nat.le_of_ble_eq_true rfl), (Nat.le_of_ble_eq_true rfl)⟩) rfl rfl rfl rfl rfl hl.1 rfl (Nat.le_of_ble_eq_true rfl) ⟨(Nat.le_of_ble_eq_true rfl), (Nat.le_of_ble_eq_true rfl)⟩ dX7_setLevel_47 ?_
      refine lv_istore_n (lv' := [(3, .int r_3), (0, .ref m0), (1, .int p0), (2, .int p1)]) hx hb dX7_setLevel_50 rfl hl (by decide) rfl (fun ls hl => ?_)
      refine lv_aload_n hx hb dX7_setLevel_51 rfl (lv_at hl 1 rfl) ?_
      refine lv_iload_n hx hb dX7_setLevel_52 rfl (lv_at hl 2 rfl) ?_
      refine lv_iconst (v := (0 : Int32)) hx hb dX7_setLevel_53 (by decide) ?_
      refine lv_iload_n hx hb dX7_setLevel_54 rfl (lv_at hl 3 rfl) ?_
      obtain ⟨r_4, e_4, hf⟩ := bo hf
      refine mcallVv (W0 := (wM g m0 m1 m2 m3 m4 r_2)) (Wc := (wM g m0 m1 m2 m3 m4 r_2)) (Wr := ([] : va_W)) (W1 := (wM g m0 m1 m2 m3 m4 r_4)) (W2 := (wM g m0 m1 m2 m3 m4 r_4)) (As := [.int p0, .int (0 : Int32), .int p1]) (rest := []) [0, 1, 2, 3, 4] [] [0, 1, 2, 3, 4] 5 0 ⟨hx, hb, hml, hown, hts⟩ hP hD hE hZ hS hA (cX7_puts_ok l g m0 m1 m2 m3 m4 r_2 p0 (0 : Int32) p1 _ e_4) (cwV 3 hts gX7_setLevel_X7_puts rfl rfl rfl hdX7_puts ⟨(Nat.le_of_ble_eq_true rfl), (Nat.le_of_ble_eq_true rfl)⟩) rfl rfl rfl (by decide) (by decide) (by decide) (by decide) rfl rfl rfl rfl hl.1 rfl (Nat.le_of_ble_eq_true rfl) ⟨(Nat.le_of_ble_eq_true rfl), (Nat.le_of_ble_eq_true rfl)⟩ dX7_setLevel_55 (fun H locs hP hD hS => ?_)
      refine lv_aload_n hx hb dX7_setLevel_58 rfl (lv_at hl 1 rfl) ?_
      refine lv_iload_n hx hb dX7_setLevel_59 rfl (lv_at hl 2 rfl) ?_
      refine lv_iconst (v := (3 : Int32)) hx hb dX7_setLevel_60 (by decide) ?_
      refine lv_iconst (v := (-1 : Int32)) hx hb dX7_setLevel_61 (by decide) ?_
      obtain ⟨r_5, e_5, hf⟩ := bo hf
      refine mcallVv (W0 := (wM g m0 m1 m2 m3 m4 r_4)) (Wc := (wM g m0 m1 m2 m3 m4 r_4)) (Wr := ([] : va_W)) (W1 := (wM g m0 m1 m2 m3 m4 r_5)) (W2 := (wM g m0 m1 m2 m3 m4 r_5)) (As := [.int p0, .int (3 : Int32), .int (-1 : Int32)]) (rest := []) [0, 1, 2, 3, 4] [] [0, 1, 2, 3, 4] 5 0 ⟨hx, hb, hml, hown, hts⟩ hP hD hE hZ hS hA (cX7_puts_ok l g m0 m1 m2 m3 m4 r_4 p0 (3 : Int32) (-1 : Int32) _ e_5) (cwV 3 hts gX7_setLevel_X7_puts rfl rfl rfl hdX7_puts ⟨(Nat.le_of_ble_eq_true rfl), (Nat.le_of_ble_eq_true rfl)⟩) rfl rfl rfl (by decide) (by decide) (by decide) (by decide) rfl rfl rfl rfl hl.1 rfl (Nat.le_of_ble_eq_true rfl) ⟨(Nat.le_of_ble_eq_true rfl), (Nat.le_of_ble_eq_true rfl)⟩ dX7_setLevel_62 (fun H locs hP hD hS => ?_)
      refine lv_iload_n hx hb dX7_setLevel_65 rfl (lv_at hl 0 rfl) ?_
      have ho := Option.some.inj hf
      subst ho
      exact m_iret (v := r_3) hx hb hr hlocks hP hD hS rfl dX7_setLevel_66
    · have hf := iq c_1 hf
      refine lv_iconst (v := (0 : Int32)) hx hb dX7_setLevel_38 (by decide) ?_
      have ho := Option.some.inj hf
      subst ho
      exact m_iret (v := (0 : Int32)) hx hb hr hlocks hP hD hS rfl dX7_setLevel_39
  unfold fX7_setLevel at hf
  refine lv_aload_n hx hb dX7_setLevel_0 rfl (lv_at hl 0 rfl) ?_
  refine lv_aload_n hx hb dX7_setLevel_1 rfl (lv_at hl 0 rfl) ?_
  refine lv_iload_n hx hb dX7_setLevel_2 rfl (lv_at hl 1 rfl) ?_
  obtain ⟨r_6, e_6, hf⟩ := bo hf
  refine pcallV (W0 := (wM g m0 m1 m2 m3 m4 μ)) (As := [.int p0]) (rest := [.ref m0]) [0, 1, 2, 3, 4] 5 0 ⟨hx, hb, hml, hown, hts⟩ hP hE hZ hS (cX7_isLine_ok l g m0 m1 m2 m3 m4 μ p0 e_6) (cwV 1 hts gX7_setLevel_X7_isLine rfl rfl rfl hdX7_isLine ⟨(Nat.le_of_ble_eq_true rfl), (Nat.le_of_ble_eq_true rfl)⟩) rfl rfl rfl rfl rfl hl.1 rfl (Nat.le_of_ble_eq_true rfl) ⟨(Nat.le_of_ble_eq_true rfl), (Nat.le_of_ble_eq_true rfl)⟩ dX7_setLevel_3 ?_
  refine lv_bne (tgt := 13) hx hb dX7_setLevel_6 (by decide) (fun c_7 => ?_) (fun c_7 => ?_)
  · have hf := ip c_7 hf
    refine lv_iload_n hx hb dX7_setLevel_13 rfl (lv_at hl 2 rfl) ?_
    refine lv_iconst (v := (0 : Int32)) hx hb dX7_setLevel_14 (by decide) ?_
    refine lv_bipush (v := (99 : Int32)) hx hb dX7_setLevel_15 (by decide) ?_
    obtain ⟨r_8, e_8, hf⟩ := bo hf
    refine pcallS (W0 := (wM g m0 m1 m2 m3 m4 μ)) (As := [.int p1, .int (0 : Int32), .int (99 : Int32)]) (rest := [.ref m0]) [] ⟨hx, hb, hml, hown, hts⟩ hP hE hZ hS (cX7_in_ok l g  p1 (0 : Int32) (99 : Int32) e_8) (va_cwS 3 hts gX7_setLevel_X7_in rfl rfl rfl hdX7_in.2 ⟨(Nat.le_of_ble_eq_true rfl), (Nat.le_of_ble_eq_true rfl)⟩) rfl rfl hl.1 rfl (Nat.le_of_ble_eq_true rfl) ⟨(Nat.le_of_ble_eq_true rfl), (Nat.le_of_ble_eq_true rfl)⟩ dX7_setLevel_17 ?_
    refine lv_bne (tgt := 27) hx hb dX7_setLevel_20 (by decide) (fun c_9 => ?_) (fun c_9 => ?_)
    · have hf := ip c_9 hf
      refine lv_iconst (v := (0 : Int32)) hx hb dX7_setLevel_27 (by decide) ?_
      exact hB28 (0 : Int32) μ _ _ ls hP hD hS (lv_sub hl [0, 1, 2] rfl) hf
    · have hf := iq c_9 hf
      refine lv_iconst (v := (2 : Int32)) hx hb dX7_setLevel_23 (by decide) ?_
      refine lv_goto (tgt := 28) hx hb dX7_setLevel_24 (by decide) ?_
      exact hB28 (2 : Int32) μ _ _ ls hP hD hS (lv_sub hl [0, 1, 2] rfl) hf
  · have hf := iq c_7 hf
    refine lv_iconst (v := (1 : Int32)) hx hb dX7_setLevel_9 (by decide) ?_
    refine lv_goto (tgt := 28) hx hb dX7_setLevel_10 (by decide) ?_
    exact hB28 (1 : Int32) μ _ _ ls hP hD hS (lv_sub hl [0, 1, 2] rfl) hf

def fX7_label (μ : Mo) (p0 p1 : Int32) : Option (Int32 × Mo) := ((fX7_acts μ (108 : Int32) p0 p1).bind fun r_1 => (some (r_1.1, r_1.2)))
abbrev rmX7_label : Room := { frames := 12, cells := 0, slots := 0, locals := 277 }
theorem hdX7_label : yX7_label.cls = RX7 ∧ yX7_label.cls ≠ "java/lang/invoke/MethodHandle" ∧ yX7_label.cls ≠ "java/lang/invoke/VarHandle" ∧ (parseMethodDescriptor yX7_label.desc).map (fun d => d.parameters.length) = some 2 := by decide +kernel
set_option maxHeartbeats 4000000 in
set_option maxRecDepth 100000 in
theorem cX7_label_ok (l : Launch) (g : Gg) (m0 m1 m2 m3 m4 : Nat) (μ : Mo) (p0 p1 : Int32) (sz : Nat) {o : Int32 × Mo} (hf : fX7_label μ p0 p1 = some o) : Met l yX7_label wsX7_label rmX7_label (va_Pc [.ref m0, .int p0, .int p1] (PM g (wM g m0 m1 m2 m3 m4 μ) sz)) (va_Qi (fun r' (_ : Unit) => r' = o.1) (fun _ t => PQ g (wM g m0 m1 m2 m3 m4 o.2) (va_A (wM g m0 m1 m2 m3 m4 μ) sz) t) (va_A (wM g m0 m1 m2 m3 m4 μ) sz)) 0 0 (va_A (wM g m0 m1 m2 m3 m4 μ) sz) := by
  refine Met.ofW (cc := cX7_label) (maxL := 3) (ret := (some .int)) (by decide) rfl ?_
  intro p e s m args below meth c s₁ B hml hv
  obtain ⟨rfl, rfl, hP, hD0, hE, hZ⟩ := hv
  have hx := B.exec
  have hb := B.bytes
  have hr := B.returns
  have hts := atoms_spec (ws := wsX7_label) B.pre
  have hown : s.vm.findClass RX7 = some m.cls := findClass_of_methodNamed B.named
  have hlocks := B.notSynchronized
  have hD := hD0.self (sz := s.heap.size)
  generalize hAe : (va_A (wM g m0 m1 m2 m3 m4 μ) s.heap.size) = A at hD hZ ⊢
  have hA : ∀ q : Nat, s.heap.size ≤ q → A q := fun q h => by rw [← hAe]; exact Or.inr h
  have hS : va_S A s.heap s.heap [] := va_S.rf
  have hP : va_P g.1 vwCl (wM g m0 m1 m2 m3 m4 μ) s.heap := hP
  have hl := lv_entry ([.ref m0, .int p0, .int p1]) (n := 3) (Nat.le_of_ble_eq_true rfl)
  rw [lg_entry_eq]
  generalize (lg_sl ([.ref m0, .int p0, .int p1]) ++ List.replicate (3 - (lg_sl ([.ref m0, .int p0, .int p1])).length) Slot.unset).toArray = ls at hl ⊢
  have hl : lv_has ls 3 [(0, .ref m0), (1, .int p0), (2, .int p1)] := hl
  unfold fX7_label at hf
  refine lv_aload_n hx hb dX7_label_0 rfl (lv_at hl 0 rfl) ?_
  refine lv_bipush (v := (108 : Int32)) hx hb dX7_label_1 (by decide) ?_
  refine lv_iload_n hx hb dX7_label_3 rfl (lv_at hl 1 rfl) ?_
  refine lv_iload_n hx hb dX7_label_4 rfl (lv_at hl 2 rfl) ?_
  obtain ⟨r_1, e_1, hf⟩ := bo hf
  refine mcallVi (W0 := (wM g m0 m1 m2 m3 m4 μ)) (Wc := (wM g m0 m1 m2 m3 m4 μ)) (Wr := ([] : va_W)) (W1 := (wM g m0 m1 m2 m3 m4 r_1.2)) (W2 := (wM g m0 m1 m2 m3 m4 r_1.2)) (As := [.int (108 : Int32), .int p0, .int p1]) (rest := []) [0, 1, 2, 3, 4] [] [0, 1, 2, 3, 4] 5 0 ⟨hx, hb, hml, hown, hts⟩ hP hD hE hZ hS hA (cX7_acts_ok l g m0 m1 m2 m3 m4 μ (108 : Int32) p0 p1 _ e_1) (cwV 3 hts gX7_label_X7_acts rfl rfl rfl hdX7_acts ⟨(Nat.le_of_ble_eq_true rfl), (Nat.le_of_ble_eq_true rfl)⟩) rfl rfl rfl (by decide) (by decide) (by decide) (by decide) rfl rfl rfl rfl hl.1 rfl (Nat.le_of_ble_eq_true rfl) ⟨(Nat.le_of_ble_eq_true rfl), (Nat.le_of_ble_eq_true rfl)⟩ dX7_label_5 (fun H locs hP hD hS => ?_)
  have ho := Option.some.inj hf
  subst ho
  exact m_iret (v := r_1.1) hx hb hr hlocks hP hD hS rfl dX7_label_8

def fX7_unlabel (μ : Mo) (p0 : Int32) : Option (Int32 × Mo) := ((fX7_acts μ (117 : Int32) p0 (0 : Int32)).bind fun r_1 => (some (r_1.1, r_1.2)))
abbrev rmX7_unlabel : Room := { frames := 12, cells := 0, slots := 0, locals := 277 }
theorem hdX7_unlabel : yX7_unlabel.cls = RX7 ∧ yX7_unlabel.cls ≠ "java/lang/invoke/MethodHandle" ∧ yX7_unlabel.cls ≠ "java/lang/invoke/VarHandle" ∧ (parseMethodDescriptor yX7_unlabel.desc).map (fun d => d.parameters.length) = some 1 := by decide +kernel
set_option maxHeartbeats 4000000 in
set_option maxRecDepth 100000 in
theorem cX7_unlabel_ok (l : Launch) (g : Gg) (m0 m1 m2 m3 m4 : Nat) (μ : Mo) (p0 : Int32) (sz : Nat) {o : Int32 × Mo} (hf : fX7_unlabel μ p0 = some o) : Met l yX7_unlabel wsX7_unlabel rmX7_unlabel (va_Pc [.ref m0, .int p0] (PM g (wM g m0 m1 m2 m3 m4 μ) sz)) (va_Qi (fun r' (_ : Unit) => r' = o.1) (fun _ t => PQ g (wM g m0 m1 m2 m3 m4 o.2) (va_A (wM g m0 m1 m2 m3 m4 μ) sz) t) (va_A (wM g m0 m1 m2 m3 m4 μ) sz)) 0 0 (va_A (wM g m0 m1 m2 m3 m4 μ) sz) := by
  refine Met.ofW (cc := cX7_unlabel) (maxL := 2) (ret := (some .int)) (by decide) rfl ?_
  intro p e s m args below meth c s₁ B hml hv
  obtain ⟨rfl, rfl, hP, hD0, hE, hZ⟩ := hv
  have hx := B.exec
  have hb := B.bytes
  have hr := B.returns
  have hts := atoms_spec (ws := wsX7_unlabel) B.pre
  have hown : s.vm.findClass RX7 = some m.cls := findClass_of_methodNamed B.named
  have hlocks := B.notSynchronized
  have hD := hD0.self (sz := s.heap.size)
  generalize hAe : (va_A (wM g m0 m1 m2 m3 m4 μ) s.heap.size) = A at hD hZ ⊢
  have hA : ∀ q : Nat, s.heap.size ≤ q → A q := fun q h => by rw [← hAe]; exact Or.inr h
  have hS : va_S A s.heap s.heap [] := va_S.rf
  have hP : va_P g.1 vwCl (wM g m0 m1 m2 m3 m4 μ) s.heap := hP
  have hl := lv_entry ([.ref m0, .int p0]) (n := 2) (Nat.le_of_ble_eq_true rfl)
  rw [lg_entry_eq]
  generalize (lg_sl ([.ref m0, .int p0]) ++ List.replicate (2 - (lg_sl ([.ref m0, .int p0])).length) Slot.unset).toArray = ls at hl ⊢
  have hl : lv_has ls 2 [(0, .ref m0), (1, .int p0)] := hl
  unfold fX7_unlabel at hf
  refine lv_aload_n hx hb dX7_unlabel_0 rfl (lv_at hl 0 rfl) ?_
  refine lv_bipush (v := (117 : Int32)) hx hb dX7_unlabel_1 (by decide) ?_
  refine lv_iload_n hx hb dX7_unlabel_3 rfl (lv_at hl 1 rfl) ?_
  refine lv_iconst (v := (0 : Int32)) hx hb dX7_unlabel_4 (by decide) ?_
  obtain ⟨r_1, e_1, hf⟩ := bo hf
  refine mcallVi (W0 := (wM g m0 m1 m2 m3 m4 μ)) (Wc := (wM g m0 m1 m2 m3 m4 μ)) (Wr := ([] : va_W)) (W1 := (wM g m0 m1 m2 m3 m4 r_1.2)) (W2 := (wM g m0 m1 m2 m3 m4 r_1.2)) (As := [.int (117 : Int32), .int p0, .int (0 : Int32)]) (rest := []) [0, 1, 2, 3, 4] [] [0, 1, 2, 3, 4] 5 0 ⟨hx, hb, hml, hown, hts⟩ hP hD hE hZ hS hA (cX7_acts_ok l g m0 m1 m2 m3 m4 μ (117 : Int32) p0 (0 : Int32) _ e_1) (cwV 3 hts gX7_unlabel_X7_acts rfl rfl rfl hdX7_acts ⟨(Nat.le_of_ble_eq_true rfl), (Nat.le_of_ble_eq_true rfl)⟩) rfl rfl rfl (by decide) (by decide) (by decide) (by decide) rfl rfl rfl rfl hl.1 rfl (Nat.le_of_ble_eq_true rfl) ⟨(Nat.le_of_ble_eq_true rfl), (Nat.le_of_ble_eq_true rfl)⟩ dX7_unlabel_5 (fun H locs hP hD hS => ?_)
  have ho := Option.some.inj hf
  subst ho
  exact m_iret (v := r_1.1) hx hb hr hlocks hP hD hS rfl dX7_unlabel_8

def fX7_labelBest (μ : Mo) (p0 : Int32) : Option (Int32 × Mo) := ((fX7_acts μ (98 : Int32) p0 (0 : Int32)).bind fun r_1 => (some (r_1.1, r_1.2)))
abbrev rmX7_labelBest : Room := { frames := 12, cells := 0, slots := 0, locals := 277 }
theorem hdX7_labelBest : yX7_labelBest.cls = RX7 ∧ yX7_labelBest.cls ≠ "java/lang/invoke/MethodHandle" ∧ yX7_labelBest.cls ≠ "java/lang/invoke/VarHandle" ∧ (parseMethodDescriptor yX7_labelBest.desc).map (fun d => d.parameters.length) = some 1 := by decide +kernel
set_option maxHeartbeats 4000000 in
set_option maxRecDepth 100000 in
theorem cX7_labelBest_ok (l : Launch) (g : Gg) (m0 m1 m2 m3 m4 : Nat) (μ : Mo) (p0 : Int32) (sz : Nat) {o : Int32 × Mo} (hf : fX7_labelBest μ p0 = some o) : Met l yX7_labelBest wsX7_labelBest rmX7_labelBest (va_Pc [.ref m0, .int p0] (PM g (wM g m0 m1 m2 m3 m4 μ) sz)) (va_Qi (fun r' (_ : Unit) => r' = o.1) (fun _ t => PQ g (wM g m0 m1 m2 m3 m4 o.2) (va_A (wM g m0 m1 m2 m3 m4 μ) sz) t) (va_A (wM g m0 m1 m2 m3 m4 μ) sz)) 0 0 (va_A (wM g m0 m1 m2 m3 m4 μ) sz) := by
  refine Met.ofW (cc := cX7_labelBest) (maxL := 2) (ret := (some .int)) (by decide) rfl ?_
  intro p e s m args below meth c s₁ B hml hv
  obtain ⟨rfl, rfl, hP, hD0, hE, hZ⟩ := hv
  have hx := B.exec
  have hb := B.bytes
  have hr := B.returns
  have hts := atoms_spec (ws := wsX7_labelBest) B.pre
  have hown : s.vm.findClass RX7 = some m.cls := findClass_of_methodNamed B.named
  have hlocks := B.notSynchronized
  have hD := hD0.self (sz := s.heap.size)
  generalize hAe : (va_A (wM g m0 m1 m2 m3 m4 μ) s.heap.size) = A at hD hZ ⊢
  have hA : ∀ q : Nat, s.heap.size ≤ q → A q := fun q h => by rw [← hAe]; exact Or.inr h
  have hS : va_S A s.heap s.heap [] := va_S.rf
  have hP : va_P g.1 vwCl (wM g m0 m1 m2 m3 m4 μ) s.heap := hP
  have hl := lv_entry ([.ref m0, .int p0]) (n := 2) (Nat.le_of_ble_eq_true rfl)
  rw [lg_entry_eq]
  generalize (lg_sl ([.ref m0, .int p0]) ++ List.replicate (2 - (lg_sl ([.ref m0, .int p0])).length) Slot.unset).toArray = ls at hl ⊢
  have hl : lv_has ls 2 [(0, .ref m0), (1, .int p0)] := hl
  unfold fX7_labelBest at hf
  refine lv_aload_n hx hb dX7_labelBest_0 rfl (lv_at hl 0 rfl) ?_
  refine lv_bipush (v := (98 : Int32)) hx hb dX7_labelBest_1 (by decide) ?_
  refine lv_iload_n hx hb dX7_labelBest_3 rfl (lv_at hl 1 rfl) ?_
  refine lv_iconst (v := (0 : Int32)) hx hb dX7_labelBest_4 (by decide) ?_
  obtain ⟨r_1, e_1, hf⟩ := bo hf
  refine mcallVi (W0 := (wM g m0 m1 m2 m3 m4 μ)) (Wc := (wM g m0 m1 m2 m3 m4 μ)) (Wr := ([] : va_W)) (W1 := (wM g m0 m1 m2 m3 m4 r_1.2)) (W2 := (wM g m0 m1 m2 m3 m4 r_1.2)) (As := [.int (98 : Int32), .int p0, .int (0 : Int32)]) (rest := []) [0, 1, 2, 3, 4] [] [0, 1, 2, 3, 4] 5 0 ⟨hx, hb, hml, hown, hts⟩ hP hD hE hZ hS hA (cX7_acts_ok l g m0 m1 m2 m3 m4 μ (98 : Int32) p0 (0 : Int32) _ e_1) (cwV 3 hts gX7_labelBest_X7_acts rfl rfl rfl hdX7_acts ⟨(Nat.le_of_ble_eq_true rfl), (Nat.le_of_ble_eq_true rfl)⟩) rfl rfl rfl (by decide) (by decide) (by decide) (by decide) rfl rfl rfl rfl hl.1 rfl (Nat.le_of_ble_eq_true rfl) ⟨(Nat.le_of_ble_eq_true rfl), (Nat.le_of_ble_eq_true rfl)⟩ dX7_labelBest_5 (fun H locs hP hD hS => ?_)
  have ho := Option.some.inj hf
  subst ho
  exact m_iret (v := r_1.1) hx hb hr hlocks hP hD hS rfl dX7_labelBest_8

def fX7_labelAll (μ : Mo) : Option (Int32 × Mo) := ((fX7_acts μ (97 : Int32) (0 : Int32) (0 : Int32)).bind fun r_1 => (some (r_1.1, r_1.2)))
abbrev rmX7_labelAll : Room := { frames := 12, cells := 0, slots := 0, locals := 277 }
theorem hdX7_labelAll : yX7_labelAll.cls = RX7 ∧ yX7_labelAll.cls ≠ "java/lang/invoke/MethodHandle" ∧ yX7_labelAll.cls ≠ "java/lang/invoke/VarHandle" ∧ (parseMethodDescriptor yX7_labelAll.desc).map (fun d => d.parameters.length) = some 0 := by decide +kernel
set_option maxHeartbeats 4000000 in
set_option maxRecDepth 100000 in
theorem cX7_labelAll_ok (l : Launch) (g : Gg) (m0 m1 m2 m3 m4 : Nat) (μ : Mo) (sz : Nat) {o : Int32 × Mo} (hf : fX7_labelAll μ = some o) : Met l yX7_labelAll wsX7_labelAll rmX7_labelAll (va_Pc [.ref m0] (PM g (wM g m0 m1 m2 m3 m4 μ) sz)) (va_Qi (fun r' (_ : Unit) => r' = o.1) (fun _ t => PQ g (wM g m0 m1 m2 m3 m4 o.2) (va_A (wM g m0 m1 m2 m3 m4 μ) sz) t) (va_A (wM g m0 m1 m2 m3 m4 μ) sz)) 0 0 (va_A (wM g m0 m1 m2 m3 m4 μ) sz) := by
  refine Met.ofW (cc := cX7_labelAll) (maxL := 1) (ret := (some .int)) (by decide) rfl ?_
  intro p e s m args below meth c s₁ B hml hv
  obtain ⟨rfl, rfl, hP, hD0, hE, hZ⟩ := hv
  have hx := B.exec
  have hb := B.bytes
  have hr := B.returns
  have hts := atoms_spec (ws := wsX7_labelAll) B.pre
  have hown : s.vm.findClass RX7 = some m.cls := findClass_of_methodNamed B.named
  have hlocks := B.notSynchronized
  have hD := hD0.self (sz := s.heap.size)
  generalize hAe : (va_A (wM g m0 m1 m2 m3 m4 μ) s.heap.size) = A at hD hZ ⊢
  have hA : ∀ q : Nat, s.heap.size ≤ q → A q := fun q h => by rw [← hAe]; exact Or.inr h
  have hS : va_S A s.heap s.heap [] := va_S.rf
  have hP : va_P g.1 vwCl (wM g m0 m1 m2 m3 m4 μ) s.heap := hP
  have hl := lv_entry ([.ref m0]) (n := 1) (Nat.le_of_ble_eq_true rfl)
  rw [lg_entry_eq]
  generalize (lg_sl ([.ref m0]) ++ List.replicate (1 - (lg_sl ([.ref m0])).length) Slot.unset).toArray = ls at hl ⊢
  have hl : lv_has ls 1 [(0, .ref m0)] := hl
  unfold fX7_labelAll at hf
  refine lv_aload_n hx hb dX7_labelAll_0 rfl (lv_at hl 0 rfl) ?_
  refine lv_bipush (v := (97 : Int32)) hx hb dX7_labelAll_1 (by decide) ?_
  refine lv_iconst (v := (0 : Int32)) hx hb dX7_labelAll_3 (by decide) ?_
  refine lv_iconst (v := (0 : Int32)) hx hb dX7_labelAll_4 (by decide) ?_
  obtain ⟨r_1, e_1, hf⟩ := bo hf
  refine mcallVi (W0 := (wM g m0 m1 m2 m3 m4 μ)) (Wc := (wM g m0 m1 m2 m3 m4 μ)) (Wr := ([] : va_W)) (W1 := (wM g m0 m1 m2 m3 m4 r_1.2)) (W2 := (wM g m0 m1 m2 m3 m4 r_1.2)) (As := [.int (97 : Int32), .int (0 : Int32), .int (0 : Int32)]) (rest := []) [0, 1, 2, 3, 4] [] [0, 1, 2, 3, 4] 5 0 ⟨hx, hb, hml, hown, hts⟩ hP hD hE hZ hS hA (cX7_acts_ok l g m0 m1 m2 m3 m4 μ (97 : Int32) (0 : Int32) (0 : Int32) _ e_1) (cwV 3 hts gX7_labelAll_X7_acts rfl rfl rfl hdX7_acts ⟨(Nat.le_of_ble_eq_true rfl), (Nat.le_of_ble_eq_true rfl)⟩) rfl rfl rfl (by decide) (by decide) (by decide) (by decide) rfl rfl rfl rfl hl.1 rfl (Nat.le_of_ble_eq_true rfl) ⟨(Nat.le_of_ble_eq_true rfl), (Nat.le_of_ble_eq_true rfl)⟩ dX7_labelAll_5 (fun H locs hP hD hS => ?_)
  have ho := Option.some.inj hf
  subst ho
  exact m_iret (v := r_1.1) hx hb hr hlocks hP hD hS rfl dX7_labelAll_8

def fX7_setGap (μ : Mo) (p0 : Int32) : Option (Int32 × Mo) := ((fX7_acts μ (103 : Int32) p0 (0 : Int32)).bind fun r_1 => (some (r_1.1, r_1.2)))
abbrev rmX7_setGap : Room := { frames := 12, cells := 0, slots := 0, locals := 277 }
theorem hdX7_setGap : yX7_setGap.cls = RX7 ∧ yX7_setGap.cls ≠ "java/lang/invoke/MethodHandle" ∧ yX7_setGap.cls ≠ "java/lang/invoke/VarHandle" ∧ (parseMethodDescriptor yX7_setGap.desc).map (fun d => d.parameters.length) = some 1 := by decide +kernel
set_option maxHeartbeats 4000000 in
set_option maxRecDepth 100000 in
theorem cX7_setGap_ok (l : Launch) (g : Gg) (m0 m1 m2 m3 m4 : Nat) (μ : Mo) (p0 : Int32) (sz : Nat) {o : Int32 × Mo} (hf : fX7_setGap μ p0 = some o) : Met l yX7_setGap wsX7_setGap rmX7_setGap (va_Pc [.ref m0, .int p0] (PM g (wM g m0 m1 m2 m3 m4 μ) sz)) (va_Qi (fun r' (_ : Unit) => r' = o.1) (fun _ t => PQ g (wM g m0 m1 m2 m3 m4 o.2) (va_A (wM g m0 m1 m2 m3 m4 μ) sz) t) (va_A (wM g m0 m1 m2 m3 m4 μ) sz)) 0 0 (va_A (wM g m0 m1 m2 m3 m4 μ) sz) := by
  refine Met.ofW (cc := cX7_setGap) (maxL := 2) (ret := (some .int)) (by decide) rfl ?_
  intro p e s m args below meth c s₁ B hml hv
  obtain ⟨rfl, rfl, hP, hD0, hE, hZ⟩ := hv
  have hx := B.exec
  have hb := B.bytes
  have hr := B.returns
  have hts := atoms_spec (ws := wsX7_setGap) B.pre
  have hown : s.vm.findClass RX7 = some m.cls := findClass_of_methodNamed B.named
  have hlocks := B.notSynchronized
  have hD := hD0.self (sz := s.heap.size)
  generalize hAe : (va_A (wM g m0 m1 m2 m3 m4 μ) s.heap.size) = A at hD hZ ⊢
  have hA : ∀ q : Nat, s.heap.size ≤ q → A q := fun q h => by rw [← hAe]; exact Or.inr h
  have hS : va_S A s.heap s.heap [] := va_S.rf
  have hP : va_P g.1 vwCl (wM g m0 m1 m2 m3 m4 μ) s.heap := hP
  have hl := lv_entry ([.ref m0, .int p0]) (n := 2) (Nat.le_of_ble_eq_true rfl)
  rw [lg_entry_eq]
  generalize (lg_sl ([.ref m0, .int p0]) ++ List.replicate (2 - (lg_sl ([.ref m0, .int p0])).length) Slot.unset).toArray = ls at hl ⊢
  have hl : lv_has ls 2 [(0, .ref m0), (1, .int p0)] := hl
  unfold fX7_setGap at hf
  refine lv_aload_n hx hb dX7_setGap_0 rfl (lv_at hl 0 rfl) ?_
  refine lv_bipush (v := (103 : Int32)) hx hb dX7_setGap_1 (by decide) ?_
  refine lv_iload_n hx hb dX7_setGap_3 rfl (lv_at hl 1 rfl) ?_
  refine lv_iconst (v := (0 : Int32)) hx hb dX7_setGap_4 (by decide) ?_
  obtain ⟨r_1, e_1, hf⟩ := bo hf
  refine mcallVi (W0 := (wM g m0 m1 m2 m3 m4 μ)) (Wc := (wM g m0 m1 m2 m3 m4 μ)) (Wr := ([] : va_W)) (W1 := (wM g m0 m1 m2 m3 m4 r_1.2)) (W2 := (wM g m0 m1 m2 m3 m4 r_1.2)) (As := [.int (103 : Int32), .int p0, .int (0 : Int32)]) (rest := []) [0, 1, 2, 3, 4] [] [0, 1, 2, 3, 4] 5 0 ⟨hx, hb, hml, hown, hts⟩ hP hD hE hZ hS hA (cX7_acts_ok l g m0 m1 m2 m3 m4 μ (103 : Int32) p0 (0 : Int32) _ e_1) (cwV 3 hts gX7_setGap_X7_acts rfl rfl rfl hdX7_acts ⟨(Nat.le_of_ble_eq_true rfl), (Nat.le_of_ble_eq_true rfl)⟩) rfl rfl rfl (by decide) (by decide) (by decide) (by decide) rfl rfl rfl rfl hl.1 rfl (Nat.le_of_ble_eq_true rfl) ⟨(Nat.le_of_ble_eq_true rfl), (Nat.le_of_ble_eq_true rfl)⟩ dX7_setGap_5 (fun H locs hP hD hS => ?_)
  have ho := Option.some.inj hf
  subst ho
  exact m_iret (v := r_1.1) hx hb hr hlocks hP hD hS rfl dX7_setGap_8

def fX7_look (μ : Mo) (p0 p1 : Int32) : Option (Int32 × Mo) := ((fX7_isLine (M_th' μ (0 : Int32)) p0).bind fun r_1 => (if r_1 = true then ((fX7_of (M_th' μ (0 : Int32)) p0 p1).bind fun r_4 => (some (r_4, (M_th' μ (0 : Int32))))) else ((fX7_fails (M_th' μ (0 : Int32)) (1 : Int32)).bind fun r_3 => (some (r_3.1, r_3.2)))))
abbrev rmX7_look : Room := { frames := 2, cells := 0, slots := 0, locals := 43 }
theorem hdX7_look : yX7_look.cls = RX7 ∧ yX7_look.cls ≠ "java/lang/invoke/MethodHandle" ∧ yX7_look.cls ≠ "java/lang/invoke/VarHandle" ∧ (parseMethodDescriptor yX7_look.desc).map (fun d => d.parameters.length) = some 2 := by decide +kernel
theorem fiX7_look_X7 : ∀ w ∈ wsX70, w ∈ wsX7_look := by decide +kernel
theorem flX7_look_22 : (.fieldLink RX7 22 "ContourLabelsModel" "thrown" "I" : Cond) ∈ wsX7_look := by decide +kernel
set_option maxHeartbeats 4000000 in
set_option maxRecDepth 100000 in
theorem cX7_look_ok (l : Launch) (g : Gg) (m0 m1 m2 m3 m4 : Nat) (μ : Mo) (p0 p1 : Int32) (sz : Nat) {o : Int32 × Mo} (hf : fX7_look μ p0 p1 = some o) : Met l yX7_look wsX7_look rmX7_look (va_Pc [.ref m0, .int p0, .int p1] (PM g (wM g m0 m1 m2 m3 m4 μ) sz)) (va_Qi (fun r' (_ : Unit) => r' = o.1) (fun _ t => PQ g (wM g m0 m1 m2 m3 m4 o.2) (va_A (wM g m0 m1 m2 m3 m4 μ) sz) t) (va_A (wM g m0 m1 m2 m3 m4 μ) sz)) 0 0 (va_A (wM g m0 m1 m2 m3 m4 μ) sz) := by
  refine Met.ofW (cc := cX7_look) (maxL := 3) (ret := (some .int)) (by decide) rfl ?_
  intro p e s m args below meth c s₁ B hml hv
  obtain ⟨rfl, rfl, hP, hD0, hE, hZ⟩ := hv
  have hx := B.exec
  have hb := B.bytes
  have hr := B.returns
  have hts := atoms_spec (ws := wsX7_look) B.pre
  have hown : s.vm.findClass RX7 = some m.cls := findClass_of_methodNamed B.named
  have hlocks := B.notSynchronized
  have hD := hD0.self (sz := s.heap.size)
  generalize hAe : (va_A (wM g m0 m1 m2 m3 m4 μ) s.heap.size) = A at hD hZ ⊢
  have hA : ∀ q : Nat, s.heap.size ≤ q → A q := fun q h => by rw [← hAe]; exact Or.inr h
  have hS : va_S A s.heap s.heap [] := va_S.rf
  have hP : va_P g.1 vwCl (wM g m0 m1 m2 m3 m4 μ) s.heap := hP
  have hl := lv_entry ([.ref m0, .int p0, .int p1]) (n := 3) (Nat.le_of_ble_eq_true rfl)
  rw [lg_entry_eq]
  generalize (lg_sl ([.ref m0, .int p0, .int p1]) ++ List.replicate (3 - (lg_sl ([.ref m0, .int p0, .int p1])).length) Slot.unset).toArray = ls at hl ⊢
  have hl : lv_has ls 3 [(0, .ref m0), (1, .int p0), (2, .int p1)] := hl
  unfold fX7_look at hf
  refine lv_aload_n hx hb dX7_look_0 rfl (lv_at hl 0 rfl) ?_
  refine lv_iconst (v := (0 : Int32)) hx hb dX7_look_1 (by decide) ?_
  refine va_put (v := .int (0 : Int32)) (ty := .int) (C := RX7) (T := TX7) (N := 13) hx hb hts fiX7_look_X7 tyX7 tyX7_ok nmX7 hown hE.1 hP hD hS 0 rfl rfl 7 (by decide) (hts _ flX7_look_22) (fun _ h9 => h9) rfl (by decide +kernel) rfl rfl (Nat.le_of_ble_eq_true rfl) dX7_look_2 (fun H locs hP hD hS => ?_)
  have hP : va_P g.1 vwCl (wM g m0 m1 m2 m3 m4 (M_th' μ (0 : Int32))) H := hP
  have hD : va_D A (wM g m0 m1 m2 m3 m4 (M_th' μ (0 : Int32))) := hD
  refine lv_aload_n hx hb dX7_look_5 rfl (lv_at hl 0 rfl) ?_
  refine lv_iload_n hx hb dX7_look_6 rfl (lv_at hl 1 rfl) ?_
  obtain ⟨r_1, e_1, hf⟩ := bo hf
  refine pcallV (W0 := (wM g m0 m1 m2 m3 m4 (M_th' μ (0 : Int32)))) (As := [.int p0]) (rest := []) [0, 1, 2, 3, 4] 5 0 ⟨hx, hb, hml, hown, hts⟩ hP hE hZ hS (cX7_isLine_ok l g m0 m1 m2 m3 m4 (M_th' μ (0 : Int32)) p0 e_1) (cwV 1 hts gX7_look_X7_isLine rfl rfl rfl hdX7_isLine ⟨(Nat.le_of_ble_eq_true rfl), (Nat.le_of_ble_eq_true rfl)⟩) rfl rfl rfl rfl rfl hl.1 rfl (Nat.le_of_ble_eq_true rfl) ⟨(Nat.le_of_ble_eq_true rfl), (Nat.le_of_ble_eq_true rfl)⟩ dX7_look_7 ?_
  refine lv_beq (tgt := 22) hx hb dX7_look_10 (by decide) (fun c_2 => ?_) (fun c_2 => ?_)
  · have hf := iq c_2 hf
    refine lv_aload_n hx hb dX7_look_22 rfl (lv_at hl 0 rfl) ?_
    refine lv_iconst (v := (1 : Int32)) hx hb dX7_look_23 (by decide) ?_
    obtain ⟨r_3, e_3, hf⟩ := bo hf
    refine mcallVi (W0 := (wM g m0 m1 m2 m3 m4 (M_th' μ (0 : Int32)))) (Wc := (wM g m0 m1 m2 m3 m4 (M_th' μ (0 : Int32)))) (Wr := ([] : va_W)) (W1 := (wM g m0 m1 m2 m3 m4 r_3.2)) (W2 := (wM g m0 m1 m2 m3 m4 r_3.2)) (As := [.int (1 : Int32)]) (rest := []) [0, 1, 2, 3, 4] [] [0, 1, 2, 3, 4] 5 0 ⟨hx, hb, hml, hown, hts⟩ hP hD hE hZ hS hA (cX7_fails_ok l g m0 m1 m2 m3 m4 (M_th' μ (0 : Int32)) (1 : Int32) _ e_3) (cwV 1 hts gX7_look_X7_fails rfl rfl rfl hdX7_fails ⟨(Nat.le_of_ble_eq_true rfl), (Nat.le_of_ble_eq_true rfl)⟩) rfl rfl rfl (by decide) (by decide) (by decide) (by decide) rfl rfl rfl rfl hl.1 rfl (Nat.le_of_ble_eq_true rfl) ⟨(Nat.le_of_ble_eq_true rfl), (Nat.le_of_ble_eq_true rfl)⟩ dX7_look_24 (fun H locs hP hD hS => ?_)
    have ho := Option.some.inj hf
    subst ho
    exact m_iret (v := r_3.1) hx hb hr hlocks hP hD hS rfl dX7_look_27
  · have hf := ip c_2 hf
    refine lv_aload_n hx hb dX7_look_13 rfl (lv_at hl 0 rfl) ?_
    refine lv_iload_n hx hb dX7_look_14 rfl (lv_at hl 1 rfl) ?_
    refine lv_iload_n hx hb dX7_look_15 rfl (lv_at hl 2 rfl) ?_
    obtain ⟨r_4, e_4, hf⟩ := bo hf
    refine pcallV (W0 := (wM g m0 m1 m2 m3 m4 (M_th' μ (0 : Int32)))) (As := [.int p0, .int p1]) (rest := []) [0, 1, 2, 3, 4] 5 0 ⟨hx, hb, hml, hown, hts⟩ hP hE hZ hS (cX7_of_ok l g m0 m1 m2 m3 m4 (M_th' μ (0 : Int32)) p0 p1 e_4) (cwV 2 hts gX7_look_X7_of rfl rfl rfl hdX7_of ⟨(Nat.le_of_ble_eq_true rfl), (Nat.le_of_ble_eq_true rfl)⟩) rfl rfl rfl rfl rfl hl.1 rfl (Nat.le_of_ble_eq_true rfl) ⟨(Nat.le_of_ble_eq_true rfl), (Nat.le_of_ble_eq_true rfl)⟩ dX7_look_16 ?_
    refine lv_goto (tgt := 27) hx hb dX7_look_19 (by decide) ?_
    have ho := Option.some.inj hf
    subst ho
    exact m_iret (v := r_4) hx hb hr hlocks hP hD hS rfl dX7_look_27

def fX7_has (μ : Mo) (p0 p1 : Int32) : Option (Bool × Mo) := ((fX7_isLine μ p0).bind fun r_1 => (if r_1 = true then ((fX7_of μ p0 (2 : Int32)).bind fun r_4 => ((fX7_in p1 (0 : Int32) r_4).bind fun r_5 => (if r_5 = true then (if (0 : Int32) = 0 then (some (true, (M_th' μ (0 : Int32)))) else (some (false, (M_th' μ (0 : Int32))))) else (if (1 : Int32) = 0 then (some (true, (M_th' μ (1 : Int32)))) else (some (false, (M_th' μ (1 : Int32)))))))) else (if (1 : Int32) = 0 then (some (true, (M_th' μ (1 : Int32)))) else (some (false, (M_th' μ (1 : Int32)))))))
abbrev rmX7_has : Room := { frames := 2, cells := 0, slots := 0, locals := 43 }
theorem hdX7_has : yX7_has.cls = RX7 ∧ yX7_has.cls ≠ "java/lang/invoke/MethodHandle" ∧ yX7_has.cls ≠ "java/lang/invoke/VarHandle" ∧ (parseMethodDescriptor yX7_has.desc).map (fun d => d.parameters.length) = some 2 := by decide +kernel
theorem fiX7_has_X7 : ∀ w ∈ wsX70, w ∈ wsX7_has := by decide +kernel
theorem flX7_has_22 : (.fieldLink RX7 22 "ContourLabelsModel" "thrown" "I" : Cond) ∈ wsX7_has := by decide +kernel
set_option maxHeartbeats 4000000 in
set_option maxRecDepth 100000 in
theorem cX7_has_ok (l : Launch) (g : Gg) (m0 m1 m2 m3 m4 : Nat) (μ : Mo) (p0 p1 : Int32) (sz : Nat) {o : Bool × Mo} (hf : fX7_has μ p0 p1 = some o) : Met l yX7_has wsX7_has rmX7_has (va_Pc [.ref m0, .int p0, .int p1] (PM g (wM g m0 m1 m2 m3 m4 μ) sz)) (va_Qi (fun r' (_ : Unit) => r' = b2i o.1) (fun _ t => PQ g (wM g m0 m1 m2 m3 m4 o.2) (va_A (wM g m0 m1 m2 m3 m4 μ) sz) t) (va_A (wM g m0 m1 m2 m3 m4 μ) sz)) 0 0 (va_A (wM g m0 m1 m2 m3 m4 μ) sz) := by
  refine Met.ofW (cc := cX7_has) (maxL := 3) (ret := (some .boolean)) (by decide) rfl ?_
  intro p e s m args below meth c s₁ B hml hv
  obtain ⟨rfl, rfl, hP, hD0, hE, hZ⟩ := hv
  have hx := B.exec
  have hb := B.bytes
  have hr := B.returns
  have hts := atoms_spec (ws := wsX7_has) B.pre
  have hown : s.vm.findClass RX7 = some m.cls := findClass_of_methodNamed B.named
  have hlocks := B.notSynchronized
  have hD := hD0.self (sz := s.heap.size)
  generalize hAe : (va_A (wM g m0 m1 m2 m3 m4 μ) s.heap.size) = A at hD hZ ⊢
  have hA : ∀ q : Nat, s.heap.size ≤ q → A q := fun q h => by rw [← hAe]; exact Or.inr h
  have hS : va_S A s.heap s.heap [] := va_S.rf
  have hP : va_P g.1 vwCl (wM g m0 m1 m2 m3 m4 μ) s.heap := hP
  have hl := lv_entry ([.ref m0, .int p0, .int p1]) (n := 3) (Nat.le_of_ble_eq_true rfl)
  rw [lg_entry_eq]
  generalize (lg_sl ([.ref m0, .int p0, .int p1]) ++ List.replicate (3 - (lg_sl ([.ref m0, .int p0, .int p1])).length) Slot.unset).toArray = ls at hl ⊢
  have hl : lv_has ls 3 [(0, .ref m0), (1, .int p0), (2, .int p1)] := hl
  unfold fX7_has at hf
  refine lv_aload_n hx hb dX7_has_0 rfl (lv_at hl 0 rfl) ?_
  refine lv_aload_n hx hb dX7_has_1 rfl (lv_at hl 0 rfl) ?_
  refine lv_iload_n hx hb dX7_has_2 rfl (lv_at hl 1 rfl) ?_
  obtain ⟨r_1, e_1, hf⟩ := bo hf
  refine pcallV (W0 := (wM g m0 m1 m2 m3 m4 μ)) (As := [.int p0]) (rest := [.ref m0]) [0, 1, 2, 3, 4] 5 0 ⟨hx, hb, hml, hown, hts⟩ hP hE hZ hS (cX7_isLine_ok l g m0 m1 m2 m3 m4 μ p0 e_1) (cwV 1 hts gX7_has_X7_isLine rfl rfl rfl hdX7_isLine ⟨(Nat.le_of_ble_eq_true rfl), (Nat.le_of_ble_eq_true rfl)⟩) rfl rfl rfl rfl rfl hl.1 rfl (Nat.le_of_ble_eq_true rfl) ⟨(Nat.le_of_ble_eq_true rfl), (Nat.le_of_ble_eq_true rfl)⟩ dX7_has_3 ?_
  refine lv_beq (tgt := 27) hx hb dX7_has_6 (by decide) (fun c_2 => ?_) (fun c_2 => ?_)
  · have hf := iq c_2 hf
    refine lv_iconst (v := (1 : Int32)) hx hb dX7_has_27 (by decide) ?_
    refine va_put (v := .int (1 : Int32)) (ty := .int) (C := RX7) (T := TX7) (N := 13) hx hb hts fiX7_has_X7 tyX7 tyX7_ok nmX7 hown hE.1 hP hD hS 0 rfl rfl 7 (by decide) (hts _ flX7_has_22) (fun _ h9 => h9) rfl (by decide +kernel) rfl rfl (Nat.le_of_ble_eq_true rfl) dX7_has_28 (fun H locs hP hD hS => ?_)
    have hP : va_P g.1 vwCl (wM g m0 m1 m2 m3 m4 (M_th' μ (1 : Int32))) H := hP
    have hD : va_D A (wM g m0 m1 m2 m3 m4 (M_th' μ (1 : Int32))) := hD
    refine lv_aload_n hx hb dX7_has_31 rfl (lv_at hl 0 rfl) ?_
    refine va_get (v := .int (1 : Int32)) (C := RX7) (T := TX7) (N := 13) hx hb hts fiX7_has_X7 hown hE.1 hP 0 rfl rfl 7 (by decide) (hts _ flX7_has_22) (fun _ h9 => h9) rfl dX7_has_32 ?_
    refine lv_if_ne (tgt := 42) hx hb dX7_has_35 (by decide) (fun c_3 => ?_) (fun c_3 => ?_)
    · have hf := iq c_3 hf
      refine lv_iconst (v := (0 : Int32)) hx hb dX7_has_42 (by decide) ?_
      have ho := Option.some.inj hf
      subst ho
      exact m_zret (v := false) hx hb hr hlocks hP hD hS rfl dX7_has_43
    · have hf := ip c_3 hf
      refine lv_iconst (v := (1 : Int32)) hx hb dX7_has_38 (by decide) ?_
      refine lv_goto (tgt := 43) hx hb dX7_has_39 (by decide) ?_
      have ho := Option.some.inj hf
      subst ho
      exact m_zret (v := true) hx hb hr hlocks hP hD hS rfl dX7_has_43
  · have hf := ip c_2 hf
    refine lv_iload_n hx hb dX7_has_9 rfl (lv_at hl 2 rfl) ?_
    refine lv_iconst (v := (0 : Int32)) hx hb dX7_has_10 (by decide) ?_
    refine lv_aload_n hx hb dX7_has_11 rfl (lv_at hl 0 rfl) ?_
    refine lv_iload_n hx hb dX7_has_12 rfl (lv_at hl 1 rfl) ?_
    refine lv_iconst (v := (2 : Int32)) hx hb dX7_has_13 (by decide) ?_
    obtain ⟨r_4, e_4, hf⟩ := bo hf
    refine pcallV (W0 := (wM g m0 m1 m2 m3 m4 μ)) (As := [.int p0, .int (2 : Int32)]) (rest := [.int (0 : Int32), .int p1, .ref m0]) [0, 1, 2, 3, 4] 5 0 ⟨hx, hb, hml, hown, hts⟩ hP hE hZ hS (cX7_of_ok l g m0 m1 m2 m3 m4 μ p0 (2 : Int32) e_4) (cwV 2 hts gX7_has_X7_of rfl rfl rfl hdX7_of ⟨(Nat.le_of_ble_eq_true rfl), (Nat.le_of_ble_eq_true rfl)⟩) rfl rfl rfl rfl rfl hl.1 rfl (Nat.le_of_ble_eq_true rfl) ⟨(Nat.le_of_ble_eq_true rfl), (Nat.le_of_ble_eq_true rfl)⟩ dX7_has_14 ?_
    obtain ⟨r_5, e_5, hf⟩ := bo hf
    refine pcallS (W0 := (wM g m0 m1 m2 m3 m4 μ)) (As := [.int p1, .int (0 : Int32), .int r_4]) (rest := [.ref m0]) [] ⟨hx, hb, hml, hown, hts⟩ hP hE hZ hS (cX7_in_ok l g  p1 (0 : Int32) r_4 e_5) (va_cwS 3 hts gX7_has_X7_in rfl rfl rfl hdX7_in.2 ⟨(Nat.le_of_ble_eq_true rfl), (Nat.le_of_ble_eq_true rfl)⟩) rfl rfl hl.1 rfl (Nat.le_of_ble_eq_true rfl) ⟨(Nat.le_of_ble_eq_true rfl), (Nat.le_of_ble_eq_true rfl)⟩ dX7_has_17 ?_
    refine lv_beq (tgt := 27) hx hb dX7_has_20 (by decide) (fun c_6 => ?_) (fun c_6 => ?_)
    · have hf := iq c_6 hf
      refine lv_iconst (v := (1 : Int32)) hx hb dX7_has_27 (by decide) ?_
      refine va_put (v := .int (1 : Int32)) (ty := .int) (C := RX7) (T := TX7) (N := 13) hx hb hts fiX7_has_X7 tyX7 tyX7_ok nmX7 hown hE.1 hP hD hS 0 rfl rfl 7 (by decide) (hts _ flX7_has_22) (fun _ h9 => h9) rfl (by decide +kernel) rfl rfl (Nat.le_of_ble_eq_true rfl) dX7_has_28 (fun H locs hP hD hS => ?_)
      have hP : va_P g.1 vwCl (wM g m0 m1 m2 m3 m4 (M_th' μ (1 : Int32))) H := hP
      have hD : va_D A (wM g m0 m1 m2 m3 m4 (M_th' μ (1 : Int32))) := hD
      refine lv_aload_n hx hb dX7_has_31 rfl (lv_at hl 0 rfl) ?_
      refine va_get (v := .int (1 : Int32)) (C := RX7) (T := TX7) (N := 13) hx hb hts fiX7_has_X7 hown hE.1 hP 0 rfl rfl 7 (by decide) (hts _ flX7_has_22) (fun _ h9 => h9) rfl dX7_has_32 ?_
      refine lv_if_ne (tgt := 42) hx hb dX7_has_35 (by decide) (fun c_7 => ?_) (fun c_7 => ?_)
      · have hf := iq c_7 hf
        refine lv_iconst (v := (0 : Int32)) hx hb dX7_has_42 (by decide) ?_
        have ho := Option.some.inj hf
        subst ho
        exact m_zret (v := false) hx hb hr hlocks hP hD hS rfl dX7_has_43
      · have hf := ip c_7 hf
        refine lv_iconst (v := (1 : Int32)) hx hb dX7_has_38 (by decide) ?_
        refine lv_goto (tgt := 43) hx hb dX7_has_39 (by decide) ?_
        have ho := Option.some.inj hf
        subst ho
        exact m_zret (v := true) hx hb hr hlocks hP hD hS rfl dX7_has_43
    · have hf := ip c_6 hf
      refine lv_iconst (v := (0 : Int32)) hx hb dX7_has_23 (by decide) ?_
      refine lv_goto (tgt := 28) hx hb dX7_has_24 (by decide) ?_
      refine va_put (v := .int (0 : Int32)) (ty := .int) (C := RX7) (T := TX7) (N := 13) hx hb hts fiX7_has_X7 tyX7 tyX7_ok nmX7 hown hE.1 hP hD hS 0 rfl rfl 7 (by decide) (hts _ flX7_has_22) (fun _ h9 => h9) rfl (by decide +kernel) rfl rfl (Nat.le_of_ble_eq_true rfl) dX7_has_28 (fun H locs hP hD hS => ?_)
      have hP : va_P g.1 vwCl (wM g m0 m1 m2 m3 m4 (M_th' μ (0 : Int32))) H := hP
      have hD : va_D A (wM g m0 m1 m2 m3 m4 (M_th' μ (0 : Int32))) := hD
      refine lv_aload_n hx hb dX7_has_31 rfl (lv_at hl 0 rfl) ?_
      refine va_get (v := .int (0 : Int32)) (C := RX7) (T := TX7) (N := 13) hx hb hts fiX7_has_X7 hown hE.1 hP 0 rfl rfl 7 (by decide) (hts _ flX7_has_22) (fun _ h9 => h9) rfl dX7_has_32 ?_
      refine lv_if_ne (tgt := 42) hx hb dX7_has_35 (by decide) (fun c_8 => ?_) (fun c_8 => ?_)
      · have hf := iq c_8 hf
        refine lv_iconst (v := (0 : Int32)) hx hb dX7_has_42 (by decide) ?_
        have ho := Option.some.inj hf
        subst ho
        exact m_zret (v := false) hx hb hr hlocks hP hD hS rfl dX7_has_43
      · have hf := ip c_8 hf
        refine lv_iconst (v := (1 : Int32)) hx hb dX7_has_38 (by decide) ?_
        refine lv_goto (tgt := 43) hx hb dX7_has_39 (by decide) ?_
        have ho := Option.some.inj hf
        subst ho
        exact m_zret (v := true) hx hb hr hlocks hP hD hS rfl dX7_has_43

def fX7_knows (μ : Mo) (p0 : Int32) : Option (Bool × Mo) := ((fX7_isLine μ p0).bind fun r_1 => (if r_1 = true then (if (0 : Int32) = 0 then (some (true, (M_th' μ (0 : Int32)))) else (some (false, (M_th' μ (0 : Int32))))) else (if (1 : Int32) = 0 then (some (true, (M_th' μ (1 : Int32)))) else (some (false, (M_th' μ (1 : Int32)))))))
abbrev rmX7_knows : Room := { frames := 2, cells := 0, slots := 0, locals := 43 }
theorem hdX7_knows : yX7_knows.cls = RX7 ∧ yX7_knows.cls ≠ "java/lang/invoke/MethodHandle" ∧ yX7_knows.cls ≠ "java/lang/invoke/VarHandle" ∧ (parseMethodDescriptor yX7_knows.desc).map (fun d => d.parameters.length) = some 1 := by decide +kernel
theorem fiX7_knows_X7 : ∀ w ∈ wsX70, w ∈ wsX7_knows := by decide +kernel
theorem flX7_knows_22 : (.fieldLink RX7 22 "ContourLabelsModel" "thrown" "I" : Cond) ∈ wsX7_knows := by decide +kernel
set_option maxHeartbeats 4000000 in
set_option maxRecDepth 100000 in
theorem cX7_knows_ok (l : Launch) (g : Gg) (m0 m1 m2 m3 m4 : Nat) (μ : Mo) (p0 : Int32) (sz : Nat) {o : Bool × Mo} (hf : fX7_knows μ p0 = some o) : Met l yX7_knows wsX7_knows rmX7_knows (va_Pc [.ref m0, .int p0] (PM g (wM g m0 m1 m2 m3 m4 μ) sz)) (va_Qi (fun r' (_ : Unit) => r' = b2i o.1) (fun _ t => PQ g (wM g m0 m1 m2 m3 m4 o.2) (va_A (wM g m0 m1 m2 m3 m4 μ) sz) t) (va_A (wM g m0 m1 m2 m3 m4 μ) sz)) 0 0 (va_A (wM g m0 m1 m2 m3 m4 μ) sz) := by
  refine Met.ofW (cc := cX7_knows) (maxL := 2) (ret := (some .boolean)) (by decide) rfl ?_
  intro p e s m args below meth c s₁ B hml hv
  obtain ⟨rfl, rfl, hP, hD0, hE, hZ⟩ := hv
  have hx := B.exec
  have hb := B.bytes
  have hr := B.returns
  have hts := atoms_spec (ws := wsX7_knows) B.pre
  have hown : s.vm.findClass RX7 = some m.cls := findClass_of_methodNamed B.named
  have hlocks := B.notSynchronized
  have hD := hD0.self (sz := s.heap.size)
  generalize hAe : (va_A (wM g m0 m1 m2 m3 m4 μ) s.heap.size) = A at hD hZ ⊢
  have hA : ∀ q : Nat, s.heap.size ≤ q → A q := fun q h => by rw [← hAe]; exact Or.inr h
  have hS : va_S A s.heap s.heap [] := va_S.rf
  have hP : va_P g.1 vwCl (wM g m0 m1 m2 m3 m4 μ) s.heap := hP
  have hl := lv_entry ([.ref m0, .int p0]) (n := 2) (Nat.le_of_ble_eq_true rfl)
  rw [lg_entry_eq]
  generalize (lg_sl ([.ref m0, .int p0]) ++ List.replicate (2 - (lg_sl ([.ref m0, .int p0])).length) Slot.unset).toArray = ls at hl ⊢
  have hl : lv_has ls 2 [(0, .ref m0), (1, .int p0)] := hl
  unfold fX7_knows at hf
  refine lv_aload_n hx hb dX7_knows_0 rfl (lv_at hl 0 rfl) ?_
  refine lv_aload_n hx hb dX7_knows_1 rfl (lv_at hl 0 rfl) ?_
  refine lv_iload_n hx hb dX7_knows_2 rfl (lv_at hl 1 rfl) ?_
  obtain ⟨r_1, e_1, hf⟩ := bo hf
  refine pcallV (W0 := (wM g m0 m1 m2 m3 m4 μ)) (As := [.int p0]) (rest := [.ref m0]) [0, 1, 2, 3, 4] 5 0 ⟨hx, hb, hml, hown, hts⟩ hP hE hZ hS (cX7_isLine_ok l g m0 m1 m2 m3 m4 μ p0 e_1) (cwV 1 hts gX7_knows_X7_isLine rfl rfl rfl hdX7_isLine ⟨(Nat.le_of_ble_eq_true rfl), (Nat.le_of_ble_eq_true rfl)⟩) rfl rfl rfl rfl rfl hl.1 rfl (Nat.le_of_ble_eq_true rfl) ⟨(Nat.le_of_ble_eq_true rfl), (Nat.le_of_ble_eq_true rfl)⟩ dX7_knows_3 ?_
  refine lv_beq (tgt := 13) hx hb dX7_knows_6 (by decide) (fun c_2 => ?_) (fun c_2 => ?_)
  · have hf := iq c_2 hf
    refine lv_iconst (v := (1 : Int32)) hx hb dX7_knows_13 (by decide) ?_
    refine va_put (v := .int (1 : Int32)) (ty := .int) (C := RX7) (T := TX7) (N := 13) hx hb hts fiX7_knows_X7 tyX7 tyX7_ok nmX7 hown hE.1 hP hD hS 0 rfl rfl 7 (by decide) (hts _ flX7_knows_22) (fun _ h9 => h9) rfl (by decide +kernel) rfl rfl (Nat.le_of_ble_eq_true rfl) dX7_knows_14 (fun H locs hP hD hS => ?_)
    have hP : va_P g.1 vwCl (wM g m0 m1 m2 m3 m4 (M_th' μ (1 : Int32))) H := hP
    have hD : va_D A (wM g m0 m1 m2 m3 m4 (M_th' μ (1 : Int32))) := hD
    refine lv_aload_n hx hb dX7_knows_17 rfl (lv_at hl 0 rfl) ?_
    refine va_get (v := .int (1 : Int32)) (C := RX7) (T := TX7) (N := 13) hx hb hts fiX7_knows_X7 hown hE.1 hP 0 rfl rfl 7 (by decide) (hts _ flX7_knows_22) (fun _ h9 => h9) rfl dX7_knows_18 ?_
    refine lv_if_ne (tgt := 28) hx hb dX7_knows_21 (by decide) (fun c_3 => ?_) (fun c_3 => ?_)
    · have hf := iq c_3 hf
      refine lv_iconst (v := (0 : Int32)) hx hb dX7_knows_28 (by decide) ?_
      have ho := Option.some.inj hf
      subst ho
      exact m_zret (v := false) hx hb hr hlocks hP hD hS rfl dX7_knows_29
    · have hf := ip c_3 hf
      refine lv_iconst (v := (1 : Int32)) hx hb dX7_knows_24 (by decide) ?_
      refine lv_goto (tgt := 29) hx hb dX7_knows_25 (by decide) ?_
      have ho := Option.some.inj hf
      subst ho
      exact m_zret (v := true) hx hb hr hlocks hP hD hS rfl dX7_knows_29
  · have hf := ip c_2 hf
    refine lv_iconst (v := (0 : Int32)) hx hb dX7_knows_9 (by decide) ?_
    refine lv_goto (tgt := 14) hx hb dX7_knows_10 (by decide) ?_
    refine va_put (v := .int (0 : Int32)) (ty := .int) (C := RX7) (T := TX7) (N := 13) hx hb hts fiX7_knows_X7 tyX7 tyX7_ok nmX7 hown hE.1 hP hD hS 0 rfl rfl 7 (by decide) (hts _ flX7_knows_22) (fun _ h9 => h9) rfl (by decide +kernel) rfl rfl (Nat.le_of_ble_eq_true rfl) dX7_knows_14 (fun H locs hP hD hS => ?_)
    have hP : va_P g.1 vwCl (wM g m0 m1 m2 m3 m4 (M_th' μ (0 : Int32))) H := hP
    have hD : va_D A (wM g m0 m1 m2 m3 m4 (M_th' μ (0 : Int32))) := hD
    refine lv_aload_n hx hb dX7_knows_17 rfl (lv_at hl 0 rfl) ?_
    refine va_get (v := .int (0 : Int32)) (C := RX7) (T := TX7) (N := 13) hx hb hts fiX7_knows_X7 hown hE.1 hP 0 rfl rfl 7 (by decide) (hts _ flX7_knows_22) (fun _ h9 => h9) rfl dX7_knows_18 ?_
    refine lv_if_ne (tgt := 28) hx hb dX7_knows_21 (by decide) (fun c_4 => ?_) (fun c_4 => ?_)
    · have hf := iq c_4 hf
      refine lv_iconst (v := (0 : Int32)) hx hb dX7_knows_28 (by decide) ?_
      have ho := Option.some.inj hf
      subst ho
      exact m_zret (v := false) hx hb hr hlocks hP hD hS rfl dX7_knows_29
    · have hf := ip c_4 hf
      refine lv_iconst (v := (1 : Int32)) hx hb dX7_knows_24 (by decide) ?_
      refine lv_goto (tgt := 29) hx hb dX7_knows_25 (by decide) ?_
      have ho := Option.some.inj hf
      subst ho
      exact m_zret (v := true) hx hb hr hlocks hP hD hS rfl dX7_knows_29

def fX7_lines (μ : Mo) : Option (Int32 × Mo) := (some ((M_row μ (Int32.toNatClampNeg (0 : Int32))), (M_th' μ (0 : Int32))))
abbrev rmX7_lines : Room := { frames := 0, cells := 0, slots := 0, locals := 0 }
theorem hdX7_lines : yX7_lines.cls = RX7 ∧ yX7_lines.cls ≠ "java/lang/invoke/MethodHandle" ∧ yX7_lines.cls ≠ "java/lang/invoke/VarHandle" ∧ (parseMethodDescriptor yX7_lines.desc).map (fun d => d.parameters.length) = some 0 := by decide +kernel
theorem fiX7_lines_X7 : ∀ w ∈ wsX70, w ∈ wsX7_lines := by decide +kernel
theorem flX7_lines_22 : (.fieldLink RX7 22 "ContourLabelsModel" "thrown" "I" : Cond) ∈ wsX7_lines := by decide +kernel
theorem flX7_lines_7 : (.fieldLink RX7 7 "ContourLabelsModel" "row" "[I" : Cond) ∈ wsX7_lines := by decide +kernel
set_option maxHeartbeats 4000000 in
set_option maxRecDepth 100000 in
theorem cX7_lines_ok (l : Launch) (g : Gg) (m0 m1 m2 m3 m4 : Nat) (μ : Mo) (sz : Nat) {o : Int32 × Mo} (hf : fX7_lines μ = some o) : Met l yX7_lines wsX7_lines rmX7_lines (va_Pc [.ref m0] (PM g (wM g m0 m1 m2 m3 m4 μ) sz)) (va_Qi (fun r' (_ : Unit) => r' = o.1) (fun _ t => PQ g (wM g m0 m1 m2 m3 m4 o.2) (va_A (wM g m0 m1 m2 m3 m4 μ) sz) t) (va_A (wM g m0 m1 m2 m3 m4 μ) sz)) 0 0 (va_A (wM g m0 m1 m2 m3 m4 μ) sz) := by
  refine Met.ofW (cc := cX7_lines) (maxL := 1) (ret := (some .int)) (by decide) rfl ?_
  intro p e s m args below meth c s₁ B hml hv
  obtain ⟨rfl, rfl, hP, hD0, hE, hZ⟩ := hv
  have hx := B.exec
  have hb := B.bytes
  have hr := B.returns
  have hts := atoms_spec (ws := wsX7_lines) B.pre
  have hown : s.vm.findClass RX7 = some m.cls := findClass_of_methodNamed B.named
  have hlocks := B.notSynchronized
  have hD := hD0.self (sz := s.heap.size)
  generalize hAe : (va_A (wM g m0 m1 m2 m3 m4 μ) s.heap.size) = A at hD hZ ⊢
  have hA : ∀ q : Nat, s.heap.size ≤ q → A q := fun q h => by rw [← hAe]; exact Or.inr h
  have hS : va_S A s.heap s.heap [] := va_S.rf
  have hP : va_P g.1 vwCl (wM g m0 m1 m2 m3 m4 μ) s.heap := hP
  have hl := lv_entry ([.ref m0]) (n := 1) (Nat.le_of_ble_eq_true rfl)
  rw [lg_entry_eq]
  generalize (lg_sl ([.ref m0]) ++ List.replicate (1 - (lg_sl ([.ref m0])).length) Slot.unset).toArray = ls at hl ⊢
  have hl : lv_has ls 1 [(0, .ref m0)] := hl
  unfold fX7_lines at hf
  refine lv_aload_n hx hb dX7_lines_0 rfl (lv_at hl 0 rfl) ?_
  refine lv_iconst (v := (0 : Int32)) hx hb dX7_lines_1 (by decide) ?_
  refine va_put (v := .int (0 : Int32)) (ty := .int) (C := RX7) (T := TX7) (N := 13) hx hb hts fiX7_lines_X7 tyX7 tyX7_ok nmX7 hown hE.1 hP hD hS 0 rfl rfl 7 (by decide) (hts _ flX7_lines_22) (fun _ h9 => h9) rfl (by decide +kernel) rfl rfl (Nat.le_of_ble_eq_true rfl) dX7_lines_2 (fun H locs hP hD hS => ?_)
  have hP : va_P g.1 vwCl (wM g m0 m1 m2 m3 m4 (M_th' μ (0 : Int32))) H := hP
  have hD : va_D A (wM g m0 m1 m2 m3 m4 (M_th' μ (0 : Int32))) := hD
  refine lv_aload_n hx hb dX7_lines_5 rfl (lv_at hl 0 rfl) ?_
  refine va_get (v := .ref m1) (C := RX7) (T := TX7) (N := 13) hx hb hts fiX7_lines_X7 hown hE.1 hP 0 rfl rfl 0 (by decide) (hts _ flX7_lines_7) (fun _ h9 => h9) rfl dX7_lines_6 ?_
  refine lv_iconst (v := (0 : Int32)) hx hb dX7_lines_9 (by decide) ?_
  refine va_iald hx hb hE.1 hP 1 0 rfl rfl (vin (by decide)) dX7_lines_10 ?_
  have ho := Option.some.inj hf
  subst ho
  exact m_iret (v := (M_row μ (Int32.toNatClampNeg (0 : Int32)))) hx hb hr hlocks hP hD hS rfl dX7_lines_11

def fX7_levelOf (μ : Mo) (p0 : Int32) : Option (Int32 × Mo) := ((fX7_look μ p0 (0 : Int32)).bind fun r_1 => (some (r_1.1, r_1.2)))
abbrev rmX7_levelOf : Room := { frames := 3, cells := 0, slots := 0, locals := 65 }
theorem hdX7_levelOf : yX7_levelOf.cls = RX7 ∧ yX7_levelOf.cls ≠ "java/lang/invoke/MethodHandle" ∧ yX7_levelOf.cls ≠ "java/lang/invoke/VarHandle" ∧ (parseMethodDescriptor yX7_levelOf.desc).map (fun d => d.parameters.length) = some 1 := by decide +kernel
set_option maxHeartbeats 4000000 in
set_option maxRecDepth 100000 in
theorem cX7_levelOf_ok (l : Launch) (g : Gg) (m0 m1 m2 m3 m4 : Nat) (μ : Mo) (p0 : Int32) (sz : Nat) {o : Int32 × Mo} (hf : fX7_levelOf μ p0 = some o) : Met l yX7_levelOf wsX7_levelOf rmX7_levelOf (va_Pc [.ref m0, .int p0] (PM g (wM g m0 m1 m2 m3 m4 μ) sz)) (va_Qi (fun r' (_ : Unit) => r' = o.1) (fun _ t => PQ g (wM g m0 m1 m2 m3 m4 o.2) (va_A (wM g m0 m1 m2 m3 m4 μ) sz) t) (va_A (wM g m0 m1 m2 m3 m4 μ) sz)) 0 0 (va_A (wM g m0 m1 m2 m3 m4 μ) sz) := by
  refine Met.ofW (cc := cX7_levelOf) (maxL := 2) (ret := (some .int)) (by decide) rfl ?_
  intro p e s m args below meth c s₁ B hml hv
  obtain ⟨rfl, rfl, hP, hD0, hE, hZ⟩ := hv
  have hx := B.exec
  have hb := B.bytes
  have hr := B.returns
  have hts := atoms_spec (ws := wsX7_levelOf) B.pre
  have hown : s.vm.findClass RX7 = some m.cls := findClass_of_methodNamed B.named
  have hlocks := B.notSynchronized
  have hD := hD0.self (sz := s.heap.size)
  generalize hAe : (va_A (wM g m0 m1 m2 m3 m4 μ) s.heap.size) = A at hD hZ ⊢
  have hA : ∀ q : Nat, s.heap.size ≤ q → A q := fun q h => by rw [← hAe]; exact Or.inr h
  have hS : va_S A s.heap s.heap [] := va_S.rf
  have hP : va_P g.1 vwCl (wM g m0 m1 m2 m3 m4 μ) s.heap := hP
  have hl := lv_entry ([.ref m0, .int p0]) (n := 2) (Nat.le_of_ble_eq_true rfl)
  rw [lg_entry_eq]
  generalize (lg_sl ([.ref m0, .int p0]) ++ List.replicate (2 - (lg_sl ([.ref m0, .int p0])).length) Slot.unset).toArray = ls at hl ⊢
  have hl : lv_has ls 2 [(0, .ref m0), (1, .int p0)] := hl
  unfold fX7_levelOf at hf
  refine lv_aload_n hx hb dX7_levelOf_0 rfl (lv_at hl 0 rfl) ?_
  refine lv_iload_n hx hb dX7_levelOf_1 rfl (lv_at hl 1 rfl) ?_
  refine lv_iconst (v := (0 : Int32)) hx hb dX7_levelOf_2 (by decide) ?_
  obtain ⟨r_1, e_1, hf⟩ := bo hf
  refine mcallVi (W0 := (wM g m0 m1 m2 m3 m4 μ)) (Wc := (wM g m0 m1 m2 m3 m4 μ)) (Wr := ([] : va_W)) (W1 := (wM g m0 m1 m2 m3 m4 r_1.2)) (W2 := (wM g m0 m1 m2 m3 m4 r_1.2)) (As := [.int p0, .int (0 : Int32)]) (rest := []) [0, 1, 2, 3, 4] [] [0, 1, 2, 3, 4] 5 0 ⟨hx, hb, hml, hown, hts⟩ hP hD hE hZ hS hA (cX7_look_ok l g m0 m1 m2 m3 m4 μ p0 (0 : Int32) _ e_1) (cwV 2 hts gX7_levelOf_X7_look rfl rfl rfl hdX7_look ⟨(Nat.le_of_ble_eq_true rfl), (Nat.le_of_ble_eq_true rfl)⟩) rfl rfl rfl (by decide) (by decide) (by decide) (by decide) rfl rfl rfl rfl hl.1 rfl (Nat.le_of_ble_eq_true rfl) ⟨(Nat.le_of_ble_eq_true rfl), (Nat.le_of_ble_eq_true rfl)⟩ dX7_levelOf_3 (fun H locs hP hD hS => ?_)
  have ho := Option.some.inj hf
  subst ho
  exact m_iret (v := r_1.1) hx hb hr hlocks hP hD hS rfl dX7_levelOf_6

def fX7_stepsOf (μ : Mo) (p0 : Int32) : Option (Int32 × Mo) := ((fX7_look μ p0 (2 : Int32)).bind fun r_1 => (some (r_1.1, r_1.2)))
abbrev rmX7_stepsOf : Room := { frames := 3, cells := 0, slots := 0, locals := 65 }
theorem hdX7_stepsOf : yX7_stepsOf.cls = RX7 ∧ yX7_stepsOf.cls ≠ "java/lang/invoke/MethodHandle" ∧ yX7_stepsOf.cls ≠ "java/lang/invoke/VarHandle" ∧ (parseMethodDescriptor yX7_stepsOf.desc).map (fun d => d.parameters.length) = some 1 := by decide +kernel
set_option maxHeartbeats 4000000 in
set_option maxRecDepth 100000 in
theorem cX7_stepsOf_ok (l : Launch) (g : Gg) (m0 m1 m2 m3 m4 : Nat) (μ : Mo) (p0 : Int32) (sz : Nat) {o : Int32 × Mo} (hf : fX7_stepsOf μ p0 = some o) : Met l yX7_stepsOf wsX7_stepsOf rmX7_stepsOf (va_Pc [.ref m0, .int p0] (PM g (wM g m0 m1 m2 m3 m4 μ) sz)) (va_Qi (fun r' (_ : Unit) => r' = o.1) (fun _ t => PQ g (wM g m0 m1 m2 m3 m4 o.2) (va_A (wM g m0 m1 m2 m3 m4 μ) sz) t) (va_A (wM g m0 m1 m2 m3 m4 μ) sz)) 0 0 (va_A (wM g m0 m1 m2 m3 m4 μ) sz) := by
  refine Met.ofW (cc := cX7_stepsOf) (maxL := 2) (ret := (some .int)) (by decide) rfl ?_
  intro p e s m args below meth c s₁ B hml hv
  obtain ⟨rfl, rfl, hP, hD0, hE, hZ⟩ := hv
  have hx := B.exec
  have hb := B.bytes
  have hr := B.returns
  have hts := atoms_spec (ws := wsX7_stepsOf) B.pre
  have hown : s.vm.findClass RX7 = some m.cls := findClass_of_methodNamed B.named
  have hlocks := B.notSynchronized
  have hD := hD0.self (sz := s.heap.size)
  generalize hAe : (va_A (wM g m0 m1 m2 m3 m4 μ) s.heap.size) = A at hD hZ ⊢
  have hA : ∀ q : Nat, s.heap.size ≤ q → A q := fun q h => by rw [← hAe]; exact Or.inr h
  have hS : va_S A s.heap s.heap [] := va_S.rf
  have hP : va_P g.1 vwCl (wM g m0 m1 m2 m3 m4 μ) s.heap := hP
  have hl := lv_entry ([.ref m0, .int p0]) (n := 2) (Nat.le_of_ble_eq_true rfl)
  rw [lg_entry_eq]
  generalize (lg_sl ([.ref m0, .int p0]) ++ List.replicate (2 - (lg_sl ([.ref m0, .int p0])).length) Slot.unset).toArray = ls at hl ⊢
  have hl : lv_has ls 2 [(0, .ref m0), (1, .int p0)] := hl
  unfold fX7_stepsOf at hf
  refine lv_aload_n hx hb dX7_stepsOf_0 rfl (lv_at hl 0 rfl) ?_
  refine lv_iload_n hx hb dX7_stepsOf_1 rfl (lv_at hl 1 rfl) ?_
  refine lv_iconst (v := (2 : Int32)) hx hb dX7_stepsOf_2 (by decide) ?_
  obtain ⟨r_1, e_1, hf⟩ := bo hf
  refine mcallVi (W0 := (wM g m0 m1 m2 m3 m4 μ)) (Wc := (wM g m0 m1 m2 m3 m4 μ)) (Wr := ([] : va_W)) (W1 := (wM g m0 m1 m2 m3 m4 r_1.2)) (W2 := (wM g m0 m1 m2 m3 m4 r_1.2)) (As := [.int p0, .int (2 : Int32)]) (rest := []) [0, 1, 2, 3, 4] [] [0, 1, 2, 3, 4] 5 0 ⟨hx, hb, hml, hown, hts⟩ hP hD hE hZ hS hA (cX7_look_ok l g m0 m1 m2 m3 m4 μ p0 (2 : Int32) _ e_1) (cwV 2 hts gX7_stepsOf_X7_look rfl rfl rfl hdX7_look ⟨(Nat.le_of_ble_eq_true rfl), (Nat.le_of_ble_eq_true rfl)⟩) rfl rfl rfl (by decide) (by decide) (by decide) (by decide) rfl rfl rfl rfl hl.1 rfl (Nat.le_of_ble_eq_true rfl) ⟨(Nat.le_of_ble_eq_true rfl), (Nat.le_of_ble_eq_true rfl)⟩ dX7_stepsOf_3 (fun H locs hP hD hS => ?_)
  have ho := Option.some.inj hf
  subst ho
  exact m_iret (v := r_1.1) hx hb hr hlocks hP hD hS rfl dX7_stepsOf_6

def fX7_pointOf (μ : Mo) (p0 p1 : Int32) : Option (Int32 × Mo) := ((fX7_has μ p0 p1).bind fun r_1 => (if r_1.1 = true then ((fX7_at r_1.2 p0 p1).bind fun r_3 => (some (r_3, r_1.2))) else (some ((0 : Int32), r_1.2))))
abbrev rmX7_pointOf : Room := { frames := 3, cells := 0, slots := 0, locals := 66 }
theorem hdX7_pointOf : yX7_pointOf.cls = RX7 ∧ yX7_pointOf.cls ≠ "java/lang/invoke/MethodHandle" ∧ yX7_pointOf.cls ≠ "java/lang/invoke/VarHandle" ∧ (parseMethodDescriptor yX7_pointOf.desc).map (fun d => d.parameters.length) = some 2 := by decide +kernel
set_option maxHeartbeats 4000000 in
set_option maxRecDepth 100000 in
theorem cX7_pointOf_ok (l : Launch) (g : Gg) (m0 m1 m2 m3 m4 : Nat) (μ : Mo) (p0 p1 : Int32) (sz : Nat) {o : Int32 × Mo} (hf : fX7_pointOf μ p0 p1 = some o) : Met l yX7_pointOf wsX7_pointOf rmX7_pointOf (va_Pc [.ref m0, .int p0, .int p1] (PM g (wM g m0 m1 m2 m3 m4 μ) sz)) (va_Qi (fun r' (_ : Unit) => r' = o.1) (fun _ t => PQ g (wM g m0 m1 m2 m3 m4 o.2) (va_A (wM g m0 m1 m2 m3 m4 μ) sz) t) (va_A (wM g m0 m1 m2 m3 m4 μ) sz)) 0 0 (va_A (wM g m0 m1 m2 m3 m4 μ) sz) := by
  refine Met.ofW (cc := cX7_pointOf) (maxL := 3) (ret := (some .int)) (by decide) rfl ?_
  intro p e s m args below meth c s₁ B hml hv
  obtain ⟨rfl, rfl, hP, hD0, hE, hZ⟩ := hv
  have hx := B.exec
  have hb := B.bytes
  have hr := B.returns
  have hts := atoms_spec (ws := wsX7_pointOf) B.pre
  have hown : s.vm.findClass RX7 = some m.cls := findClass_of_methodNamed B.named
  have hlocks := B.notSynchronized
  have hD := hD0.self (sz := s.heap.size)
  generalize hAe : (va_A (wM g m0 m1 m2 m3 m4 μ) s.heap.size) = A at hD hZ ⊢
  have hA : ∀ q : Nat, s.heap.size ≤ q → A q := fun q h => by rw [← hAe]; exact Or.inr h
  have hS : va_S A s.heap s.heap [] := va_S.rf
  have hP : va_P g.1 vwCl (wM g m0 m1 m2 m3 m4 μ) s.heap := hP
  have hl := lv_entry ([.ref m0, .int p0, .int p1]) (n := 3) (Nat.le_of_ble_eq_true rfl)
  rw [lg_entry_eq]
  generalize (lg_sl ([.ref m0, .int p0, .int p1]) ++ List.replicate (3 - (lg_sl ([.ref m0, .int p0, .int p1])).length) Slot.unset).toArray = ls at hl ⊢
  have hl : lv_has ls 3 [(0, .ref m0), (1, .int p0), (2, .int p1)] := hl
  unfold fX7_pointOf at hf
  refine lv_aload_n hx hb dX7_pointOf_0 rfl (lv_at hl 0 rfl) ?_
  refine lv_iload_n hx hb dX7_pointOf_1 rfl (lv_at hl 1 rfl) ?_
  refine lv_iload_n hx hb dX7_pointOf_2 rfl (lv_at hl 2 rfl) ?_
  obtain ⟨r_1, e_1, hf⟩ := bo hf
  refine mcallVi (W0 := (wM g m0 m1 m2 m3 m4 μ)) (Wc := (wM g m0 m1 m2 m3 m4 μ)) (Wr := ([] : va_W)) (W1 := (wM g m0 m1 m2 m3 m4 r_1.2)) (W2 := (wM g m0 m1 m2 m3 m4 r_1.2)) (As := [.int p0, .int p1]) (rest := []) [0, 1, 2, 3, 4] [] [0, 1, 2, 3, 4] 5 0 ⟨hx, hb, hml, hown, hts⟩ hP hD hE hZ hS hA (cX7_has_ok l g m0 m1 m2 m3 m4 μ p0 p1 _ e_1) (cwV 2 hts gX7_pointOf_X7_has rfl rfl rfl hdX7_has ⟨(Nat.le_of_ble_eq_true rfl), (Nat.le_of_ble_eq_true rfl)⟩) rfl rfl rfl (by decide) (by decide) (by decide) (by decide) rfl rfl rfl rfl hl.1 rfl (Nat.le_of_ble_eq_true rfl) ⟨(Nat.le_of_ble_eq_true rfl), (Nat.le_of_ble_eq_true rfl)⟩ dX7_pointOf_3 (fun H locs hP hD hS => ?_)
  refine lv_beq (tgt := 18) hx hb dX7_pointOf_6 (by decide) (fun c_2 => ?_) (fun c_2 => ?_)
  · have hf := iq c_2 hf
    refine lv_iconst (v := (0 : Int32)) hx hb dX7_pointOf_18 (by decide) ?_
    have ho := Option.some.inj hf
    subst ho
    exact m_iret (v := (0 : Int32)) hx hb hr hlocks hP hD hS rfl dX7_pointOf_19
  · have hf := ip c_2 hf
    refine lv_aload_n hx hb dX7_pointOf_9 rfl (lv_at hl 0 rfl) ?_
    refine lv_iload_n hx hb dX7_pointOf_10 rfl (lv_at hl 1 rfl) ?_
    refine lv_iload_n hx hb dX7_pointOf_11 rfl (lv_at hl 2 rfl) ?_
    obtain ⟨r_3, e_3, hf⟩ := bo hf
    refine pcallV (W0 := (wM g m0 m1 m2 m3 m4 r_1.2)) (As := [.int p0, .int p1]) (rest := []) [0, 1, 2, 3, 4] 5 0 ⟨hx, hb, hml, hown, hts⟩ hP hE hZ hS (cX7_at_ok l g m0 m1 m2 m3 m4 r_1.2 p0 p1 e_3) (cwV 2 hts gX7_pointOf_X7_at rfl rfl rfl hdX7_at ⟨(Nat.le_of_ble_eq_true rfl), (Nat.le_of_ble_eq_true rfl)⟩) rfl rfl rfl rfl rfl hl.1 rfl (Nat.le_of_ble_eq_true rfl) ⟨(Nat.le_of_ble_eq_true rfl), (Nat.le_of_ble_eq_true rfl)⟩ dX7_pointOf_12 ?_
    refine lv_goto (tgt := 19) hx hb dX7_pointOf_15 (by decide) ?_
    have ho := Option.some.inj hf
    subst ho
    exact m_iret (v := r_3) hx hb hr hlocks hP hD hS rfl dX7_pointOf_19

def fX7_lineAt (μ : Mo) (p0 : Int32) : Option (Int32 × Mo) := ((fX7_isPoint p0).bind fun r_1 => (if r_1 = true then ((fX7_owner (M_th' μ (0 : Int32)) p0).bind fun r_4 => (some (r_4, (M_th' μ (0 : Int32))))) else ((fX7_fails (M_th' μ (0 : Int32)) (1 : Int32)).bind fun r_3 => (some (r_3.1, r_3.2)))))
abbrev rmX7_lineAt : Room := { frames := 3, cells := 0, slots := 0, locals := 67 }
theorem hdX7_lineAt : yX7_lineAt.cls = RX7 ∧ yX7_lineAt.cls ≠ "java/lang/invoke/MethodHandle" ∧ yX7_lineAt.cls ≠ "java/lang/invoke/VarHandle" ∧ (parseMethodDescriptor yX7_lineAt.desc).map (fun d => d.parameters.length) = some 1 := by decide +kernel
theorem fiX7_lineAt_X7 : ∀ w ∈ wsX70, w ∈ wsX7_lineAt := by decide +kernel
theorem flX7_lineAt_22 : (.fieldLink RX7 22 "ContourLabelsModel" "thrown" "I" : Cond) ∈ wsX7_lineAt := by decide +kernel
set_option maxHeartbeats 4000000 in
set_option maxRecDepth 100000 in
theorem cX7_lineAt_ok (l : Launch) (g : Gg) (m0 m1 m2 m3 m4 : Nat) (μ : Mo) (p0 : Int32) (sz : Nat) {o : Int32 × Mo} (hf : fX7_lineAt μ p0 = some o) : Met l yX7_lineAt wsX7_lineAt rmX7_lineAt (va_Pc [.ref m0, .int p0] (PM g (wM g m0 m1 m2 m3 m4 μ) sz)) (va_Qi (fun r' (_ : Unit) => r' = o.1) (fun _ t => PQ g (wM g m0 m1 m2 m3 m4 o.2) (va_A (wM g m0 m1 m2 m3 m4 μ) sz) t) (va_A (wM g m0 m1 m2 m3 m4 μ) sz)) 0 0 (va_A (wM g m0 m1 m2 m3 m4 μ) sz) := by
  refine Met.ofW (cc := cX7_lineAt) (maxL := 2) (ret := (some .int)) (by decide) rfl ?_
  intro p e s m args below meth c s₁ B hml hv
  obtain ⟨rfl, rfl, hP, hD0, hE, hZ⟩ := hv
  have hx := B.exec
  have hb := B.bytes
  have hr := B.returns
  have hts := atoms_spec (ws := wsX7_lineAt) B.pre
  have hown : s.vm.findClass RX7 = some m.cls := findClass_of_methodNamed B.named
  have hlocks := B.notSynchronized
  have hD := hD0.self (sz := s.heap.size)
  generalize hAe : (va_A (wM g m0 m1 m2 m3 m4 μ) s.heap.size) = A at hD hZ ⊢
  have hA : ∀ q : Nat, s.heap.size ≤ q → A q := fun q h => by rw [← hAe]; exact Or.inr h
  have hS : va_S A s.heap s.heap [] := va_S.rf
  have hP : va_P g.1 vwCl (wM g m0 m1 m2 m3 m4 μ) s.heap := hP
  have hl := lv_entry ([.ref m0, .int p0]) (n := 2) (Nat.le_of_ble_eq_true rfl)
  rw [lg_entry_eq]
  generalize (lg_sl ([.ref m0, .int p0]) ++ List.replicate (2 - (lg_sl ([.ref m0, .int p0])).length) Slot.unset).toArray = ls at hl ⊢
  have hl : lv_has ls 2 [(0, .ref m0), (1, .int p0)] := hl
  unfold fX7_lineAt at hf
  refine lv_aload_n hx hb dX7_lineAt_0 rfl (lv_at hl 0 rfl) ?_
  refine lv_iconst (v := (0 : Int32)) hx hb dX7_lineAt_1 (by decide) ?_
  refine va_put (v := .int (0 : Int32)) (ty := .int) (C := RX7) (T := TX7) (N := 13) hx hb hts fiX7_lineAt_X7 tyX7 tyX7_ok nmX7 hown hE.1 hP hD hS 0 rfl rfl 7 (by decide) (hts _ flX7_lineAt_22) (fun _ h9 => h9) rfl (by decide +kernel) rfl rfl (Nat.le_of_ble_eq_true rfl) dX7_lineAt_2 (fun H locs hP hD hS => ?_)
  have hP : va_P g.1 vwCl (wM g m0 m1 m2 m3 m4 (M_th' μ (0 : Int32))) H := hP
  have hD : va_D A (wM g m0 m1 m2 m3 m4 (M_th' μ (0 : Int32))) := hD
  refine lv_iload_n hx hb dX7_lineAt_5 rfl (lv_at hl 1 rfl) ?_
  obtain ⟨r_1, e_1, hf⟩ := bo hf
  refine pcallS (W0 := (wM g m0 m1 m2 m3 m4 (M_th' μ (0 : Int32)))) (As := [.int p0]) (rest := []) [] ⟨hx, hb, hml, hown, hts⟩ hP hE hZ hS (cX7_isPoint_ok l g  p0 e_1) (va_cwS 1 hts gX7_lineAt_X7_isPoint rfl rfl rfl hdX7_isPoint.2 ⟨(Nat.le_of_ble_eq_true rfl), (Nat.le_of_ble_eq_true rfl)⟩) rfl rfl hl.1 rfl (Nat.le_of_ble_eq_true rfl) ⟨(Nat.le_of_ble_eq_true rfl), (Nat.le_of_ble_eq_true rfl)⟩ dX7_lineAt_6 ?_
  refine lv_beq (tgt := 20) hx hb dX7_lineAt_9 (by decide) (fun c_2 => ?_) (fun c_2 => ?_)
  · have hf := iq c_2 hf
    refine lv_aload_n hx hb dX7_lineAt_20 rfl (lv_at hl 0 rfl) ?_
    refine lv_iconst (v := (1 : Int32)) hx hb dX7_lineAt_21 (by decide) ?_
    obtain ⟨r_3, e_3, hf⟩ := bo hf
    refine mcallVi (W0 := (wM g m0 m1 m2 m3 m4 (M_th' μ (0 : Int32)))) (Wc := (wM g m0 m1 m2 m3 m4 (M_th' μ (0 : Int32)))) (Wr := ([] : va_W)) (W1 := (wM g m0 m1 m2 m3 m4 r_3.2)) (W2 := (wM g m0 m1 m2 m3 m4 r_3.2)) (As := [.int (1 : Int32)]) (rest := []) [0, 1, 2, 3, 4] [] [0, 1, 2, 3, 4] 5 0 ⟨hx, hb, hml, hown, hts⟩ hP hD hE hZ hS hA (cX7_fails_ok l g m0 m1 m2 m3 m4 (M_th' μ (0 : Int32)) (1 : Int32) _ e_3) (cwV 1 hts gX7_lineAt_X7_fails rfl rfl rfl hdX7_fails ⟨(Nat.le_of_ble_eq_true rfl), (Nat.le_of_ble_eq_true rfl)⟩) rfl rfl rfl (by decide) (by decide) (by decide) (by decide) rfl rfl rfl rfl hl.1 rfl (Nat.le_of_ble_eq_true rfl) ⟨(Nat.le_of_ble_eq_true rfl), (Nat.le_of_ble_eq_true rfl)⟩ dX7_lineAt_22 (fun H locs hP hD hS => ?_)
    have ho := Option.some.inj hf
    subst ho
    exact m_iret (v := r_3.1) hx hb hr hlocks hP hD hS rfl dX7_lineAt_25
  · have hf := ip c_2 hf
    refine lv_aload_n hx hb dX7_lineAt_12 rfl (lv_at hl 0 rfl) ?_
    refine lv_iload_n hx hb dX7_lineAt_13 rfl (lv_at hl 1 rfl) ?_
    obtain ⟨r_4, e_4, hf⟩ := bo hf
    refine pcallV (W0 := (wM g m0 m1 m2 m3 m4 (M_th' μ (0 : Int32)))) (As := [.int p0]) (rest := []) [0, 1, 2, 3, 4] 5 0 ⟨hx, hb, hml, hown, hts⟩ hP hE hZ hS (cX7_owner_ok l g m0 m1 m2 m3 m4 (M_th' μ (0 : Int32)) p0 e_4) (cwV 1 hts gX7_lineAt_X7_owner rfl rfl rfl hdX7_owner ⟨(Nat.le_of_ble_eq_true rfl), (Nat.le_of_ble_eq_true rfl)⟩) rfl rfl rfl rfl rfl hl.1 rfl (Nat.le_of_ble_eq_true rfl) ⟨(Nat.le_of_ble_eq_true rfl), (Nat.le_of_ble_eq_true rfl)⟩ dX7_lineAt_14 ?_
    refine lv_goto (tgt := 25) hx hb dX7_lineAt_17 (by decide) ?_
    have ho := Option.some.inj hf
    subst ho
    exact m_iret (v := r_4) hx hb hr hlocks hP hD hS rfl dX7_lineAt_25

def fX7_isClosed (μ : Mo) (p0 : Int32) : Option (Bool × Mo) := ((fX7_knows μ p0).bind fun r_1 => (if r_1.1 = true then ((fX7_closes r_1.2 p0).bind fun r_3 => (if r_3 = true then (some (true, r_1.2)) else (some (false, r_1.2)))) else (some (false, r_1.2))))
abbrev rmX7_isClosed : Room := { frames := 5, cells := 0, slots := 0, locals := 108 }
theorem hdX7_isClosed : yX7_isClosed.cls = RX7 ∧ yX7_isClosed.cls ≠ "java/lang/invoke/MethodHandle" ∧ yX7_isClosed.cls ≠ "java/lang/invoke/VarHandle" ∧ (parseMethodDescriptor yX7_isClosed.desc).map (fun d => d.parameters.length) = some 1 := by decide +kernel
set_option maxHeartbeats 4000000 in
set_option maxRecDepth 100000 in
theorem cX7_isClosed_ok (l : Launch) (g : Gg) (m0 m1 m2 m3 m4 : Nat) (μ : Mo) (p0 : Int32) (sz : Nat) {o : Bool × Mo} (hf : fX7_isClosed μ p0 = some o) : Met l yX7_isClosed wsX7_isClosed rmX7_isClosed (va_Pc [.ref m0, .int p0] (PM g (wM g m0 m1 m2 m3 m4 μ) sz)) (va_Qi (fun r' (_ : Unit) => r' = b2i o.1) (fun _ t => PQ g (wM g m0 m1 m2 m3 m4 o.2) (va_A (wM g m0 m1 m2 m3 m4 μ) sz) t) (va_A (wM g m0 m1 m2 m3 m4 μ) sz)) 0 0 (va_A (wM g m0 m1 m2 m3 m4 μ) sz) := by
  refine Met.ofW (cc := cX7_isClosed) (maxL := 2) (ret := (some .boolean)) (by decide) rfl ?_
  intro p e s m args below meth c s₁ B hml hv
  obtain ⟨rfl, rfl, hP, hD0, hE, hZ⟩ := hv
  have hx := B.exec
  have hb := B.bytes
  have hr := B.returns
  have hts := atoms_spec (ws := wsX7_isClosed) B.pre
  have hown : s.vm.findClass RX7 = some m.cls := findClass_of_methodNamed B.named
  have hlocks := B.notSynchronized
  have hD := hD0.self (sz := s.heap.size)
  generalize hAe : (va_A (wM g m0 m1 m2 m3 m4 μ) s.heap.size) = A at hD hZ ⊢
  have hA : ∀ q : Nat, s.heap.size ≤ q → A q := fun q h => by rw [← hAe]; exact Or.inr h
  have hS : va_S A s.heap s.heap [] := va_S.rf
  have hP : va_P g.1 vwCl (wM g m0 m1 m2 m3 m4 μ) s.heap := hP
  have hl := lv_entry ([.ref m0, .int p0]) (n := 2) (Nat.le_of_ble_eq_true rfl)
  rw [lg_entry_eq]
  generalize (lg_sl ([.ref m0, .int p0]) ++ List.replicate (2 - (lg_sl ([.ref m0, .int p0])).length) Slot.unset).toArray = ls at hl ⊢
  have hl : lv_has ls 2 [(0, .ref m0), (1, .int p0)] := hl
  unfold fX7_isClosed at hf
  refine lv_aload_n hx hb dX7_isClosed_0 rfl (lv_at hl 0 rfl) ?_
  refine lv_iload_n hx hb dX7_isClosed_1 rfl (lv_at hl 1 rfl) ?_
  obtain ⟨r_1, e_1, hf⟩ := bo hf
  refine mcallVi (W0 := (wM g m0 m1 m2 m3 m4 μ)) (Wc := (wM g m0 m1 m2 m3 m4 μ)) (Wr := ([] : va_W)) (W1 := (wM g m0 m1 m2 m3 m4 r_1.2)) (W2 := (wM g m0 m1 m2 m3 m4 r_1.2)) (As := [.int p0]) (rest := []) [0, 1, 2, 3, 4] [] [0, 1, 2, 3, 4] 5 0 ⟨hx, hb, hml, hown, hts⟩ hP hD hE hZ hS hA (cX7_knows_ok l g m0 m1 m2 m3 m4 μ p0 _ e_1) (cwV 1 hts gX7_isClosed_X7_knows rfl rfl rfl hdX7_knows ⟨(Nat.le_of_ble_eq_true rfl), (Nat.le_of_ble_eq_true rfl)⟩) rfl rfl rfl (by decide) (by decide) (by decide) (by decide) rfl rfl rfl rfl hl.1 rfl (Nat.le_of_ble_eq_true rfl) ⟨(Nat.le_of_ble_eq_true rfl), (Nat.le_of_ble_eq_true rfl)⟩ dX7_isClosed_2 (fun H locs hP hD hS => ?_)
  refine lv_beq (tgt := 20) hx hb dX7_isClosed_5 (by decide) (fun c_2 => ?_) (fun c_2 => ?_)
  · have hf := iq c_2 hf
    refine lv_iconst (v := (0 : Int32)) hx hb dX7_isClosed_20 (by decide) ?_
    have ho := Option.some.inj hf
    subst ho
    exact m_zret (v := false) hx hb hr hlocks hP hD hS rfl dX7_isClosed_21
  · have hf := ip c_2 hf
    refine lv_aload_n hx hb dX7_isClosed_8 rfl (lv_at hl 0 rfl) ?_
    refine lv_iload_n hx hb dX7_isClosed_9 rfl (lv_at hl 1 rfl) ?_
    obtain ⟨r_3, e_3, hf⟩ := bo hf
    refine pcallV (W0 := (wM g m0 m1 m2 m3 m4 r_1.2)) (As := [.int p0]) (rest := []) [0, 1, 2, 3, 4] 5 0 ⟨hx, hb, hml, hown, hts⟩ hP hE hZ hS (cX7_closes_ok l g m0 m1 m2 m3 m4 r_1.2 p0 e_3) (cwV 1 hts gX7_isClosed_X7_closes rfl rfl rfl hdX7_closes ⟨(Nat.le_of_ble_eq_true rfl), (Nat.le_of_ble_eq_true rfl)⟩) rfl rfl rfl rfl rfl hl.1 rfl (Nat.le_of_ble_eq_true rfl) ⟨(Nat.le_of_ble_eq_true rfl), (Nat.le_of_ble_eq_true rfl)⟩ dX7_isClosed_10 ?_
    refine lv_beq (tgt := 20) hx hb dX7_isClosed_13 (by decide) (fun c_4 => ?_) (fun c_4 => ?_)
    · have hf := iq c_4 hf
      refine lv_iconst (v := (0 : Int32)) hx hb dX7_isClosed_20 (by decide) ?_
      have ho := Option.some.inj hf
      subst ho
      exact m_zret (v := false) hx hb hr hlocks hP hD hS rfl dX7_isClosed_21
    · have hf := ip c_4 hf
      refine lv_iconst (v := (1 : Int32)) hx hb dX7_isClosed_16 (by decide) ?_
      refine lv_goto (tgt := 21) hx hb dX7_isClosed_17 (by decide) ?_
      have ho := Option.some.inj hf
      subst ho
      exact m_zret (v := true) hx hb hr hlocks hP hD hS rfl dX7_isClosed_21

def fX7_whyNotStepped (μ : Mo) (p0 p1 : Int32) : Option (Int32 × Mo) := ((fX7_isLine (M_th' μ (0 : Int32)) p0).bind fun r_1 => (if r_1 = true then ((fX7_in p1 (0 : Int32) (7 : Int32)).bind fun r_3 => (if r_3 = true then ((fX7_whyNot (M_th' μ (0 : Int32)) p0 p1).bind fun r_6 => (some (r_6, (M_th' μ (0 : Int32))))) else ((fX7_fails (M_th' μ (0 : Int32)) (2 : Int32)).bind fun r_5 => (some (r_5.1, r_5.2))))) else ((fX7_fails (M_th' μ (0 : Int32)) (1 : Int32)).bind fun r_7 => (some (r_7.1, r_7.2)))))
abbrev rmX7_whyNotStepped : Room := { frames := 6, cells := 0, slots := 0, locals := 133 }
theorem hdX7_whyNotStepped : yX7_whyNotStepped.cls = RX7 ∧ yX7_whyNotStepped.cls ≠ "java/lang/invoke/MethodHandle" ∧ yX7_whyNotStepped.cls ≠ "java/lang/invoke/VarHandle" ∧ (parseMethodDescriptor yX7_whyNotStepped.desc).map (fun d => d.parameters.length) = some 2 := by decide +kernel
theorem fiX7_whyNotStepped_X7 : ∀ w ∈ wsX70, w ∈ wsX7_whyNotStepped := by decide +kernel
theorem flX7_whyNotStepped_22 : (.fieldLink RX7 22 "ContourLabelsModel" "thrown" "I" : Cond) ∈ wsX7_whyNotStepped := by decide +kernel
set_option maxHeartbeats 4000000 in
set_option maxRecDepth 100000 in
theorem cX7_whyNotStepped_ok (l : Launch) (g : Gg) (m0 m1 m2 m3 m4 : Nat) (μ : Mo) (p0 p1 : Int32) (sz : Nat) {o : Int32 × Mo} (hf : fX7_whyNotStepped μ p0 p1 = some o) : Met l yX7_whyNotStepped wsX7_whyNotStepped rmX7_whyNotStepped (va_Pc [.ref m0, .int p0, .int p1] (PM g (wM g m0 m1 m2 m3 m4 μ) sz)) (va_Qi (fun r' (_ : Unit) => r' = o.1) (fun _ t => PQ g (wM g m0 m1 m2 m3 m4 o.2) (va_A (wM g m0 m1 m2 m3 m4 μ) sz) t) (va_A (wM g m0 m1 m2 m3 m4 μ) sz)) 0 0 (va_A (wM g m0 m1 m2 m3 m4 μ) sz) := by
  refine Met.ofW (cc := cX7_whyNotStepped) (maxL := 3) (ret := (some .int)) (by decide) rfl ?_
  intro p e s m args below meth c s₁ B hml hv
  obtain ⟨rfl, rfl, hP, hD0, hE, hZ⟩ := hv
  have hx := B.exec
  have hb := B.bytes
  have hr := B.returns
  have hts := atoms_spec (ws := wsX7_whyNotStepped) B.pre
  have hown : s.vm.findClass RX7 = some m.cls := findClass_of_methodNamed B.named
  have hlocks := B.notSynchronized
  have hD := hD0.self (sz := s.heap.size)
  generalize hAe : (va_A (wM g m0 m1 m2 m3 m4 μ) s.heap.size) = A at hD hZ ⊢
  have hA : ∀ q : Nat, s.heap.size ≤ q → A q := fun q h => by rw [← hAe]; exact Or.inr h
  have hS : va_S A s.heap s.heap [] := va_S.rf
  have hP : va_P g.1 vwCl (wM g m0 m1 m2 m3 m4 μ) s.heap := hP
  have hl := lv_entry ([.ref m0, .int p0, .int p1]) (n := 3) (Nat.le_of_ble_eq_true rfl)
  rw [lg_entry_eq]
  generalize (lg_sl ([.ref m0, .int p0, .int p1]) ++ List.replicate (3 - (lg_sl ([.ref m0, .int p0, .int p1])).length) Slot.unset).toArray = ls at hl ⊢
  have hl : lv_has ls 3 [(0, .ref m0), (1, .int p0), (2, .int p1)] := hl
  unfold fX7_whyNotStepped at hf
  refine lv_aload_n hx hb dX7_whyNotStepped_0 rfl (lv_at hl 0 rfl) ?_
  refine lv_iconst (v := (0 : Int32)) hx hb dX7_whyNotStepped_1 (by decide) ?_
  refine va_put (v := .int (0 : Int32)) (ty := .int) (C := RX7) (T := TX7) (N := 13) hx hb hts fiX7_whyNotStepped_X7 tyX7 tyX7_ok nmX7 hown hE.1 hP hD hS 0 rfl rfl 7 (by decide) (hts _ flX7_whyNotStepped_22) (fun _ h9 => h9) rfl (by decide +kernel) rfl rfl (Nat.le_of_ble_eq_true rfl) dX7_whyNotStepped_2 (fun H locs hP hD hS => ?_)
  have hP : va_P g.1 vwCl (wM g m0 m1 m2 m3 m4 (M_th' μ (0 : Int32))) H := hP
  have hD : va_D A (wM g m0 m1 m2 m3 m4 (M_th' μ (0 : Int32))) := hD
  refine lv_aload_n hx hb dX7_whyNotStepped_5 rfl (lv_at hl 0 rfl) ?_
  refine lv_iload_n hx hb dX7_whyNotStepped_6 rfl (lv_at hl 1 rfl) ?_
  obtain ⟨r_1, e_1, hf⟩ := bo hf
  refine pcallV (W0 := (wM g m0 m1 m2 m3 m4 (M_th' μ (0 : Int32)))) (As := [.int p0]) (rest := []) [0, 1, 2, 3, 4] 5 0 ⟨hx, hb, hml, hown, hts⟩ hP hE hZ hS (cX7_isLine_ok l g m0 m1 m2 m3 m4 (M_th' μ (0 : Int32)) p0 e_1) (cwV 1 hts gX7_whyNotStepped_X7_isLine rfl rfl rfl hdX7_isLine ⟨(Nat.le_of_ble_eq_true rfl), (Nat.le_of_ble_eq_true rfl)⟩) rfl rfl rfl rfl rfl hl.1 rfl (Nat.le_of_ble_eq_true rfl) ⟨(Nat.le_of_ble_eq_true rfl), (Nat.le_of_ble_eq_true rfl)⟩ dX7_whyNotStepped_7 ?_
  refine lv_bne (tgt := 19) hx hb dX7_whyNotStepped_10 (by decide) (fun c_2 => ?_) (fun c_2 => ?_)
  · have hf := ip c_2 hf
    refine lv_iload_n hx hb dX7_whyNotStepped_19 rfl (lv_at hl 2 rfl) ?_
    refine lv_iconst (v := (0 : Int32)) hx hb dX7_whyNotStepped_20 (by decide) ?_
    refine lv_bipush (v := (7 : Int32)) hx hb dX7_whyNotStepped_21 (by decide) ?_
    obtain ⟨r_3, e_3, hf⟩ := bo hf
    refine pcallS (W0 := (wM g m0 m1 m2 m3 m4 (M_th' μ (0 : Int32)))) (As := [.int p1, .int (0 : Int32), .int (7 : Int32)]) (rest := []) [] ⟨hx, hb, hml, hown, hts⟩ hP hE hZ hS (cX7_in_ok l g  p1 (0 : Int32) (7 : Int32) e_3) (va_cwS 3 hts gX7_whyNotStepped_X7_in rfl rfl rfl hdX7_in.2 ⟨(Nat.le_of_ble_eq_true rfl), (Nat.le_of_ble_eq_true rfl)⟩) rfl rfl hl.1 rfl (Nat.le_of_ble_eq_true rfl) ⟨(Nat.le_of_ble_eq_true rfl), (Nat.le_of_ble_eq_true rfl)⟩ dX7_whyNotStepped_23 ?_
    refine lv_beq (tgt := 38) hx hb dX7_whyNotStepped_26 (by decide) (fun c_4 => ?_) (fun c_4 => ?_)
    · have hf := iq c_4 hf
      refine lv_aload_n hx hb dX7_whyNotStepped_38 rfl (lv_at hl 0 rfl) ?_
      refine lv_iconst (v := (2 : Int32)) hx hb dX7_whyNotStepped_39 (by decide) ?_
      obtain ⟨r_5, e_5, hf⟩ := bo hf
      refine mcallVi (W0 := (wM g m0 m1 m2 m3 m4 (M_th' μ (0 : Int32)))) (Wc := (wM g m0 m1 m2 m3 m4 (M_th' μ (0 : Int32)))) (Wr := ([] : va_W)) (W1 := (wM g m0 m1 m2 m3 m4 r_5.2)) (W2 := (wM g m0 m1 m2 m3 m4 r_5.2)) (As := [.int (2 : Int32)]) (rest := []) [0, 1, 2, 3, 4] [] [0, 1, 2, 3, 4] 5 0 ⟨hx, hb, hml, hown, hts⟩ hP hD hE hZ hS hA (cX7_fails_ok l g m0 m1 m2 m3 m4 (M_th' μ (0 : Int32)) (2 : Int32) _ e_5) (cwV 1 hts gX7_whyNotStepped_X7_fails rfl rfl rfl hdX7_fails ⟨(Nat.le_of_ble_eq_true rfl), (Nat.le_of_ble_eq_true rfl)⟩) rfl rfl rfl (by decide) (by decide) (by decide) (by decide) rfl rfl rfl rfl hl.1 rfl (Nat.le_of_ble_eq_true rfl) ⟨(Nat.le_of_ble_eq_true rfl), (Nat.le_of_ble_eq_true rfl)⟩ dX7_whyNotStepped_40 (fun H locs hP hD hS => ?_)
      have ho := Option.some.inj hf
      subst ho
      exact m_iret (v := r_5.1) hx hb hr hlocks hP hD hS rfl dX7_whyNotStepped_43
    · have hf := ip c_4 hf
      refine lv_aload_n hx hb dX7_whyNotStepped_29 rfl (lv_at hl 0 rfl) ?_
      refine lv_iload_n hx hb dX7_whyNotStepped_30 rfl (lv_at hl 1 rfl) ?_
      refine lv_iload_n hx hb dX7_whyNotStepped_31 rfl (lv_at hl 2 rfl) ?_
      obtain ⟨r_6, e_6, hf⟩ := bo hf
      refine pcallV (W0 := (wM g m0 m1 m2 m3 m4 (M_th' μ (0 : Int32)))) (As := [.int p0, .int p1]) (rest := []) [0, 1, 2, 3, 4] 5 0 ⟨hx, hb, hml, hown, hts⟩ hP hE hZ hS (cX7_whyNot_ok l g m0 m1 m2 m3 m4 (M_th' μ (0 : Int32)) p0 p1 e_6) (cwV 2 hts gX7_whyNotStepped_X7_whyNot rfl rfl rfl hdX7_whyNot ⟨(Nat.le_of_ble_eq_true rfl), (Nat.le_of_ble_eq_true rfl)⟩) rfl rfl rfl rfl rfl hl.1 rfl (Nat.le_of_ble_eq_true rfl) ⟨(Nat.le_of_ble_eq_true rfl), (Nat.le_of_ble_eq_true rfl)⟩ dX7_whyNotStepped_32 ?_
      refine lv_goto (tgt := 43) hx hb dX7_whyNotStepped_35 (by decide) ?_
      have ho := Option.some.inj hf
      subst ho
      exact m_iret (v := r_6) hx hb hr hlocks hP hD hS rfl dX7_whyNotStepped_43
  · have hf := iq c_2 hf
    refine lv_aload_n hx hb dX7_whyNotStepped_13 rfl (lv_at hl 0 rfl) ?_
    refine lv_iconst (v := (1 : Int32)) hx hb dX7_whyNotStepped_14 (by decide) ?_
    obtain ⟨r_7, e_7, hf⟩ := bo hf
    refine mcallVi (W0 := (wM g m0 m1 m2 m3 m4 (M_th' μ (0 : Int32)))) (Wc := (wM g m0 m1 m2 m3 m4 (M_th' μ (0 : Int32)))) (Wr := ([] : va_W)) (W1 := (wM g m0 m1 m2 m3 m4 r_7.2)) (W2 := (wM g m0 m1 m2 m3 m4 r_7.2)) (As := [.int (1 : Int32)]) (rest := []) [0, 1, 2, 3, 4] [] [0, 1, 2, 3, 4] 5 0 ⟨hx, hb, hml, hown, hts⟩ hP hD hE hZ hS hA (cX7_fails_ok l g m0 m1 m2 m3 m4 (M_th' μ (0 : Int32)) (1 : Int32) _ e_7) (cwV 1 hts gX7_whyNotStepped_X7_fails rfl rfl rfl hdX7_fails ⟨(Nat.le_of_ble_eq_true rfl), (Nat.le_of_ble_eq_true rfl)⟩) rfl rfl rfl (by decide) (by decide) (by decide) (by decide) rfl rfl rfl rfl hl.1 rfl (Nat.le_of_ble_eq_true rfl) ⟨(Nat.le_of_ble_eq_true rfl), (Nat.le_of_ble_eq_true rfl)⟩ dX7_whyNotStepped_15 (fun H locs hP hD hS => ?_)
    have ho := Option.some.inj hf
    subst ho
    exact m_iret (v := r_7.1) hx hb hr hlocks hP hD hS rfl dX7_whyNotStepped_18

def fX7_bendAt (μ : Mo) (p0 p1 : Int32) : Option (Int32 × Mo) := ((fX7_has μ p0 p1).bind fun r_1 => (if r_1.1 = true then ((fX7_bend r_1.2 p0 p1).bind fun r_3 => (some (r_3, r_1.2))) else (some ((0 : Int32), r_1.2))))
abbrev rmX7_bendAt : Room := { frames := 6, cells := 0, slots := 0, locals := 131 }
theorem hdX7_bendAt : yX7_bendAt.cls = RX7 ∧ yX7_bendAt.cls ≠ "java/lang/invoke/MethodHandle" ∧ yX7_bendAt.cls ≠ "java/lang/invoke/VarHandle" ∧ (parseMethodDescriptor yX7_bendAt.desc).map (fun d => d.parameters.length) = some 2 := by decide +kernel
set_option maxHeartbeats 4000000 in
set_option maxRecDepth 100000 in
theorem cX7_bendAt_ok (l : Launch) (g : Gg) (m0 m1 m2 m3 m4 : Nat) (μ : Mo) (p0 p1 : Int32) (sz : Nat) {o : Int32 × Mo} (hf : fX7_bendAt μ p0 p1 = some o) : Met l yX7_bendAt wsX7_bendAt rmX7_bendAt (va_Pc [.ref m0, .int p0, .int p1] (PM g (wM g m0 m1 m2 m3 m4 μ) sz)) (va_Qi (fun r' (_ : Unit) => r' = o.1) (fun _ t => PQ g (wM g m0 m1 m2 m3 m4 o.2) (va_A (wM g m0 m1 m2 m3 m4 μ) sz) t) (va_A (wM g m0 m1 m2 m3 m4 μ) sz)) 0 0 (va_A (wM g m0 m1 m2 m3 m4 μ) sz) := by
  refine Met.ofW (cc := cX7_bendAt) (maxL := 3) (ret := (some .int)) (by decide) rfl ?_
  intro p e s m args below meth c s₁ B hml hv
  obtain ⟨rfl, rfl, hP, hD0, hE, hZ⟩ := hv
  have hx := B.exec
  have hb := B.bytes
  have hr := B.returns
  have hts := atoms_spec (ws := wsX7_bendAt) B.pre
  have hown : s.vm.findClass RX7 = some m.cls := findClass_of_methodNamed B.named
  have hlocks := B.notSynchronized
  have hD := hD0.self (sz := s.heap.size)
  generalize hAe : (va_A (wM g m0 m1 m2 m3 m4 μ) s.heap.size) = A at hD hZ ⊢
  have hA : ∀ q : Nat, s.heap.size ≤ q → A q := fun q h => by rw [← hAe]; exact Or.inr h
  have hS : va_S A s.heap s.heap [] := va_S.rf
  have hP : va_P g.1 vwCl (wM g m0 m1 m2 m3 m4 μ) s.heap := hP
  have hl := lv_entry ([.ref m0, .int p0, .int p1]) (n := 3) (Nat.le_of_ble_eq_true rfl)
  rw [lg_entry_eq]
  generalize (lg_sl ([.ref m0, .int p0, .int p1]) ++ List.replicate (3 - (lg_sl ([.ref m0, .int p0, .int p1])).length) Slot.unset).toArray = ls at hl ⊢
  have hl : lv_has ls 3 [(0, .ref m0), (1, .int p0), (2, .int p1)] := hl
  unfold fX7_bendAt at hf
  refine lv_aload_n hx hb dX7_bendAt_0 rfl (lv_at hl 0 rfl) ?_
  refine lv_iload_n hx hb dX7_bendAt_1 rfl (lv_at hl 1 rfl) ?_
  refine lv_iload_n hx hb dX7_bendAt_2 rfl (lv_at hl 2 rfl) ?_
  obtain ⟨r_1, e_1, hf⟩ := bo hf
  refine mcallVi (W0 := (wM g m0 m1 m2 m3 m4 μ)) (Wc := (wM g m0 m1 m2 m3 m4 μ)) (Wr := ([] : va_W)) (W1 := (wM g m0 m1 m2 m3 m4 r_1.2)) (W2 := (wM g m0 m1 m2 m3 m4 r_1.2)) (As := [.int p0, .int p1]) (rest := []) [0, 1, 2, 3, 4] [] [0, 1, 2, 3, 4] 5 0 ⟨hx, hb, hml, hown, hts⟩ hP hD hE hZ hS hA (cX7_has_ok l g m0 m1 m2 m3 m4 μ p0 p1 _ e_1) (cwV 2 hts gX7_bendAt_X7_has rfl rfl rfl hdX7_has ⟨(Nat.le_of_ble_eq_true rfl), (Nat.le_of_ble_eq_true rfl)⟩) rfl rfl rfl (by decide) (by decide) (by decide) (by decide) rfl rfl rfl rfl hl.1 rfl (Nat.le_of_ble_eq_true rfl) ⟨(Nat.le_of_ble_eq_true rfl), (Nat.le_of_ble_eq_true rfl)⟩ dX7_bendAt_3 (fun H locs hP hD hS => ?_)
  refine lv_beq (tgt := 18) hx hb dX7_bendAt_6 (by decide) (fun c_2 => ?_) (fun c_2 => ?_)
  · have hf := iq c_2 hf
    refine lv_iconst (v := (0 : Int32)) hx hb dX7_bendAt_18 (by decide) ?_
    have ho := Option.some.inj hf
    subst ho
    exact m_iret (v := (0 : Int32)) hx hb hr hlocks hP hD hS rfl dX7_bendAt_19
  · have hf := ip c_2 hf
    refine lv_aload_n hx hb dX7_bendAt_9 rfl (lv_at hl 0 rfl) ?_
    refine lv_iload_n hx hb dX7_bendAt_10 rfl (lv_at hl 1 rfl) ?_
    refine lv_iload_n hx hb dX7_bendAt_11 rfl (lv_at hl 2 rfl) ?_
    obtain ⟨r_3, e_3, hf⟩ := bo hf
    refine pcallV (W0 := (wM g m0 m1 m2 m3 m4 r_1.2)) (As := [.int p0, .int p1]) (rest := []) [0, 1, 2, 3, 4] 5 0 ⟨hx, hb, hml, hown, hts⟩ hP hE hZ hS (cX7_bend_ok l g m0 m1 m2 m3 m4 r_1.2 p0 p1 e_3) (cwV 2 hts gX7_bendAt_X7_bend rfl rfl rfl hdX7_bend ⟨(Nat.le_of_ble_eq_true rfl), (Nat.le_of_ble_eq_true rfl)⟩) rfl rfl rfl rfl rfl hl.1 rfl (Nat.le_of_ble_eq_true rfl) ⟨(Nat.le_of_ble_eq_true rfl), (Nat.le_of_ble_eq_true rfl)⟩ dX7_bendAt_12 ?_
    refine lv_goto (tgt := 19) hx hb dX7_bendAt_15 (by decide) ?_
    have ho := Option.some.inj hf
    subst ho
    exact m_iret (v := r_3) hx hb hr hlocks hP hD hS rfl dX7_bendAt_19

def fX7_slanting_4 (μ : Mo) (p0 : Int32) : Nat → Int32 → Int32 → Option (Int32)
  | 0, _, _ => none
  | n + 1, v2_4, v3_4 => ((fX7_of μ p0 (2 : Int32)).bind fun r_1 => (if r_1 ≤ v3_4 then (some v2_4) else ((fX7_of μ p0 ((4 : Int32) + v3_4)).bind fun r_3 => fX7_slanting_4 μ p0 n (v2_4 + (irm r_3 (2 : Int32))) (v3_4 + 1))))
def fX7_slanting (μ : Mo) (p0 : Int32) : Option (Int32) := fX7_slanting_4 μ p0 FU (0 : Int32) (0 : Int32)
abbrev rmX7_slanting : Room := { frames := 1, cells := 0, slots := 0, locals := 22 }
theorem hdX7_slanting : yX7_slanting.cls = RX7 ∧ yX7_slanting.cls ≠ "java/lang/invoke/MethodHandle" ∧ yX7_slanting.cls ≠ "java/lang/invoke/VarHandle" ∧ (parseMethodDescriptor yX7_slanting.desc).map (fun d => d.parameters.length) = some 1 := by decide +kernel
set_option maxHeartbeats 4000000 in
set_option maxRecDepth 100000 in
theorem cX7_slanting_ok (l : Launch) (g : Gg) (m0 m1 m2 m3 m4 : Nat) (μ : Mo) (p0 : Int32) {r : Int32} (hf : fX7_slanting μ p0 = some r) : Met l yX7_slanting wsX7_slanting rmX7_slanting (va_Pc [.ref m0, .int p0] (PP g (wM g m0 m1 m2 m3 m4 μ))) (vp_Si (fun r' => r' = r)) 0 0 (fun _ => False) := by
  refine Met.ofW (cc := cX7_slanting) (maxL := 4) (ret := (some .int)) (by decide) rfl ?_
  intro p e s m args below meth c s₁ B hml hv
  obtain ⟨rfl, hP, hE, hZ⟩ := hv
  have hx := B.exec
  have hb := B.bytes
  have hr := B.returns
  have hts := atoms_spec (ws := wsX7_slanting) B.pre
  have hown : s.vm.findClass RX7 = some m.cls := findClass_of_methodNamed B.named
  have hlocks := B.notSynchronized
  have hS : va_S (fun _ => False) s.heap s.heap [] := va_S.rf
  have hl := lv_entry ([.ref m0, .int p0]) (n := 4) (Nat.le_of_ble_eq_true rfl)
  rw [lg_entry_eq]
  generalize (lg_sl ([.ref m0, .int p0]) ++ List.replicate (4 - (lg_sl ([.ref m0, .int p0])).length) Slot.unset).toArray = ls at hl ⊢
  have hl : lv_has ls 4 [(0, .ref m0), (1, .int p0)] := hl
  have hB4 : ∀ (n4 : Nat) (v2_4 : Int32) (v3_4 : Int32) (ls : Array Slot), lv_has ls 4 [(0, .ref m0), (1, .int p0), (2, .int v2_4), (3, .int v3_4)] → fX7_slanting_4 μ p0 n4 v2_4 v3_4 = some r → W p l e (headSpec wsX7_slanting rmX7_slanting).room s m ([.ref m0, .int p0] : List Value).toArray below meth c s.heap [] 0 0 (MQ below (vp_Si (fun r' => r' = r)) ([.ref m0, .int p0] : List Value).toArray s 0 0 (fun _ => False)) (F0 m 4 ls []) := by
    intro  n4
    induction n4 with
    | zero => intro v2_4 v3_4 ls hl hf; exact nomatch (show (none : Option (Int32)) = some _ from hf)
    | succ n4 ih4 =>
      intro v2_4 v3_4 ls hl hf
      rw [fX7_slanting_4] at hf
      refine lv_iload_n hx hb dX7_slanting_4 rfl (lv_at hl 3 rfl) ?_
      refine lv_aload_n hx hb dX7_slanting_5 rfl (lv_at hl 0 rfl) ?_
      refine lv_iload_n hx hb dX7_slanting_6 rfl (lv_at hl 1 rfl) ?_
      refine lv_iconst (v := (2 : Int32)) hx hb dX7_slanting_7 (by decide) ?_
      obtain ⟨r_1, e_1, hf⟩ := bo hf
      refine pcallV (W0 := (wM g m0 m1 m2 m3 m4 μ)) (As := [.int p0, .int (2 : Int32)]) (rest := [.int v3_4]) [0, 1, 2, 3, 4] 5 0 ⟨hx, hb, hml, hown, hts⟩ hP hE hZ hS (cX7_of_ok l g m0 m1 m2 m3 m4 μ p0 (2 : Int32) e_1) (cwV 2 hts gX7_slanting_X7_of rfl rfl rfl hdX7_of ⟨(Nat.le_of_ble_eq_true rfl), (Nat.le_of_ble_eq_true rfl)⟩) rfl rfl rfl rfl rfl hl.1 rfl (Nat.le_of_ble_eq_true rfl) ⟨(Nat.le_of_ble_eq_true rfl), (Nat.le_of_ble_eq_true rfl)⟩ dX7_slanting_8 ?_
      refine lv_icmp_ge (tgt := 33) hx hb dX7_slanting_11 (by decide) (fun c_2 => ?_) (fun c_2 => ?_)
      · have hf := ip c_2 hf
        refine lv_iload_n hx hb dX7_slanting_33 rfl (lv_at hl 2 rfl) ?_
        exact p_iret (v := v2_4) hx hb hr hlocks (Option.some.inj hf) dX7_slanting_34
      · have hf := iq c_2 hf
        refine lv_iload_n hx hb dX7_slanting_14 rfl (lv_at hl 2 rfl) ?_
        refine lv_aload_n hx hb dX7_slanting_15 rfl (lv_at hl 0 rfl) ?_
        refine lv_iload_n hx hb dX7_slanting_16 rfl (lv_at hl 1 rfl) ?_
        refine lv_iconst (v := (4 : Int32)) hx hb dX7_slanting_17 (by decide) ?_
        refine lv_iload_n hx hb dX7_slanting_18 rfl (lv_at hl 3 rfl) ?_
        refine lv_iadd hx hb dX7_slanting_19 ?_
        obtain ⟨r_3, e_3, hf⟩ := bo hf
        refine pcallV (W0 := (wM g m0 m1 m2 m3 m4 μ)) (As := [.int p0, .int ((4 : Int32) + v3_4)]) (rest := [.int v2_4]) [0, 1, 2, 3, 4] 5 0 ⟨hx, hb, hml, hown, hts⟩ hP hE hZ hS (cX7_of_ok l g m0 m1 m2 m3 m4 μ p0 ((4 : Int32) + v3_4) e_3) (cwV 2 hts gX7_slanting_X7_of rfl rfl rfl hdX7_of ⟨(Nat.le_of_ble_eq_true rfl), (Nat.le_of_ble_eq_true rfl)⟩) rfl rfl rfl rfl rfl hl.1 rfl (Nat.le_of_ble_eq_true rfl) ⟨(Nat.le_of_ble_eq_true rfl), (Nat.le_of_ble_eq_true rfl)⟩ dX7_slanting_20 ?_
        refine lv_iconst (v := (2 : Int32)) hx hb dX7_slanting_23 (by decide) ?_
        refine lv_irm hx hb dX7_slanting_24 (by decide) ?_
        refine lv_iadd hx hb dX7_slanting_25 ?_
        refine lv_istore_n (lv' := [(2, .int (v2_4 + (irm r_3 (2 : Int32)))), (0, .ref m0), (1, .int p0), (3, .int v3_4)]) hx hb dX7_slanting_26 rfl hl (by decide) rfl (fun ls hl => ?_)
        refine lv_iinc (v := (v3_4 + 1)) (lv' := [(3, .int (v3_4 + 1)), (2, .int (v2_4 + (irm r_3 (2 : Int32)))), (0, .ref m0), (1, .int p0)]) hx hb dX7_slanting_27 hl (k := 3) rfl rfl (by decide) rfl (fun ls hl => ?_)
        refine lv_goto (tgt := 4) hx hb dX7_slanting_30 (by decide) ?_
        exact ih4 (v2_4 + (irm r_3 (2 : Int32))) (v3_4 + 1) ls (lv_sub hl [2, 3, 1, 0] rfl) hf
  unfold fX7_slanting at hf
  refine lv_iconst (v := (0 : Int32)) hx hb dX7_slanting_0 (by decide) ?_
  refine lv_istore_n (lv' := [(2, .int (0 : Int32)), (0, .ref m0), (1, .int p0)]) hx hb dX7_slanting_1 rfl hl (by decide) rfl (fun ls hl => ?_)
  refine lv_iconst (v := (0 : Int32)) hx hb dX7_slanting_2 (by decide) ?_
  refine lv_istore_n (lv' := [(3, .int (0 : Int32)), (2, .int (0 : Int32)), (0, .ref m0), (1, .int p0)]) hx hb dX7_slanting_3 rfl hl (by decide) rfl (fun ls hl => ?_)
  exact hB4 FU (0 : Int32) (0 : Int32) ls (lv_sub hl [2, 3, 1, 0] rfl) hf

def fX7_lengthByKinds (μ : Mo) (p0 : Int32) : Option (UInt64 × Mo) := ((fX7_knows μ p0).bind fun r_1 => (if r_1.1 = true then ((fX7_of r_1.2 p0 (2 : Int32)).bind fun r_3 => ((fX7_slanting r_1.2 p0).bind fun r_4 => ((fX7_slanting r_1.2 p0).bind fun r_5 => (if nN (FP.dmul (FP.i2d r_5) (0x3ff6a09e667f3bcd : UInt64)) then (if nN (FP.dadd (FP.i2d (r_3 - r_4)) (FP.dmul (FP.i2d r_5) (0x3ff6a09e667f3bcd : UInt64))) then (some ((FP.dadd (FP.i2d (r_3 - r_4)) (FP.dmul (FP.i2d r_5) (0x3ff6a09e667f3bcd : UInt64))), r_1.2)) else none) else none)))) else (some ((0 : UInt64), r_1.2))))
abbrev rmX7_lengthByKinds : Room := { frames := 3, cells := 0, slots := 0, locals := 64 }
theorem hdX7_lengthByKinds : yX7_lengthByKinds.cls = RX7 ∧ yX7_lengthByKinds.cls ≠ "java/lang/invoke/MethodHandle" ∧ yX7_lengthByKinds.cls ≠ "java/lang/invoke/VarHandle" ∧ (parseMethodDescriptor yX7_lengthByKinds.desc).map (fun d => d.parameters.length) = some 1 := by decide +kernel
theorem kdX7_lengthByKinds_152 : (.constantDouble RX7 152 0x3ff6a09e667f3bcd : Cond) ∈ wsX7_lengthByKinds := by decide +kernel
set_option maxHeartbeats 4000000 in
set_option maxRecDepth 100000 in
theorem cX7_lengthByKinds_ok (l : Launch) (g : Gg) (m0 m1 m2 m3 m4 : Nat) (μ : Mo) (p0 : Int32) (sz : Nat) {o : UInt64 × Mo} (hf : fX7_lengthByKinds μ p0 = some o) : Met l yX7_lengthByKinds wsX7_lengthByKinds rmX7_lengthByKinds (va_Pc [.ref m0, .int p0] (PM g (wM g m0 m1 m2 m3 m4 μ) sz)) (va_Qd (fun r' (_ : Unit) => r' = o.1) (fun _ t => PQ g (wM g m0 m1 m2 m3 m4 o.2) (va_A (wM g m0 m1 m2 m3 m4 μ) sz) t) (va_A (wM g m0 m1 m2 m3 m4 μ) sz)) 0 0 (va_A (wM g m0 m1 m2 m3 m4 μ) sz) := by
  refine Met.ofW (cc := cX7_lengthByKinds) (maxL := 2) (ret := (some .double)) (by decide) rfl ?_
  intro p e s m args below meth c s₁ B hml hv
  obtain ⟨rfl, rfl, hP, hD0, hE, hZ⟩ := hv
  have hx := B.exec
  have hb := B.bytes
  have hr := B.returns
  have hts := atoms_spec (ws := wsX7_lengthByKinds) B.pre
  have hown : s.vm.findClass RX7 = some m.cls := findClass_of_methodNamed B.named
  have hlocks := B.notSynchronized
  have hD := hD0.self (sz := s.heap.size)
  generalize hAe : (va_A (wM g m0 m1 m2 m3 m4 μ) s.heap.size) = A at hD hZ ⊢
  have hA : ∀ q : Nat, s.heap.size ≤ q → A q := fun q h => by rw [← hAe]; exact Or.inr h
  have hS : va_S A s.heap s.heap [] := va_S.rf
  have hP : va_P g.1 vwCl (wM g m0 m1 m2 m3 m4 μ) s.heap := hP
  have hl := lv_entry ([.ref m0, .int p0]) (n := 2) (Nat.le_of_ble_eq_true rfl)
  rw [lg_entry_eq]
  generalize (lg_sl ([.ref m0, .int p0]) ++ List.replicate (2 - (lg_sl ([.ref m0, .int p0])).length) Slot.unset).toArray = ls at hl ⊢
  have hl : lv_has ls 2 [(0, .ref m0), (1, .int p0)] := hl
  unfold fX7_lengthByKinds at hf
  refine lv_aload_n hx hb dX7_lengthByKinds_0 rfl (lv_at hl 0 rfl) ?_
  refine lv_iload_n hx hb dX7_lengthByKinds_1 rfl (lv_at hl 1 rfl) ?_
  obtain ⟨r_1, e_1, hf⟩ := bo hf
  refine mcallVi (W0 := (wM g m0 m1 m2 m3 m4 μ)) (Wc := (wM g m0 m1 m2 m3 m4 μ)) (Wr := ([] : va_W)) (W1 := (wM g m0 m1 m2 m3 m4 r_1.2)) (W2 := (wM g m0 m1 m2 m3 m4 r_1.2)) (As := [.int p0]) (rest := []) [0, 1, 2, 3, 4] [] [0, 1, 2, 3, 4] 5 0 ⟨hx, hb, hml, hown, hts⟩ hP hD hE hZ hS hA (cX7_knows_ok l g m0 m1 m2 m3 m4 μ p0 _ e_1) (cwV 1 hts gX7_lengthByKinds_X7_knows rfl rfl rfl hdX7_knows ⟨(Nat.le_of_ble_eq_true rfl), (Nat.le_of_ble_eq_true rfl)⟩) rfl rfl rfl (by decide) (by decide) (by decide) (by decide) rfl rfl rfl rfl hl.1 rfl (Nat.le_of_ble_eq_true rfl) ⟨(Nat.le_of_ble_eq_true rfl), (Nat.le_of_ble_eq_true rfl)⟩ dX7_lengthByKinds_2 (fun H locs hP hD hS => ?_)
  refine lv_beq (tgt := 35) hx hb dX7_lengthByKinds_5 (by decide) (fun c_2 => ?_) (fun c_2 => ?_)
  · have hf := iq c_2 hf
    refine lv_dconst0 hx hb dX7_lengthByKinds_35 ?_
    have ho := Option.some.inj hf
    subst ho
    exact m_dret (v := (0 : UInt64)) hx hb hr hlocks hP hD hS rfl dX7_lengthByKinds_36
  · have hf := ip c_2 hf
    refine lv_aload_n hx hb dX7_lengthByKinds_8 rfl (lv_at hl 0 rfl) ?_
    refine lv_iload_n hx hb dX7_lengthByKinds_9 rfl (lv_at hl 1 rfl) ?_
    refine lv_iconst (v := (2 : Int32)) hx hb dX7_lengthByKinds_10 (by decide) ?_
    obtain ⟨r_3, e_3, hf⟩ := bo hf
    refine pcallV (W0 := (wM g m0 m1 m2 m3 m4 r_1.2)) (As := [.int p0, .int (2 : Int32)]) (rest := []) [0, 1, 2, 3, 4] 5 0 ⟨hx, hb, hml, hown, hts⟩ hP hE hZ hS (cX7_of_ok l g m0 m1 m2 m3 m4 r_1.2 p0 (2 : Int32) e_3) (cwV 2 hts gX7_lengthByKinds_X7_of rfl rfl rfl hdX7_of ⟨(Nat.le_of_ble_eq_true rfl), (Nat.le_of_ble_eq_true rfl)⟩) rfl rfl rfl rfl rfl hl.1 rfl (Nat.le_of_ble_eq_true rfl) ⟨(Nat.le_of_ble_eq_true rfl), (Nat.le_of_ble_eq_true rfl)⟩ dX7_lengthByKinds_11 ?_
    refine lv_aload_n hx hb dX7_lengthByKinds_14 rfl (lv_at hl 0 rfl) ?_
    refine lv_iload_n hx hb dX7_lengthByKinds_15 rfl (lv_at hl 1 rfl) ?_
    obtain ⟨r_4, e_4, hf⟩ := bo hf
    refine pcallV (W0 := (wM g m0 m1 m2 m3 m4 r_1.2)) (As := [.int p0]) (rest := [.int r_3]) [0, 1, 2, 3, 4] 5 0 ⟨hx, hb, hml, hown, hts⟩ hP hE hZ hS (cX7_slanting_ok l g m0 m1 m2 m3 m4 r_1.2 p0 e_4) (cwV 1 hts gX7_lengthByKinds_X7_slanting rfl rfl rfl hdX7_slanting ⟨(Nat.le_of_ble_eq_true rfl), (Nat.le_of_ble_eq_true rfl)⟩) rfl rfl rfl rfl rfl hl.1 rfl (Nat.le_of_ble_eq_true rfl) ⟨(Nat.le_of_ble_eq_true rfl), (Nat.le_of_ble_eq_true rfl)⟩ dX7_lengthByKinds_16 ?_
    refine lv_isub hx hb dX7_lengthByKinds_19 ?_
    refine lv_i2d hx hb dX7_lengthByKinds_20 ?_
    refine lv_aload_n hx hb dX7_lengthByKinds_21 rfl (lv_at hl 0 rfl) ?_
    refine lv_iload_n hx hb dX7_lengthByKinds_22 rfl (lv_at hl 1 rfl) ?_
    obtain ⟨r_5, e_5, hf⟩ := bo hf
    refine pcallV (W0 := (wM g m0 m1 m2 m3 m4 r_1.2)) (As := [.int p0]) (rest := [.double (FP.i2d (r_3 - r_4))]) [0, 1, 2, 3, 4] 5 0 ⟨hx, hb, hml, hown, hts⟩ hP hE hZ hS (cX7_slanting_ok l g m0 m1 m2 m3 m4 r_1.2 p0 e_5) (cwV 1 hts gX7_lengthByKinds_X7_slanting rfl rfl rfl hdX7_slanting ⟨(Nat.le_of_ble_eq_true rfl), (Nat.le_of_ble_eq_true rfl)⟩) rfl rfl rfl rfl rfl hl.1 rfl (Nat.le_of_ble_eq_true rfl) ⟨(Nat.le_of_ble_eq_true rfl), (Nat.le_of_ble_eq_true rfl)⟩ dX7_lengthByKinds_23 ?_
    refine lv_i2d hx hb dX7_lengthByKinds_26 ?_
    refine lv_ldc2d hx hb hown (hts _ kdX7_lengthByKinds_152) dX7_lengthByKinds_27 ?_
    obtain ⟨h_6, hf⟩ := ck hf
    refine lv_dmul hx hb dX7_lengthByKinds_30 h_6 ?_
    obtain ⟨h_7, hf⟩ := ck hf
    refine lv_dadd hx hb dX7_lengthByKinds_31 h_7 ?_
    refine lv_goto (tgt := 36) hx hb dX7_lengthByKinds_32 (by decide) ?_
    have ho := Option.some.inj hf
    subst ho
    exact m_dret (v := (FP.dadd (FP.i2d (r_3 - r_4)) (FP.dmul (FP.i2d r_5) (0x3ff6a09e667f3bcd : UInt64)))) hx hb hr hlocks hP hD hS rfl dX7_lengthByKinds_36

def fX7_lengthBySteps_29 (p0 : Int32) (v4_12 : Bool) (μ_12 : Mo) (k12 : UInt64 → Int32 → Option (UInt64 × Mo)) (v2_29 : UInt64) (v5_29 : Int32) (t0_29 : Int32) (t1_29 : Int32) : Option (UInt64 × Mo) := (if t1_29 ≤ t0_29 then (some (v2_29, μ_12)) else ((fX7_of μ_12 p0 ((4 : Int32) + v5_29)).bind fun r_2 => (if (irm r_2 (2 : Int32)) = (1 : Int32) then (if nN (FP.dadd v2_29 (0x3ff6a09e667f3bcd : UInt64)) then k12 (FP.dadd v2_29 (0x3ff6a09e667f3bcd : UInt64)) (v5_29 + 1) else none) else (if nN (FP.dadd v2_29 (0x3ff0000000000000 : UInt64)) then k12 (FP.dadd v2_29 (0x3ff0000000000000 : UInt64)) (v5_29 + 1) else none))))
def fX7_lengthBySteps_12 (p0 : Int32) (v4_12 : Bool) (μ_12 : Mo) : Nat → UInt64 → Int32 → Option (UInt64 × Mo)
  | 0, _, _ => none
  | n + 1, v2_12, v5_12 => (if v4_12 = true then ((fX7_of μ_12 p0 (2 : Int32)).bind fun r_7 => fX7_lengthBySteps_29 p0 v4_12 μ_12 (fX7_lengthBySteps_12 p0 v4_12 μ_12 n) v2_12 v5_12 v5_12 r_7) else fX7_lengthBySteps_29 p0 v4_12 μ_12 (fX7_lengthBySteps_12 p0 v4_12 μ_12 n) v2_12 v5_12 v5_12 (0 : Int32))
def fX7_lengthBySteps (μ : Mo) (p0 : Int32) : Option (UInt64 × Mo) := ((fX7_knows μ p0).bind fun r_8 => fX7_lengthBySteps_12 p0 r_8.1 r_8.2 FU (0 : UInt64) (0 : Int32))
abbrev rmX7_lengthBySteps : Room := { frames := 3, cells := 0, slots := 0, locals := 64 }
theorem hdX7_lengthBySteps : yX7_lengthBySteps.cls = RX7 ∧ yX7_lengthBySteps.cls ≠ "java/lang/invoke/MethodHandle" ∧ yX7_lengthBySteps.cls ≠ "java/lang/invoke/VarHandle" ∧ (parseMethodDescriptor yX7_lengthBySteps.desc).map (fun d => d.parameters.length) = some 1 := by decide +kernel
theorem kdX7_lengthBySteps_152 : (.constantDouble RX7 152 0x3ff6a09e667f3bcd : Cond) ∈ wsX7_lengthBySteps := by decide +kernel
set_option maxHeartbeats 4000000 in
set_option maxRecDepth 100000 in
theorem cX7_lengthBySteps_ok (l : Launch) (g : Gg) (m0 m1 m2 m3 m4 : Nat) (μ : Mo) (p0 : Int32) (sz : Nat) {o : UInt64 × Mo} (hf : fX7_lengthBySteps μ p0 = some o) : Met l yX7_lengthBySteps wsX7_lengthBySteps rmX7_lengthBySteps (va_Pc [.ref m0, .int p0] (PM g (wM g m0 m1 m2 m3 m4 μ) sz)) (va_Qd (fun r' (_ : Unit) => r' = o.1) (fun _ t => PQ g (wM g m0 m1 m2 m3 m4 o.2) (va_A (wM g m0 m1 m2 m3 m4 μ) sz) t) (va_A (wM g m0 m1 m2 m3 m4 μ) sz)) 0 0 (va_A (wM g m0 m1 m2 m3 m4 μ) sz) := by
  refine Met.ofW (cc := cX7_lengthBySteps) (maxL := 6) (ret := (some .double)) (by decide) rfl ?_
  intro p e s m args below meth c s₁ B hml hv
  obtain ⟨rfl, rfl, hP, hD0, hE, hZ⟩ := hv
  have hx := B.exec
  have hb := B.bytes
  have hr := B.returns
  have hts := atoms_spec (ws := wsX7_lengthBySteps) B.pre
  have hown : s.vm.findClass RX7 = some m.cls := findClass_of_methodNamed B.named
  have hlocks := B.notSynchronized
  have hD := hD0.self (sz := s.heap.size)
  generalize hAe : (va_A (wM g m0 m1 m2 m3 m4 μ) s.heap.size) = A at hD hZ ⊢
  have hA : ∀ q : Nat, s.heap.size ≤ q → A q := fun q h => by rw [← hAe]; exact Or.inr h
  have hS : va_S A s.heap s.heap [] := va_S.rf
  have hP : va_P g.1 vwCl (wM g m0 m1 m2 m3 m4 μ) s.heap := hP
  have hl := lv_entry ([.ref m0, .int p0]) (n := 6) (Nat.le_of_ble_eq_true rfl)
  rw [lg_entry_eq]
  generalize (lg_sl ([.ref m0, .int p0]) ++ List.replicate (6 - (lg_sl ([.ref m0, .int p0])).length) Slot.unset).toArray = ls at hl ⊢
  have hl : lv_has ls 6 [(0, .ref m0), (1, .int p0)] := hl
  have hB12 : ∀ (v4_12 : Bool) (μ_12 : Mo) (n12 : Nat) (v2_12 : UInt64) (v5_12 : Int32) (H : Heap) (locs : List Loc) (ls : Array Slot), va_P g.1 vwCl (wM g m0 m1 m2 m3 m4 μ_12) H → va_D A (wM g m0 m1 m2 m3 m4 μ_12) → va_S A s.heap H locs → lv_has ls 6 [(0, .ref m0), (1, .int p0), (2, .double v2_12), (4, .int (b2i v4_12)), (5, .int v5_12)] → fX7_lengthBySteps_12 p0 v4_12 μ_12 n12 v2_12 v5_12 = some o → W p l e (headSpec wsX7_lengthBySteps rmX7_lengthBySteps).room s m ([.ref m0, .int p0] : List Value).toArray below meth c H locs 0 0 (MQ below (va_Qd (fun r' (_ : Unit) => r' = o.1) (fun _ t => PQ g (wM g m0 m1 m2 m3 m4 o.2) A t) A) ([.ref m0, .int p0] : List Value).toArray s 0 0 A) (F0 m 12 ls []) := by
    intro v4_12 μ_12 n12
    induction n12 with
    | zero => intro v2_12 v5_12 H locs ls hP hD hS hl hf; exact nomatch (show (none : Option (UInt64 × Mo)) = some _ from hf)
    | succ n12 ih12 =>
      have hB29 : ∀ (v2_29 : UInt64) (v5_29 : Int32) (t0_29 : Int32) (t1_29 : Int32) (H : Heap) (locs : List Loc) (ls : Array Slot), va_P g.1 vwCl (wM g m0 m1 m2 m3 m4 μ_12) H → va_D A (wM g m0 m1 m2 m3 m4 μ_12) → va_S A s.heap H locs → lv_has ls 6 [(0, .ref m0), (1, .int p0), (2, .double v2_29), (4, .int (b2i v4_12)), (5, .int v5_29)] → fX7_lengthBySteps_29 p0 v4_12 μ_12 (fX7_lengthBySteps_12 p0 v4_12 μ_12 n12) v2_29 v5_29 t0_29 t1_29 = some o → W p l e (headSpec wsX7_lengthBySteps rmX7_lengthBySteps).room s m ([.ref m0, .int p0] : List Value).toArray below meth c H locs 0 0 (MQ below (va_Qd (fun r' (_ : Unit) => r' = o.1) (fun _ t => PQ g (wM g m0 m1 m2 m3 m4 o.2) A t) A) ([.ref m0, .int p0] : List Value).toArray s 0 0 A) (F0 m 29 ls [.int t1_29, .int t0_29]) := by
        intro  v2_29 v5_29 t0_29 t1_29 H locs ls hP hD hS hl hf
        unfold fX7_lengthBySteps_29 at hf
        refine lv_icmp_ge (tgt := 63) hx hb dX7_lengthBySteps_29 (by decide) (fun c_1 => ?_) (fun c_1 => ?_)
        · have hf := ip c_1 hf
          refine lv_dload_n hx hb dX7_lengthBySteps_63 rfl (lv_at hl 2 rfl) ?_
          have ho := Option.some.inj hf
          subst ho
          exact m_dret (v := v2_29) hx hb hr hlocks hP hD hS rfl dX7_lengthBySteps_64
        · have hf := iq c_1 hf
          refine lv_dload_n hx hb dX7_lengthBySteps_32 rfl (lv_at hl 2 rfl) ?_
          refine lv_aload_n hx hb dX7_lengthBySteps_33 rfl (lv_at hl 0 rfl) ?_
          refine lv_iload_n hx hb dX7_lengthBySteps_34 rfl (lv_at hl 1 rfl) ?_
          refine lv_iconst (v := (4 : Int32)) hx hb dX7_lengthBySteps_35 (by decide) ?_
          refine lv_iload hx hb dX7_lengthBySteps_36 (lv_at hl 4 rfl) ?_
          refine lv_iadd hx hb dX7_lengthBySteps_38 ?_
          obtain ⟨r_2, e_2, hf⟩ := bo hf
          refine pcallV (W0 := (wM g m0 m1 m2 m3 m4 μ_12)) (As := [.int p0, .int ((4 : Int32) + v5_29)]) (rest := [.double v2_29]) [0, 1, 2, 3, 4] 5 0 ⟨hx, hb, hml, hown, hts⟩ hP hE hZ hS (cX7_of_ok l g m0 m1 m2 m3 m4 μ_12 p0 ((4 : Int32) + v5_29) e_2) (cwV 2 hts gX7_lengthBySteps_X7_of rfl rfl rfl hdX7_of ⟨(Nat.le_of_ble_eq_true rfl), (Nat.le_of_ble_eq_true rfl)⟩) rfl rfl rfl rfl rfl hl.1 rfl (Nat.le_of_ble_eq_true rfl) ⟨(Nat.le_of_ble_eq_true rfl), (Nat.le_of_ble_eq_true rfl)⟩ dX7_lengthBySteps_39 ?_
          refine lv_iconst (v := (2 : Int32)) hx hb dX7_lengthBySteps_42 (by decide) ?_
          refine lv_irm hx hb dX7_lengthBySteps_43 (by decide) ?_
          refine lv_iconst (v := (1 : Int32)) hx hb dX7_lengthBySteps_44 (by decide) ?_
          refine lv_icmp_ne (tgt := 54) hx hb dX7_lengthBySteps_45 (by decide) (fun c_3 => ?_) (fun c_3 => ?_)
          · have hf := iq c_3 hf
            refine lv_dconst1 hx hb dX7_lengthBySteps_54 ?_
            obtain ⟨h_4, hf⟩ := ck hf
            refine lv_dadd hx hb dX7_lengthBySteps_55 h_4 ?_
            refine lv_dstore_n (lv' := [(2, .double (FP.dadd v2_29 (0x3ff0000000000000 : UInt64))), (0, .ref m0), (1, .int p0), (4, .int (b2i v4_12)), (5, .int v5_29)]) hx hb dX7_lengthBySteps_56 rfl hl (by decide) rfl (fun ls hl => ?_)
            refine lv_iinc (v := (v5_29 + 1)) (lv' := [(5, .int (v5_29 + 1)), (2, .double (FP.dadd v2_29 (0x3ff0000000000000 : UInt64))), (0, .ref m0), (1, .int p0), (4, .int (b2i v4_12))]) hx hb dX7_lengthBySteps_57 hl (k := 4) rfl rfl (by decide) rfl (fun ls hl => ?_)
            refine lv_goto (tgt := 12) hx hb dX7_lengthBySteps_60 (by decide) ?_
            exact ih12 (FP.dadd v2_29 (0x3ff0000000000000 : UInt64)) (v5_29 + 1) _ _ ls hP hD hS (lv_sub hl [2, 3, 1, 4, 0] rfl) hf
          · have hf := ip c_3 hf
            refine lv_ldc2d hx hb hown (hts _ kdX7_lengthBySteps_152) dX7_lengthBySteps_48 ?_
            refine lv_goto (tgt := 55) hx hb dX7_lengthBySteps_51 (by decide) ?_
            obtain ⟨h_5, hf⟩ := ck hf
            refine lv_dadd hx hb dX7_lengthBySteps_55 h_5 ?_
            refine lv_dstore_n (lv' := [(2, .double (FP.dadd v2_29 (0x3ff6a09e667f3bcd : UInt64))), (0, .ref m0), (1, .int p0), (4, .int (b2i v4_12)), (5, .int v5_29)]) hx hb dX7_lengthBySteps_56 rfl hl (by decide) rfl (fun ls hl => ?_)
            refine lv_iinc (v := (v5_29 + 1)) (lv' := [(5, .int (v5_29 + 1)), (2, .double (FP.dadd v2_29 (0x3ff6a09e667f3bcd : UInt64))), (0, .ref m0), (1, .int p0), (4, .int (b2i v4_12))]) hx hb dX7_lengthBySteps_57 hl (k := 4) rfl rfl (by decide) rfl (fun ls hl => ?_)
            refine lv_goto (tgt := 12) hx hb dX7_lengthBySteps_60 (by decide) ?_
            exact ih12 (FP.dadd v2_29 (0x3ff6a09e667f3bcd : UInt64)) (v5_29 + 1) _ _ ls hP hD hS (lv_sub hl [2, 3, 1, 4, 0] rfl) hf
      intro v2_12 v5_12 H locs ls hP hD hS hl hf
      rw [fX7_lengthBySteps_12] at hf
      refine lv_iload hx hb dX7_lengthBySteps_12 (lv_at hl 4 rfl) ?_
      refine lv_iload hx hb dX7_lengthBySteps_14 (lv_at hl 3 rfl) ?_
      refine lv_beq (tgt := 28) hx hb dX7_lengthBySteps_16 (by decide) (fun c_6 => ?_) (fun c_6 => ?_)
      · have hf := iq c_6 hf
        refine lv_iconst (v := (0 : Int32)) hx hb dX7_lengthBySteps_28 (by decide) ?_
        exact hB29 v2_12 v5_12 v5_12 (0 : Int32) _ _ ls hP hD hS (lv_sub hl [0, 1, 2, 3, 4] rfl) hf
      · have hf := ip c_6 hf
        refine lv_aload_n hx hb dX7_lengthBySteps_19 rfl (lv_at hl 0 rfl) ?_
        refine lv_iload_n hx hb dX7_lengthBySteps_20 rfl (lv_at hl 1 rfl) ?_
        refine lv_iconst (v := (2 : Int32)) hx hb dX7_lengthBySteps_21 (by decide) ?_
        obtain ⟨r_7, e_7, hf⟩ := bo hf
        refine pcallV (W0 := (wM g m0 m1 m2 m3 m4 μ_12)) (As := [.int p0, .int (2 : Int32)]) (rest := [.int v5_12]) [0, 1, 2, 3, 4] 5 0 ⟨hx, hb, hml, hown, hts⟩ hP hE hZ hS (cX7_of_ok l g m0 m1 m2 m3 m4 μ_12 p0 (2 : Int32) e_7) (cwV 2 hts gX7_lengthBySteps_X7_of rfl rfl rfl hdX7_of ⟨(Nat.le_of_ble_eq_true rfl), (Nat.le_of_ble_eq_true rfl)⟩) rfl rfl rfl rfl rfl hl.1 rfl (Nat.le_of_ble_eq_true rfl) ⟨(Nat.le_of_ble_eq_true rfl), (Nat.le_of_ble_eq_true rfl)⟩ dX7_lengthBySteps_22 ?_
        refine lv_goto (tgt := 29) hx hb dX7_lengthBySteps_25 (by decide) ?_
        exact hB29 v2_12 v5_12 v5_12 r_7 _ _ ls hP hD hS (lv_sub hl [0, 1, 2, 3, 4] rfl) hf
  unfold fX7_lengthBySteps at hf
  refine lv_dconst0 hx hb dX7_lengthBySteps_0 ?_
  refine lv_dstore_n (lv' := [(2, .double (0 : UInt64)), (0, .ref m0), (1, .int p0)]) hx hb dX7_lengthBySteps_1 rfl hl (by decide) rfl (fun ls hl => ?_)
  refine lv_aload_n hx hb dX7_lengthBySteps_2 rfl (lv_at hl 1 rfl) ?_
  refine lv_iload_n hx hb dX7_lengthBySteps_3 rfl (lv_at hl 2 rfl) ?_
  obtain ⟨r_8, e_8, hf⟩ := bo hf
  refine mcallVi (W0 := (wM g m0 m1 m2 m3 m4 μ)) (Wc := (wM g m0 m1 m2 m3 m4 μ)) (Wr := ([] : va_W)) (W1 := (wM g m0 m1 m2 m3 m4 r_8.2)) (W2 := (wM g m0 m1 m2 m3 m4 r_8.2)) (As := [.int p0]) (rest := []) [0, 1, 2, 3, 4] [] [0, 1, 2, 3, 4] 5 0 ⟨hx, hb, hml, hown, hts⟩ hP hD hE hZ hS hA (cX7_knows_ok l g m0 m1 m2 m3 m4 μ p0 _ e_8) (cwV 1 hts gX7_lengthBySteps_X7_knows rfl rfl rfl hdX7_knows ⟨(Nat.le_of_ble_eq_true rfl), (Nat.le_of_ble_eq_true rfl)⟩) rfl rfl rfl (by decide) (by decide) (by decide) (by decide) rfl rfl rfl rfl hl.1 rfl (Nat.le_of_ble_eq_true rfl) ⟨(Nat.le_of_ble_eq_true rfl), (Nat.le_of_ble_eq_true rfl)⟩ dX7_lengthBySteps_4 (fun H locs hP hD hS => ?_)
  refine lv_istore (lv' := [(4, .int (b2i r_8.1)), (2, .double (0 : UInt64)), (0, .ref m0), (1, .int p0)]) hx hb dX7_lengthBySteps_7 hl (by decide) rfl (fun ls hl => ?_)
  refine lv_iconst (v := (0 : Int32)) hx hb dX7_lengthBySteps_9 (by decide) ?_
  refine lv_istore (lv' := [(5, .int (0 : Int32)), (4, .int (b2i r_8.1)), (2, .double (0 : UInt64)), (0, .ref m0), (1, .int p0)]) hx hb dX7_lengthBySteps_10 hl (by decide) rfl (fun ls hl => ?_)
  exact hB12 r_8.1 r_8.2 FU (0 : UInt64) (0 : Int32) _ _ ls hP hD hS (lv_sub hl [3, 4, 2, 1, 0] rfl) hf

def fX7_gap (μ : Mo) : Option (Int32 × Mo) := (some ((M_row μ (Int32.toNatClampNeg (1 : Int32))), (M_th' μ (0 : Int32))))
abbrev rmX7_gap : Room := { frames := 0, cells := 0, slots := 0, locals := 0 }
theorem hdX7_gap : yX7_gap.cls = RX7 ∧ yX7_gap.cls ≠ "java/lang/invoke/MethodHandle" ∧ yX7_gap.cls ≠ "java/lang/invoke/VarHandle" ∧ (parseMethodDescriptor yX7_gap.desc).map (fun d => d.parameters.length) = some 0 := by decide +kernel
theorem fiX7_gap_X7 : ∀ w ∈ wsX70, w ∈ wsX7_gap := by decide +kernel
theorem flX7_gap_22 : (.fieldLink RX7 22 "ContourLabelsModel" "thrown" "I" : Cond) ∈ wsX7_gap := by decide +kernel
theorem flX7_gap_7 : (.fieldLink RX7 7 "ContourLabelsModel" "row" "[I" : Cond) ∈ wsX7_gap := by decide +kernel
set_option maxHeartbeats 4000000 in
set_option maxRecDepth 100000 in
theorem cX7_gap_ok (l : Launch) (g : Gg) (m0 m1 m2 m3 m4 : Nat) (μ : Mo) (sz : Nat) {o : Int32 × Mo} (hf : fX7_gap μ = some o) : Met l yX7_gap wsX7_gap rmX7_gap (va_Pc [.ref m0] (PM g (wM g m0 m1 m2 m3 m4 μ) sz)) (va_Qi (fun r' (_ : Unit) => r' = o.1) (fun _ t => PQ g (wM g m0 m1 m2 m3 m4 o.2) (va_A (wM g m0 m1 m2 m3 m4 μ) sz) t) (va_A (wM g m0 m1 m2 m3 m4 μ) sz)) 0 0 (va_A (wM g m0 m1 m2 m3 m4 μ) sz) := by
  refine Met.ofW (cc := cX7_gap) (maxL := 1) (ret := (some .int)) (by decide) rfl ?_
  intro p e s m args below meth c s₁ B hml hv
  obtain ⟨rfl, rfl, hP, hD0, hE, hZ⟩ := hv
  have hx := B.exec
  have hb := B.bytes
  have hr := B.returns
  have hts := atoms_spec (ws := wsX7_gap) B.pre
  have hown : s.vm.findClass RX7 = some m.cls := findClass_of_methodNamed B.named
  have hlocks := B.notSynchronized
  have hD := hD0.self (sz := s.heap.size)
  generalize hAe : (va_A (wM g m0 m1 m2 m3 m4 μ) s.heap.size) = A at hD hZ ⊢
  have hA : ∀ q : Nat, s.heap.size ≤ q → A q := fun q h => by rw [← hAe]; exact Or.inr h
  have hS : va_S A s.heap s.heap [] := va_S.rf
  have hP : va_P g.1 vwCl (wM g m0 m1 m2 m3 m4 μ) s.heap := hP
  have hl := lv_entry ([.ref m0]) (n := 1) (Nat.le_of_ble_eq_true rfl)
  rw [lg_entry_eq]
  generalize (lg_sl ([.ref m0]) ++ List.replicate (1 - (lg_sl ([.ref m0])).length) Slot.unset).toArray = ls at hl ⊢
  have hl : lv_has ls 1 [(0, .ref m0)] := hl
  unfold fX7_gap at hf
  refine lv_aload_n hx hb dX7_gap_0 rfl (lv_at hl 0 rfl) ?_
  refine lv_iconst (v := (0 : Int32)) hx hb dX7_gap_1 (by decide) ?_
  refine va_put (v := .int (0 : Int32)) (ty := .int) (C := RX7) (T := TX7) (N := 13) hx hb hts fiX7_gap_X7 tyX7 tyX7_ok nmX7 hown hE.1 hP hD hS 0 rfl rfl 7 (by decide) (hts _ flX7_gap_22) (fun _ h9 => h9) rfl (by decide +kernel) rfl rfl (Nat.le_of_ble_eq_true rfl) dX7_gap_2 (fun H locs hP hD hS => ?_)
  have hP : va_P g.1 vwCl (wM g m0 m1 m2 m3 m4 (M_th' μ (0 : Int32))) H := hP
  have hD : va_D A (wM g m0 m1 m2 m3 m4 (M_th' μ (0 : Int32))) := hD
  refine lv_aload_n hx hb dX7_gap_5 rfl (lv_at hl 0 rfl) ?_
  refine va_get (v := .ref m1) (C := RX7) (T := TX7) (N := 13) hx hb hts fiX7_gap_X7 hown hE.1 hP 0 rfl rfl 0 (by decide) (hts _ flX7_gap_7) (fun _ h9 => h9) rfl dX7_gap_6 ?_
  refine lv_iconst (v := (1 : Int32)) hx hb dX7_gap_9 (by decide) ?_
  refine va_iald hx hb hE.1 hP 1 0 rfl rfl (vin (by decide)) dX7_gap_10 ?_
  have ho := Option.some.inj hf
  subst ho
  exact m_iret (v := (M_row μ (Int32.toNatClampNeg (1 : Int32)))) hx hb hr hlocks hP hD hS rfl dX7_gap_11

def fX7_labels (μ : Mo) : Option (Int32 × Mo) := ((fX7_labelled (M_th' μ (0 : Int32))).bind fun r_1 => (some (r_1, (M_th' μ (0 : Int32)))))
abbrev rmX7_labels : Room := { frames := 2, cells := 0, slots := 0, locals := 44 }
theorem hdX7_labels : yX7_labels.cls = RX7 ∧ yX7_labels.cls ≠ "java/lang/invoke/MethodHandle" ∧ yX7_labels.cls ≠ "java/lang/invoke/VarHandle" ∧ (parseMethodDescriptor yX7_labels.desc).map (fun d => d.parameters.length) = some 0 := by decide +kernel
theorem fiX7_labels_X7 : ∀ w ∈ wsX70, w ∈ wsX7_labels := by decide +kernel
theorem flX7_labels_22 : (.fieldLink RX7 22 "ContourLabelsModel" "thrown" "I" : Cond) ∈ wsX7_labels := by decide +kernel
set_option maxHeartbeats 4000000 in
set_option maxRecDepth 100000 in
theorem cX7_labels_ok (l : Launch) (g : Gg) (m0 m1 m2 m3 m4 : Nat) (μ : Mo) (sz : Nat) {o : Int32 × Mo} (hf : fX7_labels μ = some o) : Met l yX7_labels wsX7_labels rmX7_labels (va_Pc [.ref m0] (PM g (wM g m0 m1 m2 m3 m4 μ) sz)) (va_Qi (fun r' (_ : Unit) => r' = o.1) (fun _ t => PQ g (wM g m0 m1 m2 m3 m4 o.2) (va_A (wM g m0 m1 m2 m3 m4 μ) sz) t) (va_A (wM g m0 m1 m2 m3 m4 μ) sz)) 0 0 (va_A (wM g m0 m1 m2 m3 m4 μ) sz) := by
  refine Met.ofW (cc := cX7_labels) (maxL := 1) (ret := (some .int)) (by decide) rfl ?_
  intro p e s m args below meth c s₁ B hml hv
  obtain ⟨rfl, rfl, hP, hD0, hE, hZ⟩ := hv
  have hx := B.exec
  have hb := B.bytes
  have hr := B.returns
  have hts := atoms_spec (ws := wsX7_labels) B.pre
  have hown : s.vm.findClass RX7 = some m.cls := findClass_of_methodNamed B.named
  have hlocks := B.notSynchronized
  have hD := hD0.self (sz := s.heap.size)
  generalize hAe : (va_A (wM g m0 m1 m2 m3 m4 μ) s.heap.size) = A at hD hZ ⊢
  have hA : ∀ q : Nat, s.heap.size ≤ q → A q := fun q h => by rw [← hAe]; exact Or.inr h
  have hS : va_S A s.heap s.heap [] := va_S.rf
  have hP : va_P g.1 vwCl (wM g m0 m1 m2 m3 m4 μ) s.heap := hP
  have hl := lv_entry ([.ref m0]) (n := 1) (Nat.le_of_ble_eq_true rfl)
  rw [lg_entry_eq]
  generalize (lg_sl ([.ref m0]) ++ List.replicate (1 - (lg_sl ([.ref m0])).length) Slot.unset).toArray = ls at hl ⊢
  have hl : lv_has ls 1 [(0, .ref m0)] := hl
  unfold fX7_labels at hf
  refine lv_aload_n hx hb dX7_labels_0 rfl (lv_at hl 0 rfl) ?_
  refine lv_iconst (v := (0 : Int32)) hx hb dX7_labels_1 (by decide) ?_
  refine va_put (v := .int (0 : Int32)) (ty := .int) (C := RX7) (T := TX7) (N := 13) hx hb hts fiX7_labels_X7 tyX7 tyX7_ok nmX7 hown hE.1 hP hD hS 0 rfl rfl 7 (by decide) (hts _ flX7_labels_22) (fun _ h9 => h9) rfl (by decide +kernel) rfl rfl (Nat.le_of_ble_eq_true rfl) dX7_labels_2 (fun H locs hP hD hS => ?_)
  have hP : va_P g.1 vwCl (wM g m0 m1 m2 m3 m4 (M_th' μ (0 : Int32))) H := hP
  have hD : va_D A (wM g m0 m1 m2 m3 m4 (M_th' μ (0 : Int32))) := hD
  refine lv_aload_n hx hb dX7_labels_5 rfl (lv_at hl 0 rfl) ?_
  obtain ⟨r_1, e_1, hf⟩ := bo hf
  refine pcallV (W0 := (wM g m0 m1 m2 m3 m4 (M_th' μ (0 : Int32)))) (As := []) (rest := []) [0, 1, 2, 3, 4] 5 0 ⟨hx, hb, hml, hown, hts⟩ hP hE hZ hS (cX7_labelled_ok l g m0 m1 m2 m3 m4 (M_th' μ (0 : Int32)) e_1) (cwV 0 hts gX7_labels_X7_labelled rfl rfl rfl hdX7_labelled ⟨(Nat.le_of_ble_eq_true rfl), (Nat.le_of_ble_eq_true rfl)⟩) rfl rfl rfl rfl rfl hl.1 rfl (Nat.le_of_ble_eq_true rfl) ⟨(Nat.le_of_ble_eq_true rfl), (Nat.le_of_ble_eq_true rfl)⟩ dX7_labels_6 ?_
  have ho := Option.some.inj hf
  subst ho
  exact m_iret (v := r_1) hx hb hr hlocks hP hD hS rfl dX7_labels_9

def fX7_labelOf (μ : Mo) (p0 : Int32) : Option (Int32 × Mo) := ((fX7_look μ p0 (3 : Int32)).bind fun r_1 => (some (r_1.1, r_1.2)))
abbrev rmX7_labelOf : Room := { frames := 3, cells := 0, slots := 0, locals := 65 }
theorem hdX7_labelOf : yX7_labelOf.cls = RX7 ∧ yX7_labelOf.cls ≠ "java/lang/invoke/MethodHandle" ∧ yX7_labelOf.cls ≠ "java/lang/invoke/VarHandle" ∧ (parseMethodDescriptor yX7_labelOf.desc).map (fun d => d.parameters.length) = some 1 := by decide +kernel
set_option maxHeartbeats 4000000 in
set_option maxRecDepth 100000 in
theorem cX7_labelOf_ok (l : Launch) (g : Gg) (m0 m1 m2 m3 m4 : Nat) (μ : Mo) (p0 : Int32) (sz : Nat) {o : Int32 × Mo} (hf : fX7_labelOf μ p0 = some o) : Met l yX7_labelOf wsX7_labelOf rmX7_labelOf (va_Pc [.ref m0, .int p0] (PM g (wM g m0 m1 m2 m3 m4 μ) sz)) (va_Qi (fun r' (_ : Unit) => r' = o.1) (fun _ t => PQ g (wM g m0 m1 m2 m3 m4 o.2) (va_A (wM g m0 m1 m2 m3 m4 μ) sz) t) (va_A (wM g m0 m1 m2 m3 m4 μ) sz)) 0 0 (va_A (wM g m0 m1 m2 m3 m4 μ) sz) := by
  refine Met.ofW (cc := cX7_labelOf) (maxL := 2) (ret := (some .int)) (by decide) rfl ?_
  intro p e s m args below meth c s₁ B hml hv
  obtain ⟨rfl, rfl, hP, hD0, hE, hZ⟩ := hv
  have hx := B.exec
  have hb := B.bytes
  have hr := B.returns
  have hts := atoms_spec (ws := wsX7_labelOf) B.pre
  have hown : s.vm.findClass RX7 = some m.cls := findClass_of_methodNamed B.named
  have hlocks := B.notSynchronized
  have hD := hD0.self (sz := s.heap.size)
  generalize hAe : (va_A (wM g m0 m1 m2 m3 m4 μ) s.heap.size) = A at hD hZ ⊢
  have hA : ∀ q : Nat, s.heap.size ≤ q → A q := fun q h => by rw [← hAe]; exact Or.inr h
  have hS : va_S A s.heap s.heap [] := va_S.rf
  have hP : va_P g.1 vwCl (wM g m0 m1 m2 m3 m4 μ) s.heap := hP
  have hl := lv_entry ([.ref m0, .int p0]) (n := 2) (Nat.le_of_ble_eq_true rfl)
  rw [lg_entry_eq]
  generalize (lg_sl ([.ref m0, .int p0]) ++ List.replicate (2 - (lg_sl ([.ref m0, .int p0])).length) Slot.unset).toArray = ls at hl ⊢
  have hl : lv_has ls 2 [(0, .ref m0), (1, .int p0)] := hl
  unfold fX7_labelOf at hf
  refine lv_aload_n hx hb dX7_labelOf_0 rfl (lv_at hl 0 rfl) ?_
  refine lv_iload_n hx hb dX7_labelOf_1 rfl (lv_at hl 1 rfl) ?_
  refine lv_iconst (v := (3 : Int32)) hx hb dX7_labelOf_2 (by decide) ?_
  obtain ⟨r_1, e_1, hf⟩ := bo hf
  refine mcallVi (W0 := (wM g m0 m1 m2 m3 m4 μ)) (Wc := (wM g m0 m1 m2 m3 m4 μ)) (Wr := ([] : va_W)) (W1 := (wM g m0 m1 m2 m3 m4 r_1.2)) (W2 := (wM g m0 m1 m2 m3 m4 r_1.2)) (As := [.int p0, .int (3 : Int32)]) (rest := []) [0, 1, 2, 3, 4] [] [0, 1, 2, 3, 4] 5 0 ⟨hx, hb, hml, hown, hts⟩ hP hD hE hZ hS hA (cX7_look_ok l g m0 m1 m2 m3 m4 μ p0 (3 : Int32) _ e_1) (cwV 2 hts gX7_labelOf_X7_look rfl rfl rfl hdX7_look ⟨(Nat.le_of_ble_eq_true rfl), (Nat.le_of_ble_eq_true rfl)⟩) rfl rfl rfl (by decide) (by decide) (by decide) (by decide) rfl rfl rfl rfl hl.1 rfl (Nat.le_of_ble_eq_true rfl) ⟨(Nat.le_of_ble_eq_true rfl), (Nat.le_of_ble_eq_true rfl)⟩ dX7_labelOf_3 (fun H locs hP hD hS => ?_)
  have ho := Option.some.inj hf
  subst ho
  exact m_iret (v := r_1.1) hx hb hr hlocks hP hD hS rfl dX7_labelOf_6

def fX7_labelEnd (μ : Mo) (p0 : Int32) : Option (Int32) := ((fX7_of μ p0 (3 : Int32)).bind fun r_1 => ((fX7_size μ p0).bind fun r_2 => ((fX7_at μ p0 ((r_1 + r_2) - (1 : Int32))).bind fun r_3 => (some r_3))))
abbrev rmX7_labelEnd : Room := { frames := 3, cells := 0, slots := 0, locals := 66 }
theorem hdX7_labelEnd : yX7_labelEnd.cls = RX7 ∧ yX7_labelEnd.cls ≠ "java/lang/invoke/MethodHandle" ∧ yX7_labelEnd.cls ≠ "java/lang/invoke/VarHandle" ∧ (parseMethodDescriptor yX7_labelEnd.desc).map (fun d => d.parameters.length) = some 1 := by decide +kernel
set_option maxHeartbeats 4000000 in
set_option maxRecDepth 100000 in
theorem cX7_labelEnd_ok (l : Launch) (g : Gg) (m0 m1 m2 m3 m4 : Nat) (μ : Mo) (p0 : Int32) {r : Int32} (hf : fX7_labelEnd μ p0 = some r) : Met l yX7_labelEnd wsX7_labelEnd rmX7_labelEnd (va_Pc [.ref m0, .int p0] (PP g (wM g m0 m1 m2 m3 m4 μ))) (vp_Si (fun r' => r' = r)) 0 0 (fun _ => False) := by
  refine Met.ofW (cc := cX7_labelEnd) (maxL := 2) (ret := (some .int)) (by decide) rfl ?_
  intro p e s m args below meth c s₁ B hml hv
  obtain ⟨rfl, hP, hE, hZ⟩ := hv
  have hx := B.exec
  have hb := B.bytes
  have hr := B.returns
  have hts := atoms_spec (ws := wsX7_labelEnd) B.pre
  have hown : s.vm.findClass RX7 = some m.cls := findClass_of_methodNamed B.named
  have hlocks := B.notSynchronized
  have hS : va_S (fun _ => False) s.heap s.heap [] := va_S.rf
  have hl := lv_entry ([.ref m0, .int p0]) (n := 2) (Nat.le_of_ble_eq_true rfl)
  rw [lg_entry_eq]
  generalize (lg_sl ([.ref m0, .int p0]) ++ List.replicate (2 - (lg_sl ([.ref m0, .int p0])).length) Slot.unset).toArray = ls at hl ⊢
  have hl : lv_has ls 2 [(0, .ref m0), (1, .int p0)] := hl
  unfold fX7_labelEnd at hf
  refine lv_aload_n hx hb dX7_labelEnd_0 rfl (lv_at hl 0 rfl) ?_
  refine lv_iload_n hx hb dX7_labelEnd_1 rfl (lv_at hl 1 rfl) ?_
  refine lv_aload_n hx hb dX7_labelEnd_2 rfl (lv_at hl 0 rfl) ?_
  refine lv_iload_n hx hb dX7_labelEnd_3 rfl (lv_at hl 1 rfl) ?_
  refine lv_iconst (v := (3 : Int32)) hx hb dX7_labelEnd_4 (by decide) ?_
  obtain ⟨r_1, e_1, hf⟩ := bo hf
  refine pcallV (W0 := (wM g m0 m1 m2 m3 m4 μ)) (As := [.int p0, .int (3 : Int32)]) (rest := [.int p0, .ref m0]) [0, 1, 2, 3, 4] 5 0 ⟨hx, hb, hml, hown, hts⟩ hP hE hZ hS (cX7_of_ok l g m0 m1 m2 m3 m4 μ p0 (3 : Int32) e_1) (cwV 2 hts gX7_labelEnd_X7_of rfl rfl rfl hdX7_of ⟨(Nat.le_of_ble_eq_true rfl), (Nat.le_of_ble_eq_true rfl)⟩) rfl rfl rfl rfl rfl hl.1 rfl (Nat.le_of_ble_eq_true rfl) ⟨(Nat.le_of_ble_eq_true rfl), (Nat.le_of_ble_eq_true rfl)⟩ dX7_labelEnd_5 ?_
  refine lv_aload_n hx hb dX7_labelEnd_8 rfl (lv_at hl 0 rfl) ?_
  refine lv_iload_n hx hb dX7_labelEnd_9 rfl (lv_at hl 1 rfl) ?_
  obtain ⟨r_2, e_2, hf⟩ := bo hf
  refine pcallV (W0 := (wM g m0 m1 m2 m3 m4 μ)) (As := [.int p0]) (rest := [.int r_1, .int p0, .ref m0]) [0, 1, 2, 3, 4] 5 0 ⟨hx, hb, hml, hown, hts⟩ hP hE hZ hS (cX7_size_ok l g m0 m1 m2 m3 m4 μ p0 e_2) (cwV 1 hts gX7_labelEnd_X7_size rfl rfl rfl hdX7_size ⟨(Nat.le_of_ble_eq_true rfl), (Nat.le_of_ble_eq_true rfl)⟩) rfl rfl rfl rfl rfl hl.1 rfl (Nat.le_of_ble_eq_true rfl) ⟨(Nat.le_of_ble_eq_true rfl), (Nat.le_of_ble_eq_true rfl)⟩ dX7_labelEnd_10 ?_
  refine lv_iadd hx hb dX7_labelEnd_13 ?_
  refine lv_iconst (v := (1 : Int32)) hx hb dX7_labelEnd_14 (by decide) ?_
  refine lv_isub hx hb dX7_labelEnd_15 ?_
  obtain ⟨r_3, e_3, hf⟩ := bo hf
  refine pcallV (W0 := (wM g m0 m1 m2 m3 m4 μ)) (As := [.int p0, .int ((r_1 + r_2) - (1 : Int32))]) (rest := []) [0, 1, 2, 3, 4] 5 0 ⟨hx, hb, hml, hown, hts⟩ hP hE hZ hS (cX7_at_ok l g m0 m1 m2 m3 m4 μ p0 ((r_1 + r_2) - (1 : Int32)) e_3) (cwV 2 hts gX7_labelEnd_X7_at rfl rfl rfl hdX7_at ⟨(Nat.le_of_ble_eq_true rfl), (Nat.le_of_ble_eq_true rfl)⟩) rfl rfl rfl rfl rfl hl.1 rfl (Nat.le_of_ble_eq_true rfl) ⟨(Nat.le_of_ble_eq_true rfl), (Nat.le_of_ble_eq_true rfl)⟩ dX7_labelEnd_16 ?_
  exact p_iret (v := r_3) hx hb hr hlocks (Option.some.inj hf) dX7_labelEnd_19
