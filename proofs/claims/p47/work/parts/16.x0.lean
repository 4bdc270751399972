def fX0_dotOf (p0 : Int32) : Option (Int32) := ((fX6_rowOf p0).bind fun r_1 => ((fX6_columnOf p0).bind fun r_2 => (some ((((((3 : Int32) * r_1) + (1 : Int32)) * (72 : Int32)) + ((3 : Int32) * r_2)) + (1 : Int32)))))
abbrev rmX0_dotOf : Room := { frames := 1, cells := 0, slots := 0, locals := 20 }
theorem hdX0_dotOf : yX0_dotOf.cls = RX0 ∧ yX0_dotOf.cls ≠ "java/lang/invoke/MethodHandle" ∧ yX0_dotOf.cls ≠ "java/lang/invoke/VarHandle" ∧ (parseMethodDescriptor yX0_dotOf.desc).map (fun d => d.parameters.length) = some 1 := by decide +kernel
theorem inX0_dotOf_X6 : (.initialized RX6 : Cond) ∈ wsX0_dotOf := by decide +kernel
theorem stX0_dotOf_X6_rowOf : (.static yX6_rowOf : Cond) ∈ wsX0_dotOf := by decide +kernel
theorem stX0_dotOf_X6_columnOf : (.static yX6_columnOf : Cond) ∈ wsX0_dotOf := by decide +kernel
set_option maxHeartbeats 4000000 in
set_option maxRecDepth 100000 in
theorem cX0_dotOf_ok (l : Launch) (g : Gg) (p0 : Int32) {r : Int32} (hf : fX0_dotOf p0 = some r) : Met l yX0_dotOf wsX0_dotOf rmX0_dotOf (va_Pc [.int p0] (PP g ([] : va_W))) (vp_Si (fun r' => r' = r)) 0 0 (fun _ => False) := by
  refine Met.ofW (cc := cX0_dotOf) (maxL := 1) (ret := (some .int)) (by decide) rfl ?_
  intro p e s m args below meth c s₁ B hml hv
  obtain ⟨rfl, hP, hE, hZ⟩ := hv
  have hx := B.exec
  have hb := B.bytes
  have hr := B.returns
  have hts := atoms_spec (ws := wsX0_dotOf) B.pre
  have hown : s.vm.findClass RX0 = some m.cls := findClass_of_methodNamed B.named
  have hlocks := B.notSynchronized
  have hS : va_S (fun _ => False) s.heap s.heap [] := va_S.rf
  have hl := lv_entry ([.int p0]) (n := 1) (Nat.le_of_ble_eq_true rfl)
  rw [lg_entry_eq]
  generalize (lg_sl ([.int p0]) ++ List.replicate (1 - (lg_sl ([.int p0])).length) Slot.unset).toArray = ls at hl ⊢
  have hl : lv_has ls 1 [(0, .int p0)] := hl
  unfold fX0_dotOf at hf
  refine lv_iconst (v := (3 : Int32)) hx hb dX0_dotOf_0 (by decide) ?_
  refine lv_iload_n hx hb dX0_dotOf_1 rfl (lv_at hl 0 rfl) ?_
  obtain ⟨r_1, e_1, hf⟩ := bo hf
  refine pcallN (W0 := ([] : va_W)) (As := [.int p0]) (rest := [.int (3 : Int32)]) [] ⟨hx, hb, hml, hown, hts⟩ hP hE hZ hS (cX6_rowOf_ok l g  p0 e_1) ⟨va_cnB (host := RX6) 1 hts gX0_dotOf_X6_rowOf_n16 rfl rfl rfl (hE.2.1 (.methodLinkNest RX0 16 yX6_rowOf RX6) (by decide +kernel)) (hts _ inX0_dotOf_X6) hdX6_rowOf.2 ⟨(Nat.le_of_ble_eq_true rfl), (Nat.le_of_ble_eq_true rfl)⟩, hts _ stX0_dotOf_X6_rowOf, trivial⟩ rfl rfl hl.1 rfl (Nat.le_of_ble_eq_true rfl) ⟨(Nat.le_of_ble_eq_true rfl), (Nat.le_of_ble_eq_true rfl)⟩ dX0_dotOf_2 ?_
  refine lv_imul hx hb dX0_dotOf_5 ?_
  refine lv_iconst (v := (1 : Int32)) hx hb dX0_dotOf_6 (by decide) ?_
  refine lv_iadd hx hb dX0_dotOf_7 ?_
  refine lv_bipush (v := (72 : Int32)) hx hb dX0_dotOf_8 (by decide) ?_
  refine lv_imul hx hb dX0_dotOf_10 ?_
  refine lv_iconst (v := (3 : Int32)) hx hb dX0_dotOf_11 (by decide) ?_
  refine lv_iload_n hx hb dX0_dotOf_12 rfl (lv_at hl 0 rfl) ?_
  obtain ⟨r_2, e_2, hf⟩ := bo hf
  refine pcallN (W0 := ([] : va_W)) (As := [.int p0]) (rest := [.int (3 : Int32), .int ((((3 : Int32) * r_1) + (1 : Int32)) * (72 : Int32))]) [] ⟨hx, hb, hml, hown, hts⟩ hP hE hZ hS (cX6_columnOf_ok l g  p0 e_2) ⟨va_cnB (host := RX6) 1 hts gX0_dotOf_X6_columnOf_n22 rfl rfl rfl (hE.2.1 (.methodLinkNest RX0 22 yX6_columnOf RX6) (by decide +kernel)) (hts _ inX0_dotOf_X6) hdX6_columnOf.2 ⟨(Nat.le_of_ble_eq_true rfl), (Nat.le_of_ble_eq_true rfl)⟩, hts _ stX0_dotOf_X6_columnOf, trivial⟩ rfl rfl hl.1 rfl (Nat.le_of_ble_eq_true rfl) ⟨(Nat.le_of_ble_eq_true rfl), (Nat.le_of_ble_eq_true rfl)⟩ dX0_dotOf_13 ?_
  refine lv_imul hx hb dX0_dotOf_16 ?_
  refine lv_iadd hx hb dX0_dotOf_17 ?_
  refine lv_iconst (v := (1 : Int32)) hx hb dX0_dotOf_18 (by decide) ?_
  refine lv_iadd hx hb dX0_dotOf_19 ?_
  exact p_iret (v := ((((((3 : Int32) * r_1) + (1 : Int32)) * (72 : Int32)) + ((3 : Int32) * r_2)) + (1 : Int32))) hx hb hr hlocks (Option.some.inj hf) dX0_dotOf_20

def fX0_isDot (p0 : Int32) : Option (Bool) := (if p0 < 0 then (some false) else (if (3456 : Int32) ≤ p0 then (some false) else (some true)))
abbrev rmX0_isDot : Room := { frames := 0, cells := 0, slots := 0, locals := 0 }
theorem hdX0_isDot : yX0_isDot.cls = RX0 ∧ yX0_isDot.cls ≠ "java/lang/invoke/MethodHandle" ∧ yX0_isDot.cls ≠ "java/lang/invoke/VarHandle" ∧ (parseMethodDescriptor yX0_isDot.desc).map (fun d => d.parameters.length) = some 1 := by decide +kernel
set_option maxHeartbeats 4000000 in
set_option maxRecDepth 100000 in
theorem cX0_isDot_ok (l : Launch) (g : Gg) (p0 : Int32) {r : Bool} (hf : fX0_isDot p0 = some r) : Met l yX0_isDot wsX0_isDot rmX0_isDot (va_Pc [.int p0] (PP g ([] : va_W))) (vp_Si (fun r' => r' = b2i r)) 0 0 (fun _ => False) := by
  refine Met.ofW (cc := cX0_isDot) (maxL := 1) (ret := (some .boolean)) (by decide) rfl ?_
  intro p e s m args below meth c s₁ B hml hv
  obtain ⟨rfl, hP, hE, hZ⟩ := hv
  have hx := B.exec
  have hb := B.bytes
  have hr := B.returns
  have hts := atoms_spec (ws := wsX0_isDot) B.pre
  have hown : s.vm.findClass RX0 = some m.cls := findClass_of_methodNamed B.named
  have hlocks := B.notSynchronized
  have hS : va_S (fun _ => False) s.heap s.heap [] := va_S.rf
  have hl := lv_entry ([.int p0]) (n := 1) (Nat.le_of_ble_eq_true rfl)
  rw [lg_entry_eq]
  generalize (lg_sl ([.int p0]) ++ List.replicate (1 - (lg_sl ([.int p0])).length) Slot.unset).toArray = ls at hl ⊢
  have hl : lv_has ls 1 [(0, .int p0)] := hl
  unfold fX0_isDot at hf
  refine lv_iload_n hx hb dX0_isDot_0 rfl (lv_at hl 0 rfl) ?_
  refine lv_if_lt (tgt := 15) hx hb dX0_isDot_1 (by decide) (fun c_1 => ?_) (fun c_1 => ?_)
  · have hf := ip c_1 hf
    refine lv_iconst (v := (0 : Int32)) hx hb dX0_isDot_15 (by decide) ?_
    exact p_zret (v := false) hx hb hr hlocks (Option.some.inj hf) dX0_isDot_16
  · have hf := iq c_1 hf
    refine lv_iload_n hx hb dX0_isDot_4 rfl (lv_at hl 0 rfl) ?_
    refine lv_sipush (v := (3456 : Int32)) hx hb dX0_isDot_5 (by decide) ?_
    refine lv_icmp_ge (tgt := 15) hx hb dX0_isDot_8 (by decide) (fun c_2 => ?_) (fun c_2 => ?_)
    · have hf := ip c_2 hf
      refine lv_iconst (v := (0 : Int32)) hx hb dX0_isDot_15 (by decide) ?_
      exact p_zret (v := false) hx hb hr hlocks (Option.some.inj hf) dX0_isDot_16
    · have hf := iq c_2 hf
      refine lv_iconst (v := (1 : Int32)) hx hb dX0_isDot_11 (by decide) ?_
      refine lv_goto (tgt := 16) hx hb dX0_isDot_12 (by decide) ?_
      exact p_zret (v := true) hx hb hr hlocks (Option.some.inj hf) dX0_isDot_16

def fX0_drawStep_26 (p0 p1 : Int32) (v3_26 : Int32) : Nat → Int32 → Dr → Option (Dr)
  | 0, _, _ => none
  | n + 1, v4_26, δ_26 => (if (3 : Int32) ≤ v4_26 then (some δ_26) else ((fX0_isDot (p0 + (v4_26 * v3_26))).bind fun r_2 => (if r_2 = true then (if inR (p0 + (v4_26 * v3_26)) 3456 then fX0_drawStep_26 p0 p1 v3_26 n (v4_26 + 1) (D_dots' δ_26 (upd (D_dots δ_26) (Int32.toNatClampNeg (p0 + (v4_26 * v3_26))) (1 : Int32))) else none) else fX0_drawStep_26 p0 p1 v3_26 n (v4_26 + 1) δ_26)))
def fX0_drawStep (δ : Dr) (p0 p1 : Int32) : Option (Dr) := ((fX6_isDirection p1).bind fun r_5 => (if r_5 = true then (if inR p1 8 then fX0_drawStep_26 p0 p1 (((tdn p1) * (72 : Int32)) + (tac p1)) FU (0 : Int32) δ else none) else (some δ)))
abbrev rmX0_drawStep : Room := { frames := 1, cells := 0, slots := 0, locals := 20 }
theorem hdX0_drawStep : yX0_drawStep.cls = RX0 ∧ yX0_drawStep.cls ≠ "java/lang/invoke/MethodHandle" ∧ yX0_drawStep.cls ≠ "java/lang/invoke/VarHandle" ∧ (parseMethodDescriptor yX0_drawStep.desc).map (fun d => d.parameters.length) = some 2 := by decide +kernel
theorem fiX0_drawStep_X0 : ∀ w ∈ wsX00, w ∈ wsX0_drawStep := by decide +kernel
theorem flX0_drawStep_9 : (.fieldLink RX0 9 "ContourLabels$Drawing" "dots" "[I" : Cond) ∈ wsX0_drawStep := by decide +kernel
theorem inX0_drawStep_X6 : (.initialized RX6 : Cond) ∈ wsX0_drawStep := by decide +kernel
theorem stX0_drawStep_X6_isDirection : (.static yX6_isDirection : Cond) ∈ wsX0_drawStep := by decide +kernel
set_option maxHeartbeats 4000000 in
set_option maxRecDepth 100000 in
theorem cX0_drawStep_ok (l : Launch) (g : Gg) (d0 d1 d2 : Nat) (δ : Dr) (p0 p1 : Int32) (sz : Nat) {o : Dr} (hf : fX0_drawStep δ p0 p1 = some o) : Met l yX0_drawStep wsX0_drawStep rmX0_drawStep (va_Pc [.ref d0, .int p0, .int p1] (PM g (wD g d0 d1 d2 δ) sz)) (va_Qv (fun _ : Unit => True) (fun _ t => PQ g (wD g d0 d1 d2 o) (va_A (wD g d0 d1 d2 δ) sz) t) (va_A (wD g d0 d1 d2 δ) sz)) 0 0 (va_A (wD g d0 d1 d2 δ) sz) := by
  refine Met.ofW (cc := cX0_drawStep) (maxL := 6) (ret := none) (by decide) rfl ?_
  intro p e s m args below meth c s₁ B hml hv
  obtain ⟨rfl, rfl, hP, hD0, hE, hZ⟩ := hv
  have hx := B.exec
  have hb := B.bytes
  have hr := B.returns
  have hts := atoms_spec (ws := wsX0_drawStep) B.pre
  have hown : s.vm.findClass RX0 = some m.cls := findClass_of_methodNamed B.named
  have hlocks := B.notSynchronized
  have hD := hD0.self (sz := s.heap.size)
  generalize hAe : (va_A (wD g d0 d1 d2 δ) s.heap.size) = A at hD hZ ⊢
  have hA : ∀ q : Nat, s.heap.size ≤ q → A q := fun q h => by rw [← hAe]; exact Or.inr h
  have hS : va_S A s.heap s.heap [] := va_S.rf
  have hP : va_P g.1 vwCl (wD g d0 d1 d2 δ) s.heap := hP
  have hl := lv_entry ([.ref d0, .int p0, .int p1]) (n := 6) (Nat.le_of_ble_eq_true rfl)
  rw [lg_entry_eq]
  generalize (lg_sl ([.ref d0, .int p0, .int p1]) ++ List.replicate (6 - (lg_sl ([.ref d0, .int p0, .int p1])).length) Slot.unset).toArray = ls at hl ⊢
  have hl : lv_has ls 6 [(0, .ref d0), (1, .int p0), (2, .int p1)] := hl
  have hB26 : ∀ (v3_26 : Int32) (n26 : Nat) (v4_26 : Int32) (δ_26 : Dr) (H : Heap) (locs : List Loc) (ls : Array Slot), va_P g.1 vwCl (wD g d0 d1 d2 δ_26) H → va_D A (wD g d0 d1 d2 δ_26) → va_S A s.heap H locs → lv_has ls 6 [(0, .ref d0), (1, .int p0), (3, .int v3_26), (4, .int v4_26)] → fX0_drawStep_26 p0 p1 v3_26 n26 v4_26 δ_26 = some o → W p l e (headSpec wsX0_drawStep rmX0_drawStep).room s m ([.ref d0, .int p0, .int p1] : List Value).toArray below meth c H locs 0 0 (MQ below (va_Qv (fun _ : Unit => True) (fun _ t => PQ g (wD g d0 d1 d2 o) A t) A) ([.ref d0, .int p0, .int p1] : List Value).toArray s 0 0 A) (F0 m 26 ls []) := by
    intro v3_26 n26
    induction n26 with
    | zero => intro v4_26 δ_26 H locs ls hP hD hS hl hf; exact nomatch (show (none : Option (Dr)) = some _ from hf)
    | succ n26 ih26 =>
      intro v4_26 δ_26 H locs ls hP hD hS hl hf
      rw [fX0_drawStep_26] at hf
      refine lv_iload hx hb dX0_drawStep_26 (lv_at hl 3 rfl) ?_
      refine lv_iconst (v := (3 : Int32)) hx hb dX0_drawStep_28 (by decide) ?_
      refine lv_icmp_ge (tgt := 62) hx hb dX0_drawStep_29 (by decide) (fun c_1 => ?_) (fun c_1 => ?_)
      · have hf := ip c_1 hf
        have ho := Option.some.inj hf
        subst ho
        exact m_vret hx hb hr hlocks hP hD hS dX0_drawStep_62
      · have hf := iq c_1 hf
        refine lv_iload_n hx hb dX0_drawStep_32 rfl (lv_at hl 1 rfl) ?_
        refine lv_iload hx hb dX0_drawStep_33 (lv_at hl 3 rfl) ?_
        refine lv_iload_n hx hb dX0_drawStep_35 rfl (lv_at hl 2 rfl) ?_
        refine lv_imul hx hb dX0_drawStep_36 ?_
        refine lv_iadd hx hb dX0_drawStep_37 ?_
        refine lv_istore (lv' := [(5, .int (p0 + (v4_26 * v3_26))), (0, .ref d0), (1, .int p0), (3, .int v3_26), (4, .int v4_26)]) hx hb dX0_drawStep_38 hl (by decide) rfl (fun ls hl => ?_)
        refine lv_iload hx hb dX0_drawStep_40 (lv_at hl 0 rfl) ?_
        obtain ⟨r_2, e_2, hf⟩ := bo hf
        refine pcallS (W0 := (wD g d0 d1 d2 δ_26)) (As := [.int (p0 + (v4_26 * v3_26))]) (rest := []) [] ⟨hx, hb, hml, hown, hts⟩ hP hE hZ hS (cX0_isDot_ok l g  (p0 + (v4_26 * v3_26)) e_2) (va_cwS 1 hts gX0_drawStep_X0_isDot rfl rfl rfl hdX0_isDot.2 ⟨(Nat.le_of_ble_eq_true rfl), (Nat.le_of_ble_eq_true rfl)⟩) rfl rfl hl.1 rfl (Nat.le_of_ble_eq_true rfl) ⟨(Nat.le_of_ble_eq_true rfl), (Nat.le_of_ble_eq_true rfl)⟩ dX0_drawStep_42 ?_
        refine lv_beq (tgt := 56) hx hb dX0_drawStep_45 (by decide) (fun c_3 => ?_) (fun c_3 => ?_)
        · have hf := iq c_3 hf
          refine lv_iinc (v := (v4_26 + 1)) (lv' := [(4, .int (v4_26 + 1)), (5, .int (p0 + (v4_26 * v3_26))), (0, .ref d0), (1, .int p0), (3, .int v3_26)]) hx hb dX0_drawStep_56 hl (k := 4) rfl rfl (by decide) rfl (fun ls hl => ?_)
          refine lv_goto (tgt := 26) hx hb dX0_drawStep_59 (by decide) ?_
          exact ih26 (v4_26 + 1) δ_26 _ _ ls hP hD hS (lv_sub hl [2, 3, 4, 0] rfl) hf
        · have hf := ip c_3 hf
          refine lv_aload_n hx hb dX0_drawStep_48 rfl (lv_at hl 1 rfl) ?_
          refine va_get (v := .ref d1) (C := RX0) (T := TX0) (N := 3) hx hb hts fiX0_drawStep_X0 hown hE.1 hP 0 rfl rfl 0 (by decide) (hts _ flX0_drawStep_9) (fun _ h9 => h9) rfl dX0_drawStep_49 ?_
          refine lv_iload hx hb dX0_drawStep_52 (lv_at hl 0 rfl) ?_
          refine lv_iconst (v := (1 : Int32)) hx hb dX0_drawStep_54 (by decide) ?_
          obtain ⟨h_4, hf⟩ := ck hf
          refine va_iast hx hb hE.1 hP hD hS 1 0 rfl rfl (vin h_4) dX0_drawStep_55 (fun H locs hP hD hS => ?_)
          have hP : va_P g.1 vwCl (wD g d0 d1 d2 (D_dots' δ_26 (upd (D_dots δ_26) (Int32.toNatClampNeg (p0 + (v4_26 * v3_26))) (1 : Int32)))) H := hP
          have hD : va_D A (wD g d0 d1 d2 (D_dots' δ_26 (upd (D_dots δ_26) (Int32.toNatClampNeg (p0 + (v4_26 * v3_26))) (1 : Int32)))) := hD
          refine lv_iinc (v := (v4_26 + 1)) (lv' := [(4, .int (v4_26 + 1)), (5, .int (p0 + (v4_26 * v3_26))), (0, .ref d0), (1, .int p0), (3, .int v3_26)]) hx hb dX0_drawStep_56 hl (k := 4) rfl rfl (by decide) rfl (fun ls hl => ?_)
          refine lv_goto (tgt := 26) hx hb dX0_drawStep_59 (by decide) ?_
          exact ih26 (v4_26 + 1) (D_dots' δ_26 (upd (D_dots δ_26) (Int32.toNatClampNeg (p0 + (v4_26 * v3_26))) (1 : Int32))) _ _ ls hP hD hS (lv_sub hl [2, 3, 4, 0] rfl) hf
  unfold fX0_drawStep at hf
  refine lv_iload_n hx hb dX0_drawStep_0 rfl (lv_at hl 2 rfl) ?_
  obtain ⟨r_5, e_5, hf⟩ := bo hf
  refine pcallN (W0 := (wD g d0 d1 d2 δ)) (As := [.int p1]) (rest := []) [] ⟨hx, hb, hml, hown, hts⟩ hP hE hZ hS (cX6_isDirection_ok l g  p1 e_5) ⟨va_cnB (host := RX6) 1 hts gX0_drawStep_X6_isDirection_n44 rfl rfl rfl (hE.2.1 (.methodLinkNest RX0 44 yX6_isDirection RX6) (by decide +kernel)) (hts _ inX0_drawStep_X6) hdX6_isDirection.2 ⟨(Nat.le_of_ble_eq_true rfl), (Nat.le_of_ble_eq_true rfl)⟩, hts _ stX0_drawStep_X6_isDirection, trivial⟩ rfl rfl hl.1 rfl (Nat.le_of_ble_eq_true rfl) ⟨(Nat.le_of_ble_eq_true rfl), (Nat.le_of_ble_eq_true rfl)⟩ dX0_drawStep_1 ?_
  refine lv_bne (tgt := 8) hx hb dX0_drawStep_4 (by decide) (fun c_6 => ?_) (fun c_6 => ?_)
  · have hf := ip c_6 hf
    refine va_getsN hx hb hZ.2.2.1 hS hown (va_Nw.use rfl (hE.2.1 (.fieldLinkNest RX0 48 "ContourLabels" "DOWN" "[I" RX6) (by decide +kernel))) (fun _ h9 => h9) dX0_drawStep_8 ?_
    refine lv_iload_n hx hb dX0_drawStep_11 rfl (lv_at hl 2 rfl) ?_
    obtain ⟨h_7, hf⟩ := ck hf
    refine va_ti (v := .int (tdn p1)) hx hb hZ.2.2.2.1 hS (vin h_7) rfl dX0_drawStep_12 ?_
    refine lv_bipush (v := (72 : Int32)) hx hb dX0_drawStep_13 (by decide) ?_
    refine lv_imul hx hb dX0_drawStep_15 ?_
    refine va_getsN hx hb hZ.1 hS hown (va_Nw.use rfl (hE.2.1 (.fieldLinkNest RX0 51 "ContourLabels" "ACROSS" "[I" RX6) (by decide +kernel))) (fun _ h9 => h9) dX0_drawStep_16 ?_
    refine lv_iload_n hx hb dX0_drawStep_19 rfl (lv_at hl 2 rfl) ?_
    refine va_ti (v := .int (tac p1)) hx hb hZ.2.1 hS (vin h_7) rfl dX0_drawStep_20 ?_
    refine lv_iadd hx hb dX0_drawStep_21 ?_
    refine lv_istore_n (lv' := [(3, .int (((tdn p1) * (72 : Int32)) + (tac p1))), (0, .ref d0), (1, .int p0), (2, .int p1)]) hx hb dX0_drawStep_22 rfl hl (by decide) rfl (fun ls hl => ?_)
    refine lv_iconst (v := (0 : Int32)) hx hb dX0_drawStep_23 (by decide) ?_
    refine lv_istore (lv' := [(4, .int (0 : Int32)), (3, .int (((tdn p1) * (72 : Int32)) + (tac p1))), (0, .ref d0), (1, .int p0), (2, .int p1)]) hx hb dX0_drawStep_24 hl (by decide) rfl (fun ls hl => ?_)
    exact hB26 (((tdn p1) * (72 : Int32)) + (tac p1)) FU (0 : Int32) δ _ _ ls hP hD hS (lv_sub hl [2, 3, 1, 0] rfl) hf
  · have hf := iq c_6 hf
    have ho := Option.some.inj hf
    subst ho
    exact m_vret hx hb hr hlocks hP hD hS dX0_drawStep_7

def fX0_drawLine_31 (σ : Sh) (p1 : Int32) (v3_31 : Int32) : Nat → Int32 → Dr → Option (Dr)
  | 0, _, _ => none
  | n + 1, v4_31, δ_31 => (if v3_31 ≤ v4_31 then (some δ_31) else ((fX4_pointAt σ p1 v4_31).bind fun r_2 => ((fX0_dotOf r_2).bind fun r_3 => ((fX4_directionAt σ p1 v4_31).bind fun r_4 => ((fX0_drawStep δ_31 r_3 r_4).bind fun r_5 => fX0_drawLine_31 σ p1 v3_31 n (v4_31 + 1) r_5)))))
def fX0_drawLine_2 (σ : Sh) (p1 : Int32) : Nat → Int32 → Dr → Option (Dr)
  | 0, _, _ => none
  | n + 1, v3_2, δ_2 => (if (3456 : Int32) ≤ v3_2 then ((fX4_stepCount σ p1).bind fun r_7 => fX0_drawLine_31 σ p1 r_7 FU (0 : Int32) δ_2) else (if inR v3_2 3456 then fX0_drawLine_2 σ p1 n (v3_2 + 1) (D_dots' δ_2 (upd (D_dots δ_2) (Int32.toNatClampNeg v3_2) (0 : Int32))) else none))
def fX0_drawLine (σ : Sh) (δ : Dr) (p1 : Int32) : Option (Dr) := fX0_drawLine_2 σ p1 FU (0 : Int32) δ
abbrev rmX0_drawLine : Room := { frames := 2, cells := 0, slots := 0, locals := 45 }
theorem hdX0_drawLine : yX0_drawLine.cls = RX0 ∧ yX0_drawLine.cls ≠ "java/lang/invoke/MethodHandle" ∧ yX0_drawLine.cls ≠ "java/lang/invoke/VarHandle" ∧ (parseMethodDescriptor yX0_drawLine.desc).map (fun d => d.parameters.length) = some 2 := by decide +kernel
theorem fiX0_drawLine_X0 : ∀ w ∈ wsX00, w ∈ wsX0_drawLine := by decide +kernel
theorem flX0_drawLine_9 : (.fieldLink RX0 9 "ContourLabels$Drawing" "dots" "[I" : Cond) ∈ wsX0_drawLine := by decide +kernel
set_option maxHeartbeats 4000000 in
set_option maxRecDepth 100000 in
theorem cX0_drawLine_ok (l : Launch) (g : Gg) (h a1 a2 a3 a4 d0 d1 d2 : Nat) (σ : Sh) (δ : Dr) (p1 : Int32) (sz : Nat) {o : Dr} (hf : fX0_drawLine σ δ p1 = some o) : Met l yX0_drawLine wsX0_drawLine rmX0_drawLine (va_Pc [.ref d0, .ref h, .int p1] (PM g (wS g h a1 a2 a3 a4 σ ++ (wD g d0 d1 d2 δ)) sz)) (va_Qv (fun _ : Unit => True) (fun _ t => PQ g (wS g h a1 a2 a3 a4 σ ++ (wD g d0 d1 d2 o)) (va_A (wS g h a1 a2 a3 a4 σ ++ (wD g d0 d1 d2 δ)) sz) t) (va_A (wS g h a1 a2 a3 a4 σ ++ (wD g d0 d1 d2 δ)) sz)) 0 0 (va_A (wS g h a1 a2 a3 a4 σ ++ (wD g d0 d1 d2 δ)) sz) := by
  refine Met.ofW (cc := cX0_drawLine) (maxL := 5) (ret := none) (by decide) rfl ?_
  intro p e s m args below meth c s₁ B hml hv
  obtain ⟨rfl, rfl, hP, hD0, hE, hZ⟩ := hv
  have hx := B.exec
  have hb := B.bytes
  have hr := B.returns
  have hts := atoms_spec (ws := wsX0_drawLine) B.pre
  have hown : s.vm.findClass RX0 = some m.cls := findClass_of_methodNamed B.named
  have hlocks := B.notSynchronized
  have hD := hD0.self (sz := s.heap.size)
  generalize hAe : (va_A (wS g h a1 a2 a3 a4 σ ++ (wD g d0 d1 d2 δ)) s.heap.size) = A at hD hZ ⊢
  have hA : ∀ q : Nat, s.heap.size ≤ q → A q := fun q h => by rw [← hAe]; exact Or.inr h
  have hS : va_S A s.heap s.heap [] := va_S.rf
  have hP : va_P g.1 vwCl (wS g h a1 a2 a3 a4 σ ++ (wD g d0 d1 d2 δ)) s.heap := hP
  have hl := lv_entry ([.ref d0, .ref h, .int p1]) (n := 5) (Nat.le_of_ble_eq_true rfl)
  rw [lg_entry_eq]
  generalize (lg_sl ([.ref d0, .ref h, .int p1]) ++ List.replicate (5 - (lg_sl ([.ref d0, .ref h, .int p1])).length) Slot.unset).toArray = ls at hl ⊢
  have hl : lv_has ls 5 [(0, .ref d0), (1, .ref h), (2, .int p1)] := hl
  have hB31 : ∀ (v3_31 : Int32) (n31 : Nat) (v4_31 : Int32) (δ_31 : Dr) (H : Heap) (locs : List Loc) (ls : Array Slot), va_P g.1 vwCl (wS g h a1 a2 a3 a4 σ ++ (wD g d0 d1 d2 δ_31)) H → va_D A (wS g h a1 a2 a3 a4 σ ++ (wD g d0 d1 d2 δ_31)) → va_S A s.heap H locs → lv_has ls 5 [(0, .ref d0), (1, .ref h), (2, .int p1), (3, .int v3_31), (4, .int v4_31)] → fX0_drawLine_31 σ p1 v3_31 n31 v4_31 δ_31 = some o → W p l e (headSpec wsX0_drawLine rmX0_drawLine).room s m ([.ref d0, .ref h, .int p1] : List Value).toArray below meth c H locs 0 0 (MQ below (va_Qv (fun _ : Unit => True) (fun _ t => PQ g (wS g h a1 a2 a3 a4 σ ++ (wD g d0 d1 d2 o)) A t) A) ([.ref d0, .ref h, .int p1] : List Value).toArray s 0 0 A) (F0 m 31 ls []) := by
    intro v3_31 n31
    induction n31 with
    | zero => intro v4_31 δ_31 H locs ls hP hD hS hl hf; exact nomatch (show (none : Option (Dr)) = some _ from hf)
    | succ n31 ih31 =>
      intro v4_31 δ_31 H locs ls hP hD hS hl hf
      rw [fX0_drawLine_31] at hf
      refine lv_iload hx hb dX0_drawLine_31 (lv_at hl 4 rfl) ?_
      refine lv_iload_n hx hb dX0_drawLine_33 rfl (lv_at hl 3 rfl) ?_
      refine lv_icmp_ge (tgt := 64) hx hb dX0_drawLine_34 (by decide) (fun c_1 => ?_) (fun c_1 => ?_)
      · have hf := ip c_1 hf
        have ho := Option.some.inj hf
        subst ho
        exact m_vret hx hb hr hlocks hP hD hS dX0_drawLine_64
      · have hf := iq c_1 hf
        refine lv_aload_n hx hb dX0_drawLine_37 rfl (lv_at hl 0 rfl) ?_
        refine lv_aload_n hx hb dX0_drawLine_38 rfl (lv_at hl 1 rfl) ?_
        refine lv_iload_n hx hb dX0_drawLine_39 rfl (lv_at hl 2 rfl) ?_
        refine lv_iload hx hb dX0_drawLine_40 (lv_at hl 4 rfl) ?_
        obtain ⟨r_2, e_2, hf⟩ := bo hf
        refine pcallV (W0 := (wS g h a1 a2 a3 a4 σ ++ (wD g d0 d1 d2 δ_31))) (As := [.int p1, .int v4_31]) (rest := [.ref d0]) [0, 1, 2, 3, 4] 3 0 ⟨hx, hb, hml, hown, hts⟩ hP hE hZ hS (cX4_pointAt_ok l g h a1 a2 a3 a4 σ p1 v4_31 e_2) (cwV 2 hts gX0_drawLine_X4_pointAt rfl rfl rfl hdX4_pointAt ⟨(Nat.le_of_ble_eq_true rfl), (Nat.le_of_ble_eq_true rfl)⟩) rfl rfl rfl rfl rfl hl.1 rfl (Nat.le_of_ble_eq_true rfl) ⟨(Nat.le_of_ble_eq_true rfl), (Nat.le_of_ble_eq_true rfl)⟩ dX0_drawLine_42 ?_
        obtain ⟨r_3, e_3, hf⟩ := bo hf
        refine pcallS (W0 := (wS g h a1 a2 a3 a4 σ ++ (wD g d0 d1 d2 δ_31))) (As := [.int r_2]) (rest := [.ref d0]) [] ⟨hx, hb, hml, hown, hts⟩ hP hE hZ hS (cX0_dotOf_ok l g  r_2 e_3) (va_cwS 1 hts gX0_drawLine_X0_dotOf rfl rfl rfl hdX0_dotOf.2 ⟨(Nat.le_of_ble_eq_true rfl), (Nat.le_of_ble_eq_true rfl)⟩) rfl rfl hl.1 rfl (Nat.le_of_ble_eq_true rfl) ⟨(Nat.le_of_ble_eq_true rfl), (Nat.le_of_ble_eq_true rfl)⟩ dX0_drawLine_45 ?_
        refine lv_aload_n hx hb dX0_drawLine_48 rfl (lv_at hl 1 rfl) ?_
        refine lv_iload_n hx hb dX0_drawLine_49 rfl (lv_at hl 2 rfl) ?_
        refine lv_iload hx hb dX0_drawLine_50 (lv_at hl 4 rfl) ?_
        obtain ⟨r_4, e_4, hf⟩ := bo hf
        refine pcallV (W0 := (wS g h a1 a2 a3 a4 σ ++ (wD g d0 d1 d2 δ_31))) (As := [.int p1, .int v4_31]) (rest := [.int r_3, .ref d0]) [0, 1, 2, 3, 4] 3 0 ⟨hx, hb, hml, hown, hts⟩ hP hE hZ hS (cX4_directionAt_ok l g h a1 a2 a3 a4 σ p1 v4_31 e_4) (cwV 2 hts gX0_drawLine_X4_directionAt rfl rfl rfl hdX4_directionAt ⟨(Nat.le_of_ble_eq_true rfl), (Nat.le_of_ble_eq_true rfl)⟩) rfl rfl rfl rfl rfl hl.1 rfl (Nat.le_of_ble_eq_true rfl) ⟨(Nat.le_of_ble_eq_true rfl), (Nat.le_of_ble_eq_true rfl)⟩ dX0_drawLine_52 ?_
        obtain ⟨r_5, e_5, hf⟩ := bo hf
        refine mcallVv (W0 := (wS g h a1 a2 a3 a4 σ ++ (wD g d0 d1 d2 δ_31))) (Wc := (wD g d0 d1 d2 δ_31)) (Wr := (wS g h a1 a2 a3 a4 σ)) (W1 := (wD g d0 d1 d2 r_5)) (W2 := (wS g h a1 a2 a3 a4 σ ++ (wD g d0 d1 d2 r_5))) (As := [.int r_3, .int r_4]) (rest := []) [5, 6, 7] [0, 1, 2, 3, 4] [0, 1, 2, 3, 4, 5, 6, 7] 0 0 ⟨hx, hb, hml, hown, hts⟩ hP hD hE hZ hS hA (cX0_drawStep_ok l g d0 d1 d2 δ_31 r_3 r_4 _ e_5) (cwV 2 hts gX0_drawLine_X0_drawStep rfl rfl rfl hdX0_drawStep ⟨(Nat.le_of_ble_eq_true rfl), (Nat.le_of_ble_eq_true rfl)⟩) rfl rfl rfl (by decide) (by decide) (by decide) (by decide) rfl rfl rfl rfl hl.1 rfl (Nat.le_of_ble_eq_true rfl) ⟨(Nat.le_of_ble_eq_true rfl), (Nat.le_of_ble_eq_true rfl)⟩ dX0_drawLine_55 (fun H locs hP hD hS => ?_)
        refine lv_iinc (v := (v4_31 + 1)) (lv' := [(4, .int (v4_31 + 1)), (0, .ref d0), (1, .ref h), (2, .int p1), (3, .int v3_31)]) hx hb dX0_drawLine_58 hl (k := 4) rfl rfl (by decide) rfl (fun ls hl => ?_)
        refine lv_goto (tgt := 31) hx hb dX0_drawLine_61 (by decide) ?_
        exact ih31 (v4_31 + 1) r_5 _ _ ls hP hD hS (lv_sub hl [1, 2, 3, 4, 0] rfl) hf
  have hB2 : ∀ (n2 : Nat) (v3_2 : Int32) (δ_2 : Dr) (H : Heap) (locs : List Loc) (ls : Array Slot), va_P g.1 vwCl (wS g h a1 a2 a3 a4 σ ++ (wD g d0 d1 d2 δ_2)) H → va_D A (wS g h a1 a2 a3 a4 σ ++ (wD g d0 d1 d2 δ_2)) → va_S A s.heap H locs → lv_has ls 5 [(0, .ref d0), (1, .ref h), (2, .int p1), (3, .int v3_2)] → fX0_drawLine_2 σ p1 n2 v3_2 δ_2 = some o → W p l e (headSpec wsX0_drawLine rmX0_drawLine).room s m ([.ref d0, .ref h, .int p1] : List Value).toArray below meth c H locs 0 0 (MQ below (va_Qv (fun _ : Unit => True) (fun _ t => PQ g (wS g h a1 a2 a3 a4 σ ++ (wD g d0 d1 d2 o)) A t) A) ([.ref d0, .ref h, .int p1] : List Value).toArray s 0 0 A) (F0 m 2 ls []) := by
    intro  n2
    induction n2 with
    | zero => intro v3_2 δ_2 H locs ls hP hD hS hl hf; exact nomatch (show (none : Option (Dr)) = some _ from hf)
    | succ n2 ih2 =>
      intro v3_2 δ_2 H locs ls hP hD hS hl hf
      rw [fX0_drawLine_2] at hf
      refine lv_iload_n hx hb dX0_drawLine_2 rfl (lv_at hl 3 rfl) ?_
      refine lv_sipush (v := (3456 : Int32)) hx hb dX0_drawLine_3 (by decide) ?_
      refine lv_icmp_ge (tgt := 22) hx hb dX0_drawLine_6 (by decide) (fun c_6 => ?_) (fun c_6 => ?_)
      · have hf := ip c_6 hf
        refine lv_aload_n hx hb dX0_drawLine_22 rfl (lv_at hl 1 rfl) ?_
        refine lv_iload_n hx hb dX0_drawLine_23 rfl (lv_at hl 2 rfl) ?_
        obtain ⟨r_7, e_7, hf⟩ := bo hf
        refine pcallV (W0 := (wS g h a1 a2 a3 a4 σ ++ (wD g d0 d1 d2 δ_2))) (As := [.int p1]) (rest := []) [0, 1, 2, 3, 4] 3 0 ⟨hx, hb, hml, hown, hts⟩ hP hE hZ hS (cX4_stepCount_ok l g h a1 a2 a3 a4 σ p1 e_7) (cwV 1 hts gX0_drawLine_X4_stepCount rfl rfl rfl hdX4_stepCount ⟨(Nat.le_of_ble_eq_true rfl), (Nat.le_of_ble_eq_true rfl)⟩) rfl rfl rfl rfl rfl hl.1 rfl (Nat.le_of_ble_eq_true rfl) ⟨(Nat.le_of_ble_eq_true rfl), (Nat.le_of_ble_eq_true rfl)⟩ dX0_drawLine_24 ?_
        refine lv_istore_n (lv' := [(3, .int r_7), (0, .ref d0), (1, .ref h), (2, .int p1)]) hx hb dX0_drawLine_27 rfl hl (by decide) rfl (fun ls hl => ?_)
        refine lv_iconst (v := (0 : Int32)) hx hb dX0_drawLine_28 (by decide) ?_
        refine lv_istore (lv' := [(4, .int (0 : Int32)), (3, .int r_7), (0, .ref d0), (1, .ref h), (2, .int p1)]) hx hb dX0_drawLine_29 hl (by decide) rfl (fun ls hl => ?_)
        exact hB31 r_7 FU (0 : Int32) δ_2 _ _ ls hP hD hS (lv_sub hl [2, 3, 4, 1, 0] rfl) hf
      · have hf := iq c_6 hf
        refine lv_aload_n hx hb dX0_drawLine_9 rfl (lv_at hl 0 rfl) ?_
        refine va_get (v := .ref d1) (C := RX0) (T := TX0) (N := 3) hx hb hts fiX0_drawLine_X0 hown hE.1 hP 5 rfl rfl 0 (by decide) (hts _ flX0_drawLine_9) (fun _ h9 => h9) rfl dX0_drawLine_10 ?_
        refine lv_iload_n hx hb dX0_drawLine_13 rfl (lv_at hl 3 rfl) ?_
        refine lv_iconst (v := (0 : Int32)) hx hb dX0_drawLine_14 (by decide) ?_
        obtain ⟨h_8, hf⟩ := ck hf
        refine va_iast hx hb hE.1 hP hD hS 6 0 rfl rfl (vin h_8) dX0_drawLine_15 (fun H locs hP hD hS => ?_)
        have hP : va_P g.1 vwCl (wS g h a1 a2 a3 a4 σ ++ (wD g d0 d1 d2 (D_dots' δ_2 (upd (D_dots δ_2) (Int32.toNatClampNeg v3_2) (0 : Int32))))) H := hP
        have hD : va_D A (wS g h a1 a2 a3 a4 σ ++ (wD g d0 d1 d2 (D_dots' δ_2 (upd (D_dots δ_2) (Int32.toNatClampNeg v3_2) (0 : Int32))))) := hD
        refine lv_iinc (v := (v3_2 + 1)) (lv' := [(3, .int (v3_2 + 1)), (0, .ref d0), (1, .ref h), (2, .int p1)]) hx hb dX0_drawLine_16 hl (k := 3) rfl rfl (by decide) rfl (fun ls hl => ?_)
        refine lv_goto (tgt := 2) hx hb dX0_drawLine_19 (by decide) ?_
        exact ih2 (v3_2 + 1) (D_dots' δ_2 (upd (D_dots δ_2) (Int32.toNatClampNeg v3_2) (0 : Int32))) _ _ ls hP hD hS (lv_sub hl [1, 2, 3, 0] rfl) hf
  unfold fX0_drawLine at hf
  refine lv_iconst (v := (0 : Int32)) hx hb dX0_drawLine_0 (by decide) ?_
  refine lv_istore_n (lv' := [(3, .int (0 : Int32)), (0, .ref d0), (1, .ref h), (2, .int p1)]) hx hb dX0_drawLine_1 rfl hl (by decide) rfl (fun ls hl => ?_)
  exact hB2 FU (0 : Int32) δ _ _ ls hP hD hS (lv_sub hl [1, 2, 3, 0] rfl) hf

def fX0_reach (δ : Dr) (p0 : Int32) : Option (Dr) := ((fX0_isDot p0).bind fun r_1 => (if r_1 = true then (if inR p0 3456 then (if (D_dots δ (Int32.toNatClampNeg p0)) = 0 then (if (3456 : Int32) ≤ (D_wc δ) then (some δ) else (if inR (D_wc δ) 3456 then (some (D_wc' (D_wt' (D_dots' δ (upd (D_dots δ) (Int32.toNatClampNeg p0) (2 : Int32))) (upd (D_wt δ) (Int32.toNatClampNeg (D_wc δ)) p0)) ((D_wc δ) + (1 : Int32)))) else none)) else (some δ)) else none) else (some δ)))
abbrev rmX0_reach : Room := { frames := 1, cells := 0, slots := 0, locals := 20 }
theorem hdX0_reach : yX0_reach.cls = RX0 ∧ yX0_reach.cls ≠ "java/lang/invoke/MethodHandle" ∧ yX0_reach.cls ≠ "java/lang/invoke/VarHandle" ∧ (parseMethodDescriptor yX0_reach.desc).map (fun d => d.parameters.length) = some 1 := by decide +kernel
theorem fiX0_reach_X0 : ∀ w ∈ wsX00, w ∈ wsX0_reach := by decide +kernel
theorem flX0_reach_9 : (.fieldLink RX0 9 "ContourLabels$Drawing" "dots" "[I" : Cond) ∈ wsX0_reach := by decide +kernel
theorem flX0_reach_57 : (.fieldLink RX0 57 "ContourLabels$Drawing" "waitingCount" "I" : Cond) ∈ wsX0_reach := by decide +kernel
theorem flX0_reach_13 : (.fieldLink RX0 13 "ContourLabels$Drawing" "waiting" "[I" : Cond) ∈ wsX0_reach := by decide +kernel
set_option maxHeartbeats 4000000 in
set_option maxRecDepth 100000 in
theorem cX0_reach_ok (l : Launch) (g : Gg) (d0 d1 d2 : Nat) (δ : Dr) (p0 : Int32) (sz : Nat) {o : Dr} (hf : fX0_reach δ p0 = some o) : Met l yX0_reach wsX0_reach rmX0_reach (va_Pc [.ref d0, .int p0] (PM g (wD g d0 d1 d2 δ) sz)) (va_Qv (fun _ : Unit => True) (fun _ t => PQ g (wD g d0 d1 d2 o) (va_A (wD g d0 d1 d2 δ) sz) t) (va_A (wD g d0 d1 d2 δ) sz)) 0 0 (va_A (wD g d0 d1 d2 δ) sz) := by
  refine Met.ofW (cc := cX0_reach) (maxL := 2) (ret := none) (by decide) rfl ?_
  intro p e s m args below meth c s₁ B hml hv
  obtain ⟨rfl, rfl, hP, hD0, hE, hZ⟩ := hv
  have hx := B.exec
  have hb := B.bytes
  have hr := B.returns
  have hts := atoms_spec (ws := wsX0_reach) B.pre
  have hown : s.vm.findClass RX0 = some m.cls := findClass_of_methodNamed B.named
  have hlocks := B.notSynchronized
  have hD := hD0.self (sz := s.heap.size)
  generalize hAe : (va_A (wD g d0 d1 d2 δ) s.heap.size) = A at hD hZ ⊢
  have hA : ∀ q : Nat, s.heap.size ≤ q → A q := fun q h => by rw [← hAe]; exact Or.inr h
  have hS : va_S A s.heap s.heap [] := va_S.rf
  have hP : va_P g.1 vwCl (wD g d0 d1 d2 δ) s.heap := hP
  have hl := lv_entry ([.ref d0, .int p0]) (n := 2) (Nat.le_of_ble_eq_true rfl)
  rw [lg_entry_eq]
  generalize (lg_sl ([.ref d0, .int p0]) ++ List.replicate (2 - (lg_sl ([.ref d0, .int p0])).length) Slot.unset).toArray = ls at hl ⊢
  have hl : lv_has ls 2 [(0, .ref d0), (1, .int p0)] := hl
  unfold fX0_reach at hf
  refine lv_iload_n hx hb dX0_reach_0 rfl (lv_at hl 1 rfl) ?_
  obtain ⟨r_1, e_1, hf⟩ := bo hf
  refine pcallS (W0 := (wD g d0 d1 d2 δ)) (As := [.int p0]) (rest := []) [] ⟨hx, hb, hml, hown, hts⟩ hP hE hZ hS (cX0_isDot_ok l g  p0 e_1) (va_cwS 1 hts gX0_reach_X0_isDot rfl rfl rfl hdX0_isDot.2 ⟨(Nat.le_of_ble_eq_true rfl), (Nat.le_of_ble_eq_true rfl)⟩) rfl rfl hl.1 rfl (Nat.le_of_ble_eq_true rfl) ⟨(Nat.le_of_ble_eq_true rfl), (Nat.le_of_ble_eq_true rfl)⟩ dX0_reach_1 ?_
  refine lv_beq (tgt := 53) hx hb dX0_reach_4 (by decide) (fun c_2 => ?_) (fun c_2 => ?_)
  · have hf := iq c_2 hf
    have ho := Option.some.inj hf
    subst ho
    exact m_vret hx hb hr hlocks hP hD hS dX0_reach_53
  · have hf := ip c_2 hf
    refine lv_aload_n hx hb dX0_reach_7 rfl (lv_at hl 0 rfl) ?_
    refine va_get (v := .ref d1) (C := RX0) (T := TX0) (N := 3) hx hb hts fiX0_reach_X0 hown hE.1 hP 0 rfl rfl 0 (by decide) (hts _ flX0_reach_9) (fun _ h9 => h9) rfl dX0_reach_8 ?_
    refine lv_iload_n hx hb dX0_reach_11 rfl (lv_at hl 1 rfl) ?_
    obtain ⟨h_3, hf⟩ := ck hf
    refine va_iald hx hb hE.1 hP 1 0 rfl rfl (vin h_3) dX0_reach_12 ?_
    refine lv_if_ne (tgt := 53) hx hb dX0_reach_13 (by decide) (fun c_4 => ?_) (fun c_4 => ?_)
    · have hf := iq c_4 hf
      have ho := Option.some.inj hf
      subst ho
      exact m_vret hx hb hr hlocks hP hD hS dX0_reach_53
    · have hf := ip c_4 hf
      refine lv_aload_n hx hb dX0_reach_16 rfl (lv_at hl 0 rfl) ?_
      refine va_get (v := .int (D_wc δ)) (C := RX0) (T := TX0) (N := 3) hx hb hts fiX0_reach_X0 hown hE.1 hP 0 rfl rfl 2 (by decide) (hts _ flX0_reach_57) (fun _ h9 => h9) rfl dX0_reach_17 ?_
      refine lv_sipush (v := (3456 : Int32)) hx hb dX0_reach_20 (by decide) ?_
      refine lv_icmp_ge (tgt := 53) hx hb dX0_reach_23 (by decide) (fun c_5 => ?_) (fun c_5 => ?_)
      · have hf := ip c_5 hf
        have ho := Option.some.inj hf
        subst ho
        exact m_vret hx hb hr hlocks hP hD hS dX0_reach_53
      · have hf := iq c_5 hf
        refine lv_aload_n hx hb dX0_reach_26 rfl (lv_at hl 0 rfl) ?_
        refine va_get (v := .ref d1) (C := RX0) (T := TX0) (N := 3) hx hb hts fiX0_reach_X0 hown hE.1 hP 0 rfl rfl 0 (by decide) (hts _ flX0_reach_9) (fun _ h9 => h9) rfl dX0_reach_27 ?_
        refine lv_iload_n hx hb dX0_reach_30 rfl (lv_at hl 1 rfl) ?_
        refine lv_iconst (v := (2 : Int32)) hx hb dX0_reach_31 (by decide) ?_
        refine va_iast hx hb hE.1 hP hD hS 1 0 rfl rfl (vin h_3) dX0_reach_32 (fun H locs hP hD hS => ?_)
        have hP : va_P g.1 vwCl (wD g d0 d1 d2 (D_dots' δ (upd (D_dots δ) (Int32.toNatClampNeg p0) (2 : Int32)))) H := hP
        have hD : va_D A (wD g d0 d1 d2 (D_dots' δ (upd (D_dots δ) (Int32.toNatClampNeg p0) (2 : Int32)))) := hD
        refine lv_aload_n hx hb dX0_reach_33 rfl (lv_at hl 0 rfl) ?_
        refine va_get (v := .ref d2) (C := RX0) (T := TX0) (N := 3) hx hb hts fiX0_reach_X0 hown hE.1 hP 0 rfl rfl 1 (by decide) (hts _ flX0_reach_13) (fun _ h9 => h9) rfl dX0_reach_34 ?_
        refine lv_aload_n hx hb dX0_reach_37 rfl (lv_at hl 0 rfl) ?_
        refine va_get (v := .int (D_wc δ)) (C := RX0) (T := TX0) (N := 3) hx hb hts fiX0_reach_X0 hown hE.1 hP 0 rfl rfl 2 (by decide) (hts _ flX0_reach_57) (fun _ h9 => h9) rfl dX0_reach_38 ?_
        refine lv_iload_n hx hb dX0_reach_41 rfl (lv_at hl 1 rfl) ?_
        obtain ⟨h_6, hf⟩ := ck hf
        refine va_iast hx hb hE.1 hP hD hS 2 0 rfl rfl (vin h_6) dX0_reach_42 (fun H locs hP hD hS => ?_)
        have hP : va_P g.1 vwCl (wD g d0 d1 d2 (D_wt' (D_dots' δ (upd (D_dots δ) (Int32.toNatClampNeg p0) (2 : Int32))) (upd (D_wt δ) (Int32.toNatClampNeg (D_wc δ)) p0))) H := hP
        have hD : va_D A (wD g d0 d1 d2 (D_wt' (D_dots' δ (upd (D_dots δ) (Int32.toNatClampNeg p0) (2 : Int32))) (upd (D_wt δ) (Int32.toNatClampNeg (D_wc δ)) p0))) := hD
        refine lv_aload_n hx hb dX0_reach_43 rfl (lv_at hl 0 rfl) ?_
        refine lv_dup hx hb dX0_reach_44 rfl ?_
        refine va_get (v := .int (D_wc δ)) (C := RX0) (T := TX0) (N := 3) hx hb hts fiX0_reach_X0 hown hE.1 hP 0 rfl rfl 2 (by decide) (hts _ flX0_reach_57) (fun _ h9 => h9) rfl dX0_reach_45 ?_
        refine lv_iconst (v := (1 : Int32)) hx hb dX0_reach_48 (by decide) ?_
        refine lv_iadd hx hb dX0_reach_49 ?_
        refine va_put (v := .int ((D_wc δ) + (1 : Int32))) (ty := .int) (C := RX0) (T := TX0) (N := 3) hx hb hts fiX0_reach_X0 tyX0 tyX0_ok nmX0 hown hE.1 hP hD hS 0 rfl rfl 2 (by decide) (hts _ flX0_reach_57) (fun _ h9 => h9) rfl (by decide +kernel) rfl rfl (Nat.le_of_ble_eq_true rfl) dX0_reach_50 (fun H locs hP hD hS => ?_)
        have hP : va_P g.1 vwCl (wD g d0 d1 d2 (D_wc' (D_wt' (D_dots' δ (upd (D_dots δ) (Int32.toNatClampNeg p0) (2 : Int32))) (upd (D_wt δ) (Int32.toNatClampNeg (D_wc δ)) p0)) ((D_wc δ) + (1 : Int32)))) H := hP
        have hD : va_D A (wD g d0 d1 d2 (D_wc' (D_wt' (D_dots' δ (upd (D_dots δ) (Int32.toNatClampNeg p0) (2 : Int32))) (upd (D_wt δ) (Int32.toNatClampNeg (D_wc δ)) p0)) ((D_wc δ) + (1 : Int32)))) := hD
        have ho := Option.some.inj hf
        subst ho
        exact m_vret hx hb hr hlocks hP hD hS dX0_reach_53

def fX0_spread_50 (k12 : Int32 → Dr → Option (Dr)) (v1_50 : Int32) (v2_50 : Int32) (v3_50 : Int32) (δ_50 : Dr) : Option (Dr) := (if (71 : Int32) ≤ v3_50 then ((fX0_reach δ_50 (v2_50 - (72 : Int32))).bind fun r_2 => ((fX0_reach r_2 (v2_50 + (72 : Int32))).bind fun r_3 => k12 (v1_50 + 1) r_3)) else ((fX0_reach δ_50 (v2_50 + (1 : Int32))).bind fun r_4 => ((fX0_reach r_4 (v2_50 - (72 : Int32))).bind fun r_5 => ((fX0_reach r_5 (v2_50 + (72 : Int32))).bind fun r_6 => k12 (v1_50 + 1) r_6))))
def fX0_spread_12  : Nat → Int32 → Dr → Option (Dr)
  | 0, _, _ => none
  | n + 1, v1_12, δ_12 => (if (D_wc δ_12) ≤ v1_12 then (some δ_12) else (if (3456 : Int32) ≤ v1_12 then (some δ_12) else (if inR v1_12 3456 then (if (irm (D_wt δ_12 (Int32.toNatClampNeg v1_12)) (72 : Int32)) ≤ 0 then fX0_spread_50 (fX0_spread_12 n) v1_12 (D_wt δ_12 (Int32.toNatClampNeg v1_12)) (irm (D_wt δ_12 (Int32.toNatClampNeg v1_12)) (72 : Int32)) δ_12 else ((fX0_reach δ_12 ((D_wt δ_12 (Int32.toNatClampNeg v1_12)) - (1 : Int32))).bind fun r_11 => fX0_spread_50 (fX0_spread_12 n) v1_12 (D_wt δ_12 (Int32.toNatClampNeg v1_12)) (irm (D_wt δ_12 (Int32.toNatClampNeg v1_12)) (72 : Int32)) r_11)) else none)))
def fX0_spread (δ : Dr) : Option (Dr) := ((fX0_reach (D_wc' δ (0 : Int32)) (0 : Int32)).bind fun r_12 => fX0_spread_12 FU (0 : Int32) r_12)
abbrev rmX0_spread : Room := { frames := 2, cells := 0, slots := 0, locals := 41 }
theorem hdX0_spread : yX0_spread.cls = RX0 ∧ yX0_spread.cls ≠ "java/lang/invoke/MethodHandle" ∧ yX0_spread.cls ≠ "java/lang/invoke/VarHandle" ∧ (parseMethodDescriptor yX0_spread.desc).map (fun d => d.parameters.length) = some 0 := by decide +kernel
theorem fiX0_spread_X0 : ∀ w ∈ wsX00, w ∈ wsX0_spread := by decide +kernel
theorem flX0_spread_57 : (.fieldLink RX0 57 "ContourLabels$Drawing" "waitingCount" "I" : Cond) ∈ wsX0_spread := by decide +kernel
theorem flX0_spread_13 : (.fieldLink RX0 13 "ContourLabels$Drawing" "waiting" "[I" : Cond) ∈ wsX0_spread := by decide +kernel
set_option maxHeartbeats 4000000 in
set_option maxRecDepth 100000 in
theorem cX0_spread_ok (l : Launch) (g : Gg) (d0 d1 d2 : Nat) (δ : Dr) (sz : Nat) {o : Dr} (hf : fX0_spread δ = some o) : Met l yX0_spread wsX0_spread rmX0_spread (va_Pc [.ref d0] (PM g (wD g d0 d1 d2 δ) sz)) (va_Qv (fun _ : Unit => True) (fun _ t => PQ g (wD g d0 d1 d2 o) (va_A (wD g d0 d1 d2 δ) sz) t) (va_A (wD g d0 d1 d2 δ) sz)) 0 0 (va_A (wD g d0 d1 d2 δ) sz) := by
  refine Met.ofW (cc := cX0_spread) (maxL := 4) (ret := none) (by decide) rfl ?_
  intro p e s m args below meth c s₁ B hml hv
  obtain ⟨rfl, rfl, hP, hD0, hE, hZ⟩ := hv
  have hx := B.exec
  have hb := B.bytes
  have hr := B.returns
  have hts := atoms_spec (ws := wsX0_spread) B.pre
  have hown : s.vm.findClass RX0 = some m.cls := findClass_of_methodNamed B.named
  have hlocks := B.notSynchronized
  have hD := hD0.self (sz := s.heap.size)
  generalize hAe : (va_A (wD g d0 d1 d2 δ) s.heap.size) = A at hD hZ ⊢
  have hA : ∀ q : Nat, s.heap.size ≤ q → A q := fun q h => by rw [← hAe]; exact Or.inr h
  have hS : va_S A s.heap s.heap [] := va_S.rf
  have hP : va_P g.1 vwCl (wD g d0 d1 d2 δ) s.heap := hP
  have hl := lv_entry ([.ref d0]) (n := 4) (Nat.le_of_ble_eq_true rfl)
  rw [lg_entry_eq]
  generalize (lg_sl ([.ref d0]) ++ List.replicate (4 - (lg_sl ([.ref d0])).length) Slot.unset).toArray = ls at hl ⊢
  have hl : lv_has ls 4 [(0, .ref d0)] := hl
  have hB12 : ∀ (n12 : Nat) (v1_12 : Int32) (δ_12 : Dr) (H : Heap) (locs : List Loc) (ls : Array Slot), va_P g.1 vwCl (wD g d0 d1 d2 δ_12) H → va_D A (wD g d0 d1 d2 δ_12) → va_S A s.heap H locs → lv_has ls 4 [(0, .ref d0), (1, .int v1_12)] → fX0_spread_12 n12 v1_12 δ_12 = some o → W p l e (headSpec wsX0_spread rmX0_spread).room s m ([.ref d0] : List Value).toArray below meth c H locs 0 0 (MQ below (va_Qv (fun _ : Unit => True) (fun _ t => PQ g (wD g d0 d1 d2 o) A t) A) ([.ref d0] : List Value).toArray s 0 0 A) (F0 m 12 ls []) := by
    intro  n12
    induction n12 with
    | zero => intro v1_12 δ_12 H locs ls hP hD hS hl hf; exact nomatch (show (none : Option (Dr)) = some _ from hf)
    | succ n12 ih12 =>
      have hB50 : ∀ (v1_50 : Int32) (v2_50 : Int32) (v3_50 : Int32) (δ_50 : Dr) (H : Heap) (locs : List Loc) (ls : Array Slot), va_P g.1 vwCl (wD g d0 d1 d2 δ_50) H → va_D A (wD g d0 d1 d2 δ_50) → va_S A s.heap H locs → lv_has ls 4 [(0, .ref d0), (1, .int v1_50), (2, .int v2_50), (3, .int v3_50)] → fX0_spread_50 (fX0_spread_12 n12) v1_50 v2_50 v3_50 δ_50 = some o → W p l e (headSpec wsX0_spread rmX0_spread).room s m ([.ref d0] : List Value).toArray below meth c H locs 0 0 (MQ below (va_Qv (fun _ : Unit => True) (fun _ t => PQ g (wD g d0 d1 d2 o) A t) A) ([.ref d0] : List Value).toArray s 0 0 A) (F0 m 50 ls []) := by
        intro  v1_50 v2_50 v3_50 δ_50 H locs ls hP hD hS hl hf
        unfold fX0_spread_50 at hf
        refine lv_iload_n hx hb dX0_spread_50 rfl (lv_at hl 3 rfl) ?_
        refine lv_bipush (v := (71 : Int32)) hx hb dX0_spread_51 (by decide) ?_
        refine lv_icmp_ge (tgt := 63) hx hb dX0_spread_53 (by decide) (fun c_1 => ?_) (fun c_1 => ?_)
        · have hf := ip c_1 hf
          refine lv_aload_n hx hb dX0_spread_63 rfl (lv_at hl 0 rfl) ?_
          refine lv_iload_n hx hb dX0_spread_64 rfl (lv_at hl 2 rfl) ?_
          refine lv_bipush (v := (72 : Int32)) hx hb dX0_spread_65 (by decide) ?_
          refine lv_isub hx hb dX0_spread_67 ?_
          obtain ⟨r_2, e_2, hf⟩ := bo hf
          refine mcallVv (W0 := (wD g d0 d1 d2 δ_50)) (Wc := (wD g d0 d1 d2 δ_50)) (Wr := ([] : va_W)) (W1 := (wD g d0 d1 d2 r_2)) (W2 := (wD g d0 d1 d2 r_2)) (As := [.int (v2_50 - (72 : Int32))]) (rest := []) [0, 1, 2] [] [0, 1, 2] 0 0 ⟨hx, hb, hml, hown, hts⟩ hP hD hE hZ hS hA (cX0_reach_ok l g d0 d1 d2 δ_50 (v2_50 - (72 : Int32)) _ e_2) (cwV 1 hts gX0_spread_X0_reach rfl rfl rfl hdX0_reach ⟨(Nat.le_of_ble_eq_true rfl), (Nat.le_of_ble_eq_true rfl)⟩) rfl rfl rfl (by decide) (by decide) (by decide) (by decide) rfl rfl rfl rfl hl.1 rfl (Nat.le_of_ble_eq_true rfl) ⟨(Nat.le_of_ble_eq_true rfl), (Nat.le_of_ble_eq_true rfl)⟩ dX0_spread_68 (fun H locs hP hD hS => ?_)
          refine lv_aload_n hx hb dX0_spread_71 rfl (lv_at hl 0 rfl) ?_
          refine lv_iload_n hx hb dX0_spread_72 rfl (lv_at hl 2 rfl) ?_
          refine lv_bipush (v := (72 : Int32)) hx hb dX0_spread_73 (by decide) ?_
          refine lv_iadd hx hb dX0_spread_75 ?_
          obtain ⟨r_3, e_3, hf⟩ := bo hf
          refine mcallVv (W0 := (wD g d0 d1 d2 r_2)) (Wc := (wD g d0 d1 d2 r_2)) (Wr := ([] : va_W)) (W1 := (wD g d0 d1 d2 r_3)) (W2 := (wD g d0 d1 d2 r_3)) (As := [.int (v2_50 + (72 : Int32))]) (rest := []) [0, 1, 2] [] [0, 1, 2] 0 0 ⟨hx, hb, hml, hown, hts⟩ hP hD hE hZ hS hA (cX0_reach_ok l g d0 d1 d2 r_2 (v2_50 + (72 : Int32)) _ e_3) (cwV 1 hts gX0_spread_X0_reach rfl rfl rfl hdX0_reach ⟨(Nat.le_of_ble_eq_true rfl), (Nat.le_of_ble_eq_true rfl)⟩) rfl rfl rfl (by decide) (by decide) (by decide) (by decide) rfl rfl rfl rfl hl.1 rfl (Nat.le_of_ble_eq_true rfl) ⟨(Nat.le_of_ble_eq_true rfl), (Nat.le_of_ble_eq_true rfl)⟩ dX0_spread_76 (fun H locs hP hD hS => ?_)
          refine lv_iinc (v := (v1_50 + 1)) (lv' := [(1, .int (v1_50 + 1)), (0, .ref d0), (2, .int v2_50), (3, .int v3_50)]) hx hb dX0_spread_79 hl (k := 1) rfl rfl (by decide) rfl (fun ls hl => ?_)
          refine lv_goto (tgt := 12) hx hb dX0_spread_82 (by decide) ?_
          exact ih12 (v1_50 + 1) r_3 _ _ ls hP hD hS (lv_sub hl [1, 0] rfl) hf
        · have hf := iq c_1 hf
          refine lv_aload_n hx hb dX0_spread_56 rfl (lv_at hl 0 rfl) ?_
          refine lv_iload_n hx hb dX0_spread_57 rfl (lv_at hl 2 rfl) ?_
          refine lv_iconst (v := (1 : Int32)) hx hb dX0_spread_58 (by decide) ?_
          refine lv_iadd hx hb dX0_spread_59 ?_
          obtain ⟨r_4, e_4, hf⟩ := bo hf
          refine mcallVv (W0 := (wD g d0 d1 d2 δ_50)) (Wc := (wD g d0 d1 d2 δ_50)) (Wr := ([] : va_W)) (W1 := (wD g d0 d1 d2 r_4)) (W2 := (wD g d0 d1 d2 r_4)) (As := [.int (v2_50 + (1 : Int32))]) (rest := []) [0, 1, 2] [] [0, 1, 2] 0 0 ⟨hx, hb, hml, hown, hts⟩ hP hD hE hZ hS hA (cX0_reach_ok l g d0 d1 d2 δ_50 (v2_50 + (1 : Int32)) _ e_4) (cwV 1 hts gX0_spread_X0_reach rfl rfl rfl hdX0_reach ⟨(Nat.le_of_ble_eq_true rfl), (Nat.le_of_ble_eq_true rfl)⟩) rfl rfl rfl (by decide) (by decide) (by decide) (by decide) rfl rfl rfl rfl hl.1 rfl (Nat.le_of_ble_eq_true rfl) ⟨(Nat.le_of_ble_eq_true rfl), (Nat.le_of_ble_eq_true rfl)⟩ dX0_spread_60 (fun H locs hP hD hS => ?_)
          refine lv_aload_n hx hb dX0_spread_63 rfl (lv_at hl 0 rfl) ?_
          refine lv_iload_n hx hb dX0_spread_64 rfl (lv_at hl 2 rfl) ?_
          refine lv_bipush (v := (72 : Int32)) hx hb dX0_spread_65 (by decide) ?_
          refine lv_isub hx hb dX0_spread_67 ?_
          obtain ⟨r_5, e_5, hf⟩ := bo hf
          refine mcallVv (W0 := (wD g d0 d1 d2 r_4)) (Wc := (wD g d0 d1 d2 r_4)) (Wr := ([] : va_W)) (W1 := (wD g d0 d1 d2 r_5)) (W2 := (wD g d0 d1 d2 r_5)) (As := [.int (v2_50 - (72 : Int32))]) (rest := []) [0, 1, 2] [] [0, 1, 2] 0 0 ⟨hx, hb, hml, hown, hts⟩ hP hD hE hZ hS hA (cX0_reach_ok l g d0 d1 d2 r_4 (v2_50 - (72 : Int32)) _ e_5) (cwV 1 hts gX0_spread_X0_reach rfl rfl rfl hdX0_reach ⟨(Nat.le_of_ble_eq_true rfl), (Nat.le_of_ble_eq_true rfl)⟩) rfl rfl rfl (by decide) (by decide) (by decide) (by decide) rfl rfl rfl rfl hl.1 rfl (Nat.le_of_ble_eq_true rfl) ⟨(Nat.le_of_ble_eq_true rfl), (Nat.le_of_ble_eq_true rfl)⟩ dX0_spread_68 (fun H locs hP hD hS => ?_)
          refine lv_aload_n hx hb dX0_spread_71 rfl (lv_at hl 0 rfl) ?_
          refine lv_iload_n hx hb dX0_spread_72 rfl (lv_at hl 2 rfl) ?_
          refine lv_bipush (v := (72 : Int32)) hx hb dX0_spread_73 (by decide) ?_
          refine lv_iadd hx hb dX0_spread_75 ?_
          obtain ⟨r_6, e_6, hf⟩ := bo hf
          refine mcallVv (W0 := (wD g d0 d1 d2 r_5)) (Wc := (wD g d0 d1 d2 r_5)) (Wr := ([] : va_W)) (W1 := (wD g d0 d1 d2 r_6)) (W2 := (wD g d0 d1 d2 r_6)) (As := [.int (v2_50 + (72 : Int32))]) (rest := []) [0, 1, 2] [] [0, 1, 2] 0 0 ⟨hx, hb, hml, hown, hts⟩ hP hD hE hZ hS hA (cX0_reach_ok l g d0 d1 d2 r_5 (v2_50 + (72 : Int32)) _ e_6) (cwV 1 hts gX0_spread_X0_reach rfl rfl rfl hdX0_reach ⟨(Nat.le_of_ble_eq_true rfl), (Nat.le_of_ble_eq_true rfl)⟩) rfl rfl rfl (by decide) (by decide) (by decide) (by decide) rfl rfl rfl rfl hl.1 rfl (Nat.le_of_ble_eq_true rfl) ⟨(Nat.le_of_ble_eq_true rfl), (Nat.le_of_ble_eq_true rfl)⟩ dX0_spread_76 (fun H locs hP hD hS => ?_)
          refine lv_iinc (v := (v1_50 + 1)) (lv' := [(1, .int (v1_50 + 1)), (0, .ref d0), (2, .int v2_50), (3, .int v3_50)]) hx hb dX0_spread_79 hl (k := 1) rfl rfl (by decide) rfl (fun ls hl => ?_)
          refine lv_goto (tgt := 12) hx hb dX0_spread_82 (by decide) ?_
          exact ih12 (v1_50 + 1) r_6 _ _ ls hP hD hS (lv_sub hl [1, 0] rfl) hf
      intro v1_12 δ_12 H locs ls hP hD hS hl hf
      rw [fX0_spread_12] at hf
      refine lv_iload_n hx hb dX0_spread_12 rfl (lv_at hl 1 rfl) ?_
      refine lv_aload_n hx hb dX0_spread_13 rfl (lv_at hl 0 rfl) ?_
      refine va_get (v := .int (D_wc δ_12)) (C := RX0) (T := TX0) (N := 3) hx hb hts fiX0_spread_X0 hown hE.1 hP 0 rfl rfl 2 (by decide) (hts _ flX0_spread_57) (fun _ h9 => h9) rfl dX0_spread_14 ?_
      refine lv_icmp_ge (tgt := 85) hx hb dX0_spread_17 (by decide) (fun c_7 => ?_) (fun c_7 => ?_)
      · have hf := ip c_7 hf
        have ho := Option.some.inj hf
        subst ho
        exact m_vret hx hb hr hlocks hP hD hS dX0_spread_85
      · have hf := iq c_7 hf
        refine lv_iload_n hx hb dX0_spread_20 rfl (lv_at hl 1 rfl) ?_
        refine lv_sipush (v := (3456 : Int32)) hx hb dX0_spread_21 (by decide) ?_
        refine lv_icmp_ge (tgt := 85) hx hb dX0_spread_24 (by decide) (fun c_8 => ?_) (fun c_8 => ?_)
        · have hf := ip c_8 hf
          have ho := Option.some.inj hf
          subst ho
          exact m_vret hx hb hr hlocks hP hD hS dX0_spread_85
        · have hf := iq c_8 hf
          refine lv_aload_n hx hb dX0_spread_27 rfl (lv_at hl 0 rfl) ?_
          refine va_get (v := .ref d2) (C := RX0) (T := TX0) (N := 3) hx hb hts fiX0_spread_X0 hown hE.1 hP 0 rfl rfl 1 (by decide) (hts _ flX0_spread_13) (fun _ h9 => h9) rfl dX0_spread_28 ?_
          refine lv_iload_n hx hb dX0_spread_31 rfl (lv_at hl 1 rfl) ?_
          obtain ⟨h_9, hf⟩ := ck hf
          refine va_iald hx hb hE.1 hP 2 0 rfl rfl (vin h_9) dX0_spread_32 ?_
          refine lv_istore_n (lv' := [(2, .int (D_wt δ_12 (Int32.toNatClampNeg v1_12))), (0, .ref d0), (1, .int v1_12)]) hx hb dX0_spread_33 rfl hl (by decide) rfl (fun ls hl => ?_)
          refine lv_iload_n hx hb dX0_spread_34 rfl (lv_at hl 0 rfl) ?_
          refine lv_bipush (v := (72 : Int32)) hx hb dX0_spread_35 (by decide) ?_
          refine lv_irm hx hb dX0_spread_37 (by decide) ?_
          refine lv_istore_n (lv' := [(3, .int (irm (D_wt δ_12 (Int32.toNatClampNeg v1_12)) (72 : Int32))), (2, .int (D_wt δ_12 (Int32.toNatClampNeg v1_12))), (0, .ref d0), (1, .int v1_12)]) hx hb dX0_spread_38 rfl hl (by decide) rfl (fun ls hl => ?_)
          refine lv_iload_n hx hb dX0_spread_39 rfl (lv_at hl 0 rfl) ?_
          refine lv_if_le (tgt := 50) hx hb dX0_spread_40 (by decide) (fun c_10 => ?_) (fun c_10 => ?_)
          · have hf := ip c_10 hf
            exact hB50 v1_12 (D_wt δ_12 (Int32.toNatClampNeg v1_12)) (irm (D_wt δ_12 (Int32.toNatClampNeg v1_12)) (72 : Int32)) δ_12 _ _ ls hP hD hS (lv_sub hl [2, 3, 1, 0] rfl) hf
          · have hf := iq c_10 hf
            refine lv_aload_n hx hb dX0_spread_43 rfl (lv_at hl 2 rfl) ?_
            refine lv_iload_n hx hb dX0_spread_44 rfl (lv_at hl 1 rfl) ?_
            refine lv_iconst (v := (1 : Int32)) hx hb dX0_spread_45 (by decide) ?_
            refine lv_isub hx hb dX0_spread_46 ?_
            obtain ⟨r_11, e_11, hf⟩ := bo hf
            refine mcallVv (W0 := (wD g d0 d1 d2 δ_12)) (Wc := (wD g d0 d1 d2 δ_12)) (Wr := ([] : va_W)) (W1 := (wD g d0 d1 d2 r_11)) (W2 := (wD g d0 d1 d2 r_11)) (As := [.int ((D_wt δ_12 (Int32.toNatClampNeg v1_12)) - (1 : Int32))]) (rest := []) [0, 1, 2] [] [0, 1, 2] 0 0 ⟨hx, hb, hml, hown, hts⟩ hP hD hE hZ hS hA (cX0_reach_ok l g d0 d1 d2 δ_12 ((D_wt δ_12 (Int32.toNatClampNeg v1_12)) - (1 : Int32)) _ e_11) (cwV 1 hts gX0_spread_X0_reach rfl rfl rfl hdX0_reach ⟨(Nat.le_of_ble_eq_true rfl), (Nat.le_of_ble_eq_true rfl)⟩) rfl rfl rfl (by decide) (by decide) (by decide) (by decide) rfl rfl rfl rfl hl.1 rfl (Nat.le_of_ble_eq_true rfl) ⟨(Nat.le_of_ble_eq_true rfl), (Nat.le_of_ble_eq_true rfl)⟩ dX0_spread_47 (fun H locs hP hD hS => ?_)
            exact hB50 v1_12 (D_wt δ_12 (Int32.toNatClampNeg v1_12)) (irm (D_wt δ_12 (Int32.toNatClampNeg v1_12)) (72 : Int32)) r_11 _ _ ls hP hD hS (lv_sub hl [2, 3, 1, 0] rfl) hf
  unfold fX0_spread at hf
  refine lv_aload_n hx hb dX0_spread_0 rfl (lv_at hl 0 rfl) ?_
  refine lv_iconst (v := (0 : Int32)) hx hb dX0_spread_1 (by decide) ?_
  refine va_put (v := .int (0 : Int32)) (ty := .int) (C := RX0) (T := TX0) (N := 3) hx hb hts fiX0_spread_X0 tyX0 tyX0_ok nmX0 hown hE.1 hP hD hS 0 rfl rfl 2 (by decide) (hts _ flX0_spread_57) (fun _ h9 => h9) rfl (by decide +kernel) rfl rfl (Nat.le_of_ble_eq_true rfl) dX0_spread_2 (fun H locs hP hD hS => ?_)
  have hP : va_P g.1 vwCl (wD g d0 d1 d2 (D_wc' δ (0 : Int32))) H := hP
  have hD : va_D A (wD g d0 d1 d2 (D_wc' δ (0 : Int32))) := hD
  refine lv_aload_n hx hb dX0_spread_5 rfl (lv_at hl 0 rfl) ?_
  refine lv_iconst (v := (0 : Int32)) hx hb dX0_spread_6 (by decide) ?_
  obtain ⟨r_12, e_12, hf⟩ := bo hf
  refine mcallVv (W0 := (wD g d0 d1 d2 (D_wc' δ (0 : Int32)))) (Wc := (wD g d0 d1 d2 (D_wc' δ (0 : Int32)))) (Wr := ([] : va_W)) (W1 := (wD g d0 d1 d2 r_12)) (W2 := (wD g d0 d1 d2 r_12)) (As := [.int (0 : Int32)]) (rest := []) [0, 1, 2] [] [0, 1, 2] 0 0 ⟨hx, hb, hml, hown, hts⟩ hP hD hE hZ hS hA (cX0_reach_ok l g d0 d1 d2 (D_wc' δ (0 : Int32)) (0 : Int32) _ e_12) (cwV 1 hts gX0_spread_X0_reach rfl rfl rfl hdX0_reach ⟨(Nat.le_of_ble_eq_true rfl), (Nat.le_of_ble_eq_true rfl)⟩) rfl rfl rfl (by decide) (by decide) (by decide) (by decide) rfl rfl rfl rfl hl.1 rfl (Nat.le_of_ble_eq_true rfl) ⟨(Nat.le_of_ble_eq_true rfl), (Nat.le_of_ble_eq_true rfl)⟩ dX0_spread_7 (fun H locs hP hD hS => ?_)
  refine lv_iconst (v := (0 : Int32)) hx hb dX0_spread_10 (by decide) ?_
  refine lv_istore_n (lv' := [(1, .int (0 : Int32)), (0, .ref d0)]) hx hb dX0_spread_11 rfl hl (by decide) rfl (fun ls hl => ?_)
  exact hB12 FU (0 : Int32) r_12 _ _ ls hP hD hS (lv_sub hl [1, 0] rfl) hf

def fX0_isLeftOut (δ : Dr) (p0 : Int32) : Option (Bool) := ((fX0_dotOf p0).bind fun r_1 => ((fX0_isDot r_1).bind fun r_2 => (if r_2 = true then (if inR r_1 3456 then (if (D_dots δ (Int32.toNatClampNeg r_1)) = 0 then (some true) else (some false)) else none) else (some false))))
abbrev rmX0_isLeftOut : Room := { frames := 2, cells := 0, slots := 0, locals := 40 }
theorem hdX0_isLeftOut : yX0_isLeftOut.cls = RX0 ∧ yX0_isLeftOut.cls ≠ "java/lang/invoke/MethodHandle" ∧ yX0_isLeftOut.cls ≠ "java/lang/invoke/VarHandle" ∧ (parseMethodDescriptor yX0_isLeftOut.desc).map (fun d => d.parameters.length) = some 1 := by decide +kernel
theorem fiX0_isLeftOut_X0 : ∀ w ∈ wsX00, w ∈ wsX0_isLeftOut := by decide +kernel
theorem flX0_isLeftOut_9 : (.fieldLink RX0 9 "ContourLabels$Drawing" "dots" "[I" : Cond) ∈ wsX0_isLeftOut := by decide +kernel
set_option maxHeartbeats 4000000 in
set_option maxRecDepth 100000 in
theorem cX0_isLeftOut_ok (l : Launch) (g : Gg) (d0 d1 d2 : Nat) (δ : Dr) (p0 : Int32) {r : Bool} (hf : fX0_isLeftOut δ p0 = some r) : Met l yX0_isLeftOut wsX0_isLeftOut rmX0_isLeftOut (va_Pc [.ref d0, .int p0] (PP g (wD g d0 d1 d2 δ))) (vp_Si (fun r' => r' = b2i r)) 0 0 (fun _ => False) := by
  refine Met.ofW (cc := cX0_isLeftOut) (maxL := 3) (ret := (some .boolean)) (by decide) rfl ?_
  intro p e s m args below meth c s₁ B hml hv
  obtain ⟨rfl, hP, hE, hZ⟩ := hv
  have hx := B.exec
  have hb := B.bytes
  have hr := B.returns
  have hts := atoms_spec (ws := wsX0_isLeftOut) B.pre
  have hown : s.vm.findClass RX0 = some m.cls := findClass_of_methodNamed B.named
  have hlocks := B.notSynchronized
  have hS : va_S (fun _ => False) s.heap s.heap [] := va_S.rf
  have hl := lv_entry ([.ref d0, .int p0]) (n := 3) (Nat.le_of_ble_eq_true rfl)
  rw [lg_entry_eq]
  generalize (lg_sl ([.ref d0, .int p0]) ++ List.replicate (3 - (lg_sl ([.ref d0, .int p0])).length) Slot.unset).toArray = ls at hl ⊢
  have hl : lv_has ls 3 [(0, .ref d0), (1, .int p0)] := hl
  unfold fX0_isLeftOut at hf
  refine lv_iload_n hx hb dX0_isLeftOut_0 rfl (lv_at hl 1 rfl) ?_
  obtain ⟨r_1, e_1, hf⟩ := bo hf
  refine pcallS (W0 := (wD g d0 d1 d2 δ)) (As := [.int p0]) (rest := []) [] ⟨hx, hb, hml, hown, hts⟩ hP hE hZ hS (cX0_dotOf_ok l g  p0 e_1) (va_cwS 1 hts gX0_isLeftOut_X0_dotOf rfl rfl rfl hdX0_dotOf.2 ⟨(Nat.le_of_ble_eq_true rfl), (Nat.le_of_ble_eq_true rfl)⟩) rfl rfl hl.1 rfl (Nat.le_of_ble_eq_true rfl) ⟨(Nat.le_of_ble_eq_true rfl), (Nat.le_of_ble_eq_true rfl)⟩ dX0_isLeftOut_1 ?_
  refine lv_istore_n (lv' := [(2, .int r_1), (0, .ref d0), (1, .int p0)]) hx hb dX0_isLeftOut_4 rfl hl (by decide) rfl (fun ls hl => ?_)
  refine lv_iload_n hx hb dX0_isLeftOut_5 rfl (lv_at hl 0 rfl) ?_
  obtain ⟨r_2, e_2, hf⟩ := bo hf
  refine pcallS (W0 := (wD g d0 d1 d2 δ)) (As := [.int r_1]) (rest := []) [] ⟨hx, hb, hml, hown, hts⟩ hP hE hZ hS (cX0_isDot_ok l g  r_1 e_2) (va_cwS 1 hts gX0_isLeftOut_X0_isDot rfl rfl rfl hdX0_isDot.2 ⟨(Nat.le_of_ble_eq_true rfl), (Nat.le_of_ble_eq_true rfl)⟩) rfl rfl hl.1 rfl (Nat.le_of_ble_eq_true rfl) ⟨(Nat.le_of_ble_eq_true rfl), (Nat.le_of_ble_eq_true rfl)⟩ dX0_isLeftOut_6 ?_
  refine lv_beq (tgt := 25) hx hb dX0_isLeftOut_9 (by decide) (fun c_3 => ?_) (fun c_3 => ?_)
  · have hf := iq c_3 hf
    refine lv_iconst (v := (0 : Int32)) hx hb dX0_isLeftOut_25 (by decide) ?_
    exact p_zret (v := false) hx hb hr hlocks (Option.some.inj hf) dX0_isLeftOut_26
  · have hf := ip c_3 hf
    refine lv_aload_n hx hb dX0_isLeftOut_12 rfl (lv_at hl 1 rfl) ?_
    refine va_get (v := .ref d1) (C := RX0) (T := TX0) (N := 3) hx hb hts fiX0_isLeftOut_X0 hown hE.1 hP 0 rfl rfl 0 (by decide) (hts _ flX0_isLeftOut_9) (fun _ h9 => h9) rfl dX0_isLeftOut_13 ?_
    refine lv_iload_n hx hb dX0_isLeftOut_16 rfl (lv_at hl 0 rfl) ?_
    obtain ⟨h_4, hf⟩ := ck hf
    refine va_iald hx hb hE.1 hP 1 0 rfl rfl (vin h_4) dX0_isLeftOut_17 ?_
    refine lv_if_ne (tgt := 25) hx hb dX0_isLeftOut_18 (by decide) (fun c_5 => ?_) (fun c_5 => ?_)
    · have hf := iq c_5 hf
      refine lv_iconst (v := (0 : Int32)) hx hb dX0_isLeftOut_25 (by decide) ?_
      exact p_zret (v := false) hx hb hr hlocks (Option.some.inj hf) dX0_isLeftOut_26
    · have hf := ip c_5 hf
      refine lv_iconst (v := (1 : Int32)) hx hb dX0_isLeftOut_21 (by decide) ?_
      refine lv_goto (tgt := 26) hx hb dX0_isLeftOut_22 (by decide) ?_
      exact p_zret (v := true) hx hb hr hlocks (Option.some.inj hf) dX0_isLeftOut_26
