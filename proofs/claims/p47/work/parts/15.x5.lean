def fX5_stepsToTheRight_100 (σ : Sh) (p1 p2 : Int32) (v3_24 : Int32) (v4_24 : Int32) (v5_24 : Int32) (k24 : Int32 → Int32 → Option (Int32)) (v6_100 : Int32) (v7_100 : Int32) (v10_100 : Int32) (t0_100 : Bool) : Option (Int32) := (if t0_100 = true then ((fX6_columnOf v10_100).bind fun r_2 => (if r_2 ≤ v4_24 then k24 v6_100 (v7_100 + 1) else k24 (v6_100 + 1) (v7_100 + 1))) else k24 v6_100 (v7_100 + 1))
def fX5_stepsToTheRight_71 (σ : Sh) (p1 p2 : Int32) (v3_24 : Int32) (v4_24 : Int32) (v5_24 : Int32) (k24 : Int32 → Int32 → Option (Int32)) (v6_71 : Int32) (v7_71 : Int32) (v8_71 : Int32) (v9_71 : Int32) (t0_71 : Int32) : Option (Int32) := ((fX6_rowOf t0_71).bind fun r_4 => (if r_4 = v3_24 then ((fX6_rowOf v8_71).bind fun r_6 => ((fX6_rowOf v9_71).bind fun r_7 => (if r_6 = r_7 then fX5_stepsToTheRight_100 σ p1 p2 v3_24 v4_24 v5_24 k24 v6_71 v7_71 t0_71 false else fX5_stepsToTheRight_100 σ p1 p2 v3_24 v4_24 v5_24 k24 v6_71 v7_71 t0_71 true))) else fX5_stepsToTheRight_100 σ p1 p2 v3_24 v4_24 v5_24 k24 v6_71 v7_71 t0_71 false))
def fX5_stepsToTheRight_24 (σ : Sh) (p1 p2 : Int32) (v3_24 : Int32) (v4_24 : Int32) (v5_24 : Int32) : Nat → Int32 → Int32 → Option (Int32)
  | 0, _, _ => none
  | n + 1, v6_24, v7_24 => (if v5_24 ≤ v7_24 then (some v6_24) else ((fX4_pointAt σ p1 v7_24).bind fun r_10 => ((fX4_pointAt σ p1 (v7_24 + (1 : Int32))).bind fun r_11 => ((fX6_rowOf r_10).bind fun r_12 => ((fX6_rowOf r_11).bind fun r_13 => (if r_13 ≤ r_12 then fX5_stepsToTheRight_71 σ p1 p2 v3_24 v4_24 v5_24 (fX5_stepsToTheRight_24 σ p1 p2 v3_24 v4_24 v5_24 n) v6_24 v7_24 r_10 r_11 r_11 else fX5_stepsToTheRight_71 σ p1 p2 v3_24 v4_24 v5_24 (fX5_stepsToTheRight_24 σ p1 p2 v3_24 v4_24 v5_24 n) v6_24 v7_24 r_10 r_11 r_10))))))
def fX5_stepsToTheRight (σ : Sh) (p1 p2 : Int32) : Option (Int32) := ((fX6_rowOf p2).bind fun r_15 => ((fX6_columnOf p2).bind fun r_16 => ((fX4_stepCount σ p1).bind fun r_17 => fX5_stepsToTheRight_24 σ p1 p2 r_15 r_16 r_17 FU (0 : Int32) (0 : Int32))))
abbrev rmX5_stepsToTheRight : Room := { frames := 1, cells := 0, slots := 0, locals := 22 }
theorem hdX5_stepsToTheRight : yX5_stepsToTheRight.cls = RX5 ∧ yX5_stepsToTheRight.cls ≠ "java/lang/invoke/MethodHandle" ∧ yX5_stepsToTheRight.cls ≠ "java/lang/invoke/VarHandle" ∧ (parseMethodDescriptor yX5_stepsToTheRight.desc).map (fun d => d.parameters.length) = some 3 := by decide +kernel
theorem inX5_stepsToTheRight_X6 : (.initialized RX6 : Cond) ∈ wsX5_stepsToTheRight := by decide +kernel
theorem stX5_stepsToTheRight_X6_columnOf : (.static yX6_columnOf : Cond) ∈ wsX5_stepsToTheRight := by decide +kernel
theorem stX5_stepsToTheRight_X6_rowOf : (.static yX6_rowOf : Cond) ∈ wsX5_stepsToTheRight := by decide +kernel
set_option maxHeartbeats 4000000 in
set_option maxRecDepth 100000 in
theorem cX5_stepsToTheRight_ok (l : Launch) (g : Gg) (h a1 a2 a3 a4 : Nat) (σ : Sh) (p1 p2 : Int32) {r : Int32} (hf : fX5_stepsToTheRight σ p1 p2 = some r) : Met l yX5_stepsToTheRight wsX5_stepsToTheRight rmX5_stepsToTheRight (va_Pc [.ref h, .int p1, .int p2] (PP g (wS g h a1 a2 a3 a4 σ))) (vp_Si (fun r' => r' = r)) 0 0 (fun _ => False) := by
  refine Met.ofW (cc := cX5_stepsToTheRight) (maxL := 12) (ret := (some .int)) (by decide) rfl ?_
  intro p e s m args below meth c s₁ B hml hv
  obtain ⟨rfl, hP, hE, hZ⟩ := hv
  have hx := B.exec
  have hb := B.bytes
  have hr := B.returns
  have hts := atoms_spec (ws := wsX5_stepsToTheRight) B.pre
  have hown : s.vm.findClass RX5 = some m.cls := findClass_of_methodNamed B.named
  have hlocks := B.notSynchronized
  have hS : va_S (fun _ => False) s.heap s.heap [] := va_S.rf
  have hl := lv_entry ([.ref h, .int p1, .int p2]) (n := 12) (Nat.le_of_ble_eq_true rfl)
  rw [lg_entry_eq]
  generalize (lg_sl ([.ref h, .int p1, .int p2]) ++ List.replicate (12 - (lg_sl ([.ref h, .int p1, .int p2])).length) Slot.unset).toArray = ls at hl ⊢
  have hl : lv_has ls 12 [(0, .ref h), (1, .int p1), (2, .int p2)] := hl
  have hB24 : ∀ (v3_24 : Int32) (v4_24 : Int32) (v5_24 : Int32) (n24 : Nat) (v6_24 : Int32) (v7_24 : Int32) (ls : Array Slot), lv_has ls 12 [(0, .ref h), (1, .int p1), (3, .int v3_24), (4, .int v4_24), (5, .int v5_24), (6, .int v6_24), (7, .int v7_24)] → fX5_stepsToTheRight_24 σ p1 p2 v3_24 v4_24 v5_24 n24 v6_24 v7_24 = some r → W p l e (headSpec wsX5_stepsToTheRight rmX5_stepsToTheRight).room s m ([.ref h, .int p1, .int p2] : List Value).toArray below meth c s.heap [] 0 0 (MQ below (vp_Si (fun r' => r' = r)) ([.ref h, .int p1, .int p2] : List Value).toArray s 0 0 (fun _ => False)) (F0 m 24 ls []) := by
    intro v3_24 v4_24 v5_24 n24
    induction n24 with
    | zero => intro v6_24 v7_24 ls hl hf; exact nomatch (show (none : Option (Int32)) = some _ from hf)
    | succ n24 ih24 =>
      have hB100 : ∀ (v6_100 : Int32) (v7_100 : Int32) (v10_100 : Int32) (t0_100 : Bool) (ls : Array Slot), lv_has ls 12 [(0, .ref h), (1, .int p1), (3, .int v3_24), (4, .int v4_24), (5, .int v5_24), (6, .int v6_100), (7, .int v7_100), (10, .int v10_100)] → fX5_stepsToTheRight_100 σ p1 p2 v3_24 v4_24 v5_24 (fX5_stepsToTheRight_24 σ p1 p2 v3_24 v4_24 v5_24 n24) v6_100 v7_100 v10_100 t0_100 = some r → W p l e (headSpec wsX5_stepsToTheRight rmX5_stepsToTheRight).room s m ([.ref h, .int p1, .int p2] : List Value).toArray below meth c s.heap [] 0 0 (MQ below (vp_Si (fun r' => r' = r)) ([.ref h, .int p1, .int p2] : List Value).toArray s 0 0 (fun _ => False)) (F0 m 100 ls [.int (b2i t0_100)]) := by
        intro  v6_100 v7_100 v10_100 t0_100 ls hl hf
        unfold fX5_stepsToTheRight_100 at hf
        refine lv_istore (lv' := [(11, .int (b2i t0_100)), (0, .ref h), (1, .int p1), (3, .int v3_24), (4, .int v4_24), (5, .int v5_24), (6, .int v6_100), (7, .int v7_100), (10, .int v10_100)]) hx hb dX5_stepsToTheRight_100 hl (by decide) rfl (fun ls hl => ?_)
        refine lv_iload hx hb dX5_stepsToTheRight_102 (lv_at hl 0 rfl) ?_
        refine lv_beq (tgt := 120) hx hb dX5_stepsToTheRight_104 (by decide) (fun c_1 => ?_) (fun c_1 => ?_)
        · have hf := iq c_1 hf
          refine lv_iinc (v := (v7_100 + 1)) (lv' := [(7, .int (v7_100 + 1)), (11, .int (b2i t0_100)), (0, .ref h), (1, .int p1), (3, .int v3_24), (4, .int v4_24), (5, .int v5_24), (6, .int v6_100), (10, .int v10_100)]) hx hb dX5_stepsToTheRight_120 hl (k := 7) rfl rfl (by decide) rfl (fun ls hl => ?_)
          refine lv_goto (tgt := 24) hx hb dX5_stepsToTheRight_123 (by decide) ?_
          exact ih24 v6_100 (v7_100 + 1) ls (lv_sub hl [2, 3, 4, 5, 6, 7, 0] rfl) hf
        · have hf := ip c_1 hf
          refine lv_iload hx hb dX5_stepsToTheRight_107 (lv_at hl 8 rfl) ?_
          obtain ⟨r_2, e_2, hf⟩ := bo hf
          refine pcallN (W0 := (wS g h a1 a2 a3 a4 σ)) (As := [.int v10_100]) (rest := []) [] ⟨hx, hb, hml, hown, hts⟩ hP hE hZ hS (cX6_columnOf_ok l g  v10_100 e_2) ⟨va_cnB (host := RX6) 1 hts gX5_stepsToTheRight_X6_columnOf_n29 rfl rfl rfl (hE.2.1 (.methodLinkNest RX5 29 yX6_columnOf RX6) (by decide +kernel)) (hts _ inX5_stepsToTheRight_X6) hdX6_columnOf.2 ⟨(Nat.le_of_ble_eq_true rfl), (Nat.le_of_ble_eq_true rfl)⟩, hts _ stX5_stepsToTheRight_X6_columnOf, trivial⟩ rfl rfl hl.1 rfl (Nat.le_of_ble_eq_true rfl) ⟨(Nat.le_of_ble_eq_true rfl), (Nat.le_of_ble_eq_true rfl)⟩ dX5_stepsToTheRight_109 ?_
          refine lv_iload hx hb dX5_stepsToTheRight_112 (lv_at hl 4 rfl) ?_
          refine lv_icmp_le (tgt := 120) hx hb dX5_stepsToTheRight_114 (by decide) (fun c_3 => ?_) (fun c_3 => ?_)
          · have hf := ip c_3 hf
            refine lv_iinc (v := (v7_100 + 1)) (lv' := [(7, .int (v7_100 + 1)), (11, .int (b2i t0_100)), (0, .ref h), (1, .int p1), (3, .int v3_24), (4, .int v4_24), (5, .int v5_24), (6, .int v6_100), (10, .int v10_100)]) hx hb dX5_stepsToTheRight_120 hl (k := 7) rfl rfl (by decide) rfl (fun ls hl => ?_)
            refine lv_goto (tgt := 24) hx hb dX5_stepsToTheRight_123 (by decide) ?_
            exact ih24 v6_100 (v7_100 + 1) ls (lv_sub hl [2, 3, 4, 5, 6, 7, 0] rfl) hf
          · have hf := iq c_3 hf
            refine lv_iinc (v := (v6_100 + 1)) (lv' := [(6, .int (v6_100 + 1)), (11, .int (b2i t0_100)), (0, .ref h), (1, .int p1), (3, .int v3_24), (4, .int v4_24), (5, .int v5_24), (7, .int v7_100), (10, .int v10_100)]) hx hb dX5_stepsToTheRight_117 hl (k := 6) rfl rfl (by decide) rfl (fun ls hl => ?_)
            refine lv_iinc (v := (v7_100 + 1)) (lv' := [(7, .int (v7_100 + 1)), (6, .int (v6_100 + 1)), (11, .int (b2i t0_100)), (0, .ref h), (1, .int p1), (3, .int v3_24), (4, .int v4_24), (5, .int v5_24), (10, .int v10_100)]) hx hb dX5_stepsToTheRight_120 hl (k := 7) rfl rfl (by decide) rfl (fun ls hl => ?_)
            refine lv_goto (tgt := 24) hx hb dX5_stepsToTheRight_123 (by decide) ?_
            exact ih24 (v6_100 + 1) (v7_100 + 1) ls (lv_sub hl [3, 4, 5, 6, 7, 1, 0] rfl) hf
      have hB71 : ∀ (v6_71 : Int32) (v7_71 : Int32) (v8_71 : Int32) (v9_71 : Int32) (t0_71 : Int32) (ls : Array Slot), lv_has ls 12 [(0, .ref h), (1, .int p1), (3, .int v3_24), (4, .int v4_24), (5, .int v5_24), (6, .int v6_71), (7, .int v7_71), (8, .int v8_71), (9, .int v9_71)] → fX5_stepsToTheRight_71 σ p1 p2 v3_24 v4_24 v5_24 (fX5_stepsToTheRight_24 σ p1 p2 v3_24 v4_24 v5_24 n24) v6_71 v7_71 v8_71 v9_71 t0_71 = some r → W p l e (headSpec wsX5_stepsToTheRight rmX5_stepsToTheRight).room s m ([.ref h, .int p1, .int p2] : List Value).toArray below meth c s.heap [] 0 0 (MQ below (vp_Si (fun r' => r' = r)) ([.ref h, .int p1, .int p2] : List Value).toArray s 0 0 (fun _ => False)) (F0 m 71 ls [.int t0_71]) := by
        intro  v6_71 v7_71 v8_71 v9_71 t0_71 ls hl hf
        unfold fX5_stepsToTheRight_71 at hf
        refine lv_istore (lv' := [(10, .int t0_71), (0, .ref h), (1, .int p1), (3, .int v3_24), (4, .int v4_24), (5, .int v5_24), (6, .int v6_71), (7, .int v7_71), (8, .int v8_71), (9, .int v9_71)]) hx hb dX5_stepsToTheRight_71 hl (by decide) rfl (fun ls hl => ?_)
        refine lv_iload hx hb dX5_stepsToTheRight_73 (lv_at hl 0 rfl) ?_
        obtain ⟨r_4, e_4, hf⟩ := bo hf
        refine pcallN (W0 := (wS g h a1 a2 a3 a4 σ)) (As := [.int t0_71]) (rest := []) [] ⟨hx, hb, hml, hown, hts⟩ hP hE hZ hS (cX6_rowOf_ok l g  t0_71 e_4) ⟨va_cnB (host := RX6) 1 hts gX5_stepsToTheRight_X6_rowOf_n25 rfl rfl rfl (hE.2.1 (.methodLinkNest RX5 25 yX6_rowOf RX6) (by decide +kernel)) (hts _ inX5_stepsToTheRight_X6) hdX6_rowOf.2 ⟨(Nat.le_of_ble_eq_true rfl), (Nat.le_of_ble_eq_true rfl)⟩, hts _ stX5_stepsToTheRight_X6_rowOf, trivial⟩ rfl rfl hl.1 rfl (Nat.le_of_ble_eq_true rfl) ⟨(Nat.le_of_ble_eq_true rfl), (Nat.le_of_ble_eq_true rfl)⟩ dX5_stepsToTheRight_75 ?_
        refine lv_iload_n hx hb dX5_stepsToTheRight_78 rfl (lv_at hl 3 rfl) ?_
        refine lv_icmp_ne (tgt := 99) hx hb dX5_stepsToTheRight_79 (by decide) (fun c_5 => ?_) (fun c_5 => ?_)
        · have hf := iq c_5 hf
          refine lv_iconst (v := (0 : Int32)) hx hb dX5_stepsToTheRight_99 (by decide) ?_
          exact hB100 v6_71 v7_71 t0_71 false ls (lv_sub hl [1, 2, 3, 4, 5, 6, 7, 0] rfl) hf
        · have hf := ip c_5 hf
          refine lv_iload hx hb dX5_stepsToTheRight_82 (lv_at hl 8 rfl) ?_
          obtain ⟨r_6, e_6, hf⟩ := bo hf
          refine pcallN (W0 := (wS g h a1 a2 a3 a4 σ)) (As := [.int v8_71]) (rest := []) [] ⟨hx, hb, hml, hown, hts⟩ hP hE hZ hS (cX6_rowOf_ok l g  v8_71 e_6) ⟨va_cnB (host := RX6) 1 hts gX5_stepsToTheRight_X6_rowOf_n25 rfl rfl rfl (hE.2.1 (.methodLinkNest RX5 25 yX6_rowOf RX6) (by decide +kernel)) (hts _ inX5_stepsToTheRight_X6) hdX6_rowOf.2 ⟨(Nat.le_of_ble_eq_true rfl), (Nat.le_of_ble_eq_true rfl)⟩, hts _ stX5_stepsToTheRight_X6_rowOf, trivial⟩ rfl rfl hl.1 rfl (Nat.le_of_ble_eq_true rfl) ⟨(Nat.le_of_ble_eq_true rfl), (Nat.le_of_ble_eq_true rfl)⟩ dX5_stepsToTheRight_84 ?_
          refine lv_iload hx hb dX5_stepsToTheRight_87 (lv_at hl 9 rfl) ?_
          obtain ⟨r_7, e_7, hf⟩ := bo hf
          refine pcallN (W0 := (wS g h a1 a2 a3 a4 σ)) (As := [.int v9_71]) (rest := [.int r_6]) [] ⟨hx, hb, hml, hown, hts⟩ hP hE hZ hS (cX6_rowOf_ok l g  v9_71 e_7) ⟨va_cnB (host := RX6) 1 hts gX5_stepsToTheRight_X6_rowOf_n25 rfl rfl rfl (hE.2.1 (.methodLinkNest RX5 25 yX6_rowOf RX6) (by decide +kernel)) (hts _ inX5_stepsToTheRight_X6) hdX6_rowOf.2 ⟨(Nat.le_of_ble_eq_true rfl), (Nat.le_of_ble_eq_true rfl)⟩, hts _ stX5_stepsToTheRight_X6_rowOf, trivial⟩ rfl rfl hl.1 rfl (Nat.le_of_ble_eq_true rfl) ⟨(Nat.le_of_ble_eq_true rfl), (Nat.le_of_ble_eq_true rfl)⟩ dX5_stepsToTheRight_89 ?_
          refine lv_icmp_eq (tgt := 99) hx hb dX5_stepsToTheRight_92 (by decide) (fun c_8 => ?_) (fun c_8 => ?_)
          · have hf := ip c_8 hf
            refine lv_iconst (v := (0 : Int32)) hx hb dX5_stepsToTheRight_99 (by decide) ?_
            exact hB100 v6_71 v7_71 t0_71 false ls (lv_sub hl [1, 2, 3, 4, 5, 6, 7, 0] rfl) hf
          · have hf := iq c_8 hf
            refine lv_iconst (v := (1 : Int32)) hx hb dX5_stepsToTheRight_95 (by decide) ?_
            refine lv_goto (tgt := 100) hx hb dX5_stepsToTheRight_96 (by decide) ?_
            exact hB100 v6_71 v7_71 t0_71 true ls (lv_sub hl [1, 2, 3, 4, 5, 6, 7, 0] rfl) hf
      intro v6_24 v7_24 ls hl hf
      rw [fX5_stepsToTheRight_24] at hf
      refine lv_iload hx hb dX5_stepsToTheRight_24 (lv_at hl 6 rfl) ?_
      refine lv_iload hx hb dX5_stepsToTheRight_26 (lv_at hl 4 rfl) ?_
      refine lv_icmp_ge (tgt := 126) hx hb dX5_stepsToTheRight_28 (by decide) (fun c_9 => ?_) (fun c_9 => ?_)
      · have hf := ip c_9 hf
        refine lv_iload hx hb dX5_stepsToTheRight_126 (lv_at hl 5 rfl) ?_
        exact p_iret (v := v6_24) hx hb hr hlocks (Option.some.inj hf) dX5_stepsToTheRight_128
      · have hf := iq c_9 hf
        refine lv_aload_n hx hb dX5_stepsToTheRight_31 rfl (lv_at hl 0 rfl) ?_
        refine lv_iload_n hx hb dX5_stepsToTheRight_32 rfl (lv_at hl 1 rfl) ?_
        refine lv_iload hx hb dX5_stepsToTheRight_33 (lv_at hl 6 rfl) ?_
        obtain ⟨r_10, e_10, hf⟩ := bo hf
        refine pcallV (W0 := (wS g h a1 a2 a3 a4 σ)) (As := [.int p1, .int v7_24]) (rest := []) [0, 1, 2, 3, 4] 3 0 ⟨hx, hb, hml, hown, hts⟩ hP hE hZ hS (cX4_pointAt_ok l g h a1 a2 a3 a4 σ p1 v7_24 e_10) (cwV 2 hts gX5_stepsToTheRight_X4_pointAt rfl rfl rfl hdX4_pointAt ⟨(Nat.le_of_ble_eq_true rfl), (Nat.le_of_ble_eq_true rfl)⟩) rfl rfl rfl rfl rfl hl.1 rfl (Nat.le_of_ble_eq_true rfl) ⟨(Nat.le_of_ble_eq_true rfl), (Nat.le_of_ble_eq_true rfl)⟩ dX5_stepsToTheRight_35 ?_
        refine lv_istore (lv' := [(8, .int r_10), (0, .ref h), (1, .int p1), (3, .int v3_24), (4, .int v4_24), (5, .int v5_24), (6, .int v6_24), (7, .int v7_24)]) hx hb dX5_stepsToTheRight_38 hl (by decide) rfl (fun ls hl => ?_)
        refine lv_aload_n hx hb dX5_stepsToTheRight_40 rfl (lv_at hl 1 rfl) ?_
        refine lv_iload_n hx hb dX5_stepsToTheRight_41 rfl (lv_at hl 2 rfl) ?_
        refine lv_iload hx hb dX5_stepsToTheRight_42 (lv_at hl 7 rfl) ?_
        refine lv_iconst (v := (1 : Int32)) hx hb dX5_stepsToTheRight_44 (by decide) ?_
        refine lv_iadd hx hb dX5_stepsToTheRight_45 ?_
        obtain ⟨r_11, e_11, hf⟩ := bo hf
        refine pcallV (W0 := (wS g h a1 a2 a3 a4 σ)) (As := [.int p1, .int (v7_24 + (1 : Int32))]) (rest := []) [0, 1, 2, 3, 4] 3 0 ⟨hx, hb, hml, hown, hts⟩ hP hE hZ hS (cX4_pointAt_ok l g h a1 a2 a3 a4 σ p1 (v7_24 + (1 : Int32)) e_11) (cwV 2 hts gX5_stepsToTheRight_X4_pointAt rfl rfl rfl hdX4_pointAt ⟨(Nat.le_of_ble_eq_true rfl), (Nat.le_of_ble_eq_true rfl)⟩) rfl rfl rfl rfl rfl hl.1 rfl (Nat.le_of_ble_eq_true rfl) ⟨(Nat.le_of_ble_eq_true rfl), (Nat.le_of_ble_eq_true rfl)⟩ dX5_stepsToTheRight_46 ?_
        refine lv_istore (lv' := [(9, .int r_11), (8, .int r_10), (0, .ref h), (1, .int p1), (3, .int v3_24), (4, .int v4_24), (5, .int v5_24), (6, .int v6_24), (7, .int v7_24)]) hx hb dX5_stepsToTheRight_49 hl (by decide) rfl (fun ls hl => ?_)
        refine lv_iload hx hb dX5_stepsToTheRight_51 (lv_at hl 1 rfl) ?_
        obtain ⟨r_12, e_12, hf⟩ := bo hf
        refine pcallN (W0 := (wS g h a1 a2 a3 a4 σ)) (As := [.int r_10]) (rest := []) [] ⟨hx, hb, hml, hown, hts⟩ hP hE hZ hS (cX6_rowOf_ok l g  r_10 e_12) ⟨va_cnB (host := RX6) 1 hts gX5_stepsToTheRight_X6_rowOf_n25 rfl rfl rfl (hE.2.1 (.methodLinkNest RX5 25 yX6_rowOf RX6) (by decide +kernel)) (hts _ inX5_stepsToTheRight_X6) hdX6_rowOf.2 ⟨(Nat.le_of_ble_eq_true rfl), (Nat.le_of_ble_eq_true rfl)⟩, hts _ stX5_stepsToTheRight_X6_rowOf, trivial⟩ rfl rfl hl.1 rfl (Nat.le_of_ble_eq_true rfl) ⟨(Nat.le_of_ble_eq_true rfl), (Nat.le_of_ble_eq_true rfl)⟩ dX5_stepsToTheRight_53 ?_
        refine lv_iload hx hb dX5_stepsToTheRight_56 (lv_at hl 0 rfl) ?_
        obtain ⟨r_13, e_13, hf⟩ := bo hf
        refine pcallN (W0 := (wS g h a1 a2 a3 a4 σ)) (As := [.int r_11]) (rest := [.int r_12]) [] ⟨hx, hb, hml, hown, hts⟩ hP hE hZ hS (cX6_rowOf_ok l g  r_11 e_13) ⟨va_cnB (host := RX6) 1 hts gX5_stepsToTheRight_X6_rowOf_n25 rfl rfl rfl (hE.2.1 (.methodLinkNest RX5 25 yX6_rowOf RX6) (by decide +kernel)) (hts _ inX5_stepsToTheRight_X6) hdX6_rowOf.2 ⟨(Nat.le_of_ble_eq_true rfl), (Nat.le_of_ble_eq_true rfl)⟩, hts _ stX5_stepsToTheRight_X6_rowOf, trivial⟩ rfl rfl hl.1 rfl (Nat.le_of_ble_eq_true rfl) ⟨(Nat.le_of_ble_eq_true rfl), (Nat.le_of_ble_eq_true rfl)⟩ dX5_stepsToTheRight_58 ?_
        refine lv_icmp_ge (tgt := 69) hx hb dX5_stepsToTheRight_61 (by decide) (fun c_14 => ?_) (fun c_14 => ?_)
        · have hf := ip c_14 hf
          refine lv_iload hx hb dX5_stepsToTheRight_69 (lv_at hl 0 rfl) ?_
          exact hB71 v6_24 v7_24 r_10 r_11 r_11 ls (lv_sub hl [2, 3, 4, 5, 6, 7, 8, 1, 0] rfl) hf
        · have hf := iq c_14 hf
          refine lv_iload hx hb dX5_stepsToTheRight_64 (lv_at hl 1 rfl) ?_
          refine lv_goto (tgt := 71) hx hb dX5_stepsToTheRight_66 (by decide) ?_
          exact hB71 v6_24 v7_24 r_10 r_11 r_10 ls (lv_sub hl [2, 3, 4, 5, 6, 7, 8, 1, 0] rfl) hf
  unfold fX5_stepsToTheRight at hf
  refine lv_iload_n hx hb dX5_stepsToTheRight_0 rfl (lv_at hl 2 rfl) ?_
  obtain ⟨r_15, e_15, hf⟩ := bo hf
  refine pcallN (W0 := (wS g h a1 a2 a3 a4 σ)) (As := [.int p2]) (rest := []) [] ⟨hx, hb, hml, hown, hts⟩ hP hE hZ hS (cX6_rowOf_ok l g  p2 e_15) ⟨va_cnB (host := RX6) 1 hts gX5_stepsToTheRight_X6_rowOf_n25 rfl rfl rfl (hE.2.1 (.methodLinkNest RX5 25 yX6_rowOf RX6) (by decide +kernel)) (hts _ inX5_stepsToTheRight_X6) hdX6_rowOf.2 ⟨(Nat.le_of_ble_eq_true rfl), (Nat.le_of_ble_eq_true rfl)⟩, hts _ stX5_stepsToTheRight_X6_rowOf, trivial⟩ rfl rfl hl.1 rfl (Nat.le_of_ble_eq_true rfl) ⟨(Nat.le_of_ble_eq_true rfl), (Nat.le_of_ble_eq_true rfl)⟩ dX5_stepsToTheRight_1 ?_
  refine lv_istore_n (lv' := [(3, .int r_15), (0, .ref h), (1, .int p1), (2, .int p2)]) hx hb dX5_stepsToTheRight_4 rfl hl (by decide) rfl (fun ls hl => ?_)
  refine lv_iload_n hx hb dX5_stepsToTheRight_5 rfl (lv_at hl 3 rfl) ?_
  obtain ⟨r_16, e_16, hf⟩ := bo hf
  refine pcallN (W0 := (wS g h a1 a2 a3 a4 σ)) (As := [.int p2]) (rest := []) [] ⟨hx, hb, hml, hown, hts⟩ hP hE hZ hS (cX6_columnOf_ok l g  p2 e_16) ⟨va_cnB (host := RX6) 1 hts gX5_stepsToTheRight_X6_columnOf_n29 rfl rfl rfl (hE.2.1 (.methodLinkNest RX5 29 yX6_columnOf RX6) (by decide +kernel)) (hts _ inX5_stepsToTheRight_X6) hdX6_columnOf.2 ⟨(Nat.le_of_ble_eq_true rfl), (Nat.le_of_ble_eq_true rfl)⟩, hts _ stX5_stepsToTheRight_X6_columnOf, trivial⟩ rfl rfl hl.1 rfl (Nat.le_of_ble_eq_true rfl) ⟨(Nat.le_of_ble_eq_true rfl), (Nat.le_of_ble_eq_true rfl)⟩ dX5_stepsToTheRight_6 ?_
  refine lv_istore (lv' := [(4, .int r_16), (3, .int r_15), (0, .ref h), (1, .int p1), (2, .int p2)]) hx hb dX5_stepsToTheRight_9 hl (by decide) rfl (fun ls hl => ?_)
  refine lv_aload_n hx hb dX5_stepsToTheRight_11 rfl (lv_at hl 2 rfl) ?_
  refine lv_iload_n hx hb dX5_stepsToTheRight_12 rfl (lv_at hl 3 rfl) ?_
  obtain ⟨r_17, e_17, hf⟩ := bo hf
  refine pcallV (W0 := (wS g h a1 a2 a3 a4 σ)) (As := [.int p1]) (rest := []) [0, 1, 2, 3, 4] 3 0 ⟨hx, hb, hml, hown, hts⟩ hP hE hZ hS (cX4_stepCount_ok l g h a1 a2 a3 a4 σ p1 e_17) (cwV 1 hts gX5_stepsToTheRight_X4_stepCount rfl rfl rfl hdX4_stepCount ⟨(Nat.le_of_ble_eq_true rfl), (Nat.le_of_ble_eq_true rfl)⟩) rfl rfl rfl rfl rfl hl.1 rfl (Nat.le_of_ble_eq_true rfl) ⟨(Nat.le_of_ble_eq_true rfl), (Nat.le_of_ble_eq_true rfl)⟩ dX5_stepsToTheRight_13 ?_
  refine lv_istore (lv' := [(5, .int r_17), (4, .int r_16), (3, .int r_15), (0, .ref h), (1, .int p1), (2, .int p2)]) hx hb dX5_stepsToTheRight_16 hl (by decide) rfl (fun ls hl => ?_)
  refine lv_iconst (v := (0 : Int32)) hx hb dX5_stepsToTheRight_18 (by decide) ?_
  refine lv_istore (lv' := [(6, .int (0 : Int32)), (5, .int r_17), (4, .int r_16), (3, .int r_15), (0, .ref h), (1, .int p1), (2, .int p2)]) hx hb dX5_stepsToTheRight_19 hl (by decide) rfl (fun ls hl => ?_)
  refine lv_iconst (v := (0 : Int32)) hx hb dX5_stepsToTheRight_21 (by decide) ?_
  refine lv_istore (lv' := [(7, .int (0 : Int32)), (6, .int (0 : Int32)), (5, .int r_17), (4, .int r_16), (3, .int r_15), (0, .ref h), (1, .int p1), (2, .int p2)]) hx hb dX5_stepsToTheRight_22 hl (by decide) rfl (fun ls hl => ?_)
  exact hB24 r_15 r_16 r_17 FU (0 : Int32) (0 : Int32) ls (lv_sub hl [5, 6, 4, 3, 2, 1, 0] rfl) hf

def fX5_goesRound (σ : Sh) (p1 p2 : Int32) : Option (Bool) := ((fX4_isRing σ p1).bind fun r_1 => (if r_1 = true then ((fX4_isOn σ p1 p2).bind fun r_3 => (if r_3 = true then (some false) else ((fX5_stepsToTheRight σ p1 p2).bind fun r_5 => (if (r_5 &&& (1 : Int32)) = 0 then (some false) else (some true))))) else (some false)))
abbrev rmX5_goesRound : Room := { frames := 2, cells := 0, slots := 0, locals := 53 }
theorem hdX5_goesRound : yX5_goesRound.cls = RX5 ∧ yX5_goesRound.cls ≠ "java/lang/invoke/MethodHandle" ∧ yX5_goesRound.cls ≠ "java/lang/invoke/VarHandle" ∧ (parseMethodDescriptor yX5_goesRound.desc).map (fun d => d.parameters.length) = some 3 := by decide +kernel
set_option maxHeartbeats 4000000 in
set_option maxRecDepth 100000 in
theorem cX5_goesRound_ok (l : Launch) (g : Gg) (h a1 a2 a3 a4 : Nat) (σ : Sh) (p1 p2 : Int32) {r : Bool} (hf : fX5_goesRound σ p1 p2 = some r) : Met l yX5_goesRound wsX5_goesRound rmX5_goesRound (va_Pc [.ref h, .int p1, .int p2] (PP g (wS g h a1 a2 a3 a4 σ))) (vp_Si (fun r' => r' = b2i r)) 0 0 (fun _ => False) := by
  refine Met.ofW (cc := cX5_goesRound) (maxL := 3) (ret := (some .boolean)) (by decide) rfl ?_
  intro p e s m args below meth c s₁ B hml hv
  obtain ⟨rfl, hP, hE, hZ⟩ := hv
  have hx := B.exec
  have hb := B.bytes
  have hr := B.returns
  have hts := atoms_spec (ws := wsX5_goesRound) B.pre
  have hown : s.vm.findClass RX5 = some m.cls := findClass_of_methodNamed B.named
  have hlocks := B.notSynchronized
  have hS : va_S (fun _ => False) s.heap s.heap [] := va_S.rf
  have hl := lv_entry ([.ref h, .int p1, .int p2]) (n := 3) (Nat.le_of_ble_eq_true rfl)
  rw [lg_entry_eq]
  generalize (lg_sl ([.ref h, .int p1, .int p2]) ++ List.replicate (3 - (lg_sl ([.ref h, .int p1, .int p2])).length) Slot.unset).toArray = ls at hl ⊢
  have hl : lv_has ls 3 [(0, .ref h), (1, .int p1), (2, .int p2)] := hl
  unfold fX5_goesRound at hf
  refine lv_aload_n hx hb dX5_goesRound_0 rfl (lv_at hl 0 rfl) ?_
  refine lv_iload_n hx hb dX5_goesRound_1 rfl (lv_at hl 1 rfl) ?_
  obtain ⟨r_1, e_1, hf⟩ := bo hf
  refine pcallV (W0 := (wS g h a1 a2 a3 a4 σ)) (As := [.int p1]) (rest := []) [0, 1, 2, 3, 4] 3 0 ⟨hx, hb, hml, hown, hts⟩ hP hE hZ hS (cX4_isRing_ok l g h a1 a2 a3 a4 σ p1 e_1) (cwV 1 hts gX5_goesRound_X4_isRing rfl rfl rfl hdX4_isRing ⟨(Nat.le_of_ble_eq_true rfl), (Nat.le_of_ble_eq_true rfl)⟩) rfl rfl rfl rfl rfl hl.1 rfl (Nat.le_of_ble_eq_true rfl) ⟨(Nat.le_of_ble_eq_true rfl), (Nat.le_of_ble_eq_true rfl)⟩ dX5_goesRound_2 ?_
  refine lv_beq (tgt := 17) hx hb dX5_goesRound_5 (by decide) (fun c_2 => ?_) (fun c_2 => ?_)
  · have hf := iq c_2 hf
    refine lv_iconst (v := (0 : Int32)) hx hb dX5_goesRound_17 (by decide) ?_
    exact p_zret (v := false) hx hb hr hlocks (Option.some.inj hf) dX5_goesRound_18
  · have hf := ip c_2 hf
    refine lv_aload_n hx hb dX5_goesRound_8 rfl (lv_at hl 0 rfl) ?_
    refine lv_iload_n hx hb dX5_goesRound_9 rfl (lv_at hl 1 rfl) ?_
    refine lv_iload_n hx hb dX5_goesRound_10 rfl (lv_at hl 2 rfl) ?_
    obtain ⟨r_3, e_3, hf⟩ := bo hf
    refine pcallV (W0 := (wS g h a1 a2 a3 a4 σ)) (As := [.int p1, .int p2]) (rest := []) [0, 1, 2, 3, 4] 3 0 ⟨hx, hb, hml, hown, hts⟩ hP hE hZ hS (cX4_isOn_ok l g h a1 a2 a3 a4 σ p1 p2 e_3) (cwV 2 hts gX5_goesRound_X4_isOn rfl rfl rfl hdX4_isOn ⟨(Nat.le_of_ble_eq_true rfl), (Nat.le_of_ble_eq_true rfl)⟩) rfl rfl rfl rfl rfl hl.1 rfl (Nat.le_of_ble_eq_true rfl) ⟨(Nat.le_of_ble_eq_true rfl), (Nat.le_of_ble_eq_true rfl)⟩ dX5_goesRound_11 ?_
    refine lv_beq (tgt := 19) hx hb dX5_goesRound_14 (by decide) (fun c_4 => ?_) (fun c_4 => ?_)
    · have hf := iq c_4 hf
      refine lv_aload_n hx hb dX5_goesRound_19 rfl (lv_at hl 0 rfl) ?_
      refine lv_iload_n hx hb dX5_goesRound_20 rfl (lv_at hl 1 rfl) ?_
      refine lv_iload_n hx hb dX5_goesRound_21 rfl (lv_at hl 2 rfl) ?_
      obtain ⟨r_5, e_5, hf⟩ := bo hf
      refine pcallS (W0 := (wS g h a1 a2 a3 a4 σ)) (As := [.ref h, .int p1, .int p2]) (rest := []) [0, 1, 2, 3, 4] ⟨hx, hb, hml, hown, hts⟩ hP hE hZ hS (cX5_stepsToTheRight_ok l g h a1 a2 a3 a4 σ p1 p2 e_5) (va_cwS 3 hts gX5_goesRound_X5_stepsToTheRight rfl rfl rfl hdX5_stepsToTheRight.2 ⟨(Nat.le_of_ble_eq_true rfl), (Nat.le_of_ble_eq_true rfl)⟩) rfl rfl hl.1 rfl (Nat.le_of_ble_eq_true rfl) ⟨(Nat.le_of_ble_eq_true rfl), (Nat.le_of_ble_eq_true rfl)⟩ dX5_goesRound_22 ?_
      refine lv_iconst (v := (1 : Int32)) hx hb dX5_goesRound_25 (by decide) ?_
      refine lv_iand hx hb dX5_goesRound_26 ?_
      refine lv_if_eq (tgt := 34) hx hb dX5_goesRound_27 (by decide) (fun c_6 => ?_) (fun c_6 => ?_)
      · have hf := ip c_6 hf
        refine lv_iconst (v := (0 : Int32)) hx hb dX5_goesRound_34 (by decide) ?_
        exact p_zret (v := false) hx hb hr hlocks (Option.some.inj hf) dX5_goesRound_35
      · have hf := iq c_6 hf
        refine lv_iconst (v := (1 : Int32)) hx hb dX5_goesRound_30 (by decide) ?_
        refine lv_goto (tgt := 35) hx hb dX5_goesRound_31 (by decide) ?_
        exact p_zret (v := true) hx hb hr hlocks (Option.some.inj hf) dX5_goesRound_35
    · have hf := ip c_4 hf
      refine lv_iconst (v := (0 : Int32)) hx hb dX5_goesRound_17 (by decide) ?_
      exact p_zret (v := false) hx hb hr hlocks (Option.some.inj hf) dX5_goesRound_18

def fX5_innermostRound_12 (σ : Sh) (p1 : Int32) (v2_12 : Int32) : Nat → Int32 → Int32 → Option (Int32)
  | 0, _, _ => none
  | n + 1, v3_12, v4_12 => ((fX4_lineCount σ).bind fun r_1 => (if r_1 ≤ v4_12 then (some v3_12) else ((fX5_goesRound σ v4_12 v2_12).bind fun r_3 => (if r_3 = true then (if v3_12 = (-1 : Int32) then fX5_innermostRound_12 σ p1 v2_12 n v4_12 (v4_12 + 1) else ((fX4_pointAt σ v4_12 (0 : Int32)).bind fun r_6 => ((fX5_goesRound σ v3_12 r_6).bind fun r_7 => (if r_7 = true then fX5_innermostRound_12 σ p1 v2_12 n v4_12 (v4_12 + 1) else fX5_innermostRound_12 σ p1 v2_12 n v3_12 (v4_12 + 1))))) else fX5_innermostRound_12 σ p1 v2_12 n v3_12 (v4_12 + 1)))))
def fX5_innermostRound (σ : Sh) (p1 : Int32) : Option (Int32) := ((fX4_pointAt σ p1 (0 : Int32)).bind fun r_9 => fX5_innermostRound_12 σ p1 r_9 FU (-1 : Int32) (0 : Int32))
abbrev rmX5_innermostRound : Room := { frames := 3, cells := 0, slots := 0, locals := 75 }
theorem hdX5_innermostRound : yX5_innermostRound.cls = RX5 ∧ yX5_innermostRound.cls ≠ "java/lang/invoke/MethodHandle" ∧ yX5_innermostRound.cls ≠ "java/lang/invoke/VarHandle" ∧ (parseMethodDescriptor yX5_innermostRound.desc).map (fun d => d.parameters.length) = some 2 := by decide +kernel
set_option maxHeartbeats 4000000 in
set_option maxRecDepth 100000 in
theorem cX5_innermostRound_ok (l : Launch) (g : Gg) (h a1 a2 a3 a4 : Nat) (σ : Sh) (p1 : Int32) {r : Int32} (hf : fX5_innermostRound σ p1 = some r) : Met l yX5_innermostRound wsX5_innermostRound rmX5_innermostRound (va_Pc [.ref h, .int p1] (PP g (wS g h a1 a2 a3 a4 σ))) (vp_Si (fun r' => r' = r)) 0 0 (fun _ => False) := by
  refine Met.ofW (cc := cX5_innermostRound) (maxL := 5) (ret := (some .int)) (by decide) rfl ?_
  intro p e s m args below meth c s₁ B hml hv
  obtain ⟨rfl, hP, hE, hZ⟩ := hv
  have hx := B.exec
  have hb := B.bytes
  have hr := B.returns
  have hts := atoms_spec (ws := wsX5_innermostRound) B.pre
  have hown : s.vm.findClass RX5 = some m.cls := findClass_of_methodNamed B.named
  have hlocks := B.notSynchronized
  have hS : va_S (fun _ => False) s.heap s.heap [] := va_S.rf
  have hl := lv_entry ([.ref h, .int p1]) (n := 5) (Nat.le_of_ble_eq_true rfl)
  rw [lg_entry_eq]
  generalize (lg_sl ([.ref h, .int p1]) ++ List.replicate (5 - (lg_sl ([.ref h, .int p1])).length) Slot.unset).toArray = ls at hl ⊢
  have hl : lv_has ls 5 [(0, .ref h), (1, .int p1)] := hl
  have hB12 : ∀ (v2_12 : Int32) (n12 : Nat) (v3_12 : Int32) (v4_12 : Int32) (ls : Array Slot), lv_has ls 5 [(0, .ref h), (2, .int v2_12), (3, .int v3_12), (4, .int v4_12)] → fX5_innermostRound_12 σ p1 v2_12 n12 v3_12 v4_12 = some r → W p l e (headSpec wsX5_innermostRound rmX5_innermostRound).room s m ([.ref h, .int p1] : List Value).toArray below meth c s.heap [] 0 0 (MQ below (vp_Si (fun r' => r' = r)) ([.ref h, .int p1] : List Value).toArray s 0 0 (fun _ => False)) (F0 m 12 ls []) := by
    intro v2_12 n12
    induction n12 with
    | zero => intro v3_12 v4_12 ls hl hf; exact nomatch (show (none : Option (Int32)) = some _ from hf)
    | succ n12 ih12 =>
      intro v3_12 v4_12 ls hl hf
      rw [fX5_innermostRound_12] at hf
      refine lv_iload hx hb dX5_innermostRound_12 (lv_at hl 3 rfl) ?_
      refine lv_aload_n hx hb dX5_innermostRound_14 rfl (lv_at hl 0 rfl) ?_
      obtain ⟨r_1, e_1, hf⟩ := bo hf
      refine pcallV (W0 := (wS g h a1 a2 a3 a4 σ)) (As := []) (rest := [.int v4_12]) [0, 1, 2, 3, 4] 3 0 ⟨hx, hb, hml, hown, hts⟩ hP hE hZ hS (cX4_lineCount_ok l g h a1 a2 a3 a4 σ e_1) (cwV 0 hts gX5_innermostRound_X4_lineCount rfl rfl rfl hdX4_lineCount ⟨(Nat.le_of_ble_eq_true rfl), (Nat.le_of_ble_eq_true rfl)⟩) rfl rfl rfl rfl rfl hl.1 rfl (Nat.le_of_ble_eq_true rfl) ⟨(Nat.le_of_ble_eq_true rfl), (Nat.le_of_ble_eq_true rfl)⟩ dX5_innermostRound_15 ?_
      refine lv_icmp_ge (tgt := 60) hx hb dX5_innermostRound_18 (by decide) (fun c_2 => ?_) (fun c_2 => ?_)
      · have hf := ip c_2 hf
        refine lv_iload_n hx hb dX5_innermostRound_60 rfl (lv_at hl 2 rfl) ?_
        exact p_iret (v := v3_12) hx hb hr hlocks (Option.some.inj hf) dX5_innermostRound_61
      · have hf := iq c_2 hf
        refine lv_aload_n hx hb dX5_innermostRound_21 rfl (lv_at hl 0 rfl) ?_
        refine lv_iload hx hb dX5_innermostRound_22 (lv_at hl 3 rfl) ?_
        refine lv_iload_n hx hb dX5_innermostRound_24 rfl (lv_at hl 1 rfl) ?_
        obtain ⟨r_3, e_3, hf⟩ := bo hf
        refine pcallS (W0 := (wS g h a1 a2 a3 a4 σ)) (As := [.ref h, .int v4_12, .int v2_12]) (rest := []) [0, 1, 2, 3, 4] ⟨hx, hb, hml, hown, hts⟩ hP hE hZ hS (cX5_goesRound_ok l g h a1 a2 a3 a4 σ v4_12 v2_12 e_3) (va_cwS 3 hts gX5_innermostRound_X5_goesRound rfl rfl rfl hdX5_goesRound.2 ⟨(Nat.le_of_ble_eq_true rfl), (Nat.le_of_ble_eq_true rfl)⟩) rfl rfl hl.1 rfl (Nat.le_of_ble_eq_true rfl) ⟨(Nat.le_of_ble_eq_true rfl), (Nat.le_of_ble_eq_true rfl)⟩ dX5_innermostRound_25 ?_
        refine lv_beq (tgt := 54) hx hb dX5_innermostRound_28 (by decide) (fun c_4 => ?_) (fun c_4 => ?_)
        · have hf := iq c_4 hf
          refine lv_iinc (v := (v4_12 + 1)) (lv' := [(4, .int (v4_12 + 1)), (0, .ref h), (2, .int v2_12), (3, .int v3_12)]) hx hb dX5_innermostRound_54 hl (k := 3) rfl rfl (by decide) rfl (fun ls hl => ?_)
          refine lv_goto (tgt := 12) hx hb dX5_innermostRound_57 (by decide) ?_
          exact ih12 v3_12 (v4_12 + 1) ls (lv_sub hl [1, 2, 3, 0] rfl) hf
        · have hf := ip c_4 hf
          refine lv_iload_n hx hb dX5_innermostRound_31 rfl (lv_at hl 2 rfl) ?_
          refine lv_iconst (v := (-1 : Int32)) hx hb dX5_innermostRound_32 (by decide) ?_
          refine lv_icmp_eq (tgt := 51) hx hb dX5_innermostRound_33 (by decide) (fun c_5 => ?_) (fun c_5 => ?_)
          · have hf := ip c_5 hf
            refine lv_iload hx hb dX5_innermostRound_51 (lv_at hl 3 rfl) ?_
            refine lv_istore_n (lv' := [(3, .int v4_12), (0, .ref h), (2, .int v2_12), (4, .int v4_12)]) hx hb dX5_innermostRound_53 rfl hl (by decide) rfl (fun ls hl => ?_)
            refine lv_iinc (v := (v4_12 + 1)) (lv' := [(4, .int (v4_12 + 1)), (3, .int v4_12), (0, .ref h), (2, .int v2_12)]) hx hb dX5_innermostRound_54 hl (k := 3) rfl rfl (by decide) rfl (fun ls hl => ?_)
            refine lv_goto (tgt := 12) hx hb dX5_innermostRound_57 (by decide) ?_
            exact ih12 v4_12 (v4_12 + 1) ls (lv_sub hl [2, 3, 1, 0] rfl) hf
          · have hf := iq c_5 hf
            refine lv_aload_n hx hb dX5_innermostRound_36 rfl (lv_at hl 0 rfl) ?_
            refine lv_iload_n hx hb dX5_innermostRound_37 rfl (lv_at hl 2 rfl) ?_
            refine lv_aload_n hx hb dX5_innermostRound_38 rfl (lv_at hl 0 rfl) ?_
            refine lv_iload hx hb dX5_innermostRound_39 (lv_at hl 3 rfl) ?_
            refine lv_iconst (v := (0 : Int32)) hx hb dX5_innermostRound_41 (by decide) ?_
            obtain ⟨r_6, e_6, hf⟩ := bo hf
            refine pcallV (W0 := (wS g h a1 a2 a3 a4 σ)) (As := [.int v4_12, .int (0 : Int32)]) (rest := [.int v3_12, .ref h]) [0, 1, 2, 3, 4] 3 0 ⟨hx, hb, hml, hown, hts⟩ hP hE hZ hS (cX4_pointAt_ok l g h a1 a2 a3 a4 σ v4_12 (0 : Int32) e_6) (cwV 2 hts gX5_innermostRound_X4_pointAt rfl rfl rfl hdX4_pointAt ⟨(Nat.le_of_ble_eq_true rfl), (Nat.le_of_ble_eq_true rfl)⟩) rfl rfl rfl rfl rfl hl.1 rfl (Nat.le_of_ble_eq_true rfl) ⟨(Nat.le_of_ble_eq_true rfl), (Nat.le_of_ble_eq_true rfl)⟩ dX5_innermostRound_42 ?_
            obtain ⟨r_7, e_7, hf⟩ := bo hf
            refine pcallS (W0 := (wS g h a1 a2 a3 a4 σ)) (As := [.ref h, .int v3_12, .int r_6]) (rest := []) [0, 1, 2, 3, 4] ⟨hx, hb, hml, hown, hts⟩ hP hE hZ hS (cX5_goesRound_ok l g h a1 a2 a3 a4 σ v3_12 r_6 e_7) (va_cwS 3 hts gX5_innermostRound_X5_goesRound rfl rfl rfl hdX5_goesRound.2 ⟨(Nat.le_of_ble_eq_true rfl), (Nat.le_of_ble_eq_true rfl)⟩) rfl rfl hl.1 rfl (Nat.le_of_ble_eq_true rfl) ⟨(Nat.le_of_ble_eq_true rfl), (Nat.le_of_ble_eq_true rfl)⟩ dX5_innermostRound_45 ?_
            refine lv_beq (tgt := 54) hx hb dX5_innermostRound_48 (by decide) (fun c_8 => ?_) (fun c_8 => ?_)
            · have hf := iq c_8 hf
              refine lv_iinc (v := (v4_12 + 1)) (lv' := [(4, .int (v4_12 + 1)), (0, .ref h), (2, .int v2_12), (3, .int v3_12)]) hx hb dX5_innermostRound_54 hl (k := 3) rfl rfl (by decide) rfl (fun ls hl => ?_)
              refine lv_goto (tgt := 12) hx hb dX5_innermostRound_57 (by decide) ?_
              exact ih12 v3_12 (v4_12 + 1) ls (lv_sub hl [1, 2, 3, 0] rfl) hf
            · have hf := ip c_8 hf
              refine lv_iload hx hb dX5_innermostRound_51 (lv_at hl 3 rfl) ?_
              refine lv_istore_n (lv' := [(3, .int v4_12), (0, .ref h), (2, .int v2_12), (4, .int v4_12)]) hx hb dX5_innermostRound_53 rfl hl (by decide) rfl (fun ls hl => ?_)
              refine lv_iinc (v := (v4_12 + 1)) (lv' := [(4, .int (v4_12 + 1)), (3, .int v4_12), (0, .ref h), (2, .int v2_12)]) hx hb dX5_innermostRound_54 hl (k := 3) rfl rfl (by decide) rfl (fun ls hl => ?_)
              refine lv_goto (tgt := 12) hx hb dX5_innermostRound_57 (by decide) ?_
              exact ih12 v4_12 (v4_12 + 1) ls (lv_sub hl [2, 3, 1, 0] rfl) hf
  unfold fX5_innermostRound at hf
  refine lv_aload_n hx hb dX5_innermostRound_0 rfl (lv_at hl 0 rfl) ?_
  refine lv_iload_n hx hb dX5_innermostRound_1 rfl (lv_at hl 1 rfl) ?_
  refine lv_iconst (v := (0 : Int32)) hx hb dX5_innermostRound_2 (by decide) ?_
  obtain ⟨r_9, e_9, hf⟩ := bo hf
  refine pcallV (W0 := (wS g h a1 a2 a3 a4 σ)) (As := [.int p1, .int (0 : Int32)]) (rest := []) [0, 1, 2, 3, 4] 3 0 ⟨hx, hb, hml, hown, hts⟩ hP hE hZ hS (cX4_pointAt_ok l g h a1 a2 a3 a4 σ p1 (0 : Int32) e_9) (cwV 2 hts gX5_innermostRound_X4_pointAt rfl rfl rfl hdX4_pointAt ⟨(Nat.le_of_ble_eq_true rfl), (Nat.le_of_ble_eq_true rfl)⟩) rfl rfl rfl rfl rfl hl.1 rfl (Nat.le_of_ble_eq_true rfl) ⟨(Nat.le_of_ble_eq_true rfl), (Nat.le_of_ble_eq_true rfl)⟩ dX5_innermostRound_3 ?_
  refine lv_istore_n (lv' := [(2, .int r_9), (0, .ref h), (1, .int p1)]) hx hb dX5_innermostRound_6 rfl hl (by decide) rfl (fun ls hl => ?_)
  refine lv_iconst (v := (-1 : Int32)) hx hb dX5_innermostRound_7 (by decide) ?_
  refine lv_istore_n (lv' := [(3, .int (-1 : Int32)), (2, .int r_9), (0, .ref h), (1, .int p1)]) hx hb dX5_innermostRound_8 rfl hl (by decide) rfl (fun ls hl => ?_)
  refine lv_iconst (v := (0 : Int32)) hx hb dX5_innermostRound_9 (by decide) ?_
  refine lv_istore (lv' := [(4, .int (0 : Int32)), (3, .int (-1 : Int32)), (2, .int r_9), (0, .ref h), (1, .int p1)]) hx hb dX5_innermostRound_10 hl (by decide) rfl (fun ls hl => ?_)
  exact hB12 r_9 FU (-1 : Int32) (0 : Int32) ls (lv_sub hl [3, 2, 1, 0] rfl) hf
