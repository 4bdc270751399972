def fX2_lastNumber (σ : Sh) (p1 p2 : Int32) : Option (Int32) := ((fX4_sizeIn σ p1).bind fun r_1 => (some ((p2 + r_1) - (1 : Int32))))
abbrev rmX2_lastNumber : Room := { frames := 1, cells := 0, slots := 0, locals := 21 }
theorem hdX2_lastNumber : yX2_lastNumber.cls = RX2 ∧ yX2_lastNumber.cls ≠ "java/lang/invoke/MethodHandle" ∧ yX2_lastNumber.cls ≠ "java/lang/invoke/VarHandle" ∧ (parseMethodDescriptor yX2_lastNumber.desc).map (fun d => d.parameters.length) = some 3 := by decide +kernel
set_option maxHeartbeats 4000000 in
set_option maxRecDepth 100000 in
theorem cX2_lastNumber_ok (l : Launch) (g : Gg) (h a1 a2 a3 a4 : Nat) (σ : Sh) (p1 p2 : Int32) {r : Int32} (hf : fX2_lastNumber σ p1 p2 = some r) : Met l yX2_lastNumber wsX2_lastNumber rmX2_lastNumber (va_Pc [.ref h, .int p1, .int p2] (PP g (wS g h a1 a2 a3 a4 σ))) (vp_Si (fun r' => r' = r)) 0 0 (fun _ => False) := by
  refine Met.ofW (cc := cX2_lastNumber) (maxL := 3) (ret := (some .int)) (by decide) rfl ?_
  intro p e s m args below meth c s₁ B hml hv
  obtain ⟨rfl, hP, hE, hZ⟩ := hv
  have hx := B.exec
  have hb := B.bytes
  have hr := B.returns
  have hts := atoms_spec (ws := wsX2_lastNumber) B.pre
  have hown : s.vm.findClass RX2 = some m.cls := findClass_of_methodNamed B.named
  have hlocks := B.notSynchronized
  have hS : va_S (fun _ => False) s.heap s.heap [] := va_S.rf
  have hl := lv_entry ([.ref h, .int p1, .int p2]) (n := 3) (Nat.le_of_ble_eq_true rfl)
  rw [lg_entry_eq]
  generalize (lg_sl ([.ref h, .int p1, .int p2]) ++ List.replicate (3 - (lg_sl ([.ref h, .int p1, .int p2])).length) Slot.unset).toArray = ls at hl ⊢
  have hl : lv_has ls 3 [(0, .ref h), (1, .int p1), (2, .int p2)] := hl
  unfold fX2_lastNumber at hf
  refine lv_iload_n hx hb dX2_lastNumber_0 rfl (lv_at hl 2 rfl) ?_
  refine lv_aload_n hx hb dX2_lastNumber_1 rfl (lv_at hl 0 rfl) ?_
  refine lv_iload_n hx hb dX2_lastNumber_2 rfl (lv_at hl 1 rfl) ?_
  obtain ⟨r_1, e_1, hf⟩ := bo hf
  refine pcallV (W0 := (wS g h a1 a2 a3 a4 σ)) (As := [.int p1]) (rest := [.int p2]) [0, 1, 2, 3, 4] 3 0 ⟨hx, hb, hml, hown, hts⟩ hP hE hZ hS (cX4_sizeIn_ok l g h a1 a2 a3 a4 σ p1 e_1) (cwV 1 hts gX2_lastNumber_X4_sizeIn rfl rfl rfl hdX4_sizeIn ⟨(Nat.le_of_ble_eq_true rfl), (Nat.le_of_ble_eq_true rfl)⟩) rfl rfl rfl rfl rfl hl.1 rfl (Nat.le_of_ble_eq_true rfl) ⟨(Nat.le_of_ble_eq_true rfl), (Nat.le_of_ble_eq_true rfl)⟩ dX2_lastNumber_3 ?_
  refine lv_iadd hx hb dX2_lastNumber_6 ?_
  refine lv_iconst (v := (1 : Int32)) hx hb dX2_lastNumber_7 (by decide) ?_
  refine lv_isub hx hb dX2_lastNumber_8 ?_
  exact p_iret (v := ((p2 + r_1) - (1 : Int32))) hx hb hr hlocks (Option.some.inj hf) dX2_lastNumber_9

def fX2_isPlace_19 (σ : Sh) (p1 p2 : Int32) (v3_19 : Int32) : Option (Bool) := ((fX4_hasNumber σ p1 p2).bind fun r_1 => (if r_1 = true then ((fX4_sizeIn σ p1).bind fun r_3 => (if v3_19 < (p2 + r_3) then (some false) else (some true))) else (some false)))
def fX2_isPlace (σ : Sh) (p1 p2 : Int32) : Option (Bool) := ((fX4_stepCount σ p1).bind fun r_5 => ((fX4_isRing σ p1).bind fun r_6 => (if r_6 = true then fX2_isPlace_19 σ p1 p2 ((r_5 + (1 : Int32)) + (-1)) else fX2_isPlace_19 σ p1 p2 (r_5 + (1 : Int32)))))
abbrev rmX2_isPlace : Room := { frames := 1, cells := 0, slots := 0, locals := 22 }
theorem hdX2_isPlace : yX2_isPlace.cls = RX2 ∧ yX2_isPlace.cls ≠ "java/lang/invoke/MethodHandle" ∧ yX2_isPlace.cls ≠ "java/lang/invoke/VarHandle" ∧ (parseMethodDescriptor yX2_isPlace.desc).map (fun d => d.parameters.length) = some 3 := by decide +kernel
set_option maxHeartbeats 4000000 in
set_option maxRecDepth 100000 in
theorem cX2_isPlace_ok (l : Launch) (g : Gg) (h a1 a2 a3 a4 : Nat) (σ : Sh) (p1 p2 : Int32) {r : Bool} (hf : fX2_isPlace σ p1 p2 = some r) : Met l yX2_isPlace wsX2_isPlace rmX2_isPlace (va_Pc [.ref h, .int p1, .int p2] (PP g (wS g h a1 a2 a3 a4 σ))) (vp_Si (fun r' => r' = b2i r)) 0 0 (fun _ => False) := by
  refine Met.ofW (cc := cX2_isPlace) (maxL := 4) (ret := (some .boolean)) (by decide) rfl ?_
  intro p e s m args below meth c s₁ B hml hv
  obtain ⟨rfl, hP, hE, hZ⟩ := hv
  have hx := B.exec
  have hb := B.bytes
  have hr := B.returns
  have hts := atoms_spec (ws := wsX2_isPlace) B.pre
  have hown : s.vm.findClass RX2 = some m.cls := findClass_of_methodNamed B.named
  have hlocks := B.notSynchronized
  have hS : va_S (fun _ => False) s.heap s.heap [] := va_S.rf
  have hl := lv_entry ([.ref h, .int p1, .int p2]) (n := 4) (Nat.le_of_ble_eq_true rfl)
  rw [lg_entry_eq]
  generalize (lg_sl ([.ref h, .int p1, .int p2]) ++ List.replicate (4 - (lg_sl ([.ref h, .int p1, .int p2])).length) Slot.unset).toArray = ls at hl ⊢
  have hl : lv_has ls 4 [(0, .ref h), (1, .int p1), (2, .int p2)] := hl
  have hB19 : ∀ (v3_19 : Int32) (ls : Array Slot), lv_has ls 4 [(0, .ref h), (1, .int p1), (2, .int p2), (3, .int v3_19)] → fX2_isPlace_19 σ p1 p2 v3_19 = some r → W p l e (headSpec wsX2_isPlace rmX2_isPlace).room s m ([.ref h, .int p1, .int p2] : List Value).toArray below meth c s.heap [] 0 0 (MQ below (vp_Si (fun r' => r' = b2i r)) ([.ref h, .int p1, .int p2] : List Value).toArray s 0 0 (fun _ => False)) (F0 m 19 ls []) := by
    intro  v3_19 ls hl hf
    unfold fX2_isPlace_19 at hf
    refine lv_aload_n hx hb dX2_isPlace_19 rfl (lv_at hl 0 rfl) ?_
    refine lv_iload_n hx hb dX2_isPlace_20 rfl (lv_at hl 1 rfl) ?_
    refine lv_iload_n hx hb dX2_isPlace_21 rfl (lv_at hl 2 rfl) ?_
    obtain ⟨r_1, e_1, hf⟩ := bo hf
    refine pcallV (W0 := (wS g h a1 a2 a3 a4 σ)) (As := [.int p1, .int p2]) (rest := []) [0, 1, 2, 3, 4] 3 0 ⟨hx, hb, hml, hown, hts⟩ hP hE hZ hS (cX4_hasNumber_ok l g h a1 a2 a3 a4 σ p1 p2 e_1) (cwV 2 hts gX2_isPlace_X4_hasNumber rfl rfl rfl hdX4_hasNumber ⟨(Nat.le_of_ble_eq_true rfl), (Nat.le_of_ble_eq_true rfl)⟩) rfl rfl rfl rfl rfl hl.1 rfl (Nat.le_of_ble_eq_true rfl) ⟨(Nat.le_of_ble_eq_true rfl), (Nat.le_of_ble_eq_true rfl)⟩ dX2_isPlace_22 ?_
    refine lv_beq (tgt := 43) hx hb dX2_isPlace_25 (by decide) (fun c_2 => ?_) (fun c_2 => ?_)
    · have hf := iq c_2 hf
      refine lv_iconst (v := (0 : Int32)) hx hb dX2_isPlace_43 (by decide) ?_
      exact p_zret (v := false) hx hb hr hlocks (Option.some.inj hf) dX2_isPlace_44
    · have hf := ip c_2 hf
      refine lv_iload_n hx hb dX2_isPlace_28 rfl (lv_at hl 2 rfl) ?_
      refine lv_aload_n hx hb dX2_isPlace_29 rfl (lv_at hl 0 rfl) ?_
      refine lv_iload_n hx hb dX2_isPlace_30 rfl (lv_at hl 1 rfl) ?_
      obtain ⟨r_3, e_3, hf⟩ := bo hf
      refine pcallV (W0 := (wS g h a1 a2 a3 a4 σ)) (As := [.int p1]) (rest := [.int p2]) [0, 1, 2, 3, 4] 3 0 ⟨hx, hb, hml, hown, hts⟩ hP hE hZ hS (cX4_sizeIn_ok l g h a1 a2 a3 a4 σ p1 e_3) (cwV 1 hts gX2_isPlace_X4_sizeIn rfl rfl rfl hdX4_sizeIn ⟨(Nat.le_of_ble_eq_true rfl), (Nat.le_of_ble_eq_true rfl)⟩) rfl rfl rfl rfl rfl hl.1 rfl (Nat.le_of_ble_eq_true rfl) ⟨(Nat.le_of_ble_eq_true rfl), (Nat.le_of_ble_eq_true rfl)⟩ dX2_isPlace_31 ?_
      refine lv_iadd hx hb dX2_isPlace_34 ?_
      refine lv_iload_n hx hb dX2_isPlace_35 rfl (lv_at hl 3 rfl) ?_
      refine lv_icmp_gt (tgt := 43) hx hb dX2_isPlace_36 (by decide) (fun c_4 => ?_) (fun c_4 => ?_)
      · have hf := ip c_4 hf
        refine lv_iconst (v := (0 : Int32)) hx hb dX2_isPlace_43 (by decide) ?_
        exact p_zret (v := false) hx hb hr hlocks (Option.some.inj hf) dX2_isPlace_44
      · have hf := iq c_4 hf
        refine lv_iconst (v := (1 : Int32)) hx hb dX2_isPlace_39 (by decide) ?_
        refine lv_goto (tgt := 44) hx hb dX2_isPlace_40 (by decide) ?_
        exact p_zret (v := true) hx hb hr hlocks (Option.some.inj hf) dX2_isPlace_44
  unfold fX2_isPlace at hf
  refine lv_aload_n hx hb dX2_isPlace_0 rfl (lv_at hl 0 rfl) ?_
  refine lv_iload_n hx hb dX2_isPlace_1 rfl (lv_at hl 1 rfl) ?_
  obtain ⟨r_5, e_5, hf⟩ := bo hf
  refine pcallV (W0 := (wS g h a1 a2 a3 a4 σ)) (As := [.int p1]) (rest := []) [0, 1, 2, 3, 4] 3 0 ⟨hx, hb, hml, hown, hts⟩ hP hE hZ hS (cX4_stepCount_ok l g h a1 a2 a3 a4 σ p1 e_5) (cwV 1 hts gX2_isPlace_X4_stepCount rfl rfl rfl hdX4_stepCount ⟨(Nat.le_of_ble_eq_true rfl), (Nat.le_of_ble_eq_true rfl)⟩) rfl rfl rfl rfl rfl hl.1 rfl (Nat.le_of_ble_eq_true rfl) ⟨(Nat.le_of_ble_eq_true rfl), (Nat.le_of_ble_eq_true rfl)⟩ dX2_isPlace_2 ?_
  refine lv_iconst (v := (1 : Int32)) hx hb dX2_isPlace_5 (by decide) ?_
  refine lv_iadd hx hb dX2_isPlace_6 ?_
  refine lv_istore_n (lv' := [(3, .int (r_5 + (1 : Int32))), (0, .ref h), (1, .int p1), (2, .int p2)]) hx hb dX2_isPlace_7 rfl hl (by decide) rfl (fun ls hl => ?_)
  refine lv_aload_n hx hb dX2_isPlace_8 rfl (lv_at hl 1 rfl) ?_
  refine lv_iload_n hx hb dX2_isPlace_9 rfl (lv_at hl 2 rfl) ?_
  obtain ⟨r_6, e_6, hf⟩ := bo hf
  refine pcallV (W0 := (wS g h a1 a2 a3 a4 σ)) (As := [.int p1]) (rest := []) [0, 1, 2, 3, 4] 3 0 ⟨hx, hb, hml, hown, hts⟩ hP hE hZ hS (cX4_isRing_ok l g h a1 a2 a3 a4 σ p1 e_6) (cwV 1 hts gX2_isPlace_X4_isRing rfl rfl rfl hdX4_isRing ⟨(Nat.le_of_ble_eq_true rfl), (Nat.le_of_ble_eq_true rfl)⟩) rfl rfl rfl rfl rfl hl.1 rfl (Nat.le_of_ble_eq_true rfl) ⟨(Nat.le_of_ble_eq_true rfl), (Nat.le_of_ble_eq_true rfl)⟩ dX2_isPlace_10 ?_
  refine lv_beq (tgt := 19) hx hb dX2_isPlace_13 (by decide) (fun c_7 => ?_) (fun c_7 => ?_)
  · have hf := iq c_7 hf
    exact hB19 (r_5 + (1 : Int32)) ls (lv_sub hl [1, 2, 3, 0] rfl) hf
  · have hf := ip c_7 hf
    refine lv_iinc (v := ((r_5 + (1 : Int32)) + (-1))) (lv' := [(3, .int ((r_5 + (1 : Int32)) + (-1))), (0, .ref h), (1, .int p1), (2, .int p2)]) hx hb dX2_isPlace_16 hl (k := 0) rfl rfl (by decide) rfl (fun ls hl => ?_)
    exact hB19 ((r_5 + (1 : Int32)) + (-1)) ls (lv_sub hl [1, 2, 3, 0] rfl) hf

def fX2_bendOfPlace_28 (σ : Sh) (p1 p2 : Int32) (v3_28 : Int32) : Nat → Int32 → Int32 → Option (Int32)
  | 0, _, _ => none
  | n + 1, v4_28, v5_28 => (if v3_28 < v5_28 then (some v4_28) else ((fX4_hasNumber σ p1 v5_28).bind fun r_2 => (if r_2 = true then ((fX4_bendThere σ p1 v5_28).bind fun r_4 => fX2_bendOfPlace_28 σ p1 p2 v3_28 n (v4_28 + r_4) (v5_28 + 1)) else fX2_bendOfPlace_28 σ p1 p2 v3_28 n v4_28 (v5_28 + 1))))
def fX2_bendOfPlace (σ : Sh) (p1 p2 : Int32) : Option (Int32) := ((fX2_isPlace σ p1 p2).bind fun r_5 => (if r_5 = true then ((fX2_lastNumber σ p1 p2).bind fun r_7 => fX2_bendOfPlace_28 σ p1 p2 (r_7 + (1 : Int32)) FU (0 : Int32) (p2 - (1 : Int32))) else (some (-1 : Int32))))
abbrev rmX2_bendOfPlace : Room := { frames := 2, cells := 0, slots := 0, locals := 48 }
theorem hdX2_bendOfPlace : yX2_bendOfPlace.cls = RX2 ∧ yX2_bendOfPlace.cls ≠ "java/lang/invoke/MethodHandle" ∧ yX2_bendOfPlace.cls ≠ "java/lang/invoke/VarHandle" ∧ (parseMethodDescriptor yX2_bendOfPlace.desc).map (fun d => d.parameters.length) = some 3 := by decide +kernel
set_option maxHeartbeats 4000000 in
set_option maxRecDepth 100000 in
theorem cX2_bendOfPlace_ok (l : Launch) (g : Gg) (h a1 a2 a3 a4 : Nat) (σ : Sh) (p1 p2 : Int32) {r : Int32} (hf : fX2_bendOfPlace σ p1 p2 = some r) : Met l yX2_bendOfPlace wsX2_bendOfPlace rmX2_bendOfPlace (va_Pc [.ref h, .int p1, .int p2] (PP g (wS g h a1 a2 a3 a4 σ))) (vp_Si (fun r' => r' = r)) 0 0 (fun _ => False) := by
  refine Met.ofW (cc := cX2_bendOfPlace) (maxL := 6) (ret := (some .int)) (by decide) rfl ?_
  intro p e s m args below meth c s₁ B hml hv
  obtain ⟨rfl, hP, hE, hZ⟩ := hv
  have hx := B.exec
  have hb := B.bytes
  have hr := B.returns
  have hts := atoms_spec (ws := wsX2_bendOfPlace) B.pre
  have hown : s.vm.findClass RX2 = some m.cls := findClass_of_methodNamed B.named
  have hlocks := B.notSynchronized
  have hS : va_S (fun _ => False) s.heap s.heap [] := va_S.rf
  have hl := lv_entry ([.ref h, .int p1, .int p2]) (n := 6) (Nat.le_of_ble_eq_true rfl)
  rw [lg_entry_eq]
  generalize (lg_sl ([.ref h, .int p1, .int p2]) ++ List.replicate (6 - (lg_sl ([.ref h, .int p1, .int p2])).length) Slot.unset).toArray = ls at hl ⊢
  have hl : lv_has ls 6 [(0, .ref h), (1, .int p1), (2, .int p2)] := hl
  have hB28 : ∀ (v3_28 : Int32) (n28 : Nat) (v4_28 : Int32) (v5_28 : Int32) (ls : Array Slot), lv_has ls 6 [(0, .ref h), (1, .int p1), (3, .int v3_28), (4, .int v4_28), (5, .int v5_28)] → fX2_bendOfPlace_28 σ p1 p2 v3_28 n28 v4_28 v5_28 = some r → W p l e (headSpec wsX2_bendOfPlace rmX2_bendOfPlace).room s m ([.ref h, .int p1, .int p2] : List Value).toArray below meth c s.heap [] 0 0 (MQ below (vp_Si (fun r' => r' = r)) ([.ref h, .int p1, .int p2] : List Value).toArray s 0 0 (fun _ => False)) (F0 m 28 ls []) := by
    intro v3_28 n28
    induction n28 with
    | zero => intro v4_28 v5_28 ls hl hf; exact nomatch (show (none : Option (Int32)) = some _ from hf)
    | succ n28 ih28 =>
      intro v4_28 v5_28 ls hl hf
      rw [fX2_bendOfPlace_28] at hf
      refine lv_iload hx hb dX2_bendOfPlace_28 (lv_at hl 4 rfl) ?_
      refine lv_iload_n hx hb dX2_bendOfPlace_30 rfl (lv_at hl 2 rfl) ?_
      refine lv_icmp_gt (tgt := 62) hx hb dX2_bendOfPlace_31 (by decide) (fun c_1 => ?_) (fun c_1 => ?_)
      · have hf := ip c_1 hf
        refine lv_iload hx hb dX2_bendOfPlace_62 (lv_at hl 3 rfl) ?_
        exact p_iret (v := v4_28) hx hb hr hlocks (Option.some.inj hf) dX2_bendOfPlace_64
      · have hf := iq c_1 hf
        refine lv_aload_n hx hb dX2_bendOfPlace_34 rfl (lv_at hl 0 rfl) ?_
        refine lv_iload_n hx hb dX2_bendOfPlace_35 rfl (lv_at hl 1 rfl) ?_
        refine lv_iload hx hb dX2_bendOfPlace_36 (lv_at hl 4 rfl) ?_
        obtain ⟨r_2, e_2, hf⟩ := bo hf
        refine pcallV (W0 := (wS g h a1 a2 a3 a4 σ)) (As := [.int p1, .int v5_28]) (rest := []) [0, 1, 2, 3, 4] 3 0 ⟨hx, hb, hml, hown, hts⟩ hP hE hZ hS (cX4_hasNumber_ok l g h a1 a2 a3 a4 σ p1 v5_28 e_2) (cwV 2 hts gX2_bendOfPlace_X4_hasNumber rfl rfl rfl hdX4_hasNumber ⟨(Nat.le_of_ble_eq_true rfl), (Nat.le_of_ble_eq_true rfl)⟩) rfl rfl rfl rfl rfl hl.1 rfl (Nat.le_of_ble_eq_true rfl) ⟨(Nat.le_of_ble_eq_true rfl), (Nat.le_of_ble_eq_true rfl)⟩ dX2_bendOfPlace_38 ?_
        refine lv_beq (tgt := 56) hx hb dX2_bendOfPlace_41 (by decide) (fun c_3 => ?_) (fun c_3 => ?_)
        · have hf := iq c_3 hf
          refine lv_iinc (v := (v5_28 + 1)) (lv' := [(5, .int (v5_28 + 1)), (0, .ref h), (1, .int p1), (3, .int v3_28), (4, .int v4_28)]) hx hb dX2_bendOfPlace_56 hl (k := 4) rfl rfl (by decide) rfl (fun ls hl => ?_)
          refine lv_goto (tgt := 28) hx hb dX2_bendOfPlace_59 (by decide) ?_
          exact ih28 v4_28 (v5_28 + 1) ls (lv_sub hl [1, 2, 3, 4, 0] rfl) hf
        · have hf := ip c_3 hf
          refine lv_iload hx hb dX2_bendOfPlace_44 (lv_at hl 3 rfl) ?_
          refine lv_aload_n hx hb dX2_bendOfPlace_46 rfl (lv_at hl 0 rfl) ?_
          refine lv_iload_n hx hb dX2_bendOfPlace_47 rfl (lv_at hl 1 rfl) ?_
          refine lv_iload hx hb dX2_bendOfPlace_48 (lv_at hl 4 rfl) ?_
          obtain ⟨r_4, e_4, hf⟩ := bo hf
          refine pcallV (W0 := (wS g h a1 a2 a3 a4 σ)) (As := [.int p1, .int v5_28]) (rest := [.int v4_28]) [0, 1, 2, 3, 4] 3 0 ⟨hx, hb, hml, hown, hts⟩ hP hE hZ hS (cX4_bendThere_ok l g h a1 a2 a3 a4 σ p1 v5_28 e_4) (cwV 2 hts gX2_bendOfPlace_X4_bendThere rfl rfl rfl hdX4_bendThere ⟨(Nat.le_of_ble_eq_true rfl), (Nat.le_of_ble_eq_true rfl)⟩) rfl rfl rfl rfl rfl hl.1 rfl (Nat.le_of_ble_eq_true rfl) ⟨(Nat.le_of_ble_eq_true rfl), (Nat.le_of_ble_eq_true rfl)⟩ dX2_bendOfPlace_50 ?_
          refine lv_iadd hx hb dX2_bendOfPlace_53 ?_
          refine lv_istore (lv' := [(4, .int (v4_28 + r_4)), (0, .ref h), (1, .int p1), (3, .int v3_28), (5, .int v5_28)]) hx hb dX2_bendOfPlace_54 hl (by decide) rfl (fun ls hl => ?_)
          refine lv_iinc (v := (v5_28 + 1)) (lv' := [(5, .int (v5_28 + 1)), (4, .int (v4_28 + r_4)), (0, .ref h), (1, .int p1), (3, .int v3_28)]) hx hb dX2_bendOfPlace_56 hl (k := 4) rfl rfl (by decide) rfl (fun ls hl => ?_)
          refine lv_goto (tgt := 28) hx hb dX2_bendOfPlace_59 (by decide) ?_
          exact ih28 (v4_28 + r_4) (v5_28 + 1) ls (lv_sub hl [2, 3, 4, 1, 0] rfl) hf
  unfold fX2_bendOfPlace at hf
  refine lv_aload_n hx hb dX2_bendOfPlace_0 rfl (lv_at hl 0 rfl) ?_
  refine lv_iload_n hx hb dX2_bendOfPlace_1 rfl (lv_at hl 1 rfl) ?_
  refine lv_iload_n hx hb dX2_bendOfPlace_2 rfl (lv_at hl 2 rfl) ?_
  obtain ⟨r_5, e_5, hf⟩ := bo hf
  refine pcallS (W0 := (wS g h a1 a2 a3 a4 σ)) (As := [.ref h, .int p1, .int p2]) (rest := []) [0, 1, 2, 3, 4] ⟨hx, hb, hml, hown, hts⟩ hP hE hZ hS (cX2_isPlace_ok l g h a1 a2 a3 a4 σ p1 p2 e_5) (va_cwS 3 hts gX2_bendOfPlace_X2_isPlace rfl rfl rfl hdX2_isPlace.2 ⟨(Nat.le_of_ble_eq_true rfl), (Nat.le_of_ble_eq_true rfl)⟩) rfl rfl hl.1 rfl (Nat.le_of_ble_eq_true rfl) ⟨(Nat.le_of_ble_eq_true rfl), (Nat.le_of_ble_eq_true rfl)⟩ dX2_bendOfPlace_3 ?_
  refine lv_bne (tgt := 11) hx hb dX2_bendOfPlace_6 (by decide) (fun c_6 => ?_) (fun c_6 => ?_)
  · have hf := ip c_6 hf
    refine lv_aload_n hx hb dX2_bendOfPlace_11 rfl (lv_at hl 0 rfl) ?_
    refine lv_iload_n hx hb dX2_bendOfPlace_12 rfl (lv_at hl 1 rfl) ?_
    refine lv_iload_n hx hb dX2_bendOfPlace_13 rfl (lv_at hl 2 rfl) ?_
    obtain ⟨r_7, e_7, hf⟩ := bo hf
    refine pcallS (W0 := (wS g h a1 a2 a3 a4 σ)) (As := [.ref h, .int p1, .int p2]) (rest := []) [0, 1, 2, 3, 4] ⟨hx, hb, hml, hown, hts⟩ hP hE hZ hS (cX2_lastNumber_ok l g h a1 a2 a3 a4 σ p1 p2 e_7) (va_cwS 3 hts gX2_bendOfPlace_X2_lastNumber rfl rfl rfl hdX2_lastNumber.2 ⟨(Nat.le_of_ble_eq_true rfl), (Nat.le_of_ble_eq_true rfl)⟩) rfl rfl hl.1 rfl (Nat.le_of_ble_eq_true rfl) ⟨(Nat.le_of_ble_eq_true rfl), (Nat.le_of_ble_eq_true rfl)⟩ dX2_bendOfPlace_14 ?_
    refine lv_iconst (v := (1 : Int32)) hx hb dX2_bendOfPlace_17 (by decide) ?_
    refine lv_iadd hx hb dX2_bendOfPlace_18 ?_
    refine lv_istore_n (lv' := [(3, .int (r_7 + (1 : Int32))), (0, .ref h), (1, .int p1), (2, .int p2)]) hx hb dX2_bendOfPlace_19 rfl hl (by decide) rfl (fun ls hl => ?_)
    refine lv_iconst (v := (0 : Int32)) hx hb dX2_bendOfPlace_20 (by decide) ?_
    refine lv_istore (lv' := [(4, .int (0 : Int32)), (3, .int (r_7 + (1 : Int32))), (0, .ref h), (1, .int p1), (2, .int p2)]) hx hb dX2_bendOfPlace_21 hl (by decide) rfl (fun ls hl => ?_)
    refine lv_iload_n hx hb dX2_bendOfPlace_23 rfl (lv_at hl 4 rfl) ?_
    refine lv_iconst (v := (1 : Int32)) hx hb dX2_bendOfPlace_24 (by decide) ?_
    refine lv_isub hx hb dX2_bendOfPlace_25 ?_
    refine lv_istore (lv' := [(5, .int (p2 - (1 : Int32))), (4, .int (0 : Int32)), (3, .int (r_7 + (1 : Int32))), (0, .ref h), (1, .int p1), (2, .int p2)]) hx hb dX2_bendOfPlace_26 hl (by decide) rfl (fun ls hl => ?_)
    exact hB28 (r_7 + (1 : Int32)) FU (0 : Int32) (p2 - (1 : Int32)) ls (lv_sub hl [3, 4, 2, 1, 0] rfl) hf
  · have hf := iq c_6 hf
    refine lv_iconst (v := (-1 : Int32)) hx hb dX2_bendOfPlace_9 (by decide) ?_
    exact p_iret (v := (-1 : Int32)) hx hb hr hlocks (Option.some.inj hf) dX2_bendOfPlace_10

def fX2_goesLeft (σ : Sh) (p1 p2 : Int32) : Option (Bool) := ((fX4_pointAt σ p1 p2).bind fun r_1 => ((fX2_lastNumber σ p1 p2).bind fun r_2 => ((fX4_pointAt σ p1 r_2).bind fun r_3 => ((fX6_columnOf r_3).bind fun r_4 => ((fX6_columnOf r_1).bind fun r_5 => (if r_5 ≤ r_4 then (some false) else (some true)))))))
abbrev rmX2_goesLeft : Room := { frames := 2, cells := 0, slots := 0, locals := 43 }
theorem hdX2_goesLeft : yX2_goesLeft.cls = RX2 ∧ yX2_goesLeft.cls ≠ "java/lang/invoke/MethodHandle" ∧ yX2_goesLeft.cls ≠ "java/lang/invoke/VarHandle" ∧ (parseMethodDescriptor yX2_goesLeft.desc).map (fun d => d.parameters.length) = some 3 := by decide +kernel
theorem inX2_goesLeft_X6 : (.initialized RX6 : Cond) ∈ wsX2_goesLeft := by decide +kernel
theorem stX2_goesLeft_X6_columnOf : (.static yX6_columnOf : Cond) ∈ wsX2_goesLeft := by decide +kernel
set_option maxHeartbeats 4000000 in
set_option maxRecDepth 100000 in
theorem cX2_goesLeft_ok (l : Launch) (g : Gg) (h a1 a2 a3 a4 : Nat) (σ : Sh) (p1 p2 : Int32) {r : Bool} (hf : fX2_goesLeft σ p1 p2 = some r) : Met l yX2_goesLeft wsX2_goesLeft rmX2_goesLeft (va_Pc [.ref h, .int p1, .int p2] (PP g (wS g h a1 a2 a3 a4 σ))) (vp_Si (fun r' => r' = b2i r)) 0 0 (fun _ => False) := by
  refine Met.ofW (cc := cX2_goesLeft) (maxL := 5) (ret := (some .boolean)) (by decide) rfl ?_
  intro p e s m args below meth c s₁ B hml hv
  obtain ⟨rfl, hP, hE, hZ⟩ := hv
  have hx := B.exec
  have hb := B.bytes
  have hr := B.returns
  have hts := atoms_spec (ws := wsX2_goesLeft) B.pre
  have hown : s.vm.findClass RX2 = some m.cls := findClass_of_methodNamed B.named
  have hlocks := B.notSynchronized
  have hS : va_S (fun _ => False) s.heap s.heap [] := va_S.rf
  have hl := lv_entry ([.ref h, .int p1, .int p2]) (n := 5) (Nat.le_of_ble_eq_true rfl)
  rw [lg_entry_eq]
  generalize (lg_sl ([.ref h, .int p1, .int p2]) ++ List.replicate (5 - (lg_sl ([.ref h, .int p1, .int p2])).length) Slot.unset).toArray = ls at hl ⊢
  have hl : lv_has ls 5 [(0, .ref h), (1, .int p1), (2, .int p2)] := hl
  unfold fX2_goesLeft at hf
  refine lv_aload_n hx hb dX2_goesLeft_0 rfl (lv_at hl 0 rfl) ?_
  refine lv_iload_n hx hb dX2_goesLeft_1 rfl (lv_at hl 1 rfl) ?_
  refine lv_iload_n hx hb dX2_goesLeft_2 rfl (lv_at hl 2 rfl) ?_
  obtain ⟨r_1, e_1, hf⟩ := bo hf
  refine pcallV (W0 := (wS g h a1 a2 a3 a4 σ)) (As := [.int p1, .int p2]) (rest := []) [0, 1, 2, 3, 4] 3 0 ⟨hx, hb, hml, hown, hts⟩ hP hE hZ hS (cX4_pointAt_ok l g h a1 a2 a3 a4 σ p1 p2 e_1) (cwV 2 hts gX2_goesLeft_X4_pointAt rfl rfl rfl hdX4_pointAt ⟨(Nat.le_of_ble_eq_true rfl), (Nat.le_of_ble_eq_true rfl)⟩) rfl rfl rfl rfl rfl hl.1 rfl (Nat.le_of_ble_eq_true rfl) ⟨(Nat.le_of_ble_eq_true rfl), (Nat.le_of_ble_eq_true rfl)⟩ dX2_goesLeft_3 ?_
  refine lv_istore_n (lv' := [(3, .int r_1), (0, .ref h), (1, .int p1), (2, .int p2)]) hx hb dX2_goesLeft_6 rfl hl (by decide) rfl (fun ls hl => ?_)
  refine lv_aload_n hx hb dX2_goesLeft_7 rfl (lv_at hl 1 rfl) ?_
  refine lv_iload_n hx hb dX2_goesLeft_8 rfl (lv_at hl 2 rfl) ?_
  refine lv_aload_n hx hb dX2_goesLeft_9 rfl (lv_at hl 1 rfl) ?_
  refine lv_iload_n hx hb dX2_goesLeft_10 rfl (lv_at hl 2 rfl) ?_
  refine lv_iload_n hx hb dX2_goesLeft_11 rfl (lv_at hl 3 rfl) ?_
  obtain ⟨r_2, e_2, hf⟩ := bo hf
  refine pcallS (W0 := (wS g h a1 a2 a3 a4 σ)) (As := [.ref h, .int p1, .int p2]) (rest := [.int p1, .ref h]) [0, 1, 2, 3, 4] ⟨hx, hb, hml, hown, hts⟩ hP hE hZ hS (cX2_lastNumber_ok l g h a1 a2 a3 a4 σ p1 p2 e_2) (va_cwS 3 hts gX2_goesLeft_X2_lastNumber rfl rfl rfl hdX2_lastNumber.2 ⟨(Nat.le_of_ble_eq_true rfl), (Nat.le_of_ble_eq_true rfl)⟩) rfl rfl hl.1 rfl (Nat.le_of_ble_eq_true rfl) ⟨(Nat.le_of_ble_eq_true rfl), (Nat.le_of_ble_eq_true rfl)⟩ dX2_goesLeft_12 ?_
  obtain ⟨r_3, e_3, hf⟩ := bo hf
  refine pcallV (W0 := (wS g h a1 a2 a3 a4 σ)) (As := [.int p1, .int r_2]) (rest := []) [0, 1, 2, 3, 4] 3 0 ⟨hx, hb, hml, hown, hts⟩ hP hE hZ hS (cX4_pointAt_ok l g h a1 a2 a3 a4 σ p1 r_2 e_3) (cwV 2 hts gX2_goesLeft_X4_pointAt rfl rfl rfl hdX4_pointAt ⟨(Nat.le_of_ble_eq_true rfl), (Nat.le_of_ble_eq_true rfl)⟩) rfl rfl rfl rfl rfl hl.1 rfl (Nat.le_of_ble_eq_true rfl) ⟨(Nat.le_of_ble_eq_true rfl), (Nat.le_of_ble_eq_true rfl)⟩ dX2_goesLeft_15 ?_
  refine lv_istore (lv' := [(4, .int r_3), (3, .int r_1), (0, .ref h), (1, .int p1), (2, .int p2)]) hx hb dX2_goesLeft_18 hl (by decide) rfl (fun ls hl => ?_)
  refine lv_iload hx hb dX2_goesLeft_20 (lv_at hl 0 rfl) ?_
  obtain ⟨r_4, e_4, hf⟩ := bo hf
  refine pcallN (W0 := (wS g h a1 a2 a3 a4 σ)) (As := [.int r_3]) (rest := []) [] ⟨hx, hb, hml, hown, hts⟩ hP hE hZ hS (cX6_columnOf_ok l g  r_3 e_4) ⟨va_cnB (host := RX6) 1 hts gX2_goesLeft_X6_columnOf_n43 rfl rfl rfl (hE.2.1 (.methodLinkNest RX2 43 yX6_columnOf RX6) (by decide +kernel)) (hts _ inX2_goesLeft_X6) hdX6_columnOf.2 ⟨(Nat.le_of_ble_eq_true rfl), (Nat.le_of_ble_eq_true rfl)⟩, hts _ stX2_goesLeft_X6_columnOf, trivial⟩ rfl rfl hl.1 rfl (Nat.le_of_ble_eq_true rfl) ⟨(Nat.le_of_ble_eq_true rfl), (Nat.le_of_ble_eq_true rfl)⟩ dX2_goesLeft_22 ?_
  refine lv_iload_n hx hb dX2_goesLeft_25 rfl (lv_at hl 1 rfl) ?_
  obtain ⟨r_5, e_5, hf⟩ := bo hf
  refine pcallN (W0 := (wS g h a1 a2 a3 a4 σ)) (As := [.int r_1]) (rest := [.int r_4]) [] ⟨hx, hb, hml, hown, hts⟩ hP hE hZ hS (cX6_columnOf_ok l g  r_1 e_5) ⟨va_cnB (host := RX6) 1 hts gX2_goesLeft_X6_columnOf_n43 rfl rfl rfl (hE.2.1 (.methodLinkNest RX2 43 yX6_columnOf RX6) (by decide +kernel)) (hts _ inX2_goesLeft_X6) hdX6_columnOf.2 ⟨(Nat.le_of_ble_eq_true rfl), (Nat.le_of_ble_eq_true rfl)⟩, hts _ stX2_goesLeft_X6_columnOf, trivial⟩ rfl rfl hl.1 rfl (Nat.le_of_ble_eq_true rfl) ⟨(Nat.le_of_ble_eq_true rfl), (Nat.le_of_ble_eq_true rfl)⟩ dX2_goesLeft_26 ?_
  refine lv_icmp_ge (tgt := 36) hx hb dX2_goesLeft_29 (by decide) (fun c_6 => ?_) (fun c_6 => ?_)
  · have hf := ip c_6 hf
    refine lv_iconst (v := (0 : Int32)) hx hb dX2_goesLeft_36 (by decide) ?_
    exact p_zret (v := false) hx hb hr hlocks (Option.some.inj hf) dX2_goesLeft_37
  · have hf := iq c_6 hf
    refine lv_iconst (v := (1 : Int32)) hx hb dX2_goesLeft_32 (by decide) ?_
    refine lv_goto (tgt := 37) hx hb dX2_goesLeft_33 (by decide) ?_
    exact p_zret (v := true) hx hb hr hlocks (Option.some.inj hf) dX2_goesLeft_37

def fX2_stands (σ : Sh) (p1 p2 : Int32) : Option (Bool) := ((fX4_pointAt σ p1 p2).bind fun r_1 => ((fX2_lastNumber σ p1 p2).bind fun r_2 => ((fX4_pointAt σ p1 r_2).bind fun r_3 => ((fX6_rowOf r_3).bind fun r_4 => ((fX6_rowOf r_1).bind fun r_5 => ((fX6_columnOf r_3).bind fun r_6 => ((fX6_columnOf r_1).bind fun r_7 => (if (iabs (r_4 - r_5)) ≤ (iabs (r_6 - r_7)) then (some false) else (some true)))))))))
abbrev rmX2_stands : Room := { frames := 2, cells := 0, slots := 0, locals := 43 }
theorem hdX2_stands : yX2_stands.cls = RX2 ∧ yX2_stands.cls ≠ "java/lang/invoke/MethodHandle" ∧ yX2_stands.cls ≠ "java/lang/invoke/VarHandle" ∧ (parseMethodDescriptor yX2_stands.desc).map (fun d => d.parameters.length) = some 3 := by decide +kernel
theorem inX2_stands_X6 : (.initialized RX6 : Cond) ∈ wsX2_stands := by decide +kernel
theorem stX2_stands_X6_rowOf : (.static yX6_rowOf : Cond) ∈ wsX2_stands := by decide +kernel
theorem mlX2_stands_49 : (.methodLink RX2 49 Lib.Math.abs.name : Cond) ∈ wsX2_stands := by decide +kernel
theorem msX2_stands_abs : (.static Lib.Math.abs.name : Cond) ∈ wsX2_stands := by decide +kernel
theorem miX2_stands : (.initialized "java/lang/Math" : Cond) ∈ wsX2_stands := by decide +kernel
theorem mcX2_stands_abs : (.code Lib.Math.abs.name Lib.Math.abs.code 1 (some .int) : Cond) ∈ wsX2_stands := by decide +kernel
theorem stX2_stands_X6_columnOf : (.static yX6_columnOf : Cond) ∈ wsX2_stands := by decide +kernel
set_option maxHeartbeats 4000000 in
set_option maxRecDepth 100000 in
theorem cX2_stands_ok (l : Launch) (g : Gg) (h a1 a2 a3 a4 : Nat) (σ : Sh) (p1 p2 : Int32) {r : Bool} (hf : fX2_stands σ p1 p2 = some r) : Met l yX2_stands wsX2_stands rmX2_stands (va_Pc [.ref h, .int p1, .int p2] (PP g (wS g h a1 a2 a3 a4 σ))) (vp_Si (fun r' => r' = b2i r)) 0 0 (fun _ => False) := by
  refine Met.ofW (cc := cX2_stands) (maxL := 6) (ret := (some .boolean)) (by decide) rfl ?_
  intro p e s m args below meth c s₁ B hml hv
  obtain ⟨rfl, hP, hE, hZ⟩ := hv
  have hx := B.exec
  have hb := B.bytes
  have hr := B.returns
  have hts := atoms_spec (ws := wsX2_stands) B.pre
  have hown : s.vm.findClass RX2 = some m.cls := findClass_of_methodNamed B.named
  have hlocks := B.notSynchronized
  have hS : va_S (fun _ => False) s.heap s.heap [] := va_S.rf
  have hl := lv_entry ([.ref h, .int p1, .int p2]) (n := 6) (Nat.le_of_ble_eq_true rfl)
  rw [lg_entry_eq]
  generalize (lg_sl ([.ref h, .int p1, .int p2]) ++ List.replicate (6 - (lg_sl ([.ref h, .int p1, .int p2])).length) Slot.unset).toArray = ls at hl ⊢
  have hl : lv_has ls 6 [(0, .ref h), (1, .int p1), (2, .int p2)] := hl
  unfold fX2_stands at hf
  refine lv_aload_n hx hb dX2_stands_0 rfl (lv_at hl 0 rfl) ?_
  refine lv_iload_n hx hb dX2_stands_1 rfl (lv_at hl 1 rfl) ?_
  refine lv_iload_n hx hb dX2_stands_2 rfl (lv_at hl 2 rfl) ?_
  obtain ⟨r_1, e_1, hf⟩ := bo hf
  refine pcallV (W0 := (wS g h a1 a2 a3 a4 σ)) (As := [.int p1, .int p2]) (rest := []) [0, 1, 2, 3, 4] 3 0 ⟨hx, hb, hml, hown, hts⟩ hP hE hZ hS (cX4_pointAt_ok l g h a1 a2 a3 a4 σ p1 p2 e_1) (cwV 2 hts gX2_stands_X4_pointAt rfl rfl rfl hdX4_pointAt ⟨(Nat.le_of_ble_eq_true rfl), (Nat.le_of_ble_eq_true rfl)⟩) rfl rfl rfl rfl rfl hl.1 rfl (Nat.le_of_ble_eq_true rfl) ⟨(Nat.le_of_ble_eq_true rfl), (Nat.le_of_ble_eq_true rfl)⟩ dX2_stands_3 ?_
  refine lv_istore_n (lv' := [(3, .int r_1), (0, .ref h), (1, .int p1), (2, .int p2)]) hx hb dX2_stands_6 rfl hl (by decide) rfl (fun ls hl => ?_)
  refine lv_aload_n hx hb dX2_stands_7 rfl (lv_at hl 1 rfl) ?_
  refine lv_iload_n hx hb dX2_stands_8 rfl (lv_at hl 2 rfl) ?_
  refine lv_aload_n hx hb dX2_stands_9 rfl (lv_at hl 1 rfl) ?_
  refine lv_iload_n hx hb dX2_stands_10 rfl (lv_at hl 2 rfl) ?_
  refine lv_iload_n hx hb dX2_stands_11 rfl (lv_at hl 3 rfl) ?_
  obtain ⟨r_2, e_2, hf⟩ := bo hf
  refine pcallS (W0 := (wS g h a1 a2 a3 a4 σ)) (As := [.ref h, .int p1, .int p2]) (rest := [.int p1, .ref h]) [0, 1, 2, 3, 4] ⟨hx, hb, hml, hown, hts⟩ hP hE hZ hS (cX2_lastNumber_ok l g h a1 a2 a3 a4 σ p1 p2 e_2) (va_cwS 3 hts gX2_stands_X2_lastNumber rfl rfl rfl hdX2_lastNumber.2 ⟨(Nat.le_of_ble_eq_true rfl), (Nat.le_of_ble_eq_true rfl)⟩) rfl rfl hl.1 rfl (Nat.le_of_ble_eq_true rfl) ⟨(Nat.le_of_ble_eq_true rfl), (Nat.le_of_ble_eq_true rfl)⟩ dX2_stands_12 ?_
  obtain ⟨r_3, e_3, hf⟩ := bo hf
  refine pcallV (W0 := (wS g h a1 a2 a3 a4 σ)) (As := [.int p1, .int r_2]) (rest := []) [0, 1, 2, 3, 4] 3 0 ⟨hx, hb, hml, hown, hts⟩ hP hE hZ hS (cX4_pointAt_ok l g h a1 a2 a3 a4 σ p1 r_2 e_3) (cwV 2 hts gX2_stands_X4_pointAt rfl rfl rfl hdX4_pointAt ⟨(Nat.le_of_ble_eq_true rfl), (Nat.le_of_ble_eq_true rfl)⟩) rfl rfl rfl rfl rfl hl.1 rfl (Nat.le_of_ble_eq_true rfl) ⟨(Nat.le_of_ble_eq_true rfl), (Nat.le_of_ble_eq_true rfl)⟩ dX2_stands_15 ?_
  refine lv_istore (lv' := [(4, .int r_3), (3, .int r_1), (0, .ref h), (1, .int p1), (2, .int p2)]) hx hb dX2_stands_18 hl (by decide) rfl (fun ls hl => ?_)
  refine lv_iload hx hb dX2_stands_20 (lv_at hl 0 rfl) ?_
  obtain ⟨r_4, e_4, hf⟩ := bo hf
  refine pcallN (W0 := (wS g h a1 a2 a3 a4 σ)) (As := [.int r_3]) (rest := []) [] ⟨hx, hb, hml, hown, hts⟩ hP hE hZ hS (cX6_rowOf_ok l g  r_3 e_4) ⟨va_cnB (host := RX6) 1 hts gX2_stands_X6_rowOf_n46 rfl rfl rfl (hE.2.1 (.methodLinkNest RX2 46 yX6_rowOf RX6) (by decide +kernel)) (hts _ inX2_stands_X6) hdX6_rowOf.2 ⟨(Nat.le_of_ble_eq_true rfl), (Nat.le_of_ble_eq_true rfl)⟩, hts _ stX2_stands_X6_rowOf, trivial⟩ rfl rfl hl.1 rfl (Nat.le_of_ble_eq_true rfl) ⟨(Nat.le_of_ble_eq_true rfl), (Nat.le_of_ble_eq_true rfl)⟩ dX2_stands_22 ?_
  refine lv_iload_n hx hb dX2_stands_25 rfl (lv_at hl 1 rfl) ?_
  obtain ⟨r_5, e_5, hf⟩ := bo hf
  refine pcallN (W0 := (wS g h a1 a2 a3 a4 σ)) (As := [.int r_1]) (rest := [.int r_4]) [] ⟨hx, hb, hml, hown, hts⟩ hP hE hZ hS (cX6_rowOf_ok l g  r_1 e_5) ⟨va_cnB (host := RX6) 1 hts gX2_stands_X6_rowOf_n46 rfl rfl rfl (hE.2.1 (.methodLinkNest RX2 46 yX6_rowOf RX6) (by decide +kernel)) (hts _ inX2_stands_X6) hdX6_rowOf.2 ⟨(Nat.le_of_ble_eq_true rfl), (Nat.le_of_ble_eq_true rfl)⟩, hts _ stX2_stands_X6_rowOf, trivial⟩ rfl rfl hl.1 rfl (Nat.le_of_ble_eq_true rfl) ⟨(Nat.le_of_ble_eq_true rfl), (Nat.le_of_ble_eq_true rfl)⟩ dX2_stands_26 ?_
  refine lv_isub hx hb dX2_stands_29 ?_
  refine va_mabs hx hb (hml.trans hl.1.symm) hown (hts _ mlX2_stands_49) (hts _ msX2_stands_abs) (hts _ miX2_stands) (hts _ mcX2_stands_abs) (Nat.le_of_ble_eq_true rfl) (Nat.le_of_ble_eq_true rfl) (Nat.le_of_ble_eq_true rfl) (Nat.le_of_ble_eq_true rfl) dX2_stands_30 ?_
  refine W.eq (g2 := F0 m 33 ls [.int (iabs (r_4 - r_5))]) rfl ?_
  refine lv_istore (lv' := [(5, .int (iabs (r_4 - r_5))), (4, .int r_3), (3, .int r_1), (0, .ref h), (1, .int p1), (2, .int p2)]) hx hb dX2_stands_33 hl (by decide) rfl (fun ls hl => ?_)
  refine lv_iload hx hb dX2_stands_35 (lv_at hl 0 rfl) ?_
  refine lv_iload hx hb dX2_stands_37 (lv_at hl 1 rfl) ?_
  obtain ⟨r_6, e_6, hf⟩ := bo hf
  refine pcallN (W0 := (wS g h a1 a2 a3 a4 σ)) (As := [.int r_3]) (rest := [.int (iabs (r_4 - r_5))]) [] ⟨hx, hb, hml, hown, hts⟩ hP hE hZ hS (cX6_columnOf_ok l g  r_3 e_6) ⟨va_cnB (host := RX6) 1 hts gX2_stands_X6_columnOf_n43 rfl rfl rfl (hE.2.1 (.methodLinkNest RX2 43 yX6_columnOf RX6) (by decide +kernel)) (hts _ inX2_stands_X6) hdX6_columnOf.2 ⟨(Nat.le_of_ble_eq_true rfl), (Nat.le_of_ble_eq_true rfl)⟩, hts _ stX2_stands_X6_columnOf, trivial⟩ rfl rfl hl.1 rfl (Nat.le_of_ble_eq_true rfl) ⟨(Nat.le_of_ble_eq_true rfl), (Nat.le_of_ble_eq_true rfl)⟩ dX2_stands_39 ?_
  refine lv_iload_n hx hb dX2_stands_42 rfl (lv_at hl 2 rfl) ?_
  obtain ⟨r_7, e_7, hf⟩ := bo hf
  refine pcallN (W0 := (wS g h a1 a2 a3 a4 σ)) (As := [.int r_1]) (rest := [.int r_6, .int (iabs (r_4 - r_5))]) [] ⟨hx, hb, hml, hown, hts⟩ hP hE hZ hS (cX6_columnOf_ok l g  r_1 e_7) ⟨va_cnB (host := RX6) 1 hts gX2_stands_X6_columnOf_n43 rfl rfl rfl (hE.2.1 (.methodLinkNest RX2 43 yX6_columnOf RX6) (by decide +kernel)) (hts _ inX2_stands_X6) hdX6_columnOf.2 ⟨(Nat.le_of_ble_eq_true rfl), (Nat.le_of_ble_eq_true rfl)⟩, hts _ stX2_stands_X6_columnOf, trivial⟩ rfl rfl hl.1 rfl (Nat.le_of_ble_eq_true rfl) ⟨(Nat.le_of_ble_eq_true rfl), (Nat.le_of_ble_eq_true rfl)⟩ dX2_stands_43 ?_
  refine lv_isub hx hb dX2_stands_46 ?_
  refine va_mabs hx hb (hml.trans hl.1.symm) hown (hts _ mlX2_stands_49) (hts _ msX2_stands_abs) (hts _ miX2_stands) (hts _ mcX2_stands_abs) (Nat.le_of_ble_eq_true rfl) (Nat.le_of_ble_eq_true rfl) (Nat.le_of_ble_eq_true rfl) (Nat.le_of_ble_eq_true rfl) dX2_stands_47 ?_
  refine W.eq (g2 := F0 m 50 ls [.int (iabs (r_6 - r_7)), .int (iabs (r_4 - r_5))]) rfl ?_
  refine lv_icmp_le (tgt := 57) hx hb dX2_stands_50 (by decide) (fun c_8 => ?_) (fun c_8 => ?_)
  · have hf := ip c_8 hf
    refine lv_iconst (v := (0 : Int32)) hx hb dX2_stands_57 (by decide) ?_
    exact p_zret (v := false) hx hb hr hlocks (Option.some.inj hf) dX2_stands_58
  · have hf := iq c_8 hf
    refine lv_iconst (v := (1 : Int32)) hx hb dX2_stands_53 (by decide) ?_
    refine lv_goto (tgt := 58) hx hb dX2_stands_54 (by decide) ?_
    exact p_zret (v := true) hx hb hr hlocks (Option.some.inj hf) dX2_stands_58

def fX2_reasonOfShape (σ : Sh) (p1 p2 : Int32) : Option (Int32) := ((fX2_isPlace σ p1 p2).bind fun r_1 => (if r_1 = true then ((fX2_bendOfPlace σ p1 p2).bind fun r_3 => (if r_3 ≤ (1 : Int32) then ((fX2_stands σ p1 p2).bind fun r_5 => (if r_5 = true then (some (3 : Int32)) else (some (0 : Int32)))) else (some (2 : Int32)))) else (some (1 : Int32))))
abbrev rmX2_reasonOfShape : Room := { frames := 3, cells := 0, slots := 0, locals := 73 }
theorem hdX2_reasonOfShape : yX2_reasonOfShape.cls = RX2 ∧ yX2_reasonOfShape.cls ≠ "java/lang/invoke/MethodHandle" ∧ yX2_reasonOfShape.cls ≠ "java/lang/invoke/VarHandle" ∧ (parseMethodDescriptor yX2_reasonOfShape.desc).map (fun d => d.parameters.length) = some 3 := by decide +kernel
set_option maxHeartbeats 4000000 in
set_option maxRecDepth 100000 in
theorem cX2_reasonOfShape_ok (l : Launch) (g : Gg) (h a1 a2 a3 a4 : Nat) (σ : Sh) (p1 p2 : Int32) {r : Int32} (hf : fX2_reasonOfShape σ p1 p2 = some r) : Met l yX2_reasonOfShape wsX2_reasonOfShape rmX2_reasonOfShape (va_Pc [.ref h, .int p1, .int p2] (PP g (wS g h a1 a2 a3 a4 σ))) (vp_Si (fun r' => r' = r)) 0 0 (fun _ => False) := by
  refine Met.ofW (cc := cX2_reasonOfShape) (maxL := 3) (ret := (some .int)) (by decide) rfl ?_
  intro p e s m args below meth c s₁ B hml hv
  obtain ⟨rfl, hP, hE, hZ⟩ := hv
  have hx := B.exec
  have hb := B.bytes
  have hr := B.returns
  have hts := atoms_spec (ws := wsX2_reasonOfShape) B.pre
  have hown : s.vm.findClass RX2 = some m.cls := findClass_of_methodNamed B.named
  have hlocks := B.notSynchronized
  have hS : va_S (fun _ => False) s.heap s.heap [] := va_S.rf
  have hl := lv_entry ([.ref h, .int p1, .int p2]) (n := 3) (Nat.le_of_ble_eq_true rfl)
  rw [lg_entry_eq]
  generalize (lg_sl ([.ref h, .int p1, .int p2]) ++ List.replicate (3 - (lg_sl ([.ref h, .int p1, .int p2])).length) Slot.unset).toArray = ls at hl ⊢
  have hl : lv_has ls 3 [(0, .ref h), (1, .int p1), (2, .int p2)] := hl
  unfold fX2_reasonOfShape at hf
  refine lv_aload_n hx hb dX2_reasonOfShape_0 rfl (lv_at hl 0 rfl) ?_
  refine lv_iload_n hx hb dX2_reasonOfShape_1 rfl (lv_at hl 1 rfl) ?_
  refine lv_iload_n hx hb dX2_reasonOfShape_2 rfl (lv_at hl 2 rfl) ?_
  obtain ⟨r_1, e_1, hf⟩ := bo hf
  refine pcallS (W0 := (wS g h a1 a2 a3 a4 σ)) (As := [.ref h, .int p1, .int p2]) (rest := []) [0, 1, 2, 3, 4] ⟨hx, hb, hml, hown, hts⟩ hP hE hZ hS (cX2_isPlace_ok l g h a1 a2 a3 a4 σ p1 p2 e_1) (va_cwS 3 hts gX2_reasonOfShape_X2_isPlace rfl rfl rfl hdX2_isPlace.2 ⟨(Nat.le_of_ble_eq_true rfl), (Nat.le_of_ble_eq_true rfl)⟩) rfl rfl hl.1 rfl (Nat.le_of_ble_eq_true rfl) ⟨(Nat.le_of_ble_eq_true rfl), (Nat.le_of_ble_eq_true rfl)⟩ dX2_reasonOfShape_3 ?_
  refine lv_bne (tgt := 11) hx hb dX2_reasonOfShape_6 (by decide) (fun c_2 => ?_) (fun c_2 => ?_)
  · have hf := ip c_2 hf
    refine lv_aload_n hx hb dX2_reasonOfShape_11 rfl (lv_at hl 0 rfl) ?_
    refine lv_iload_n hx hb dX2_reasonOfShape_12 rfl (lv_at hl 1 rfl) ?_
    refine lv_iload_n hx hb dX2_reasonOfShape_13 rfl (lv_at hl 2 rfl) ?_
    obtain ⟨r_3, e_3, hf⟩ := bo hf
    refine pcallS (W0 := (wS g h a1 a2 a3 a4 σ)) (As := [.ref h, .int p1, .int p2]) (rest := []) [0, 1, 2, 3, 4] ⟨hx, hb, hml, hown, hts⟩ hP hE hZ hS (cX2_bendOfPlace_ok l g h a1 a2 a3 a4 σ p1 p2 e_3) (va_cwS 3 hts gX2_reasonOfShape_X2_bendOfPlace rfl rfl rfl hdX2_bendOfPlace.2 ⟨(Nat.le_of_ble_eq_true rfl), (Nat.le_of_ble_eq_true rfl)⟩) rfl rfl hl.1 rfl (Nat.le_of_ble_eq_true rfl) ⟨(Nat.le_of_ble_eq_true rfl), (Nat.le_of_ble_eq_true rfl)⟩ dX2_reasonOfShape_14 ?_
    refine lv_iconst (v := (1 : Int32)) hx hb dX2_reasonOfShape_17 (by decide) ?_
    refine lv_icmp_le (tgt := 23) hx hb dX2_reasonOfShape_18 (by decide) (fun c_4 => ?_) (fun c_4 => ?_)
    · have hf := ip c_4 hf
      refine lv_aload_n hx hb dX2_reasonOfShape_23 rfl (lv_at hl 0 rfl) ?_
      refine lv_iload_n hx hb dX2_reasonOfShape_24 rfl (lv_at hl 1 rfl) ?_
      refine lv_iload_n hx hb dX2_reasonOfShape_25 rfl (lv_at hl 2 rfl) ?_
      obtain ⟨r_5, e_5, hf⟩ := bo hf
      refine pcallS (W0 := (wS g h a1 a2 a3 a4 σ)) (As := [.ref h, .int p1, .int p2]) (rest := []) [0, 1, 2, 3, 4] ⟨hx, hb, hml, hown, hts⟩ hP hE hZ hS (cX2_stands_ok l g h a1 a2 a3 a4 σ p1 p2 e_5) (va_cwS 3 hts gX2_reasonOfShape_X2_stands rfl rfl rfl hdX2_stands.2 ⟨(Nat.le_of_ble_eq_true rfl), (Nat.le_of_ble_eq_true rfl)⟩) rfl rfl hl.1 rfl (Nat.le_of_ble_eq_true rfl) ⟨(Nat.le_of_ble_eq_true rfl), (Nat.le_of_ble_eq_true rfl)⟩ dX2_reasonOfShape_26 ?_
      refine lv_beq (tgt := 36) hx hb dX2_reasonOfShape_29 (by decide) (fun c_6 => ?_) (fun c_6 => ?_)
      · have hf := iq c_6 hf
        refine lv_iconst (v := (0 : Int32)) hx hb dX2_reasonOfShape_36 (by decide) ?_
        exact p_iret (v := (0 : Int32)) hx hb hr hlocks (Option.some.inj hf) dX2_reasonOfShape_37
      · have hf := ip c_6 hf
        refine lv_iconst (v := (3 : Int32)) hx hb dX2_reasonOfShape_32 (by decide) ?_
        refine lv_goto (tgt := 37) hx hb dX2_reasonOfShape_33 (by decide) ?_
        exact p_iret (v := (3 : Int32)) hx hb hr hlocks (Option.some.inj hf) dX2_reasonOfShape_37
    · have hf := iq c_4 hf
      refine lv_iconst (v := (2 : Int32)) hx hb dX2_reasonOfShape_21 (by decide) ?_
      exact p_iret (v := (2 : Int32)) hx hb hr hlocks (Option.some.inj hf) dX2_reasonOfShape_22
  · have hf := iq c_2 hf
    refine lv_iconst (v := (1 : Int32)) hx hb dX2_reasonOfShape_9 (by decide) ?_
    exact p_iret (v := (1 : Int32)) hx hb hr hlocks (Option.some.inj hf) dX2_reasonOfShape_10

def fX2_distanceToLabel_51 (σ : Sh) (p1 p2 p3 : Int32) (v4_31 : Int32) (v5_31 : Int32) (v6_31 : Int32) (v8_51 : Int32) (v9_51 : Int32) (k31 : Int32 → Int32 → Option (Int32)) : Nat → Int32 → Int32 → Option (Int32)
  | 0, _, _ => none
  | n + 1, v7_51, v10_51 => (if v6_31 < v10_51 then k31 v7_51 (v8_51 + 1) else ((fX4_pointAt σ p3 v10_51).bind fun r_2 => ((fX6_distance v9_51 r_2).bind fun r_3 => fX2_distanceToLabel_51 σ p1 p2 p3 v4_31 v5_31 v6_31 v8_51 v9_51 k31 n (imin v7_51 r_3) (v10_51 + 1))))
def fX2_distanceToLabel_31 (σ : Sh) (p1 p2 p3 : Int32) (v4_31 : Int32) (v5_31 : Int32) (v6_31 : Int32) : Nat → Int32 → Int32 → Option (Int32)
  | 0, _, _ => none
  | n + 1, v7_31, v8_31 => (if v5_31 < v8_31 then (some v7_31) else ((fX4_pointAt σ p1 v8_31).bind fun r_5 => fX2_distanceToLabel_51 σ p1 p2 p3 v4_31 v5_31 v6_31 v8_31 r_5 (fX2_distanceToLabel_31 σ p1 p2 p3 v4_31 v5_31 v6_31 n) FU v7_31 v4_31))
def fX2_distanceToLabel (σ : Sh) (p1 p2 p3 : Int32) : Option (Int32) := ((fX4_labelIn σ p3).bind fun r_6 => ((fX2_lastNumber σ p1 p2).bind fun r_7 => ((fX2_lastNumber σ p3 r_6).bind fun r_8 => fX2_distanceToLabel_31 σ p1 p2 p3 r_6 r_7 r_8 FU (99 : Int32) p2)))
abbrev rmX2_distanceToLabel : Room := { frames := 2, cells := 0, slots := 0, locals := 44 }
theorem hdX2_distanceToLabel : yX2_distanceToLabel.cls = RX2 ∧ yX2_distanceToLabel.cls ≠ "java/lang/invoke/MethodHandle" ∧ yX2_distanceToLabel.cls ≠ "java/lang/invoke/VarHandle" ∧ (parseMethodDescriptor yX2_distanceToLabel.desc).map (fun d => d.parameters.length) = some 4 := by decide +kernel
theorem inX2_distanceToLabel_X6 : (.initialized RX6 : Cond) ∈ wsX2_distanceToLabel := by decide +kernel
theorem stX2_distanceToLabel_X6_distance : (.static yX6_distance : Cond) ∈ wsX2_distanceToLabel := by decide +kernel
theorem mlX2_distanceToLabel_80 : (.methodLink RX2 80 Lib.Math.min.name : Cond) ∈ wsX2_distanceToLabel := by decide +kernel
theorem msX2_distanceToLabel_min : (.static Lib.Math.min.name : Cond) ∈ wsX2_distanceToLabel := by decide +kernel
theorem miX2_distanceToLabel : (.initialized "java/lang/Math" : Cond) ∈ wsX2_distanceToLabel := by decide +kernel
theorem mcX2_distanceToLabel_min : (.code Lib.Math.min.name Lib.Math.min.code 2 (some .int) : Cond) ∈ wsX2_distanceToLabel := by decide +kernel
set_option maxHeartbeats 4000000 in
set_option maxRecDepth 100000 in
theorem cX2_distanceToLabel_ok (l : Launch) (g : Gg) (h a1 a2 a3 a4 : Nat) (σ : Sh) (p1 p2 p3 : Int32) {r : Int32} (hf : fX2_distanceToLabel σ p1 p2 p3 = some r) : Met l yX2_distanceToLabel wsX2_distanceToLabel rmX2_distanceToLabel (va_Pc [.ref h, .int p1, .int p2, .int p3] (PP g (wS g h a1 a2 a3 a4 σ))) (vp_Si (fun r' => r' = r)) 0 0 (fun _ => False) := by
  refine Met.ofW (cc := cX2_distanceToLabel) (maxL := 11) (ret := (some .int)) (by decide) rfl ?_
  intro p e s m args below meth c s₁ B hml hv
  obtain ⟨rfl, hP, hE, hZ⟩ := hv
  have hx := B.exec
  have hb := B.bytes
  have hr := B.returns
  have hts := atoms_spec (ws := wsX2_distanceToLabel) B.pre
  have hown : s.vm.findClass RX2 = some m.cls := findClass_of_methodNamed B.named
  have hlocks := B.notSynchronized
  have hS : va_S (fun _ => False) s.heap s.heap [] := va_S.rf
  have hl := lv_entry ([.ref h, .int p1, .int p2, .int p3]) (n := 11) (Nat.le_of_ble_eq_true rfl)
  rw [lg_entry_eq]
  generalize (lg_sl ([.ref h, .int p1, .int p2, .int p3]) ++ List.replicate (11 - (lg_sl ([.ref h, .int p1, .int p2, .int p3])).length) Slot.unset).toArray = ls at hl ⊢
  have hl : lv_has ls 11 [(0, .ref h), (1, .int p1), (2, .int p2), (3, .int p3)] := hl
  have hB31 : ∀ (v4_31 : Int32) (v5_31 : Int32) (v6_31 : Int32) (n31 : Nat) (v7_31 : Int32) (v8_31 : Int32) (ls : Array Slot), lv_has ls 11 [(0, .ref h), (1, .int p1), (3, .int p3), (4, .int v4_31), (5, .int v5_31), (6, .int v6_31), (7, .int v7_31), (8, .int v8_31)] → fX2_distanceToLabel_31 σ p1 p2 p3 v4_31 v5_31 v6_31 n31 v7_31 v8_31 = some r → W p l e (headSpec wsX2_distanceToLabel rmX2_distanceToLabel).room s m ([.ref h, .int p1, .int p2, .int p3] : List Value).toArray below meth c s.heap [] 0 0 (MQ below (vp_Si (fun r' => r' = r)) ([.ref h, .int p1, .int p2, .int p3] : List Value).toArray s 0 0 (fun _ => False)) (F0 m 31 ls []) := by
    intro v4_31 v5_31 v6_31 n31
    induction n31 with
    | zero => intro v7_31 v8_31 ls hl hf; exact nomatch (show (none : Option (Int32)) = some _ from hf)
    | succ n31 ih31 =>
      have hB51 : ∀ (v8_51 : Int32) (v9_51 : Int32) (n51 : Nat) (v7_51 : Int32) (v10_51 : Int32) (ls : Array Slot), lv_has ls 11 [(0, .ref h), (1, .int p1), (3, .int p3), (4, .int v4_31), (5, .int v5_31), (6, .int v6_31), (7, .int v7_51), (8, .int v8_51), (9, .int v9_51), (10, .int v10_51)] → fX2_distanceToLabel_51 σ p1 p2 p3 v4_31 v5_31 v6_31 v8_51 v9_51 (fX2_distanceToLabel_31 σ p1 p2 p3 v4_31 v5_31 v6_31 n31) n51 v7_51 v10_51 = some r → W p l e (headSpec wsX2_distanceToLabel rmX2_distanceToLabel).room s m ([.ref h, .int p1, .int p2, .int p3] : List Value).toArray below meth c s.heap [] 0 0 (MQ below (vp_Si (fun r' => r' = r)) ([.ref h, .int p1, .int p2, .int p3] : List Value).toArray s 0 0 (fun _ => False)) (F0 m 51 ls []) := by
        intro v8_51 v9_51 n51
        induction n51 with
        | zero => intro v7_51 v10_51 ls hl hf; exact nomatch (show (none : Option (Int32)) = some _ from hf)
        | succ n51 ih51 =>
          intro v7_51 v10_51 ls hl hf
          rw [fX2_distanceToLabel_51] at hf
          refine lv_iload hx hb dX2_distanceToLabel_51 (lv_at hl 9 rfl) ?_
          refine lv_iload hx hb dX2_distanceToLabel_53 (lv_at hl 5 rfl) ?_
          refine lv_icmp_gt (tgt := 83) hx hb dX2_distanceToLabel_55 (by decide) (fun c_1 => ?_) (fun c_1 => ?_)
          · have hf := ip c_1 hf
            refine lv_iinc (v := (v8_51 + 1)) (lv' := [(8, .int (v8_51 + 1)), (0, .ref h), (1, .int p1), (3, .int p3), (4, .int v4_31), (5, .int v5_31), (6, .int v6_31), (7, .int v7_51), (9, .int v9_51), (10, .int v10_51)]) hx hb dX2_distanceToLabel_83 hl (k := 7) rfl rfl (by decide) rfl (fun ls hl => ?_)
            refine lv_goto (tgt := 31) hx hb dX2_distanceToLabel_86 (by decide) ?_
            exact ih31 v7_51 (v8_51 + 1) ls (lv_sub hl [1, 2, 3, 4, 5, 6, 7, 0] rfl) hf
          · have hf := iq c_1 hf
            refine lv_iload hx hb dX2_distanceToLabel_58 (lv_at hl 6 rfl) ?_
            refine lv_iload hx hb dX2_distanceToLabel_60 (lv_at hl 8 rfl) ?_
            refine lv_aload_n hx hb dX2_distanceToLabel_62 rfl (lv_at hl 0 rfl) ?_
            refine lv_iload_n hx hb dX2_distanceToLabel_63 rfl (lv_at hl 2 rfl) ?_
            refine lv_iload hx hb dX2_distanceToLabel_64 (lv_at hl 9 rfl) ?_
            obtain ⟨r_2, e_2, hf⟩ := bo hf
            refine pcallV (W0 := (wS g h a1 a2 a3 a4 σ)) (As := [.int p3, .int v10_51]) (rest := [.int v9_51, .int v7_51]) [0, 1, 2, 3, 4] 3 0 ⟨hx, hb, hml, hown, hts⟩ hP hE hZ hS (cX4_pointAt_ok l g h a1 a2 a3 a4 σ p3 v10_51 e_2) (cwV 2 hts gX2_distanceToLabel_X4_pointAt rfl rfl rfl hdX4_pointAt ⟨(Nat.le_of_ble_eq_true rfl), (Nat.le_of_ble_eq_true rfl)⟩) rfl rfl rfl rfl rfl hl.1 rfl (Nat.le_of_ble_eq_true rfl) ⟨(Nat.le_of_ble_eq_true rfl), (Nat.le_of_ble_eq_true rfl)⟩ dX2_distanceToLabel_66 ?_
            obtain ⟨r_3, e_3, hf⟩ := bo hf
            refine pcallN (W0 := (wS g h a1 a2 a3 a4 σ)) (As := [.int v9_51, .int r_2]) (rest := [.int v7_51]) [] ⟨hx, hb, hml, hown, hts⟩ hP hE hZ hS (cX6_distance_ok l g  v9_51 r_2 e_3) ⟨va_cnB (host := RX6) 2 hts gX2_distanceToLabel_X6_distance_n83 rfl rfl rfl (hE.2.1 (.methodLinkNest RX2 83 yX6_distance RX6) (by decide +kernel)) (hts _ inX2_distanceToLabel_X6) hdX6_distance.2 ⟨(Nat.le_of_ble_eq_true rfl), (Nat.le_of_ble_eq_true rfl)⟩, hts _ stX2_distanceToLabel_X6_distance, trivial⟩ rfl rfl hl.1 rfl (Nat.le_of_ble_eq_true rfl) ⟨(Nat.le_of_ble_eq_true rfl), (Nat.le_of_ble_eq_true rfl)⟩ dX2_distanceToLabel_69 ?_
            refine va_mmin hx hb (hml.trans hl.1.symm) hown (hts _ mlX2_distanceToLabel_80) (hts _ msX2_distanceToLabel_min) (hts _ miX2_distanceToLabel) (hts _ mcX2_distanceToLabel_min) (Nat.le_of_ble_eq_true rfl) (Nat.le_of_ble_eq_true rfl) (Nat.le_of_ble_eq_true rfl) (Nat.le_of_ble_eq_true rfl) dX2_distanceToLabel_72 ?_
            refine W.eq (g2 := F0 m 75 ls [.int (imin v7_51 r_3)]) rfl ?_
            refine lv_istore (lv' := [(7, .int (imin v7_51 r_3)), (0, .ref h), (1, .int p1), (3, .int p3), (4, .int v4_31), (5, .int v5_31), (6, .int v6_31), (8, .int v8_51), (9, .int v9_51), (10, .int v10_51)]) hx hb dX2_distanceToLabel_75 hl (by decide) rfl (fun ls hl => ?_)
            refine lv_iinc (v := (v10_51 + 1)) (lv' := [(10, .int (v10_51 + 1)), (7, .int (imin v7_51 r_3)), (0, .ref h), (1, .int p1), (3, .int p3), (4, .int v4_31), (5, .int v5_31), (6, .int v6_31), (8, .int v8_51), (9, .int v9_51)]) hx hb dX2_distanceToLabel_77 hl (k := 9) rfl rfl (by decide) rfl (fun ls hl => ?_)
            refine lv_goto (tgt := 51) hx hb dX2_distanceToLabel_80 (by decide) ?_
            exact ih51 (imin v7_51 r_3) (v10_51 + 1) ls (lv_sub hl [2, 3, 4, 5, 6, 7, 1, 8, 9, 0] rfl) hf
      intro v7_31 v8_31 ls hl hf
      rw [fX2_distanceToLabel_31] at hf
      refine lv_iload hx hb dX2_distanceToLabel_31 (lv_at hl 7 rfl) ?_
      refine lv_iload hx hb dX2_distanceToLabel_33 (lv_at hl 4 rfl) ?_
      refine lv_icmp_gt (tgt := 89) hx hb dX2_distanceToLabel_35 (by decide) (fun c_4 => ?_) (fun c_4 => ?_)
      · have hf := ip c_4 hf
        refine lv_iload hx hb dX2_distanceToLabel_89 (lv_at hl 6 rfl) ?_
        exact p_iret (v := v7_31) hx hb hr hlocks (Option.some.inj hf) dX2_distanceToLabel_91
      · have hf := iq c_4 hf
        refine lv_aload_n hx hb dX2_distanceToLabel_38 rfl (lv_at hl 0 rfl) ?_
        refine lv_iload_n hx hb dX2_distanceToLabel_39 rfl (lv_at hl 1 rfl) ?_
        refine lv_iload hx hb dX2_distanceToLabel_40 (lv_at hl 7 rfl) ?_
        obtain ⟨r_5, e_5, hf⟩ := bo hf
        refine pcallV (W0 := (wS g h a1 a2 a3 a4 σ)) (As := [.int p1, .int v8_31]) (rest := []) [0, 1, 2, 3, 4] 3 0 ⟨hx, hb, hml, hown, hts⟩ hP hE hZ hS (cX4_pointAt_ok l g h a1 a2 a3 a4 σ p1 v8_31 e_5) (cwV 2 hts gX2_distanceToLabel_X4_pointAt rfl rfl rfl hdX4_pointAt ⟨(Nat.le_of_ble_eq_true rfl), (Nat.le_of_ble_eq_true rfl)⟩) rfl rfl rfl rfl rfl hl.1 rfl (Nat.le_of_ble_eq_true rfl) ⟨(Nat.le_of_ble_eq_true rfl), (Nat.le_of_ble_eq_true rfl)⟩ dX2_distanceToLabel_42 ?_
        refine lv_istore (lv' := [(9, .int r_5), (0, .ref h), (1, .int p1), (3, .int p3), (4, .int v4_31), (5, .int v5_31), (6, .int v6_31), (7, .int v7_31), (8, .int v8_31)]) hx hb dX2_distanceToLabel_45 hl (by decide) rfl (fun ls hl => ?_)
        refine lv_iload hx hb dX2_distanceToLabel_47 (lv_at hl 4 rfl) ?_
        refine lv_istore (lv' := [(10, .int v4_31), (9, .int r_5), (0, .ref h), (1, .int p1), (3, .int p3), (4, .int v4_31), (5, .int v5_31), (6, .int v6_31), (7, .int v7_31), (8, .int v8_31)]) hx hb dX2_distanceToLabel_49 hl (by decide) rfl (fun ls hl => ?_)
        exact hB51 v8_31 r_5 FU v7_31 v4_31 ls (lv_sub hl [2, 3, 4, 5, 6, 7, 8, 9, 1, 0] rfl) hf
  unfold fX2_distanceToLabel at hf
  refine lv_aload_n hx hb dX2_distanceToLabel_0 rfl (lv_at hl 0 rfl) ?_
  refine lv_iload_n hx hb dX2_distanceToLabel_1 rfl (lv_at hl 3 rfl) ?_
  obtain ⟨r_6, e_6, hf⟩ := bo hf
  refine pcallV (W0 := (wS g h a1 a2 a3 a4 σ)) (As := [.int p3]) (rest := []) [0, 1, 2, 3, 4] 3 0 ⟨hx, hb, hml, hown, hts⟩ hP hE hZ hS (cX4_labelIn_ok l g h a1 a2 a3 a4 σ p3 e_6) (cwV 1 hts gX2_distanceToLabel_X4_labelIn rfl rfl rfl hdX4_labelIn ⟨(Nat.le_of_ble_eq_true rfl), (Nat.le_of_ble_eq_true rfl)⟩) rfl rfl rfl rfl rfl hl.1 rfl (Nat.le_of_ble_eq_true rfl) ⟨(Nat.le_of_ble_eq_true rfl), (Nat.le_of_ble_eq_true rfl)⟩ dX2_distanceToLabel_2 ?_
  refine lv_istore (lv' := [(4, .int r_6), (0, .ref h), (1, .int p1), (2, .int p2), (3, .int p3)]) hx hb dX2_distanceToLabel_5 hl (by decide) rfl (fun ls hl => ?_)
  refine lv_aload_n hx hb dX2_distanceToLabel_7 rfl (lv_at hl 1 rfl) ?_
  refine lv_iload_n hx hb dX2_distanceToLabel_8 rfl (lv_at hl 2 rfl) ?_
  refine lv_iload_n hx hb dX2_distanceToLabel_9 rfl (lv_at hl 3 rfl) ?_
  obtain ⟨r_7, e_7, hf⟩ := bo hf
  refine pcallS (W0 := (wS g h a1 a2 a3 a4 σ)) (As := [.ref h, .int p1, .int p2]) (rest := []) [0, 1, 2, 3, 4] ⟨hx, hb, hml, hown, hts⟩ hP hE hZ hS (cX2_lastNumber_ok l g h a1 a2 a3 a4 σ p1 p2 e_7) (va_cwS 3 hts gX2_distanceToLabel_X2_lastNumber rfl rfl rfl hdX2_lastNumber.2 ⟨(Nat.le_of_ble_eq_true rfl), (Nat.le_of_ble_eq_true rfl)⟩) rfl rfl hl.1 rfl (Nat.le_of_ble_eq_true rfl) ⟨(Nat.le_of_ble_eq_true rfl), (Nat.le_of_ble_eq_true rfl)⟩ dX2_distanceToLabel_10 ?_
  refine lv_istore (lv' := [(5, .int r_7), (4, .int r_6), (0, .ref h), (1, .int p1), (2, .int p2), (3, .int p3)]) hx hb dX2_distanceToLabel_13 hl (by decide) rfl (fun ls hl => ?_)
  refine lv_aload_n hx hb dX2_distanceToLabel_15 rfl (lv_at hl 2 rfl) ?_
  refine lv_iload_n hx hb dX2_distanceToLabel_16 rfl (lv_at hl 5 rfl) ?_
  refine lv_iload hx hb dX2_distanceToLabel_17 (lv_at hl 1 rfl) ?_
  obtain ⟨r_8, e_8, hf⟩ := bo hf
  refine pcallS (W0 := (wS g h a1 a2 a3 a4 σ)) (As := [.ref h, .int p3, .int r_6]) (rest := []) [0, 1, 2, 3, 4] ⟨hx, hb, hml, hown, hts⟩ hP hE hZ hS (cX2_lastNumber_ok l g h a1 a2 a3 a4 σ p3 r_6 e_8) (va_cwS 3 hts gX2_distanceToLabel_X2_lastNumber rfl rfl rfl hdX2_lastNumber.2 ⟨(Nat.le_of_ble_eq_true rfl), (Nat.le_of_ble_eq_true rfl)⟩) rfl rfl hl.1 rfl (Nat.le_of_ble_eq_true rfl) ⟨(Nat.le_of_ble_eq_true rfl), (Nat.le_of_ble_eq_true rfl)⟩ dX2_distanceToLabel_19 ?_
  refine lv_istore (lv' := [(6, .int r_8), (5, .int r_7), (4, .int r_6), (0, .ref h), (1, .int p1), (2, .int p2), (3, .int p3)]) hx hb dX2_distanceToLabel_22 hl (by decide) rfl (fun ls hl => ?_)
  refine lv_bipush (v := (99 : Int32)) hx hb dX2_distanceToLabel_24 (by decide) ?_
  refine lv_istore (lv' := [(7, .int (99 : Int32)), (6, .int r_8), (5, .int r_7), (4, .int r_6), (0, .ref h), (1, .int p1), (2, .int p2), (3, .int p3)]) hx hb dX2_distanceToLabel_26 hl (by decide) rfl (fun ls hl => ?_)
  refine lv_iload_n hx hb dX2_distanceToLabel_28 rfl (lv_at hl 6 rfl) ?_
  refine lv_istore (lv' := [(8, .int p2), (7, .int (99 : Int32)), (6, .int r_8), (5, .int r_7), (4, .int r_6), (0, .ref h), (1, .int p1), (2, .int p2), (3, .int p3)]) hx hb dX2_distanceToLabel_29 hl (by decide) rfl (fun ls hl => ?_)
  exact hB31 r_6 r_7 r_8 FU (99 : Int32) p2 ls (lv_sub hl [5, 6, 8, 4, 3, 2, 1, 0] rfl) hf

def fX2_distanceToOthers_6 (σ : Sh) (p1 p2 : Int32) : Nat → Int32 → Int32 → Option (Int32)
  | 0, _, _ => none
  | n + 1, v3_6, v4_6 => ((fX4_lineCount σ).bind fun r_1 => (if r_1 ≤ v4_6 then (some v3_6) else (if v4_6 = p1 then fX2_distanceToOthers_6 σ p1 p2 n v3_6 (v4_6 + 1) else ((fX4_labelIn σ v4_6).bind fun r_4 => (if r_4 = (-1 : Int32) then fX2_distanceToOthers_6 σ p1 p2 n v3_6 (v4_6 + 1) else ((fX2_distanceToLabel σ p1 p2 v4_6).bind fun r_6 => fX2_distanceToOthers_6 σ p1 p2 n (imin v3_6 r_6) (v4_6 + 1)))))))
def fX2_distanceToOthers (σ : Sh) (p1 p2 : Int32) : Option (Int32) := fX2_distanceToOthers_6 σ p1 p2 FU (99 : Int32) (0 : Int32)
abbrev rmX2_distanceToOthers : Room := { frames := 3, cells := 0, slots := 0, locals := 74 }
theorem hdX2_distanceToOthers : yX2_distanceToOthers.cls = RX2 ∧ yX2_distanceToOthers.cls ≠ "java/lang/invoke/MethodHandle" ∧ yX2_distanceToOthers.cls ≠ "java/lang/invoke/VarHandle" ∧ (parseMethodDescriptor yX2_distanceToOthers.desc).map (fun d => d.parameters.length) = some 3 := by decide +kernel
theorem mlX2_distanceToOthers_80 : (.methodLink RX2 80 Lib.Math.min.name : Cond) ∈ wsX2_distanceToOthers := by decide +kernel
theorem msX2_distanceToOthers_min : (.static Lib.Math.min.name : Cond) ∈ wsX2_distanceToOthers := by decide +kernel
theorem miX2_distanceToOthers : (.initialized "java/lang/Math" : Cond) ∈ wsX2_distanceToOthers := by decide +kernel
theorem mcX2_distanceToOthers_min : (.code Lib.Math.min.name Lib.Math.min.code 2 (some .int) : Cond) ∈ wsX2_distanceToOthers := by decide +kernel
set_option maxHeartbeats 4000000 in
set_option maxRecDepth 100000 in
theorem cX2_distanceToOthers_ok (l : Launch) (g : Gg) (h a1 a2 a3 a4 : Nat) (σ : Sh) (p1 p2 : Int32) {r : Int32} (hf : fX2_distanceToOthers σ p1 p2 = some r) : Met l yX2_distanceToOthers wsX2_distanceToOthers rmX2_distanceToOthers (va_Pc [.ref h, .int p1, .int p2] (PP g (wS g h a1 a2 a3 a4 σ))) (vp_Si (fun r' => r' = r)) 0 0 (fun _ => False) := by
  refine Met.ofW (cc := cX2_distanceToOthers) (maxL := 5) (ret := (some .int)) (by decide) rfl ?_
  intro p e s m args below meth c s₁ B hml hv
  obtain ⟨rfl, hP, hE, hZ⟩ := hv
  have hx := B.exec
  have hb := B.bytes
  have hr := B.returns
  have hts := atoms_spec (ws := wsX2_distanceToOthers) B.pre
  have hown : s.vm.findClass RX2 = some m.cls := findClass_of_methodNamed B.named
  have hlocks := B.notSynchronized
  have hS : va_S (fun _ => False) s.heap s.heap [] := va_S.rf
  have hl := lv_entry ([.ref h, .int p1, .int p2]) (n := 5) (Nat.le_of_ble_eq_true rfl)
  rw [lg_entry_eq]
  generalize (lg_sl ([.ref h, .int p1, .int p2]) ++ List.replicate (5 - (lg_sl ([.ref h, .int p1, .int p2])).length) Slot.unset).toArray = ls at hl ⊢
  have hl : lv_has ls 5 [(0, .ref h), (1, .int p1), (2, .int p2)] := hl
  have hB6 : ∀ (n6 : Nat) (v3_6 : Int32) (v4_6 : Int32) (ls : Array Slot), lv_has ls 5 [(0, .ref h), (1, .int p1), (2, .int p2), (3, .int v3_6), (4, .int v4_6)] → fX2_distanceToOthers_6 σ p1 p2 n6 v3_6 v4_6 = some r → W p l e (headSpec wsX2_distanceToOthers rmX2_distanceToOthers).room s m ([.ref h, .int p1, .int p2] : List Value).toArray below meth c s.heap [] 0 0 (MQ below (vp_Si (fun r' => r' = r)) ([.ref h, .int p1, .int p2] : List Value).toArray s 0 0 (fun _ => False)) (F0 m 6 ls []) := by
    intro  n6
    induction n6 with
    | zero => intro v3_6 v4_6 ls hl hf; exact nomatch (show (none : Option (Int32)) = some _ from hf)
    | succ n6 ih6 =>
      intro v3_6 v4_6 ls hl hf
      rw [fX2_distanceToOthers_6] at hf
      refine lv_iload hx hb dX2_distanceToOthers_6 (lv_at hl 4 rfl) ?_
      refine lv_aload_n hx hb dX2_distanceToOthers_8 rfl (lv_at hl 0 rfl) ?_
      obtain ⟨r_1, e_1, hf⟩ := bo hf
      refine pcallV (W0 := (wS g h a1 a2 a3 a4 σ)) (As := []) (rest := [.int v4_6]) [0, 1, 2, 3, 4] 3 0 ⟨hx, hb, hml, hown, hts⟩ hP hE hZ hS (cX4_lineCount_ok l g h a1 a2 a3 a4 σ e_1) (cwV 0 hts gX2_distanceToOthers_X4_lineCount rfl rfl rfl hdX4_lineCount ⟨(Nat.le_of_ble_eq_true rfl), (Nat.le_of_ble_eq_true rfl)⟩) rfl rfl rfl rfl rfl hl.1 rfl (Nat.le_of_ble_eq_true rfl) ⟨(Nat.le_of_ble_eq_true rfl), (Nat.le_of_ble_eq_true rfl)⟩ dX2_distanceToOthers_9 ?_
      refine lv_icmp_ge (tgt := 50) hx hb dX2_distanceToOthers_12 (by decide) (fun c_2 => ?_) (fun c_2 => ?_)
      · have hf := ip c_2 hf
        refine lv_iload_n hx hb dX2_distanceToOthers_50 rfl (lv_at hl 3 rfl) ?_
        exact p_iret (v := v3_6) hx hb hr hlocks (Option.some.inj hf) dX2_distanceToOthers_51
      · have hf := iq c_2 hf
        refine lv_iload hx hb dX2_distanceToOthers_15 (lv_at hl 4 rfl) ?_
        refine lv_iload_n hx hb dX2_distanceToOthers_17 rfl (lv_at hl 1 rfl) ?_
        refine lv_icmp_eq (tgt := 44) hx hb dX2_distanceToOthers_18 (by decide) (fun c_3 => ?_) (fun c_3 => ?_)
        · have hf := ip c_3 hf
          refine lv_iinc (v := (v4_6 + 1)) (lv' := [(4, .int (v4_6 + 1)), (0, .ref h), (1, .int p1), (2, .int p2), (3, .int v3_6)]) hx hb dX2_distanceToOthers_44 hl (k := 4) rfl rfl (by decide) rfl (fun ls hl => ?_)
          refine lv_goto (tgt := 6) hx hb dX2_distanceToOthers_47 (by decide) ?_
          exact ih6 v3_6 (v4_6 + 1) ls (lv_sub hl [1, 2, 3, 4, 0] rfl) hf
        · have hf := iq c_3 hf
          refine lv_aload_n hx hb dX2_distanceToOthers_21 rfl (lv_at hl 0 rfl) ?_
          refine lv_iload hx hb dX2_distanceToOthers_22 (lv_at hl 4 rfl) ?_
          obtain ⟨r_4, e_4, hf⟩ := bo hf
          refine pcallV (W0 := (wS g h a1 a2 a3 a4 σ)) (As := [.int v4_6]) (rest := []) [0, 1, 2, 3, 4] 3 0 ⟨hx, hb, hml, hown, hts⟩ hP hE hZ hS (cX4_labelIn_ok l g h a1 a2 a3 a4 σ v4_6 e_4) (cwV 1 hts gX2_distanceToOthers_X4_labelIn rfl rfl rfl hdX4_labelIn ⟨(Nat.le_of_ble_eq_true rfl), (Nat.le_of_ble_eq_true rfl)⟩) rfl rfl rfl rfl rfl hl.1 rfl (Nat.le_of_ble_eq_true rfl) ⟨(Nat.le_of_ble_eq_true rfl), (Nat.le_of_ble_eq_true rfl)⟩ dX2_distanceToOthers_24 ?_
          refine lv_iconst (v := (-1 : Int32)) hx hb dX2_distanceToOthers_27 (by decide) ?_
          refine lv_icmp_eq (tgt := 44) hx hb dX2_distanceToOthers_28 (by decide) (fun c_5 => ?_) (fun c_5 => ?_)
          · have hf := ip c_5 hf
            refine lv_iinc (v := (v4_6 + 1)) (lv' := [(4, .int (v4_6 + 1)), (0, .ref h), (1, .int p1), (2, .int p2), (3, .int v3_6)]) hx hb dX2_distanceToOthers_44 hl (k := 4) rfl rfl (by decide) rfl (fun ls hl => ?_)
            refine lv_goto (tgt := 6) hx hb dX2_distanceToOthers_47 (by decide) ?_
            exact ih6 v3_6 (v4_6 + 1) ls (lv_sub hl [1, 2, 3, 4, 0] rfl) hf
          · have hf := iq c_5 hf
            refine lv_iload_n hx hb dX2_distanceToOthers_31 rfl (lv_at hl 3 rfl) ?_
            refine lv_aload_n hx hb dX2_distanceToOthers_32 rfl (lv_at hl 0 rfl) ?_
            refine lv_iload_n hx hb dX2_distanceToOthers_33 rfl (lv_at hl 1 rfl) ?_
            refine lv_iload_n hx hb dX2_distanceToOthers_34 rfl (lv_at hl 2 rfl) ?_
            refine lv_iload hx hb dX2_distanceToOthers_35 (lv_at hl 4 rfl) ?_
            obtain ⟨r_6, e_6, hf⟩ := bo hf
            refine pcallS (W0 := (wS g h a1 a2 a3 a4 σ)) (As := [.ref h, .int p1, .int p2, .int v4_6]) (rest := [.int v3_6]) [0, 1, 2, 3, 4] ⟨hx, hb, hml, hown, hts⟩ hP hE hZ hS (cX2_distanceToLabel_ok l g h a1 a2 a3 a4 σ p1 p2 v4_6 e_6) (va_cwS 4 hts gX2_distanceToOthers_X2_distanceToLabel rfl rfl rfl hdX2_distanceToLabel.2 ⟨(Nat.le_of_ble_eq_true rfl), (Nat.le_of_ble_eq_true rfl)⟩) rfl rfl hl.1 rfl (Nat.le_of_ble_eq_true rfl) ⟨(Nat.le_of_ble_eq_true rfl), (Nat.le_of_ble_eq_true rfl)⟩ dX2_distanceToOthers_37 ?_
            refine va_mmin hx hb (hml.trans hl.1.symm) hown (hts _ mlX2_distanceToOthers_80) (hts _ msX2_distanceToOthers_min) (hts _ miX2_distanceToOthers) (hts _ mcX2_distanceToOthers_min) (Nat.le_of_ble_eq_true rfl) (Nat.le_of_ble_eq_true rfl) (Nat.le_of_ble_eq_true rfl) (Nat.le_of_ble_eq_true rfl) dX2_distanceToOthers_40 ?_
            refine W.eq (g2 := F0 m 43 ls [.int (imin v3_6 r_6)]) rfl ?_
            refine lv_istore_n (lv' := [(3, .int (imin v3_6 r_6)), (0, .ref h), (1, .int p1), (2, .int p2), (4, .int v4_6)]) hx hb dX2_distanceToOthers_43 rfl hl (by decide) rfl (fun ls hl => ?_)
            refine lv_iinc (v := (v4_6 + 1)) (lv' := [(4, .int (v4_6 + 1)), (3, .int (imin v3_6 r_6)), (0, .ref h), (1, .int p1), (2, .int p2)]) hx hb dX2_distanceToOthers_44 hl (k := 4) rfl rfl (by decide) rfl (fun ls hl => ?_)
            refine lv_goto (tgt := 6) hx hb dX2_distanceToOthers_47 (by decide) ?_
            exact ih6 (imin v3_6 r_6) (v4_6 + 1) ls (lv_sub hl [2, 3, 4, 1, 0] rfl) hf
  unfold fX2_distanceToOthers at hf
  refine lv_bipush (v := (99 : Int32)) hx hb dX2_distanceToOthers_0 (by decide) ?_
  refine lv_istore_n (lv' := [(3, .int (99 : Int32)), (0, .ref h), (1, .int p1), (2, .int p2)]) hx hb dX2_distanceToOthers_2 rfl hl (by decide) rfl (fun ls hl => ?_)
  refine lv_iconst (v := (0 : Int32)) hx hb dX2_distanceToOthers_3 (by decide) ?_
  refine lv_istore (lv' := [(4, .int (0 : Int32)), (3, .int (99 : Int32)), (0, .ref h), (1, .int p1), (2, .int p2)]) hx hb dX2_distanceToOthers_4 hl (by decide) rfl (fun ls hl => ?_)
  exact hB6 FU (99 : Int32) (0 : Int32) ls (lv_sub hl [2, 3, 4, 1, 0] rfl) hf

def fX2_reasonAgainst (σ : Sh) (p1 p2 : Int32) : Option (Int32) := ((fX2_reasonOfShape σ p1 p2).bind fun r_1 => (if r_1 = 0 then ((fX2_distanceToOthers σ p1 p2).bind fun r_3 => ((fX4_gapWidth σ).bind fun r_4 => (if r_4 ≤ r_3 then (some (0 : Int32)) else (some (4 : Int32))))) else (some r_1)))
abbrev rmX2_reasonAgainst : Room := { frames := 4, cells := 0, slots := 0, locals := 98 }
theorem hdX2_reasonAgainst : yX2_reasonAgainst.cls = RX2 ∧ yX2_reasonAgainst.cls ≠ "java/lang/invoke/MethodHandle" ∧ yX2_reasonAgainst.cls ≠ "java/lang/invoke/VarHandle" ∧ (parseMethodDescriptor yX2_reasonAgainst.desc).map (fun d => d.parameters.length) = some 3 := by decide +kernel
set_option maxHeartbeats 4000000 in
set_option maxRecDepth 100000 in
theorem cX2_reasonAgainst_ok (l : Launch) (g : Gg) (h a1 a2 a3 a4 : Nat) (σ : Sh) (p1 p2 : Int32) {r : Int32} (hf : fX2_reasonAgainst σ p1 p2 = some r) : Met l yX2_reasonAgainst wsX2_reasonAgainst rmX2_reasonAgainst (va_Pc [.ref h, .int p1, .int p2] (PP g (wS g h a1 a2 a3 a4 σ))) (vp_Si (fun r' => r' = r)) 0 0 (fun _ => False) := by
  refine Met.ofW (cc := cX2_reasonAgainst) (maxL := 4) (ret := (some .int)) (by decide) rfl ?_
  intro p e s m args below meth c s₁ B hml hv
  obtain ⟨rfl, hP, hE, hZ⟩ := hv
  have hx := B.exec
  have hb := B.bytes
  have hr := B.returns
  have hts := atoms_spec (ws := wsX2_reasonAgainst) B.pre
  have hown : s.vm.findClass RX2 = some m.cls := findClass_of_methodNamed B.named
  have hlocks := B.notSynchronized
  have hS : va_S (fun _ => False) s.heap s.heap [] := va_S.rf
  have hl := lv_entry ([.ref h, .int p1, .int p2]) (n := 4) (Nat.le_of_ble_eq_true rfl)
  rw [lg_entry_eq]
  generalize (lg_sl ([.ref h, .int p1, .int p2]) ++ List.replicate (4 - (lg_sl ([.ref h, .int p1, .int p2])).length) Slot.unset).toArray = ls at hl ⊢
  have hl : lv_has ls 4 [(0, .ref h), (1, .int p1), (2, .int p2)] := hl
  unfold fX2_reasonAgainst at hf
  refine lv_aload_n hx hb dX2_reasonAgainst_0 rfl (lv_at hl 0 rfl) ?_
  refine lv_iload_n hx hb dX2_reasonAgainst_1 rfl (lv_at hl 1 rfl) ?_
  refine lv_iload_n hx hb dX2_reasonAgainst_2 rfl (lv_at hl 2 rfl) ?_
  obtain ⟨r_1, e_1, hf⟩ := bo hf
  refine pcallS (W0 := (wS g h a1 a2 a3 a4 σ)) (As := [.ref h, .int p1, .int p2]) (rest := []) [0, 1, 2, 3, 4] ⟨hx, hb, hml, hown, hts⟩ hP hE hZ hS (cX2_reasonOfShape_ok l g h a1 a2 a3 a4 σ p1 p2 e_1) (va_cwS 3 hts gX2_reasonAgainst_X2_reasonOfShape rfl rfl rfl hdX2_reasonOfShape.2 ⟨(Nat.le_of_ble_eq_true rfl), (Nat.le_of_ble_eq_true rfl)⟩) rfl rfl hl.1 rfl (Nat.le_of_ble_eq_true rfl) ⟨(Nat.le_of_ble_eq_true rfl), (Nat.le_of_ble_eq_true rfl)⟩ dX2_reasonAgainst_3 ?_
  refine lv_istore_n (lv' := [(3, .int r_1), (0, .ref h), (1, .int p1), (2, .int p2)]) hx hb dX2_reasonAgainst_6 rfl hl (by decide) rfl (fun ls hl => ?_)
  refine lv_iload_n hx hb dX2_reasonAgainst_7 rfl (lv_at hl 0 rfl) ?_
  refine lv_if_eq (tgt := 13) hx hb dX2_reasonAgainst_8 (by decide) (fun c_2 => ?_) (fun c_2 => ?_)
  · have hf := ip c_2 hf
    refine lv_aload_n hx hb dX2_reasonAgainst_13 rfl (lv_at hl 1 rfl) ?_
    refine lv_iload_n hx hb dX2_reasonAgainst_14 rfl (lv_at hl 2 rfl) ?_
    refine lv_iload_n hx hb dX2_reasonAgainst_15 rfl (lv_at hl 3 rfl) ?_
    obtain ⟨r_3, e_3, hf⟩ := bo hf
    refine pcallS (W0 := (wS g h a1 a2 a3 a4 σ)) (As := [.ref h, .int p1, .int p2]) (rest := []) [0, 1, 2, 3, 4] ⟨hx, hb, hml, hown, hts⟩ hP hE hZ hS (cX2_distanceToOthers_ok l g h a1 a2 a3 a4 σ p1 p2 e_3) (va_cwS 3 hts gX2_reasonAgainst_X2_distanceToOthers rfl rfl rfl hdX2_distanceToOthers.2 ⟨(Nat.le_of_ble_eq_true rfl), (Nat.le_of_ble_eq_true rfl)⟩) rfl rfl hl.1 rfl (Nat.le_of_ble_eq_true rfl) ⟨(Nat.le_of_ble_eq_true rfl), (Nat.le_of_ble_eq_true rfl)⟩ dX2_reasonAgainst_16 ?_
    refine lv_aload_n hx hb dX2_reasonAgainst_19 rfl (lv_at hl 1 rfl) ?_
    obtain ⟨r_4, e_4, hf⟩ := bo hf
    refine pcallV (W0 := (wS g h a1 a2 a3 a4 σ)) (As := []) (rest := [.int r_3]) [0, 1, 2, 3, 4] 3 0 ⟨hx, hb, hml, hown, hts⟩ hP hE hZ hS (cX4_gapWidth_ok l g h a1 a2 a3 a4 σ e_4) (cwV 0 hts gX2_reasonAgainst_X4_gapWidth rfl rfl rfl hdX4_gapWidth ⟨(Nat.le_of_ble_eq_true rfl), (Nat.le_of_ble_eq_true rfl)⟩) rfl rfl rfl rfl rfl hl.1 rfl (Nat.le_of_ble_eq_true rfl) ⟨(Nat.le_of_ble_eq_true rfl), (Nat.le_of_ble_eq_true rfl)⟩ dX2_reasonAgainst_20 ?_
    refine lv_icmp_ge (tgt := 30) hx hb dX2_reasonAgainst_23 (by decide) (fun c_5 => ?_) (fun c_5 => ?_)
    · have hf := ip c_5 hf
      refine lv_iconst (v := (0 : Int32)) hx hb dX2_reasonAgainst_30 (by decide) ?_
      exact p_iret (v := (0 : Int32)) hx hb hr hlocks (Option.some.inj hf) dX2_reasonAgainst_31
    · have hf := iq c_5 hf
      refine lv_iconst (v := (4 : Int32)) hx hb dX2_reasonAgainst_26 (by decide) ?_
      refine lv_goto (tgt := 31) hx hb dX2_reasonAgainst_27 (by decide) ?_
      exact p_iret (v := (4 : Int32)) hx hb hr hlocks (Option.some.inj hf) dX2_reasonAgainst_31
  · have hf := iq c_2 hf
    refine lv_iload_n hx hb dX2_reasonAgainst_11 rfl (lv_at hl 0 rfl) ?_
    exact p_iret (v := r_1) hx hb hr hlocks (Option.some.inj hf) dX2_reasonAgainst_12

def fX2_countPlaces_11 (σ : Sh) (p1 : Int32) (v2_11 : Int32) : Nat → Int32 → Int32 → Option (Int32)
  | 0, _, _ => none
  | n + 1, v3_11, v4_11 => (if v2_11 < v4_11 then (some v3_11) else ((fX2_reasonAgainst σ p1 v4_11).bind fun r_2 => (if r_2 = 0 then fX2_countPlaces_11 σ p1 v2_11 n (v3_11 + 1) (v4_11 + 1) else fX2_countPlaces_11 σ p1 v2_11 n v3_11 (v4_11 + 1))))
def fX2_countPlaces (σ : Sh) (p1 : Int32) : Option (Int32) := ((fX4_stepCount σ p1).bind fun r_4 => fX2_countPlaces_11 σ p1 r_4 FU (0 : Int32) (0 : Int32))
abbrev rmX2_countPlaces : Room := { frames := 5, cells := 0, slots := 0, locals := 121 }
theorem hdX2_countPlaces : yX2_countPlaces.cls = RX2 ∧ yX2_countPlaces.cls ≠ "java/lang/invoke/MethodHandle" ∧ yX2_countPlaces.cls ≠ "java/lang/invoke/VarHandle" ∧ (parseMethodDescriptor yX2_countPlaces.desc).map (fun d => d.parameters.length) = some 2 := by decide +kernel
set_option maxHeartbeats 4000000 in
set_option maxRecDepth 100000 in
theorem cX2_countPlaces_ok (l : Launch) (g : Gg) (h a1 a2 a3 a4 : Nat) (σ : Sh) (p1 : Int32) {r : Int32} (hf : fX2_countPlaces σ p1 = some r) : Met l yX2_countPlaces wsX2_countPlaces rmX2_countPlaces (va_Pc [.ref h, .int p1] (PP g (wS g h a1 a2 a3 a4 σ))) (vp_Si (fun r' => r' = r)) 0 0 (fun _ => False) := by
  refine Met.ofW (cc := cX2_countPlaces) (maxL := 5) (ret := (some .int)) (by decide) rfl ?_
  intro p e s m args below meth c s₁ B hml hv
  obtain ⟨rfl, hP, hE, hZ⟩ := hv
  have hx := B.exec
  have hb := B.bytes
  have hr := B.returns
  have hts := atoms_spec (ws := wsX2_countPlaces) B.pre
  have hown : s.vm.findClass RX2 = some m.cls := findClass_of_methodNamed B.named
  have hlocks := B.notSynchronized
  have hS : va_S (fun _ => False) s.heap s.heap [] := va_S.rf
  have hl := lv_entry ([.ref h, .int p1]) (n := 5) (Nat.le_of_ble_eq_true rfl)
  rw [lg_entry_eq]
  generalize (lg_sl ([.ref h, .int p1]) ++ List.replicate (5 - (lg_sl ([.ref h, .int p1])).length) Slot.unset).toArray = ls at hl ⊢
  have hl : lv_has ls 5 [(0, .ref h), (1, .int p1)] := hl
  have hB11 : ∀ (v2_11 : Int32) (n11 : Nat) (v3_11 : Int32) (v4_11 : Int32) (ls : Array Slot), lv_has ls 5 [(0, .ref h), (1, .int p1), (2, .int v2_11), (3, .int v3_11), (4, .int v4_11)] → fX2_countPlaces_11 σ p1 v2_11 n11 v3_11 v4_11 = some r → W p l e (headSpec wsX2_countPlaces rmX2_countPlaces).room s m ([.ref h, .int p1] : List Value).toArray below meth c s.heap [] 0 0 (MQ below (vp_Si (fun r' => r' = r)) ([.ref h, .int p1] : List Value).toArray s 0 0 (fun _ => False)) (F0 m 11 ls []) := by
    intro v2_11 n11
    induction n11 with
    | zero => intro v3_11 v4_11 ls hl hf; exact nomatch (show (none : Option (Int32)) = some _ from hf)
    | succ n11 ih11 =>
      intro v3_11 v4_11 ls hl hf
      rw [fX2_countPlaces_11] at hf
      refine lv_iload hx hb dX2_countPlaces_11 (lv_at hl 4 rfl) ?_
      refine lv_iload_n hx hb dX2_countPlaces_13 rfl (lv_at hl 2 rfl) ?_
      refine lv_icmp_gt (tgt := 36) hx hb dX2_countPlaces_14 (by decide) (fun c_1 => ?_) (fun c_1 => ?_)
      · have hf := ip c_1 hf
        refine lv_iload_n hx hb dX2_countPlaces_36 rfl (lv_at hl 3 rfl) ?_
        exact p_iret (v := v3_11) hx hb hr hlocks (Option.some.inj hf) dX2_countPlaces_37
      · have hf := iq c_1 hf
        refine lv_aload_n hx hb dX2_countPlaces_17 rfl (lv_at hl 0 rfl) ?_
        refine lv_iload_n hx hb dX2_countPlaces_18 rfl (lv_at hl 1 rfl) ?_
        refine lv_iload hx hb dX2_countPlaces_19 (lv_at hl 4 rfl) ?_
        obtain ⟨r_2, e_2, hf⟩ := bo hf
        refine pcallS (W0 := (wS g h a1 a2 a3 a4 σ)) (As := [.ref h, .int p1, .int v4_11]) (rest := []) [0, 1, 2, 3, 4] ⟨hx, hb, hml, hown, hts⟩ hP hE hZ hS (cX2_reasonAgainst_ok l g h a1 a2 a3 a4 σ p1 v4_11 e_2) (va_cwS 3 hts gX2_countPlaces_X2_reasonAgainst rfl rfl rfl hdX2_reasonAgainst.2 ⟨(Nat.le_of_ble_eq_true rfl), (Nat.le_of_ble_eq_true rfl)⟩) rfl rfl hl.1 rfl (Nat.le_of_ble_eq_true rfl) ⟨(Nat.le_of_ble_eq_true rfl), (Nat.le_of_ble_eq_true rfl)⟩ dX2_countPlaces_21 ?_
        refine lv_if_ne (tgt := 30) hx hb dX2_countPlaces_24 (by decide) (fun c_3 => ?_) (fun c_3 => ?_)
        · have hf := iq c_3 hf
          refine lv_iinc (v := (v4_11 + 1)) (lv' := [(4, .int (v4_11 + 1)), (0, .ref h), (1, .int p1), (2, .int v2_11), (3, .int v3_11)]) hx hb dX2_countPlaces_30 hl (k := 4) rfl rfl (by decide) rfl (fun ls hl => ?_)
          refine lv_goto (tgt := 11) hx hb dX2_countPlaces_33 (by decide) ?_
          exact ih11 v3_11 (v4_11 + 1) ls (lv_sub hl [1, 2, 3, 4, 0] rfl) hf
        · have hf := ip c_3 hf
          refine lv_iinc (v := (v3_11 + 1)) (lv' := [(3, .int (v3_11 + 1)), (0, .ref h), (1, .int p1), (2, .int v2_11), (4, .int v4_11)]) hx hb dX2_countPlaces_27 hl (k := 3) rfl rfl (by decide) rfl (fun ls hl => ?_)
          refine lv_iinc (v := (v4_11 + 1)) (lv' := [(4, .int (v4_11 + 1)), (3, .int (v3_11 + 1)), (0, .ref h), (1, .int p1), (2, .int v2_11)]) hx hb dX2_countPlaces_30 hl (k := 4) rfl rfl (by decide) rfl (fun ls hl => ?_)
          refine lv_goto (tgt := 11) hx hb dX2_countPlaces_33 (by decide) ?_
          exact ih11 (v3_11 + 1) (v4_11 + 1) ls (lv_sub hl [2, 3, 4, 1, 0] rfl) hf
  unfold fX2_countPlaces at hf
  refine lv_aload_n hx hb dX2_countPlaces_0 rfl (lv_at hl 0 rfl) ?_
  refine lv_iload_n hx hb dX2_countPlaces_1 rfl (lv_at hl 1 rfl) ?_
  obtain ⟨r_4, e_4, hf⟩ := bo hf
  refine pcallV (W0 := (wS g h a1 a2 a3 a4 σ)) (As := [.int p1]) (rest := []) [0, 1, 2, 3, 4] 3 0 ⟨hx, hb, hml, hown, hts⟩ hP hE hZ hS (cX4_stepCount_ok l g h a1 a2 a3 a4 σ p1 e_4) (cwV 1 hts gX2_countPlaces_X4_stepCount rfl rfl rfl hdX4_stepCount ⟨(Nat.le_of_ble_eq_true rfl), (Nat.le_of_ble_eq_true rfl)⟩) rfl rfl rfl rfl rfl hl.1 rfl (Nat.le_of_ble_eq_true rfl) ⟨(Nat.le_of_ble_eq_true rfl), (Nat.le_of_ble_eq_true rfl)⟩ dX2_countPlaces_2 ?_
  refine lv_istore_n (lv' := [(2, .int r_4), (0, .ref h), (1, .int p1)]) hx hb dX2_countPlaces_5 rfl hl (by decide) rfl (fun ls hl => ?_)
  refine lv_iconst (v := (0 : Int32)) hx hb dX2_countPlaces_6 (by decide) ?_
  refine lv_istore_n (lv' := [(3, .int (0 : Int32)), (2, .int r_4), (0, .ref h), (1, .int p1)]) hx hb dX2_countPlaces_7 rfl hl (by decide) rfl (fun ls hl => ?_)
  refine lv_iconst (v := (0 : Int32)) hx hb dX2_countPlaces_8 (by decide) ?_
  refine lv_istore (lv' := [(4, .int (0 : Int32)), (3, .int (0 : Int32)), (2, .int r_4), (0, .ref h), (1, .int p1)]) hx hb dX2_countPlaces_9 hl (by decide) rfl (fun ls hl => ?_)
  exact hB11 r_4 FU (0 : Int32) (0 : Int32) ls (lv_sub hl [3, 4, 2, 1, 0] rfl) hf

def fX2_best_85 (σ : Sh) (p1 : Int32) (v2_17 : Int32) (k17 : Int32 → Int32 → Int32 → Int32 → Option (Int32)) (v3_85 : Int32) (v4_85 : Int32) (v5_85 : Int32) (v6_85 : Int32) (v7_85 : Int32) (v8_85 : Int32) (t0_85 : Bool) : Option (Int32) := (if t0_85 = true then ((fX4_gapWidth σ).bind fun r_2 => (if v8_85 < r_2 then k17 v3_85 v4_85 v5_85 (v6_85 + 1) else k17 v6_85 v7_85 v8_85 (v6_85 + 1))) else k17 v3_85 v4_85 v5_85 (v6_85 + 1))
def fX2_best_17 (σ : Sh) (p1 : Int32) (v2_17 : Int32) : Nat → Int32 → Int32 → Int32 → Int32 → Option (Int32)
  | 0, _, _, _, _ => none
  | n + 1, v3_17, v4_17, v5_17, v6_17 => (if v2_17 < v6_17 then (some v3_17) else ((fX2_reasonOfShape σ p1 v6_17).bind fun r_5 => (if r_5 = 0 then ((fX2_bendOfPlace σ p1 v6_17).bind fun r_7 => ((fX2_distanceToOthers σ p1 v6_17).bind fun r_8 => (if v3_17 = (-1 : Int32) then fX2_best_85 σ p1 v2_17 (fX2_best_17 σ p1 v2_17 n) v3_17 v4_17 v5_17 v6_17 r_7 r_8 true else (if r_7 < v4_17 then fX2_best_85 σ p1 v2_17 (fX2_best_17 σ p1 v2_17 n) v3_17 v4_17 v5_17 v6_17 r_7 r_8 true else (if r_7 = v4_17 then (if r_8 ≤ v5_17 then fX2_best_85 σ p1 v2_17 (fX2_best_17 σ p1 v2_17 n) v3_17 v4_17 v5_17 v6_17 r_7 r_8 false else fX2_best_85 σ p1 v2_17 (fX2_best_17 σ p1 v2_17 n) v3_17 v4_17 v5_17 v6_17 r_7 r_8 true) else fX2_best_85 σ p1 v2_17 (fX2_best_17 σ p1 v2_17 n) v3_17 v4_17 v5_17 v6_17 r_7 r_8 false))))) else fX2_best_17 σ p1 v2_17 n v3_17 v4_17 v5_17 (v6_17 + 1))))
def fX2_best (σ : Sh) (p1 : Int32) : Option (Int32) := ((fX4_stepCount σ p1).bind fun r_13 => fX2_best_17 σ p1 r_13 FU (-1 : Int32) (0 : Int32) (0 : Int32) (0 : Int32))
abbrev rmX2_best : Room := { frames := 4, cells := 0, slots := 0, locals := 98 }
theorem hdX2_best : yX2_best.cls = RX2 ∧ yX2_best.cls ≠ "java/lang/invoke/MethodHandle" ∧ yX2_best.cls ≠ "java/lang/invoke/VarHandle" ∧ (parseMethodDescriptor yX2_best.desc).map (fun d => d.parameters.length) = some 2 := by decide +kernel
set_option maxHeartbeats 4000000 in
set_option maxRecDepth 100000 in
theorem cX2_best_ok (l : Launch) (g : Gg) (h a1 a2 a3 a4 : Nat) (σ : Sh) (p1 : Int32) {r : Int32} (hf : fX2_best σ p1 = some r) : Met l yX2_best wsX2_best rmX2_best (va_Pc [.ref h, .int p1] (PP g (wS g h a1 a2 a3 a4 σ))) (vp_Si (fun r' => r' = r)) 0 0 (fun _ => False) := by
  refine Met.ofW (cc := cX2_best) (maxL := 10) (ret := (some .int)) (by decide) rfl ?_
  intro p e s m args below meth c s₁ B hml hv
  obtain ⟨rfl, hP, hE, hZ⟩ := hv
  have hx := B.exec
  have hb := B.bytes
  have hr := B.returns
  have hts := atoms_spec (ws := wsX2_best) B.pre
  have hown : s.vm.findClass RX2 = some m.cls := findClass_of_methodNamed B.named
  have hlocks := B.notSynchronized
  have hS : va_S (fun _ => False) s.heap s.heap [] := va_S.rf
  have hl := lv_entry ([.ref h, .int p1]) (n := 10) (Nat.le_of_ble_eq_true rfl)
  rw [lg_entry_eq]
  generalize (lg_sl ([.ref h, .int p1]) ++ List.replicate (10 - (lg_sl ([.ref h, .int p1])).length) Slot.unset).toArray = ls at hl ⊢
  have hl : lv_has ls 10 [(0, .ref h), (1, .int p1)] := hl
  have hB17 : ∀ (v2_17 : Int32) (n17 : Nat) (v3_17 : Int32) (v4_17 : Int32) (v5_17 : Int32) (v6_17 : Int32) (ls : Array Slot), lv_has ls 10 [(0, .ref h), (1, .int p1), (2, .int v2_17), (3, .int v3_17), (4, .int v4_17), (5, .int v5_17), (6, .int v6_17)] → fX2_best_17 σ p1 v2_17 n17 v3_17 v4_17 v5_17 v6_17 = some r → W p l e (headSpec wsX2_best rmX2_best).room s m ([.ref h, .int p1] : List Value).toArray below meth c s.heap [] 0 0 (MQ below (vp_Si (fun r' => r' = r)) ([.ref h, .int p1] : List Value).toArray s 0 0 (fun _ => False)) (F0 m 17 ls []) := by
    intro v2_17 n17
    induction n17 with
    | zero => intro v3_17 v4_17 v5_17 v6_17 ls hl hf; exact nomatch (show (none : Option (Int32)) = some _ from hf)
    | succ n17 ih17 =>
      have hB85 : ∀ (v3_85 : Int32) (v4_85 : Int32) (v5_85 : Int32) (v6_85 : Int32) (v7_85 : Int32) (v8_85 : Int32) (t0_85 : Bool) (ls : Array Slot), lv_has ls 10 [(0, .ref h), (1, .int p1), (2, .int v2_17), (3, .int v3_85), (4, .int v4_85), (5, .int v5_85), (6, .int v6_85), (7, .int v7_85), (8, .int v8_85)] → fX2_best_85 σ p1 v2_17 (fX2_best_17 σ p1 v2_17 n17) v3_85 v4_85 v5_85 v6_85 v7_85 v8_85 t0_85 = some r → W p l e (headSpec wsX2_best rmX2_best).room s m ([.ref h, .int p1] : List Value).toArray below meth c s.heap [] 0 0 (MQ below (vp_Si (fun r' => r' = r)) ([.ref h, .int p1] : List Value).toArray s 0 0 (fun _ => False)) (F0 m 85 ls [.int (b2i t0_85)]) := by
        intro  v3_85 v4_85 v5_85 v6_85 v7_85 v8_85 t0_85 ls hl hf
        unfold fX2_best_85 at hf
        refine lv_istore (lv' := [(9, .int (b2i t0_85)), (0, .ref h), (1, .int p1), (2, .int v2_17), (3, .int v3_85), (4, .int v4_85), (5, .int v5_85), (6, .int v6_85), (7, .int v7_85), (8, .int v8_85)]) hx hb dX2_best_85 hl (by decide) rfl (fun ls hl => ?_)
        refine lv_iload hx hb dX2_best_87 (lv_at hl 0 rfl) ?_
        refine lv_beq (tgt := 112) hx hb dX2_best_89 (by decide) (fun c_1 => ?_) (fun c_1 => ?_)
        · have hf := iq c_1 hf
          refine lv_iinc (v := (v6_85 + 1)) (lv' := [(6, .int (v6_85 + 1)), (9, .int (b2i t0_85)), (0, .ref h), (1, .int p1), (2, .int v2_17), (3, .int v3_85), (4, .int v4_85), (5, .int v5_85), (7, .int v7_85), (8, .int v8_85)]) hx hb dX2_best_112 hl (k := 7) rfl rfl (by decide) rfl (fun ls hl => ?_)
          refine lv_goto (tgt := 17) hx hb dX2_best_115 (by decide) ?_
          exact ih17 v3_85 v4_85 v5_85 (v6_85 + 1) ls (lv_sub hl [2, 3, 4, 5, 6, 7, 0] rfl) hf
        · have hf := ip c_1 hf
          refine lv_iload hx hb dX2_best_92 (lv_at hl 9 rfl) ?_
          refine lv_aload_n hx hb dX2_best_94 rfl (lv_at hl 1 rfl) ?_
          obtain ⟨r_2, e_2, hf⟩ := bo hf
          refine pcallV (W0 := (wS g h a1 a2 a3 a4 σ)) (As := []) (rest := [.int v8_85]) [0, 1, 2, 3, 4] 3 0 ⟨hx, hb, hml, hown, hts⟩ hP hE hZ hS (cX4_gapWidth_ok l g h a1 a2 a3 a4 σ e_2) (cwV 0 hts gX2_best_X4_gapWidth rfl rfl rfl hdX4_gapWidth ⟨(Nat.le_of_ble_eq_true rfl), (Nat.le_of_ble_eq_true rfl)⟩) rfl rfl rfl rfl rfl hl.1 rfl (Nat.le_of_ble_eq_true rfl) ⟨(Nat.le_of_ble_eq_true rfl), (Nat.le_of_ble_eq_true rfl)⟩ dX2_best_95 ?_
          refine lv_icmp_lt (tgt := 112) hx hb dX2_best_98 (by decide) (fun c_3 => ?_) (fun c_3 => ?_)
          · have hf := ip c_3 hf
            refine lv_iinc (v := (v6_85 + 1)) (lv' := [(6, .int (v6_85 + 1)), (9, .int (b2i t0_85)), (0, .ref h), (1, .int p1), (2, .int v2_17), (3, .int v3_85), (4, .int v4_85), (5, .int v5_85), (7, .int v7_85), (8, .int v8_85)]) hx hb dX2_best_112 hl (k := 7) rfl rfl (by decide) rfl (fun ls hl => ?_)
            refine lv_goto (tgt := 17) hx hb dX2_best_115 (by decide) ?_
            exact ih17 v3_85 v4_85 v5_85 (v6_85 + 1) ls (lv_sub hl [2, 3, 4, 5, 6, 7, 0] rfl) hf
          · have hf := iq c_3 hf
            refine lv_iload hx hb dX2_best_101 (lv_at hl 7 rfl) ?_
            refine lv_istore_n (lv' := [(3, .int v6_85), (9, .int (b2i t0_85)), (0, .ref h), (1, .int p1), (2, .int v2_17), (4, .int v4_85), (5, .int v5_85), (6, .int v6_85), (7, .int v7_85), (8, .int v8_85)]) hx hb dX2_best_103 rfl hl (by decide) rfl (fun ls hl => ?_)
            refine lv_iload hx hb dX2_best_104 (lv_at hl 8 rfl) ?_
            refine lv_istore (lv' := [(4, .int v7_85), (3, .int v6_85), (9, .int (b2i t0_85)), (0, .ref h), (1, .int p1), (2, .int v2_17), (5, .int v5_85), (6, .int v6_85), (7, .int v7_85), (8, .int v8_85)]) hx hb dX2_best_106 hl (by decide) rfl (fun ls hl => ?_)
            refine lv_iload hx hb dX2_best_108 (lv_at hl 9 rfl) ?_
            refine lv_istore (lv' := [(5, .int v8_85), (4, .int v7_85), (3, .int v6_85), (9, .int (b2i t0_85)), (0, .ref h), (1, .int p1), (2, .int v2_17), (6, .int v6_85), (7, .int v7_85), (8, .int v8_85)]) hx hb dX2_best_110 hl (by decide) rfl (fun ls hl => ?_)
            refine lv_iinc (v := (v6_85 + 1)) (lv' := [(6, .int (v6_85 + 1)), (5, .int v8_85), (4, .int v7_85), (3, .int v6_85), (9, .int (b2i t0_85)), (0, .ref h), (1, .int p1), (2, .int v2_17), (7, .int v7_85), (8, .int v8_85)]) hx hb dX2_best_112 hl (k := 7) rfl rfl (by decide) rfl (fun ls hl => ?_)
            refine lv_goto (tgt := 17) hx hb dX2_best_115 (by decide) ?_
            exact ih17 v6_85 v7_85 v8_85 (v6_85 + 1) ls (lv_sub hl [5, 6, 7, 3, 2, 1, 0] rfl) hf
      intro v3_17 v4_17 v5_17 v6_17 ls hl hf
      rw [fX2_best_17] at hf
      refine lv_iload hx hb dX2_best_17 (lv_at hl 6 rfl) ?_
      refine lv_iload_n hx hb dX2_best_19 rfl (lv_at hl 2 rfl) ?_
      refine lv_icmp_gt (tgt := 118) hx hb dX2_best_20 (by decide) (fun c_4 => ?_) (fun c_4 => ?_)
      · have hf := ip c_4 hf
        refine lv_iload_n hx hb dX2_best_118 rfl (lv_at hl 3 rfl) ?_
        exact p_iret (v := v3_17) hx hb hr hlocks (Option.some.inj hf) dX2_best_119
      · have hf := iq c_4 hf
        refine lv_aload_n hx hb dX2_best_23 rfl (lv_at hl 0 rfl) ?_
        refine lv_iload_n hx hb dX2_best_24 rfl (lv_at hl 1 rfl) ?_
        refine lv_iload hx hb dX2_best_25 (lv_at hl 6 rfl) ?_
        obtain ⟨r_5, e_5, hf⟩ := bo hf
        refine pcallS (W0 := (wS g h a1 a2 a3 a4 σ)) (As := [.ref h, .int p1, .int v6_17]) (rest := []) [0, 1, 2, 3, 4] ⟨hx, hb, hml, hown, hts⟩ hP hE hZ hS (cX2_reasonOfShape_ok l g h a1 a2 a3 a4 σ p1 v6_17 e_5) (va_cwS 3 hts gX2_best_X2_reasonOfShape rfl rfl rfl hdX2_reasonOfShape.2 ⟨(Nat.le_of_ble_eq_true rfl), (Nat.le_of_ble_eq_true rfl)⟩) rfl rfl hl.1 rfl (Nat.le_of_ble_eq_true rfl) ⟨(Nat.le_of_ble_eq_true rfl), (Nat.le_of_ble_eq_true rfl)⟩ dX2_best_27 ?_
        refine lv_if_eq (tgt := 36) hx hb dX2_best_30 (by decide) (fun c_6 => ?_) (fun c_6 => ?_)
        · have hf := ip c_6 hf
          refine lv_aload_n hx hb dX2_best_36 rfl (lv_at hl 0 rfl) ?_
          refine lv_iload_n hx hb dX2_best_37 rfl (lv_at hl 1 rfl) ?_
          refine lv_iload hx hb dX2_best_38 (lv_at hl 6 rfl) ?_
          obtain ⟨r_7, e_7, hf⟩ := bo hf
          refine pcallS (W0 := (wS g h a1 a2 a3 a4 σ)) (As := [.ref h, .int p1, .int v6_17]) (rest := []) [0, 1, 2, 3, 4] ⟨hx, hb, hml, hown, hts⟩ hP hE hZ hS (cX2_bendOfPlace_ok l g h a1 a2 a3 a4 σ p1 v6_17 e_7) (va_cwS 3 hts gX2_best_X2_bendOfPlace rfl rfl rfl hdX2_bendOfPlace.2 ⟨(Nat.le_of_ble_eq_true rfl), (Nat.le_of_ble_eq_true rfl)⟩) rfl rfl hl.1 rfl (Nat.le_of_ble_eq_true rfl) ⟨(Nat.le_of_ble_eq_true rfl), (Nat.le_of_ble_eq_true rfl)⟩ dX2_best_40 ?_
          refine lv_istore (lv' := [(7, .int r_7), (0, .ref h), (1, .int p1), (2, .int v2_17), (3, .int v3_17), (4, .int v4_17), (5, .int v5_17), (6, .int v6_17)]) hx hb dX2_best_43 hl (by decide) rfl (fun ls hl => ?_)
          refine lv_aload_n hx hb dX2_best_45 rfl (lv_at hl 1 rfl) ?_
          refine lv_iload_n hx hb dX2_best_46 rfl (lv_at hl 2 rfl) ?_
          refine lv_iload hx hb dX2_best_47 (lv_at hl 7 rfl) ?_
          obtain ⟨r_8, e_8, hf⟩ := bo hf
          refine pcallS (W0 := (wS g h a1 a2 a3 a4 σ)) (As := [.ref h, .int p1, .int v6_17]) (rest := []) [0, 1, 2, 3, 4] ⟨hx, hb, hml, hown, hts⟩ hP hE hZ hS (cX2_distanceToOthers_ok l g h a1 a2 a3 a4 σ p1 v6_17 e_8) (va_cwS 3 hts gX2_best_X2_distanceToOthers rfl rfl rfl hdX2_distanceToOthers.2 ⟨(Nat.le_of_ble_eq_true rfl), (Nat.le_of_ble_eq_true rfl)⟩) rfl rfl hl.1 rfl (Nat.le_of_ble_eq_true rfl) ⟨(Nat.le_of_ble_eq_true rfl), (Nat.le_of_ble_eq_true rfl)⟩ dX2_best_49 ?_
          refine lv_istore (lv' := [(8, .int r_8), (7, .int r_7), (0, .ref h), (1, .int p1), (2, .int v2_17), (3, .int v3_17), (4, .int v4_17), (5, .int v5_17), (6, .int v6_17)]) hx hb dX2_best_52 hl (by decide) rfl (fun ls hl => ?_)
          refine lv_iload_n hx hb dX2_best_54 rfl (lv_at hl 5 rfl) ?_
          refine lv_iconst (v := (-1 : Int32)) hx hb dX2_best_55 (by decide) ?_
          refine lv_icmp_eq (tgt := 80) hx hb dX2_best_56 (by decide) (fun c_9 => ?_) (fun c_9 => ?_)
          · have hf := ip c_9 hf
            refine lv_iconst (v := (1 : Int32)) hx hb dX2_best_80 (by decide) ?_
            refine lv_goto (tgt := 85) hx hb dX2_best_81 (by decide) ?_
            exact hB85 v3_17 v4_17 v5_17 v6_17 r_7 r_8 true ls (lv_sub hl [2, 3, 4, 5, 6, 7, 8, 1, 0] rfl) hf
          · have hf := iq c_9 hf
            refine lv_iload hx hb dX2_best_59 (lv_at hl 1 rfl) ?_
            refine lv_iload hx hb dX2_best_61 (lv_at hl 6 rfl) ?_
            refine lv_icmp_lt (tgt := 80) hx hb dX2_best_63 (by decide) (fun c_10 => ?_) (fun c_10 => ?_)
            · have hf := ip c_10 hf
              refine lv_iconst (v := (1 : Int32)) hx hb dX2_best_80 (by decide) ?_
              refine lv_goto (tgt := 85) hx hb dX2_best_81 (by decide) ?_
              exact hB85 v3_17 v4_17 v5_17 v6_17 r_7 r_8 true ls (lv_sub hl [2, 3, 4, 5, 6, 7, 8, 1, 0] rfl) hf
            · have hf := iq c_10 hf
              refine lv_iload hx hb dX2_best_66 (lv_at hl 1 rfl) ?_
              refine lv_iload hx hb dX2_best_68 (lv_at hl 6 rfl) ?_
              refine lv_icmp_ne (tgt := 84) hx hb dX2_best_70 (by decide) (fun c_11 => ?_) (fun c_11 => ?_)
              · have hf := iq c_11 hf
                refine lv_iconst (v := (0 : Int32)) hx hb dX2_best_84 (by decide) ?_
                exact hB85 v3_17 v4_17 v5_17 v6_17 r_7 r_8 false ls (lv_sub hl [2, 3, 4, 5, 6, 7, 8, 1, 0] rfl) hf
              · have hf := ip c_11 hf
                refine lv_iload hx hb dX2_best_73 (lv_at hl 0 rfl) ?_
                refine lv_iload hx hb dX2_best_75 (lv_at hl 7 rfl) ?_
                refine lv_icmp_le (tgt := 84) hx hb dX2_best_77 (by decide) (fun c_12 => ?_) (fun c_12 => ?_)
                · have hf := ip c_12 hf
                  refine lv_iconst (v := (0 : Int32)) hx hb dX2_best_84 (by decide) ?_
                  exact hB85 v3_17 v4_17 v5_17 v6_17 r_7 r_8 false ls (lv_sub hl [2, 3, 4, 5, 6, 7, 8, 1, 0] rfl) hf
                · have hf := iq c_12 hf
                  refine lv_iconst (v := (1 : Int32)) hx hb dX2_best_80 (by decide) ?_
                  refine lv_goto (tgt := 85) hx hb dX2_best_81 (by decide) ?_
                  exact hB85 v3_17 v4_17 v5_17 v6_17 r_7 r_8 true ls (lv_sub hl [2, 3, 4, 5, 6, 7, 8, 1, 0] rfl) hf
        · have hf := iq c_6 hf
          refine lv_goto (tgt := 112) hx hb dX2_best_33 (by decide) ?_
          refine lv_iinc (v := (v6_17 + 1)) (lv' := [(6, .int (v6_17 + 1)), (0, .ref h), (1, .int p1), (2, .int v2_17), (3, .int v3_17), (4, .int v4_17), (5, .int v5_17)]) hx hb dX2_best_112 hl (k := 6) rfl rfl (by decide) rfl (fun ls hl => ?_)
          refine lv_goto (tgt := 17) hx hb dX2_best_115 (by decide) ?_
          exact ih17 v3_17 v4_17 v5_17 (v6_17 + 1) ls (lv_sub hl [1, 2, 3, 4, 5, 6, 0] rfl) hf
  unfold fX2_best at hf
  refine lv_aload_n hx hb dX2_best_0 rfl (lv_at hl 0 rfl) ?_
  refine lv_iload_n hx hb dX2_best_1 rfl (lv_at hl 1 rfl) ?_
  obtain ⟨r_13, e_13, hf⟩ := bo hf
  refine pcallV (W0 := (wS g h a1 a2 a3 a4 σ)) (As := [.int p1]) (rest := []) [0, 1, 2, 3, 4] 3 0 ⟨hx, hb, hml, hown, hts⟩ hP hE hZ hS (cX4_stepCount_ok l g h a1 a2 a3 a4 σ p1 e_13) (cwV 1 hts gX2_best_X4_stepCount rfl rfl rfl hdX4_stepCount ⟨(Nat.le_of_ble_eq_true rfl), (Nat.le_of_ble_eq_true rfl)⟩) rfl rfl rfl rfl rfl hl.1 rfl (Nat.le_of_ble_eq_true rfl) ⟨(Nat.le_of_ble_eq_true rfl), (Nat.le_of_ble_eq_true rfl)⟩ dX2_best_2 ?_
  refine lv_istore_n (lv' := [(2, .int r_13), (0, .ref h), (1, .int p1)]) hx hb dX2_best_5 rfl hl (by decide) rfl (fun ls hl => ?_)
  refine lv_iconst (v := (-1 : Int32)) hx hb dX2_best_6 (by decide) ?_
  refine lv_istore_n (lv' := [(3, .int (-1 : Int32)), (2, .int r_13), (0, .ref h), (1, .int p1)]) hx hb dX2_best_7 rfl hl (by decide) rfl (fun ls hl => ?_)
  refine lv_iconst (v := (0 : Int32)) hx hb dX2_best_8 (by decide) ?_
  refine lv_istore (lv' := [(4, .int (0 : Int32)), (3, .int (-1 : Int32)), (2, .int r_13), (0, .ref h), (1, .int p1)]) hx hb dX2_best_9 hl (by decide) rfl (fun ls hl => ?_)
  refine lv_iconst (v := (0 : Int32)) hx hb dX2_best_11 (by decide) ?_
  refine lv_istore (lv' := [(5, .int (0 : Int32)), (4, .int (0 : Int32)), (3, .int (-1 : Int32)), (2, .int r_13), (0, .ref h), (1, .int p1)]) hx hb dX2_best_12 hl (by decide) rfl (fun ls hl => ?_)
  refine lv_iconst (v := (0 : Int32)) hx hb dX2_best_14 (by decide) ?_
  refine lv_istore (lv' := [(6, .int (0 : Int32)), (5, .int (0 : Int32)), (4, .int (0 : Int32)), (3, .int (-1 : Int32)), (2, .int r_13), (0, .ref h), (1, .int p1)]) hx hb dX2_best_15 hl (by decide) rfl (fun ls hl => ?_)
  exact hB17 r_13 FU (-1 : Int32) (0 : Int32) (0 : Int32) (0 : Int32) ls (lv_sub hl [5, 6, 4, 3, 2, 1, 0] rfl) hf

def fX2_setAll_26 (v1_26 : Int32) : Nat → Int32 → Sh → Option (Sh)
  | 0, _, _ => none
  | n + 1, v2_26, σ_26 => (if v1_26 ≤ v2_26 then (some σ_26) else ((fX4_lineOfRank σ_26 v2_26).bind fun r_2 => ((fX2_best σ_26 r_2).bind fun r_3 => ((fX4_putLabel σ_26 r_2 r_3).bind fun r_4 => fX2_setAll_26 v1_26 n (v2_26 + 1) r_4))))
def fX2_setAll_7 (v1_7 : Int32) : Nat → Int32 → Sh → Option (Sh)
  | 0, _, _ => none
  | n + 1, v2_7, σ_7 => (if v1_7 ≤ v2_7 then fX2_setAll_26 v1_7 FU (0 : Int32) σ_7 else ((fX4_putLabel σ_7 v2_7 (-1 : Int32)).bind fun r_6 => fX2_setAll_7 v1_7 n (v2_7 + 1) r_6))
def fX2_setAll (σ : Sh) : Option (Sh) := ((fX4_lineCount σ).bind fun r_7 => fX2_setAll_7 r_7 FU (0 : Int32) σ)
abbrev rmX2_setAll : Room := { frames := 5, cells := 0, slots := 0, locals := 127 }
theorem hdX2_setAll : yX2_setAll.cls = RX2 ∧ yX2_setAll.cls ≠ "java/lang/invoke/MethodHandle" ∧ yX2_setAll.cls ≠ "java/lang/invoke/VarHandle" ∧ (parseMethodDescriptor yX2_setAll.desc).map (fun d => d.parameters.length) = some 1 := by decide +kernel
set_option maxHeartbeats 4000000 in
set_option maxRecDepth 100000 in
theorem cX2_setAll_ok (l : Launch) (g : Gg) (h a1 a2 a3 a4 : Nat) (σ : Sh) (sz : Nat) {o : Sh} (hf : fX2_setAll σ = some o) : Met l yX2_setAll wsX2_setAll rmX2_setAll (va_Pc [.ref h] (PM g (wS g h a1 a2 a3 a4 σ) sz)) (va_Qv (fun _ : Unit => True) (fun _ t => PQ g (wS g h a1 a2 a3 a4 o) (va_A (wS g h a1 a2 a3 a4 σ) sz) t) (va_A (wS g h a1 a2 a3 a4 σ) sz)) 0 0 (va_A (wS g h a1 a2 a3 a4 σ) sz) := by
  refine Met.ofW (cc := cX2_setAll) (maxL := 4) (ret := none) (by decide) rfl ?_
  intro p e s m args below meth c s₁ B hml hv
  obtain ⟨rfl, rfl, hP, hD0, hE, hZ⟩ := hv
  have hx := B.exec
  have hb := B.bytes
  have hr := B.returns
  have hts := atoms_spec (ws := wsX2_setAll) B.pre
  have hown : s.vm.findClass RX2 = some m.cls := findClass_of_methodNamed B.named
  have hlocks := B.notSynchronized
  have hD := hD0.self (sz := s.heap.size)
  generalize hAe : (va_A (wS g h a1 a2 a3 a4 σ) s.heap.size) = A at hD hZ ⊢
  have hA : ∀ q : Nat, s.heap.size ≤ q → A q := fun q h => by rw [← hAe]; exact Or.inr h
  have hS : va_S A s.heap s.heap [] := va_S.rf
  have hP : va_P g.1 vwCl (wS g h a1 a2 a3 a4 σ) s.heap := hP
  have hl := lv_entry ([.ref h]) (n := 4) (Nat.le_of_ble_eq_true rfl)
  rw [lg_entry_eq]
  generalize (lg_sl ([.ref h]) ++ List.replicate (4 - (lg_sl ([.ref h])).length) Slot.unset).toArray = ls at hl ⊢
  have hl : lv_has ls 4 [(0, .ref h)] := hl
  have hB26 : ∀ (v1_26 : Int32) (n26 : Nat) (v2_26 : Int32) (σ_26 : Sh) (H : Heap) (locs : List Loc) (ls : Array Slot), va_P g.1 vwCl (wS g h a1 a2 a3 a4 σ_26) H → va_D A (wS g h a1 a2 a3 a4 σ_26) → va_S A s.heap H locs → lv_has ls 4 [(0, .ref h), (1, .int v1_26), (2, .int v2_26)] → fX2_setAll_26 v1_26 n26 v2_26 σ_26 = some o → W p l e (headSpec wsX2_setAll rmX2_setAll).room s m ([.ref h] : List Value).toArray below meth c H locs 0 0 (MQ below (va_Qv (fun _ : Unit => True) (fun _ t => PQ g (wS g h a1 a2 a3 a4 o) A t) A) ([.ref h] : List Value).toArray s 0 0 A) (F0 m 26 ls []) := by
    intro v1_26 n26
    induction n26 with
    | zero => intro v2_26 σ_26 H locs ls hP hD hS hl hf; exact nomatch (show (none : Option (Sh)) = some _ from hf)
    | succ n26 ih26 =>
      intro v2_26 σ_26 H locs ls hP hD hS hl hf
      rw [fX2_setAll_26] at hf
      refine lv_iload_n hx hb dX2_setAll_26 rfl (lv_at hl 2 rfl) ?_
      refine lv_iload_n hx hb dX2_setAll_27 rfl (lv_at hl 1 rfl) ?_
      refine lv_icmp_ge (tgt := 53) hx hb dX2_setAll_28 (by decide) (fun c_1 => ?_) (fun c_1 => ?_)
      · have hf := ip c_1 hf
        have ho := Option.some.inj hf
        subst ho
        exact m_vret hx hb hr hlocks hP hD hS dX2_setAll_53
      · have hf := iq c_1 hf
        refine lv_aload_n hx hb dX2_setAll_31 rfl (lv_at hl 0 rfl) ?_
        refine lv_iload_n hx hb dX2_setAll_32 rfl (lv_at hl 2 rfl) ?_
        obtain ⟨r_2, e_2, hf⟩ := bo hf
        refine pcallV (W0 := (wS g h a1 a2 a3 a4 σ_26)) (As := [.int v2_26]) (rest := []) [0, 1, 2, 3, 4] 3 0 ⟨hx, hb, hml, hown, hts⟩ hP hE hZ hS (cX4_lineOfRank_ok l g h a1 a2 a3 a4 σ_26 v2_26 e_2) (cwV 1 hts gX2_setAll_X4_lineOfRank rfl rfl rfl hdX4_lineOfRank ⟨(Nat.le_of_ble_eq_true rfl), (Nat.le_of_ble_eq_true rfl)⟩) rfl rfl rfl rfl rfl hl.1 rfl (Nat.le_of_ble_eq_true rfl) ⟨(Nat.le_of_ble_eq_true rfl), (Nat.le_of_ble_eq_true rfl)⟩ dX2_setAll_33 ?_
        refine lv_istore_n (lv' := [(3, .int r_2), (0, .ref h), (1, .int v1_26), (2, .int v2_26)]) hx hb dX2_setAll_36 rfl hl (by decide) rfl (fun ls hl => ?_)
        refine lv_aload_n hx hb dX2_setAll_37 rfl (lv_at hl 1 rfl) ?_
        refine lv_iload_n hx hb dX2_setAll_38 rfl (lv_at hl 0 rfl) ?_
        refine lv_aload_n hx hb dX2_setAll_39 rfl (lv_at hl 1 rfl) ?_
        refine lv_iload_n hx hb dX2_setAll_40 rfl (lv_at hl 0 rfl) ?_
        obtain ⟨r_3, e_3, hf⟩ := bo hf
        refine pcallS (W0 := (wS g h a1 a2 a3 a4 σ_26)) (As := [.ref h, .int r_2]) (rest := [.int r_2, .ref h]) [0, 1, 2, 3, 4] ⟨hx, hb, hml, hown, hts⟩ hP hE hZ hS (cX2_best_ok l g h a1 a2 a3 a4 σ_26 r_2 e_3) (va_cwS 2 hts gX2_setAll_X2_best rfl rfl rfl hdX2_best.2 ⟨(Nat.le_of_ble_eq_true rfl), (Nat.le_of_ble_eq_true rfl)⟩) rfl rfl hl.1 rfl (Nat.le_of_ble_eq_true rfl) ⟨(Nat.le_of_ble_eq_true rfl), (Nat.le_of_ble_eq_true rfl)⟩ dX2_setAll_41 ?_
        obtain ⟨r_4, e_4, hf⟩ := bo hf
        refine mcallVv (W0 := (wS g h a1 a2 a3 a4 σ_26)) (Wc := (wS g h a1 a2 a3 a4 σ_26)) (Wr := ([] : va_W)) (W1 := (wS g h a1 a2 a3 a4 r_4)) (W2 := (wS g h a1 a2 a3 a4 r_4)) (As := [.int r_2, .int r_3]) (rest := []) [0, 1, 2, 3, 4] [] [0, 1, 2, 3, 4] 3 0 ⟨hx, hb, hml, hown, hts⟩ hP hD hE hZ hS hA (cX4_putLabel_ok l g h a1 a2 a3 a4 σ_26 r_2 r_3 _ e_4) (cwV 2 hts gX2_setAll_X4_putLabel rfl rfl rfl hdX4_putLabel ⟨(Nat.le_of_ble_eq_true rfl), (Nat.le_of_ble_eq_true rfl)⟩) rfl rfl rfl (by decide) (by decide) (by decide) (by decide) rfl rfl rfl rfl hl.1 rfl (Nat.le_of_ble_eq_true rfl) ⟨(Nat.le_of_ble_eq_true rfl), (Nat.le_of_ble_eq_true rfl)⟩ dX2_setAll_44 (fun H locs hP hD hS => ?_)
        refine lv_iinc (v := (v2_26 + 1)) (lv' := [(2, .int (v2_26 + 1)), (3, .int r_2), (0, .ref h), (1, .int v1_26)]) hx hb dX2_setAll_47 hl (k := 3) rfl rfl (by decide) rfl (fun ls hl => ?_)
        refine lv_goto (tgt := 26) hx hb dX2_setAll_50 (by decide) ?_
        exact ih26 (v2_26 + 1) r_4 _ _ ls hP hD hS (lv_sub hl [2, 3, 0] rfl) hf
  have hB7 : ∀ (v1_7 : Int32) (n7 : Nat) (v2_7 : Int32) (σ_7 : Sh) (H : Heap) (locs : List Loc) (ls : Array Slot), va_P g.1 vwCl (wS g h a1 a2 a3 a4 σ_7) H → va_D A (wS g h a1 a2 a3 a4 σ_7) → va_S A s.heap H locs → lv_has ls 4 [(0, .ref h), (1, .int v1_7), (2, .int v2_7)] → fX2_setAll_7 v1_7 n7 v2_7 σ_7 = some o → W p l e (headSpec wsX2_setAll rmX2_setAll).room s m ([.ref h] : List Value).toArray below meth c H locs 0 0 (MQ below (va_Qv (fun _ : Unit => True) (fun _ t => PQ g (wS g h a1 a2 a3 a4 o) A t) A) ([.ref h] : List Value).toArray s 0 0 A) (F0 m 7 ls []) := by
    intro v1_7 n7
    induction n7 with
    | zero => intro v2_7 σ_7 H locs ls hP hD hS hl hf; exact nomatch (show (none : Option (Sh)) = some _ from hf)
    | succ n7 ih7 =>
      intro v2_7 σ_7 H locs ls hP hD hS hl hf
      rw [fX2_setAll_7] at hf
      refine lv_iload_n hx hb dX2_setAll_7 rfl (lv_at hl 2 rfl) ?_
      refine lv_iload_n hx hb dX2_setAll_8 rfl (lv_at hl 1 rfl) ?_
      refine lv_icmp_ge (tgt := 24) hx hb dX2_setAll_9 (by decide) (fun c_5 => ?_) (fun c_5 => ?_)
      · have hf := ip c_5 hf
        refine lv_iconst (v := (0 : Int32)) hx hb dX2_setAll_24 (by decide) ?_
        refine lv_istore_n (lv' := [(2, .int (0 : Int32)), (0, .ref h), (1, .int v1_7)]) hx hb dX2_setAll_25 rfl hl (by decide) rfl (fun ls hl => ?_)
        exact hB26 v1_7 FU (0 : Int32) σ_7 _ _ ls hP hD hS (lv_sub hl [1, 2, 0] rfl) hf
      · have hf := iq c_5 hf
        refine lv_aload_n hx hb dX2_setAll_12 rfl (lv_at hl 0 rfl) ?_
        refine lv_iload_n hx hb dX2_setAll_13 rfl (lv_at hl 2 rfl) ?_
        refine lv_iconst (v := (-1 : Int32)) hx hb dX2_setAll_14 (by decide) ?_
        obtain ⟨r_6, e_6, hf⟩ := bo hf
        refine mcallVv (W0 := (wS g h a1 a2 a3 a4 σ_7)) (Wc := (wS g h a1 a2 a3 a4 σ_7)) (Wr := ([] : va_W)) (W1 := (wS g h a1 a2 a3 a4 r_6)) (W2 := (wS g h a1 a2 a3 a4 r_6)) (As := [.int v2_7, .int (-1 : Int32)]) (rest := []) [0, 1, 2, 3, 4] [] [0, 1, 2, 3, 4] 3 0 ⟨hx, hb, hml, hown, hts⟩ hP hD hE hZ hS hA (cX4_putLabel_ok l g h a1 a2 a3 a4 σ_7 v2_7 (-1 : Int32) _ e_6) (cwV 2 hts gX2_setAll_X4_putLabel rfl rfl rfl hdX4_putLabel ⟨(Nat.le_of_ble_eq_true rfl), (Nat.le_of_ble_eq_true rfl)⟩) rfl rfl rfl (by decide) (by decide) (by decide) (by decide) rfl rfl rfl rfl hl.1 rfl (Nat.le_of_ble_eq_true rfl) ⟨(Nat.le_of_ble_eq_true rfl), (Nat.le_of_ble_eq_true rfl)⟩ dX2_setAll_15 (fun H locs hP hD hS => ?_)
        refine lv_iinc (v := (v2_7 + 1)) (lv' := [(2, .int (v2_7 + 1)), (0, .ref h), (1, .int v1_7)]) hx hb dX2_setAll_18 hl (k := 2) rfl rfl (by decide) rfl (fun ls hl => ?_)
        refine lv_goto (tgt := 7) hx hb dX2_setAll_21 (by decide) ?_
        exact ih7 (v2_7 + 1) r_6 _ _ ls hP hD hS (lv_sub hl [1, 2, 0] rfl) hf
  unfold fX2_setAll at hf
  refine lv_aload_n hx hb dX2_setAll_0 rfl (lv_at hl 0 rfl) ?_
  obtain ⟨r_7, e_7, hf⟩ := bo hf
  refine pcallV (W0 := (wS g h a1 a2 a3 a4 σ)) (As := []) (rest := []) [0, 1, 2, 3, 4] 3 0 ⟨hx, hb, hml, hown, hts⟩ hP hE hZ hS (cX4_lineCount_ok l g h a1 a2 a3 a4 σ e_7) (cwV 0 hts gX2_setAll_X4_lineCount rfl rfl rfl hdX4_lineCount ⟨(Nat.le_of_ble_eq_true rfl), (Nat.le_of_ble_eq_true rfl)⟩) rfl rfl rfl rfl rfl hl.1 rfl (Nat.le_of_ble_eq_true rfl) ⟨(Nat.le_of_ble_eq_true rfl), (Nat.le_of_ble_eq_true rfl)⟩ dX2_setAll_1 ?_
  refine lv_istore_n (lv' := [(1, .int r_7), (0, .ref h)]) hx hb dX2_setAll_4 rfl hl (by decide) rfl (fun ls hl => ?_)
  refine lv_iconst (v := (0 : Int32)) hx hb dX2_setAll_5 (by decide) ?_
  refine lv_istore_n (lv' := [(2, .int (0 : Int32)), (1, .int r_7), (0, .ref h)]) hx hb dX2_setAll_6 rfl hl (by decide) rfl (fun ls hl => ?_)
  exact hB7 r_7 FU (0 : Int32) σ _ _ ls hP hD hS (lv_sub hl [2, 1, 0] rfl) hf

def fX2_areTooNear (σ : Sh) (p1 p2 : Int32) : Option (Bool) := ((fX4_labelIn σ p1).bind fun r_1 => (if r_1 = (-1 : Int32) then (some false) else ((fX4_labelIn σ p2).bind fun r_3 => (if r_3 = (-1 : Int32) then (some false) else ((fX2_distanceToLabel σ p1 r_1 p2).bind fun r_5 => ((fX4_gapWidth σ).bind fun r_6 => (if r_6 ≤ r_5 then (some false) else (some true))))))))
abbrev rmX2_areTooNear : Room := { frames := 3, cells := 0, slots := 0, locals := 74 }
theorem hdX2_areTooNear : yX2_areTooNear.cls = RX2 ∧ yX2_areTooNear.cls ≠ "java/lang/invoke/MethodHandle" ∧ yX2_areTooNear.cls ≠ "java/lang/invoke/VarHandle" ∧ (parseMethodDescriptor yX2_areTooNear.desc).map (fun d => d.parameters.length) = some 3 := by decide +kernel
set_option maxHeartbeats 4000000 in
set_option maxRecDepth 100000 in
theorem cX2_areTooNear_ok (l : Launch) (g : Gg) (h a1 a2 a3 a4 : Nat) (σ : Sh) (p1 p2 : Int32) {r : Bool} (hf : fX2_areTooNear σ p1 p2 = some r) : Met l yX2_areTooNear wsX2_areTooNear rmX2_areTooNear (va_Pc [.ref h, .int p1, .int p2] (PP g (wS g h a1 a2 a3 a4 σ))) (vp_Si (fun r' => r' = b2i r)) 0 0 (fun _ => False) := by
  refine Met.ofW (cc := cX2_areTooNear) (maxL := 4) (ret := (some .boolean)) (by decide) rfl ?_
  intro p e s m args below meth c s₁ B hml hv
  obtain ⟨rfl, hP, hE, hZ⟩ := hv
  have hx := B.exec
  have hb := B.bytes
  have hr := B.returns
  have hts := atoms_spec (ws := wsX2_areTooNear) B.pre
  have hown : s.vm.findClass RX2 = some m.cls := findClass_of_methodNamed B.named
  have hlocks := B.notSynchronized
  have hS : va_S (fun _ => False) s.heap s.heap [] := va_S.rf
  have hl := lv_entry ([.ref h, .int p1, .int p2]) (n := 4) (Nat.le_of_ble_eq_true rfl)
  rw [lg_entry_eq]
  generalize (lg_sl ([.ref h, .int p1, .int p2]) ++ List.replicate (4 - (lg_sl ([.ref h, .int p1, .int p2])).length) Slot.unset).toArray = ls at hl ⊢
  have hl : lv_has ls 4 [(0, .ref h), (1, .int p1), (2, .int p2)] := hl
  unfold fX2_areTooNear at hf
  refine lv_aload_n hx hb dX2_areTooNear_0 rfl (lv_at hl 0 rfl) ?_
  refine lv_iload_n hx hb dX2_areTooNear_1 rfl (lv_at hl 1 rfl) ?_
  obtain ⟨r_1, e_1, hf⟩ := bo hf
  refine pcallV (W0 := (wS g h a1 a2 a3 a4 σ)) (As := [.int p1]) (rest := []) [0, 1, 2, 3, 4] 3 0 ⟨hx, hb, hml, hown, hts⟩ hP hE hZ hS (cX4_labelIn_ok l g h a1 a2 a3 a4 σ p1 e_1) (cwV 1 hts gX2_areTooNear_X4_labelIn rfl rfl rfl hdX4_labelIn ⟨(Nat.le_of_ble_eq_true rfl), (Nat.le_of_ble_eq_true rfl)⟩) rfl rfl rfl rfl rfl hl.1 rfl (Nat.le_of_ble_eq_true rfl) ⟨(Nat.le_of_ble_eq_true rfl), (Nat.le_of_ble_eq_true rfl)⟩ dX2_areTooNear_2 ?_
  refine lv_istore_n (lv' := [(3, .int r_1), (0, .ref h), (1, .int p1), (2, .int p2)]) hx hb dX2_areTooNear_5 rfl hl (by decide) rfl (fun ls hl => ?_)
  refine lv_iload_n hx hb dX2_areTooNear_6 rfl (lv_at hl 0 rfl) ?_
  refine lv_iconst (v := (-1 : Int32)) hx hb dX2_areTooNear_7 (by decide) ?_
  refine lv_icmp_eq (tgt := 20) hx hb dX2_areTooNear_8 (by decide) (fun c_2 => ?_) (fun c_2 => ?_)
  · have hf := ip c_2 hf
    refine lv_iconst (v := (0 : Int32)) hx hb dX2_areTooNear_20 (by decide) ?_
    exact p_zret (v := false) hx hb hr hlocks (Option.some.inj hf) dX2_areTooNear_21
  · have hf := iq c_2 hf
    refine lv_aload_n hx hb dX2_areTooNear_11 rfl (lv_at hl 1 rfl) ?_
    refine lv_iload_n hx hb dX2_areTooNear_12 rfl (lv_at hl 3 rfl) ?_
    obtain ⟨r_3, e_3, hf⟩ := bo hf
    refine pcallV (W0 := (wS g h a1 a2 a3 a4 σ)) (As := [.int p2]) (rest := []) [0, 1, 2, 3, 4] 3 0 ⟨hx, hb, hml, hown, hts⟩ hP hE hZ hS (cX4_labelIn_ok l g h a1 a2 a3 a4 σ p2 e_3) (cwV 1 hts gX2_areTooNear_X4_labelIn rfl rfl rfl hdX4_labelIn ⟨(Nat.le_of_ble_eq_true rfl), (Nat.le_of_ble_eq_true rfl)⟩) rfl rfl rfl rfl rfl hl.1 rfl (Nat.le_of_ble_eq_true rfl) ⟨(Nat.le_of_ble_eq_true rfl), (Nat.le_of_ble_eq_true rfl)⟩ dX2_areTooNear_13 ?_
    refine lv_iconst (v := (-1 : Int32)) hx hb dX2_areTooNear_16 (by decide) ?_
    refine lv_icmp_ne (tgt := 22) hx hb dX2_areTooNear_17 (by decide) (fun c_4 => ?_) (fun c_4 => ?_)
    · have hf := iq c_4 hf
      refine lv_aload_n hx hb dX2_areTooNear_22 rfl (lv_at hl 1 rfl) ?_
      refine lv_iload_n hx hb dX2_areTooNear_23 rfl (lv_at hl 2 rfl) ?_
      refine lv_iload_n hx hb dX2_areTooNear_24 rfl (lv_at hl 0 rfl) ?_
      refine lv_iload_n hx hb dX2_areTooNear_25 rfl (lv_at hl 3 rfl) ?_
      obtain ⟨r_5, e_5, hf⟩ := bo hf
      refine pcallS (W0 := (wS g h a1 a2 a3 a4 σ)) (As := [.ref h, .int p1, .int r_1, .int p2]) (rest := []) [0, 1, 2, 3, 4] ⟨hx, hb, hml, hown, hts⟩ hP hE hZ hS (cX2_distanceToLabel_ok l g h a1 a2 a3 a4 σ p1 r_1 p2 e_5) (va_cwS 4 hts gX2_areTooNear_X2_distanceToLabel rfl rfl rfl hdX2_distanceToLabel.2 ⟨(Nat.le_of_ble_eq_true rfl), (Nat.le_of_ble_eq_true rfl)⟩) rfl rfl hl.1 rfl (Nat.le_of_ble_eq_true rfl) ⟨(Nat.le_of_ble_eq_true rfl), (Nat.le_of_ble_eq_true rfl)⟩ dX2_areTooNear_26 ?_
      refine lv_aload_n hx hb dX2_areTooNear_29 rfl (lv_at hl 1 rfl) ?_
      obtain ⟨r_6, e_6, hf⟩ := bo hf
      refine pcallV (W0 := (wS g h a1 a2 a3 a4 σ)) (As := []) (rest := [.int r_5]) [0, 1, 2, 3, 4] 3 0 ⟨hx, hb, hml, hown, hts⟩ hP hE hZ hS (cX4_gapWidth_ok l g h a1 a2 a3 a4 σ e_6) (cwV 0 hts gX2_areTooNear_X4_gapWidth rfl rfl rfl hdX4_gapWidth ⟨(Nat.le_of_ble_eq_true rfl), (Nat.le_of_ble_eq_true rfl)⟩) rfl rfl rfl rfl rfl hl.1 rfl (Nat.le_of_ble_eq_true rfl) ⟨(Nat.le_of_ble_eq_true rfl), (Nat.le_of_ble_eq_true rfl)⟩ dX2_areTooNear_30 ?_
      refine lv_icmp_ge (tgt := 40) hx hb dX2_areTooNear_33 (by decide) (fun c_7 => ?_) (fun c_7 => ?_)
      · have hf := ip c_7 hf
        refine lv_iconst (v := (0 : Int32)) hx hb dX2_areTooNear_40 (by decide) ?_
        exact p_zret (v := false) hx hb hr hlocks (Option.some.inj hf) dX2_areTooNear_41
      · have hf := iq c_7 hf
        refine lv_iconst (v := (1 : Int32)) hx hb dX2_areTooNear_36 (by decide) ?_
        refine lv_goto (tgt := 41) hx hb dX2_areTooNear_37 (by decide) ?_
        exact p_zret (v := true) hx hb hr hlocks (Option.some.inj hf) dX2_areTooNear_41
    · have hf := ip c_4 hf
      refine lv_iconst (v := (0 : Int32)) hx hb dX2_areTooNear_20 (by decide) ?_
      exact p_zret (v := false) hx hb hr hlocks (Option.some.inj hf) dX2_areTooNear_21

def fX2_countPairsTooNear_16 (σ : Sh) (v2_16 : Int32) (k4 : Int32 → Int32 → Option (Int32)) : Nat → Int32 → Int32 → Option (Int32)
  | 0, _, _ => none
  | n + 1, v1_16, v3_16 => ((fX4_lineCount σ).bind fun r_1 => (if r_1 ≤ v3_16 then k4 v1_16 (v2_16 + 1) else ((fX2_areTooNear σ v2_16 v3_16).bind fun r_3 => (if r_3 = true then fX2_countPairsTooNear_16 σ v2_16 k4 n (v1_16 + 1) (v3_16 + 1) else fX2_countPairsTooNear_16 σ v2_16 k4 n v1_16 (v3_16 + 1)))))
def fX2_countPairsTooNear_4 (σ : Sh) : Nat → Int32 → Int32 → Option (Int32)
  | 0, _, _ => none
  | n + 1, v1_4, v2_4 => ((fX4_lineCount σ).bind fun r_5 => (if r_5 ≤ v2_4 then (some v1_4) else fX2_countPairsTooNear_16 σ v2_4 (fX2_countPairsTooNear_4 σ n) FU v1_4 (v2_4 + (1 : Int32))))
def fX2_countPairsTooNear (σ : Sh) : Option (Int32) := fX2_countPairsTooNear_4 σ FU (0 : Int32) (0 : Int32)
abbrev rmX2_countPairsTooNear : Room := { frames := 4, cells := 0, slots := 0, locals := 97 }
theorem hdX2_countPairsTooNear : yX2_countPairsTooNear.cls = RX2 ∧ yX2_countPairsTooNear.cls ≠ "java/lang/invoke/MethodHandle" ∧ yX2_countPairsTooNear.cls ≠ "java/lang/invoke/VarHandle" ∧ (parseMethodDescriptor yX2_countPairsTooNear.desc).map (fun d => d.parameters.length) = some 1 := by decide +kernel
set_option maxHeartbeats 4000000 in
set_option maxRecDepth 100000 in
theorem cX2_countPairsTooNear_ok (l : Launch) (g : Gg) (h a1 a2 a3 a4 : Nat) (σ : Sh) {r : Int32} (hf : fX2_countPairsTooNear σ = some r) : Met l yX2_countPairsTooNear wsX2_countPairsTooNear rmX2_countPairsTooNear (va_Pc [.ref h] (PP g (wS g h a1 a2 a3 a4 σ))) (vp_Si (fun r' => r' = r)) 0 0 (fun _ => False) := by
  refine Met.ofW (cc := cX2_countPairsTooNear) (maxL := 4) (ret := (some .int)) (by decide) rfl ?_
  intro p e s m args below meth c s₁ B hml hv
  obtain ⟨rfl, hP, hE, hZ⟩ := hv
  have hx := B.exec
  have hb := B.bytes
  have hr := B.returns
  have hts := atoms_spec (ws := wsX2_countPairsTooNear) B.pre
  have hown : s.vm.findClass RX2 = some m.cls := findClass_of_methodNamed B.named
  have hlocks := B.notSynchronized
  have hS : va_S (fun _ => False) s.heap s.heap [] := va_S.rf
  have hl := lv_entry ([.ref h]) (n := 4) (Nat.le_of_ble_eq_true rfl)
  rw [lg_entry_eq]
  generalize (lg_sl ([.ref h]) ++ List.replicate (4 - (lg_sl ([.ref h])).length) Slot.unset).toArray = ls at hl ⊢
  have hl : lv_has ls 4 [(0, .ref h)] := hl
  have hB4 : ∀ (n4 : Nat) (v1_4 : Int32) (v2_4 : Int32) (ls : Array Slot), lv_has ls 4 [(0, .ref h), (1, .int v1_4), (2, .int v2_4)] → fX2_countPairsTooNear_4 σ n4 v1_4 v2_4 = some r → W p l e (headSpec wsX2_countPairsTooNear rmX2_countPairsTooNear).room s m ([.ref h] : List Value).toArray below meth c s.heap [] 0 0 (MQ below (vp_Si (fun r' => r' = r)) ([.ref h] : List Value).toArray s 0 0 (fun _ => False)) (F0 m 4 ls []) := by
    intro  n4
    induction n4 with
    | zero => intro v1_4 v2_4 ls hl hf; exact nomatch (show (none : Option (Int32)) = some _ from hf)
    | succ n4 ih4 =>
      have hB16 : ∀ (v2_16 : Int32) (n16 : Nat) (v1_16 : Int32) (v3_16 : Int32) (ls : Array Slot), lv_has ls 4 [(0, .ref h), (1, .int v1_16), (2, .int v2_16), (3, .int v3_16)] → fX2_countPairsTooNear_16 σ v2_16 (fX2_countPairsTooNear_4 σ n4) n16 v1_16 v3_16 = some r → W p l e (headSpec wsX2_countPairsTooNear rmX2_countPairsTooNear).room s m ([.ref h] : List Value).toArray below meth c s.heap [] 0 0 (MQ below (vp_Si (fun r' => r' = r)) ([.ref h] : List Value).toArray s 0 0 (fun _ => False)) (F0 m 16 ls []) := by
        intro v2_16 n16
        induction n16 with
        | zero => intro v1_16 v3_16 ls hl hf; exact nomatch (show (none : Option (Int32)) = some _ from hf)
        | succ n16 ih16 =>
          intro v1_16 v3_16 ls hl hf
          rw [fX2_countPairsTooNear_16] at hf
          refine lv_iload_n hx hb dX2_countPairsTooNear_16 rfl (lv_at hl 3 rfl) ?_
          refine lv_aload_n hx hb dX2_countPairsTooNear_17 rfl (lv_at hl 0 rfl) ?_
          obtain ⟨r_1, e_1, hf⟩ := bo hf
          refine pcallV (W0 := (wS g h a1 a2 a3 a4 σ)) (As := []) (rest := [.int v3_16]) [0, 1, 2, 3, 4] 3 0 ⟨hx, hb, hml, hown, hts⟩ hP hE hZ hS (cX4_lineCount_ok l g h a1 a2 a3 a4 σ e_1) (cwV 0 hts gX2_countPairsTooNear_X4_lineCount rfl rfl rfl hdX4_lineCount ⟨(Nat.le_of_ble_eq_true rfl), (Nat.le_of_ble_eq_true rfl)⟩) rfl rfl rfl rfl rfl hl.1 rfl (Nat.le_of_ble_eq_true rfl) ⟨(Nat.le_of_ble_eq_true rfl), (Nat.le_of_ble_eq_true rfl)⟩ dX2_countPairsTooNear_18 ?_
          refine lv_icmp_ge (tgt := 42) hx hb dX2_countPairsTooNear_21 (by decide) (fun c_2 => ?_) (fun c_2 => ?_)
          · have hf := ip c_2 hf
            refine lv_iinc (v := (v2_16 + 1)) (lv' := [(2, .int (v2_16 + 1)), (0, .ref h), (1, .int v1_16), (3, .int v3_16)]) hx hb dX2_countPairsTooNear_42 hl (k := 2) rfl rfl (by decide) rfl (fun ls hl => ?_)
            refine lv_goto (tgt := 4) hx hb dX2_countPairsTooNear_45 (by decide) ?_
            exact ih4 v1_16 (v2_16 + 1) ls (lv_sub hl [1, 2, 0] rfl) hf
          · have hf := iq c_2 hf
            refine lv_aload_n hx hb dX2_countPairsTooNear_24 rfl (lv_at hl 0 rfl) ?_
            refine lv_iload_n hx hb dX2_countPairsTooNear_25 rfl (lv_at hl 2 rfl) ?_
            refine lv_iload_n hx hb dX2_countPairsTooNear_26 rfl (lv_at hl 3 rfl) ?_
            obtain ⟨r_3, e_3, hf⟩ := bo hf
            refine pcallS (W0 := (wS g h a1 a2 a3 a4 σ)) (As := [.ref h, .int v2_16, .int v3_16]) (rest := []) [0, 1, 2, 3, 4] ⟨hx, hb, hml, hown, hts⟩ hP hE hZ hS (cX2_areTooNear_ok l g h a1 a2 a3 a4 σ v2_16 v3_16 e_3) (va_cwS 3 hts gX2_countPairsTooNear_X2_areTooNear rfl rfl rfl hdX2_areTooNear.2 ⟨(Nat.le_of_ble_eq_true rfl), (Nat.le_of_ble_eq_true rfl)⟩) rfl rfl hl.1 rfl (Nat.le_of_ble_eq_true rfl) ⟨(Nat.le_of_ble_eq_true rfl), (Nat.le_of_ble_eq_true rfl)⟩ dX2_countPairsTooNear_27 ?_
            refine lv_beq (tgt := 36) hx hb dX2_countPairsTooNear_30 (by decide) (fun c_4 => ?_) (fun c_4 => ?_)
            · have hf := iq c_4 hf
              refine lv_iinc (v := (v3_16 + 1)) (lv' := [(3, .int (v3_16 + 1)), (0, .ref h), (1, .int v1_16), (2, .int v2_16)]) hx hb dX2_countPairsTooNear_36 hl (k := 3) rfl rfl (by decide) rfl (fun ls hl => ?_)
              refine lv_goto (tgt := 16) hx hb dX2_countPairsTooNear_39 (by decide) ?_
              exact ih16 v1_16 (v3_16 + 1) ls (lv_sub hl [1, 2, 3, 0] rfl) hf
            · have hf := ip c_4 hf
              refine lv_iinc (v := (v1_16 + 1)) (lv' := [(1, .int (v1_16 + 1)), (0, .ref h), (2, .int v2_16), (3, .int v3_16)]) hx hb dX2_countPairsTooNear_33 hl (k := 1) rfl rfl (by decide) rfl (fun ls hl => ?_)
              refine lv_iinc (v := (v3_16 + 1)) (lv' := [(3, .int (v3_16 + 1)), (1, .int (v1_16 + 1)), (0, .ref h), (2, .int v2_16)]) hx hb dX2_countPairsTooNear_36 hl (k := 3) rfl rfl (by decide) rfl (fun ls hl => ?_)
              refine lv_goto (tgt := 16) hx hb dX2_countPairsTooNear_39 (by decide) ?_
              exact ih16 (v1_16 + 1) (v3_16 + 1) ls (lv_sub hl [2, 1, 3, 0] rfl) hf
      intro v1_4 v2_4 ls hl hf
      rw [fX2_countPairsTooNear_4] at hf
      refine lv_iload_n hx hb dX2_countPairsTooNear_4 rfl (lv_at hl 2 rfl) ?_
      refine lv_aload_n hx hb dX2_countPairsTooNear_5 rfl (lv_at hl 0 rfl) ?_
      obtain ⟨r_5, e_5, hf⟩ := bo hf
      refine pcallV (W0 := (wS g h a1 a2 a3 a4 σ)) (As := []) (rest := [.int v2_4]) [0, 1, 2, 3, 4] 3 0 ⟨hx, hb, hml, hown, hts⟩ hP hE hZ hS (cX4_lineCount_ok l g h a1 a2 a3 a4 σ e_5) (cwV 0 hts gX2_countPairsTooNear_X4_lineCount rfl rfl rfl hdX4_lineCount ⟨(Nat.le_of_ble_eq_true rfl), (Nat.le_of_ble_eq_true rfl)⟩) rfl rfl rfl rfl rfl hl.1 rfl (Nat.le_of_ble_eq_true rfl) ⟨(Nat.le_of_ble_eq_true rfl), (Nat.le_of_ble_eq_true rfl)⟩ dX2_countPairsTooNear_6 ?_
      refine lv_icmp_ge (tgt := 48) hx hb dX2_countPairsTooNear_9 (by decide) (fun c_6 => ?_) (fun c_6 => ?_)
      · have hf := ip c_6 hf
        refine lv_iload_n hx hb dX2_countPairsTooNear_48 rfl (lv_at hl 1 rfl) ?_
        exact p_iret (v := v1_4) hx hb hr hlocks (Option.some.inj hf) dX2_countPairsTooNear_49
      · have hf := iq c_6 hf
        refine lv_iload_n hx hb dX2_countPairsTooNear_12 rfl (lv_at hl 2 rfl) ?_
        refine lv_iconst (v := (1 : Int32)) hx hb dX2_countPairsTooNear_13 (by decide) ?_
        refine lv_iadd hx hb dX2_countPairsTooNear_14 ?_
        refine lv_istore_n (lv' := [(3, .int (v2_4 + (1 : Int32))), (0, .ref h), (1, .int v1_4), (2, .int v2_4)]) hx hb dX2_countPairsTooNear_15 rfl hl (by decide) rfl (fun ls hl => ?_)
        exact hB16 v2_4 FU v1_4 (v2_4 + (1 : Int32)) ls (lv_sub hl [1, 2, 3, 0] rfl) hf
  unfold fX2_countPairsTooNear at hf
  refine lv_iconst (v := (0 : Int32)) hx hb dX2_countPairsTooNear_0 (by decide) ?_
  refine lv_istore_n (lv' := [(1, .int (0 : Int32)), (0, .ref h)]) hx hb dX2_countPairsTooNear_1 rfl hl (by decide) rfl (fun ls hl => ?_)
  refine lv_iconst (v := (0 : Int32)) hx hb dX2_countPairsTooNear_2 (by decide) ?_
  refine lv_istore_n (lv' := [(2, .int (0 : Int32)), (1, .int (0 : Int32)), (0, .ref h)]) hx hb dX2_countPairsTooNear_3 rfl hl (by decide) rfl (fun ls hl => ?_)
  exact hB4 FU (0 : Int32) (0 : Int32) ls (lv_sub hl [2, 1, 0] rfl) hf
