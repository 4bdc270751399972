def fL_isClosed (σ : Sh) (ω : (Nat → Int64)) (p1 : Int32) : Option (Int32 × (Nat → Int64)) := ((fX6_isClosed σ p1).bind fun r_1 => xcase r_1 (fun e => (if e = "java/lang/IndexOutOfBoundsException" then (some ((1 : Int32), ω)) else none)) (fun v_1 => (if v_1 = true then (some ((0 : Int32), (vp_updL ω (Int32.toNatClampNeg (0 : Int32)) (1 : Int64)))) else (some ((0 : Int32), (vp_updL ω (Int32.toNatClampNeg (0 : Int32)) (0 : Int64)))))))
abbrev rmL_isClosed : Room := { frames := 8, cells := 1, slots := 6, locals := 132 }
theorem hdL_isClosed : yL_isClosed.cls = RL ∧ yL_isClosed.cls ≠ "java/lang/invoke/MethodHandle" ∧ yL_isClosed.cls ≠ "java/lang/invoke/VarHandle" ∧ (parseMethodDescriptor yL_isClosed.desc).map (fun d => d.parameters.length) = some 3 := by decide +kernel
theorem hkL_isClosed_13 : (.classLink RL 13 "java/lang/IndexOutOfBoundsException" : Cond) ∈ wsL_isClosed := by decide +kernel
set_option maxHeartbeats 4000000 in
set_option maxRecDepth 100000 in
theorem cL_isClosed_ok (l : Launch) (hl0 : l.stackTraces = false) (g : Gg) (c0 h k0 x0 d0 a1 a2 a3 a4 o0 : Nat) (σ : Sh) (ω : (Nat → Int64)) (p1 : Int32) (sz : Nat) {o : Int32 × (Nat → Int64)} (hf : fL_isClosed σ ω p1 = some o) : vx_Met l yL_isClosed wsL_isClosed rmL_isClosed (va_Pc [.ref c0, .int p1, .ref o0] (PM g (wC c0 h k0 x0 d0 ++ (wS g h a1 a2 a3 a4 σ ++ (wO g o0 ω))) sz)) (va_Qi (fun r' (_ : Unit) => r' = o.1) (fun _ t => PQ g (wC c0 h k0 x0 d0 ++ (wS g h a1 a2 a3 a4 σ ++ (wO g o0 o.2))) (va_A (wC c0 h k0 x0 d0 ++ (wS g h a1 a2 a3 a4 σ ++ (wO g o0 ω))) sz) t) (va_A (wC c0 h k0 x0 d0 ++ (wS g h a1 a2 a3 a4 σ ++ (wO g o0 ω))) sz)) (vx_X (fun _ : Unit => False) (fun _ _ _ => True) (va_A (wC c0 h k0 x0 d0 ++ (wS g h a1 a2 a3 a4 σ ++ (wO g o0 ω))) sz)) 1 6 (va_A (wC c0 h k0 x0 d0 ++ (wS g h a1 a2 a3 a4 σ ++ (wO g o0 ω))) sz) := by
  refine vx_ofWH (cc := cL_isClosed) (maxL := 4) (ret := (some .int)) (by decide) rfl ?_
  intro p e s m args below meth c s₁ B hml hv
  obtain ⟨rfl, rfl, hP, hD0, hE, hZ⟩ := hv
  have hx := B.exec
  have hb := B.bytes
  have hr := B.returns
  have hts := atoms_spec (ws := wsL_isClosed) B.pre
  have htab := vx_table (x := yL_isClosed) B (hts _ List.mem_cons_self)
  have hown : s.vm.findClass RL = some m.cls := findClass_of_methodNamed B.named
  have hlocks := B.notSynchronized
  have hD := hD0.self (sz := s.heap.size)
  generalize hAe : (va_A (wC c0 h k0 x0 d0 ++ (wS g h a1 a2 a3 a4 σ ++ (wO g o0 ω))) s.heap.size) = A at hD hZ ⊢
  have hA : ∀ q : Nat, s.heap.size ≤ q → A q := fun q h => by rw [← hAe]; exact Or.inr h
  have hS : va_S A s.heap s.heap [] := va_S.rf
  have hP : va_P g.1 vwCl (wC c0 h k0 x0 d0 ++ (wS g h a1 a2 a3 a4 σ ++ (wO g o0 ω))) s.heap := hP
  have hl := lv_entry ([.ref c0, .int p1, .ref o0]) (n := 4) (Nat.le_of_ble_eq_true rfl)
  rw [lg_entry_eq]
  generalize (lg_sl ([.ref c0, .int p1, .ref o0]) ++ List.replicate (4 - (lg_sl ([.ref c0, .int p1, .ref o0])).length) Slot.unset).toArray = ls at hl ⊢
  have hl : lv_has ls 4 [(0, .ref c0), (1, .int p1), (2, .ref o0)] := hl
  unfold fL_isClosed at hf
  refine lv_aload_n hx hb dL_isClosed_0 rfl (lv_at hl 2 rfl) ?_
  refine lv_iconst (v := (0 : Int32)) hx hb dL_isClosed_1 (by decide) ?_
  refine lv_aload_n hx hb dL_isClosed_2 rfl (lv_at hl 0 rfl) ?_
  refine lv_iload_n hx hb dL_isClosed_3 rfl (lv_at hl 1 rfl) ?_
  obtain ⟨r_1, e_1, hf⟩ := bo hf
  refine wcallVb (W0 := (wC c0 h k0 x0 d0 ++ (wS g h a1 a2 a3 a4 σ ++ (wO g o0 ω)))) (Wc := (wC c0 h k0 x0 d0 ++ (wS g h a1 a2 a3 a4 σ))) (Wr := (wO g o0 ω)) (As := [.int p1]) (rest := [.int (0 : Int32), .ref o0]) [0, 1, 2, 3, 4, 5] [6] [1, 2, 3, 4, 5, 6, 0] 4 0 ⟨hx, hb, hml, hown, hts⟩ hP hD hE hZ hS hA (cX6_isClosed_ok l hl0 g c0 h k0 x0 d0 a1 a2 a3 a4 σ p1 _ e_1) (cwV 1 hts gL_isClosed_X6_isClosed rfl rfl rfl hdX6_isClosed ⟨(Nat.le_of_ble_eq_true rfl), (Nat.le_of_ble_eq_true rfl)⟩) rfl rfl rfl (by decide) (by decide) (by decide) (by decide) rfl rfl rfl rfl hl.1 rfl (Nat.le_of_ble_eq_true rfl) ⟨(Nat.le_of_ble_eq_true rfl), (Nat.le_of_ble_eq_true rfl)⟩ dL_isClosed_4 (fun E ce q9 H locs ox_1 hP hD hS hce hcv hcl => ?_) (fun v_1 H locs ok_1 hP hD hS => ?_)
  · have hf := xe ox_1 hf
    by_cases z_2 : E = "java/lang/IndexOutOfBoundsException"
    · have hf := ip z_2 hf
      subst z_2
      refine vx_catch (name := "java/lang/IndexOutOfBoundsException") hown [] ⟨0, 16, 19, 13⟩ [] (htab.trans rfl) (fun z hz => absurd hz List.not_mem_nil) (by decide) (by decide) (hts _ hkL_isClosed_13) (va_Nw.use rfl (hE.2.1 (.castable "java/lang/IndexOutOfBoundsException" "java/lang/IndexOutOfBoundsException") (by decide +kernel))) hce hcv hcl ?_
      refine lv_astore_n (lv' := [(3, .ref q9), (0, .ref c0), (1, .int p1), (2, .ref o0)]) hx hb dL_isClosed_19 rfl hl (by decide) rfl (fun ls hl => ?_)
      refine lv_iconst (v := (1 : Int32)) hx hb dL_isClosed_20 (by decide) ?_
      have ho := Option.some.inj hf
      subst ho
      exact w_iret (v := (1 : Int32)) hx hb hr hlocks hP hD hS ⟨(Nat.le_of_ble_eq_true rfl), (Nat.le_of_ble_eq_true rfl)⟩ rfl dL_isClosed_21
    · have hf := iq z_2 hf
      exact nomatch (show (none : Option (Int32 × (Nat → Int64))) = some _ from hf)
  · have hf := xo ok_1 hf
    refine lv_beq (tgt := 14) hx hb dL_isClosed_7 (by decide) (fun c_3 => ?_) (fun c_3 => ?_)
    · have hf := iq c_3 hf
      refine lv_lconst (v := 0) hx hb dL_isClosed_14 (by decide) ?_
      refine va_last hx hb hE.1 hP hD hS 6 2 rfl rfl (vin (by decide)) dL_isClosed_15 (fun H locs hP hD hS => ?_)
      have hP : va_P g.1 vwCl (wC c0 h k0 x0 d0 ++ (wS g h a1 a2 a3 a4 σ ++ (wO g o0 (vp_updL ω (Int32.toNatClampNeg (0 : Int32)) (0 : Int64))))) H := hP
      have hD : va_D A (wC c0 h k0 x0 d0 ++ (wS g h a1 a2 a3 a4 σ ++ (wO g o0 (vp_updL ω (Int32.toNatClampNeg (0 : Int32)) (0 : Int64))))) := hD
      refine lv_goto (tgt := 22) hx hb dL_isClosed_16 (by decide) ?_
      refine lv_iconst (v := (0 : Int32)) hx hb dL_isClosed_22 (by decide) ?_
      have ho := Option.some.inj hf
      subst ho
      exact w_iret (v := (0 : Int32)) hx hb hr hlocks hP hD hS ⟨(Nat.le_of_ble_eq_true rfl), (Nat.le_of_ble_eq_true rfl)⟩ rfl dL_isClosed_23
    · have hf := ip c_3 hf
      refine lv_lconst (v := 1) hx hb dL_isClosed_10 (by decide) ?_
      refine lv_goto (tgt := 15) hx hb dL_isClosed_11 (by decide) ?_
      refine va_last hx hb hE.1 hP hD hS 6 2 rfl rfl (vin (by decide)) dL_isClosed_15 (fun H locs hP hD hS => ?_)
      have hP : va_P g.1 vwCl (wC c0 h k0 x0 d0 ++ (wS g h a1 a2 a3 a4 σ ++ (wO g o0 (vp_updL ω (Int32.toNatClampNeg (0 : Int32)) (1 : Int64))))) H := hP
      have hD : va_D A (wC c0 h k0 x0 d0 ++ (wS g h a1 a2 a3 a4 σ ++ (wO g o0 (vp_updL ω (Int32.toNatClampNeg (0 : Int32)) (1 : Int64))))) := hD
      refine lv_goto (tgt := 22) hx hb dL_isClosed_16 (by decide) ?_
      refine lv_iconst (v := (0 : Int32)) hx hb dL_isClosed_22 (by decide) ?_
      have ho := Option.some.inj hf
      subst ho
      exact w_iret (v := (0 : Int32)) hx hb hr hlocks hP hD hS ⟨(Nat.le_of_ble_eq_true rfl), (Nat.le_of_ble_eq_true rfl)⟩ rfl dL_isClosed_23

def fL_whyNotStepped (σ : Sh) (ω : (Nat → Int64)) (p1 p2 : Int32) : Option (Int32 × (Nat → Int64)) := ((fX6_whyNotStepped σ p1 p2).bind fun r_1 => xcase r_1 (fun e => (if e = "java/lang/IndexOutOfBoundsException" then (some ((1 : Int32), ω)) else (if e = "java/lang/IllegalArgumentException" then (some ((2 : Int32), ω)) else none))) (fun v_1 => (some ((0 : Int32), (vp_updL ω (Int32.toNatClampNeg (0 : Int32)) (Int32.toInt64 v_1))))))
abbrev rmL_whyNotStepped : Room := { frames := 8, cells := 2, slots := 12, locals := 133 }
theorem hdL_whyNotStepped : yL_whyNotStepped.cls = RL ∧ yL_whyNotStepped.cls ≠ "java/lang/invoke/MethodHandle" ∧ yL_whyNotStepped.cls ≠ "java/lang/invoke/VarHandle" ∧ (parseMethodDescriptor yL_whyNotStepped.desc).map (fun d => d.parameters.length) = some 4 := by decide +kernel
theorem hkL_whyNotStepped_13 : (.classLink RL 13 "java/lang/IndexOutOfBoundsException" : Cond) ∈ wsL_whyNotStepped := by decide +kernel
theorem hkL_whyNotStepped_15 : (.classLink RL 15 "java/lang/IllegalArgumentException" : Cond) ∈ wsL_whyNotStepped := by decide +kernel
set_option maxHeartbeats 4000000 in
set_option maxRecDepth 100000 in
theorem cL_whyNotStepped_ok (l : Launch) (hl0 : l.stackTraces = false) (g : Gg) (c0 h k0 x0 d0 a1 a2 a3 a4 o0 : Nat) (σ : Sh) (ω : (Nat → Int64)) (p1 p2 : Int32) (sz : Nat) {o : Int32 × (Nat → Int64)} (hf : fL_whyNotStepped σ ω p1 p2 = some o) : vx_Met l yL_whyNotStepped wsL_whyNotStepped rmL_whyNotStepped (va_Pc [.ref c0, .int p1, .int p2, .ref o0] (PM g (wC c0 h k0 x0 d0 ++ (wS g h a1 a2 a3 a4 σ ++ (wO g o0 ω))) sz)) (va_Qi (fun r' (_ : Unit) => r' = o.1) (fun _ t => PQ g (wC c0 h k0 x0 d0 ++ (wS g h a1 a2 a3 a4 σ ++ (wO g o0 o.2))) (va_A (wC c0 h k0 x0 d0 ++ (wS g h a1 a2 a3 a4 σ ++ (wO g o0 ω))) sz) t) (va_A (wC c0 h k0 x0 d0 ++ (wS g h a1 a2 a3 a4 σ ++ (wO g o0 ω))) sz)) (vx_X (fun _ : Unit => False) (fun _ _ _ => True) (va_A (wC c0 h k0 x0 d0 ++ (wS g h a1 a2 a3 a4 σ ++ (wO g o0 ω))) sz)) 2 12 (va_A (wC c0 h k0 x0 d0 ++ (wS g h a1 a2 a3 a4 σ ++ (wO g o0 ω))) sz) := by
  refine vx_ofWH (cc := cL_whyNotStepped) (maxL := 5) (ret := (some .int)) (by decide) rfl ?_
  intro p e s m args below meth c s₁ B hml hv
  obtain ⟨rfl, rfl, hP, hD0, hE, hZ⟩ := hv
  have hx := B.exec
  have hb := B.bytes
  have hr := B.returns
  have hts := atoms_spec (ws := wsL_whyNotStepped) B.pre
  have htab := vx_table (x := yL_whyNotStepped) B (hts _ List.mem_cons_self)
  have hown : s.vm.findClass RL = some m.cls := findClass_of_methodNamed B.named
  have hlocks := B.notSynchronized
  have hD := hD0.self (sz := s.heap.size)
  generalize hAe : (va_A (wC c0 h k0 x0 d0 ++ (wS g h a1 a2 a3 a4 σ ++ (wO g o0 ω))) s.heap.size) = A at hD hZ ⊢
  have hA : ∀ q : Nat, s.heap.size ≤ q → A q := fun q h => by rw [← hAe]; exact Or.inr h
  have hS : va_S A s.heap s.heap [] := va_S.rf
  have hP : va_P g.1 vwCl (wC c0 h k0 x0 d0 ++ (wS g h a1 a2 a3 a4 σ ++ (wO g o0 ω))) s.heap := hP
  have hl := lv_entry ([.ref c0, .int p1, .int p2, .ref o0]) (n := 5) (Nat.le_of_ble_eq_true rfl)
  rw [lg_entry_eq]
  generalize (lg_sl ([.ref c0, .int p1, .int p2, .ref o0]) ++ List.replicate (5 - (lg_sl ([.ref c0, .int p1, .int p2, .ref o0])).length) Slot.unset).toArray = ls at hl ⊢
  have hl : lv_has ls 5 [(0, .ref c0), (1, .int p1), (2, .int p2), (3, .ref o0)] := hl
  unfold fL_whyNotStepped at hf
  refine lv_aload_n hx hb dL_whyNotStepped_0 rfl (lv_at hl 3 rfl) ?_
  refine lv_iconst (v := (0 : Int32)) hx hb dL_whyNotStepped_1 (by decide) ?_
  refine lv_aload_n hx hb dL_whyNotStepped_2 rfl (lv_at hl 0 rfl) ?_
  refine lv_iload_n hx hb dL_whyNotStepped_3 rfl (lv_at hl 1 rfl) ?_
  refine lv_iload_n hx hb dL_whyNotStepped_4 rfl (lv_at hl 2 rfl) ?_
  obtain ⟨r_1, e_1, hf⟩ := bo hf
  refine wcallVi (W0 := (wC c0 h k0 x0 d0 ++ (wS g h a1 a2 a3 a4 σ ++ (wO g o0 ω)))) (Wc := (wC c0 h k0 x0 d0 ++ (wS g h a1 a2 a3 a4 σ))) (Wr := (wO g o0 ω)) (As := [.int p1, .int p2]) (rest := [.int (0 : Int32), .ref o0]) [0, 1, 2, 3, 4, 5] [6] [1, 2, 3, 4, 5, 6, 0] 4 0 ⟨hx, hb, hml, hown, hts⟩ hP hD hE hZ hS hA (cX6_whyNotStepped_ok l hl0 g c0 h k0 x0 d0 a1 a2 a3 a4 σ p1 p2 _ e_1) (cwV 2 hts gL_whyNotStepped_X6_whyNotStepped rfl rfl rfl hdX6_whyNotStepped ⟨(Nat.le_of_ble_eq_true rfl), (Nat.le_of_ble_eq_true rfl)⟩) rfl rfl rfl (by decide) (by decide) (by decide) (by decide) rfl rfl rfl rfl hl.1 rfl (Nat.le_of_ble_eq_true rfl) ⟨(Nat.le_of_ble_eq_true rfl), (Nat.le_of_ble_eq_true rfl)⟩ dL_whyNotStepped_5 (fun E ce q9 H locs ox_1 hP hD hS hce hcv hcl => ?_) (fun v_1 H locs ok_1 hP hD hS => ?_)
  · have hf := xe ox_1 hf
    by_cases z_2 : E = "java/lang/IndexOutOfBoundsException"
    · have hf := ip z_2 hf
      subst z_2
      refine vx_catch (name := "java/lang/IndexOutOfBoundsException") hown [] ⟨0, 10, 13, 13⟩ [⟨0, 10, 17, 15⟩] (htab.trans rfl) (fun z hz => absurd hz List.not_mem_nil) (by decide) (by decide) (hts _ hkL_whyNotStepped_13) (va_Nw.use rfl (hE.2.1 (.castable "java/lang/IndexOutOfBoundsException" "java/lang/IndexOutOfBoundsException") (by decide +kernel))) hce hcv hcl ?_
      refine lv_astore (lv' := [(4, .ref q9), (0, .ref c0), (1, .int p1), (2, .int p2), (3, .ref o0)]) hx hb dL_whyNotStepped_13 hl (by decide) rfl (fun ls hl => ?_)
      refine lv_iconst (v := (1 : Int32)) hx hb dL_whyNotStepped_15 (by decide) ?_
      have ho := Option.some.inj hf
      subst ho
      exact w_iret (v := (1 : Int32)) hx hb hr hlocks hP hD hS ⟨(Nat.le_of_ble_eq_true rfl), (Nat.le_of_ble_eq_true rfl)⟩ rfl dL_whyNotStepped_16
    · have hf := iq z_2 hf
      by_cases z_3 : E = "java/lang/IllegalArgumentException"
      · have hf := ip z_3 hf
        subst z_3
        refine vx_catch (name := "java/lang/IllegalArgumentException") hown [⟨0, 10, 13, 13⟩] ⟨0, 10, 17, 15⟩ [] (htab.trans rfl) (fun z hz => by simp only [List.mem_cons, List.not_mem_nil, or_false] at hz; rcases hz with rfl <;> first | exact Or.inr ⟨by decide, _, hts _ hkL_whyNotStepped_13, hE.2.2.2.1 ("java/lang/IllegalArgumentException", "java/lang/IndexOutOfBoundsException") (by decide)⟩) (by decide) (by decide) (hts _ hkL_whyNotStepped_15) (va_Nw.use rfl (hE.2.1 (.castable "java/lang/IllegalArgumentException" "java/lang/IllegalArgumentException") (by decide +kernel))) hce hcv hcl ?_
        refine lv_astore (lv' := [(4, .ref q9), (0, .ref c0), (1, .int p1), (2, .int p2), (3, .ref o0)]) hx hb dL_whyNotStepped_17 hl (by decide) rfl (fun ls hl => ?_)
        refine lv_iconst (v := (2 : Int32)) hx hb dL_whyNotStepped_19 (by decide) ?_
        have ho := Option.some.inj hf
        subst ho
        exact w_iret (v := (2 : Int32)) hx hb hr hlocks hP hD hS ⟨(Nat.le_of_ble_eq_true rfl), (Nat.le_of_ble_eq_true rfl)⟩ rfl dL_whyNotStepped_20
      · have hf := iq z_3 hf
        exact nomatch (show (none : Option (Int32 × (Nat → Int64))) = some _ from hf)
  · have hf := xo ok_1 hf
    refine lv_i2l hx hb dL_whyNotStepped_8 rfl ?_
    refine va_last hx hb hE.1 hP hD hS 6 2 rfl rfl (vin (by decide)) dL_whyNotStepped_9 (fun H locs hP hD hS => ?_)
    have hP : va_P g.1 vwCl (wC c0 h k0 x0 d0 ++ (wS g h a1 a2 a3 a4 σ ++ (wO g o0 (vp_updL ω (Int32.toNatClampNeg (0 : Int32)) (Int32.toInt64 v_1))))) H := hP
    have hD : va_D A (wC c0 h k0 x0 d0 ++ (wS g h a1 a2 a3 a4 σ ++ (wO g o0 (vp_updL ω (Int32.toNatClampNeg (0 : Int32)) (Int32.toInt64 v_1))))) := hD
    refine lv_goto (tgt := 21) hx hb dL_whyNotStepped_10 (by decide) ?_
    refine lv_iconst (v := (0 : Int32)) hx hb dL_whyNotStepped_21 (by decide) ?_
    have ho := Option.some.inj hf
    subst ho
    exact w_iret (v := (0 : Int32)) hx hb hr hlocks hP hD hS ⟨(Nat.le_of_ble_eq_true rfl), (Nat.le_of_ble_eq_true rfl)⟩ rfl dL_whyNotStepped_22

def fL_bendAt (σ : Sh) (ω : (Nat → Int64)) (p1 p2 : Int32) : Option (Int32 × (Nat → Int64)) := ((fX6_bendAt σ p1 p2).bind fun r_1 => xcase r_1 (fun e => (if e = "java/lang/IndexOutOfBoundsException" then (some ((1 : Int32), ω)) else none)) (fun v_1 => (some ((0 : Int32), (vp_updL ω (Int32.toNatClampNeg (0 : Int32)) (Int32.toInt64 v_1))))))
abbrev rmL_bendAt : Room := { frames := 8, cells := 1, slots := 6, locals := 134 }
theorem hdL_bendAt : yL_bendAt.cls = RL ∧ yL_bendAt.cls ≠ "java/lang/invoke/MethodHandle" ∧ yL_bendAt.cls ≠ "java/lang/invoke/VarHandle" ∧ (parseMethodDescriptor yL_bendAt.desc).map (fun d => d.parameters.length) = some 4 := by decide +kernel
theorem hkL_bendAt_13 : (.classLink RL 13 "java/lang/IndexOutOfBoundsException" : Cond) ∈ wsL_bendAt := by decide +kernel
set_option maxHeartbeats 4000000 in
set_option maxRecDepth 100000 in
theorem cL_bendAt_ok (l : Launch) (hl0 : l.stackTraces = false) (g : Gg) (c0 h k0 x0 d0 a1 a2 a3 a4 o0 : Nat) (σ : Sh) (ω : (Nat → Int64)) (p1 p2 : Int32) (sz : Nat) {o : Int32 × (Nat → Int64)} (hf : fL_bendAt σ ω p1 p2 = some o) : vx_Met l yL_bendAt wsL_bendAt rmL_bendAt (va_Pc [.ref c0, .int p1, .int p2, .ref o0] (PM g (wC c0 h k0 x0 d0 ++ (wS g h a1 a2 a3 a4 σ ++ (wO g o0 ω))) sz)) (va_Qi (fun r' (_ : Unit) => r' = o.1) (fun _ t => PQ g (wC c0 h k0 x0 d0 ++ (wS g h a1 a2 a3 a4 σ ++ (wO g o0 o.2))) (va_A (wC c0 h k0 x0 d0 ++ (wS g h a1 a2 a3 a4 σ ++ (wO g o0 ω))) sz) t) (va_A (wC c0 h k0 x0 d0 ++ (wS g h a1 a2 a3 a4 σ ++ (wO g o0 ω))) sz)) (vx_X (fun _ : Unit => False) (fun _ _ _ => True) (va_A (wC c0 h k0 x0 d0 ++ (wS g h a1 a2 a3 a4 σ ++ (wO g o0 ω))) sz)) 1 6 (va_A (wC c0 h k0 x0 d0 ++ (wS g h a1 a2 a3 a4 σ ++ (wO g o0 ω))) sz) := by
  refine vx_ofWH (cc := cL_bendAt) (maxL := 5) (ret := (some .int)) (by decide) rfl ?_
  intro p e s m args below meth c s₁ B hml hv
  obtain ⟨rfl, rfl, hP, hD0, hE, hZ⟩ := hv
  have hx := B.exec
  have hb := B.bytes
  have hr := B.returns
  have hts := atoms_spec (ws := wsL_bendAt) B.pre
  have htab := vx_table (x := yL_bendAt) B (hts _ List.mem_cons_self)
  have hown : s.vm.findClass RL = some m.cls := findClass_of_methodNamed B.named
  have hlocks := B.notSynchronized
  have hD := hD0.self (sz := s.heap.size)
  generalize hAe : (va_A (wC c0 h k0 x0 d0 ++ (wS g h a1 a2 a3 a4 σ ++ (wO g o0 ω))) s.heap.size) = A at hD hZ ⊢
  have hA : ∀ q : Nat, s.heap.size ≤ q → A q := fun q h => by rw [← hAe]; exact Or.inr h
  have hS : va_S A s.heap s.heap [] := va_S.rf
  have hP : va_P g.1 vwCl (wC c0 h k0 x0 d0 ++ (wS g h a1 a2 a3 a4 σ ++ (wO g o0 ω))) s.heap := hP
  have hl := lv_entry ([.ref c0, .int p1, .int p2, .ref o0]) (n := 5) (Nat.le_of_ble_eq_true rfl)
  rw [lg_entry_eq]
  generalize (lg_sl ([.ref c0, .int p1, .int p2, .ref o0]) ++ List.replicate (5 - (lg_sl ([.ref c0, .int p1, .int p2, .ref o0])).length) Slot.unset).toArray = ls at hl ⊢
  have hl : lv_has ls 5 [(0, .ref c0), (1, .int p1), (2, .int p2), (3, .ref o0)] := hl
  unfold fL_bendAt at hf
  refine lv_aload_n hx hb dL_bendAt_0 rfl (lv_at hl 3 rfl) ?_
  refine lv_iconst (v := (0 : Int32)) hx hb dL_bendAt_1 (by decide) ?_
  refine lv_aload_n hx hb dL_bendAt_2 rfl (lv_at hl 0 rfl) ?_
  refine lv_iload_n hx hb dL_bendAt_3 rfl (lv_at hl 1 rfl) ?_
  refine lv_iload_n hx hb dL_bendAt_4 rfl (lv_at hl 2 rfl) ?_
  obtain ⟨r_1, e_1, hf⟩ := bo hf
  refine wcallVi (W0 := (wC c0 h k0 x0 d0 ++ (wS g h a1 a2 a3 a4 σ ++ (wO g o0 ω)))) (Wc := (wC c0 h k0 x0 d0 ++ (wS g h a1 a2 a3 a4 σ))) (Wr := (wO g o0 ω)) (As := [.int p1, .int p2]) (rest := [.int (0 : Int32), .ref o0]) [0, 1, 2, 3, 4, 5] [6] [1, 2, 3, 4, 5, 6, 0] 4 0 ⟨hx, hb, hml, hown, hts⟩ hP hD hE hZ hS hA (cX6_bendAt_ok l hl0 g c0 h k0 x0 d0 a1 a2 a3 a4 σ p1 p2 _ e_1) (cwV 2 hts gL_bendAt_X6_bendAt rfl rfl rfl hdX6_bendAt ⟨(Nat.le_of_ble_eq_true rfl), (Nat.le_of_ble_eq_true rfl)⟩) rfl rfl rfl (by decide) (by decide) (by decide) (by decide) rfl rfl rfl rfl hl.1 rfl (Nat.le_of_ble_eq_true rfl) ⟨(Nat.le_of_ble_eq_true rfl), (Nat.le_of_ble_eq_true rfl)⟩ dL_bendAt_5 (fun E ce q9 H locs ox_1 hP hD hS hce hcv hcl => ?_) (fun v_1 H locs ok_1 hP hD hS => ?_)
  · have hf := xe ox_1 hf
    by_cases z_2 : E = "java/lang/IndexOutOfBoundsException"
    · have hf := ip z_2 hf
      subst z_2
      refine vx_catch (name := "java/lang/IndexOutOfBoundsException") hown [] ⟨0, 10, 13, 13⟩ [] (htab.trans rfl) (fun z hz => absurd hz List.not_mem_nil) (by decide) (by decide) (hts _ hkL_bendAt_13) (va_Nw.use rfl (hE.2.1 (.castable "java/lang/IndexOutOfBoundsException" "java/lang/IndexOutOfBoundsException") (by decide +kernel))) hce hcv hcl ?_
      refine lv_astore (lv' := [(4, .ref q9), (0, .ref c0), (1, .int p1), (2, .int p2), (3, .ref o0)]) hx hb dL_bendAt_13 hl (by decide) rfl (fun ls hl => ?_)
      refine lv_iconst (v := (1 : Int32)) hx hb dL_bendAt_15 (by decide) ?_
      have ho := Option.some.inj hf
      subst ho
      exact w_iret (v := (1 : Int32)) hx hb hr hlocks hP hD hS ⟨(Nat.le_of_ble_eq_true rfl), (Nat.le_of_ble_eq_true rfl)⟩ rfl dL_bendAt_16
    · have hf := iq z_2 hf
      exact nomatch (show (none : Option (Int32 × (Nat → Int64))) = some _ from hf)
  · have hf := xo ok_1 hf
    refine lv_i2l hx hb dL_bendAt_8 rfl ?_
    refine va_last hx hb hE.1 hP hD hS 6 2 rfl rfl (vin (by decide)) dL_bendAt_9 (fun H locs hP hD hS => ?_)
    have hP : va_P g.1 vwCl (wC c0 h k0 x0 d0 ++ (wS g h a1 a2 a3 a4 σ ++ (wO g o0 (vp_updL ω (Int32.toNatClampNeg (0 : Int32)) (Int32.toInt64 v_1))))) H := hP
    have hD : va_D A (wC c0 h k0 x0 d0 ++ (wS g h a1 a2 a3 a4 σ ++ (wO g o0 (vp_updL ω (Int32.toNatClampNeg (0 : Int32)) (Int32.toInt64 v_1))))) := hD
    refine lv_goto (tgt := 17) hx hb dL_bendAt_10 (by decide) ?_
    refine lv_iconst (v := (0 : Int32)) hx hb dL_bendAt_17 (by decide) ?_
    have ho := Option.some.inj hf
    subst ho
    exact w_iret (v := (0 : Int32)) hx hb hr hlocks hP hD hS ⟨(Nat.le_of_ble_eq_true rfl), (Nat.le_of_ble_eq_true rfl)⟩ rfl dL_bendAt_18

def fL_lengthByKinds (σ : Sh) (ε : (Nat → UInt64)) (p1 : Int32) : Option (Int32 × (Nat → UInt64)) := ((fX6_lengthByKinds σ p1).bind fun r_1 => xcase r_1 (fun e => (if e = "java/lang/IndexOutOfBoundsException" then (some ((1 : Int32), ε)) else none)) (fun v_1 => (some ((0 : Int32), (vf_upd ε (Int32.toNatClampNeg (0 : Int32)) v_1)))))
abbrev rmL_lengthByKinds : Room := { frames := 8, cells := 1, slots := 6, locals := 135 }
theorem hdL_lengthByKinds : yL_lengthByKinds.cls = RL ∧ yL_lengthByKinds.cls ≠ "java/lang/invoke/MethodHandle" ∧ yL_lengthByKinds.cls ≠ "java/lang/invoke/VarHandle" ∧ (parseMethodDescriptor yL_lengthByKinds.desc).map (fun d => d.parameters.length) = some 3 := by decide +kernel
theorem hkL_lengthByKinds_13 : (.classLink RL 13 "java/lang/IndexOutOfBoundsException" : Cond) ∈ wsL_lengthByKinds := by decide +kernel
set_option maxHeartbeats 4000000 in
set_option maxRecDepth 100000 in
theorem cL_lengthByKinds_ok (l : Launch) (hl0 : l.stackTraces = false) (g : Gg) (c0 h k0 x0 d0 a1 a2 a3 a4 e0 : Nat) (σ : Sh) (ε : (Nat → UInt64)) (p1 : Int32) (sz : Nat) {o : Int32 × (Nat → UInt64)} (hf : fL_lengthByKinds σ ε p1 = some o) : vx_Met l yL_lengthByKinds wsL_lengthByKinds rmL_lengthByKinds (va_Pc [.ref c0, .int p1, .ref e0] (PM g (wC c0 h k0 x0 d0 ++ (wS g h a1 a2 a3 a4 σ ++ (wE g e0 ε))) sz)) (va_Qi (fun r' (_ : Unit) => r' = o.1) (fun _ t => PQ g (wC c0 h k0 x0 d0 ++ (wS g h a1 a2 a3 a4 σ ++ (wE g e0 o.2))) (va_A (wC c0 h k0 x0 d0 ++ (wS g h a1 a2 a3 a4 σ ++ (wE g e0 ε))) sz) t) (va_A (wC c0 h k0 x0 d0 ++ (wS g h a1 a2 a3 a4 σ ++ (wE g e0 ε))) sz)) (vx_X (fun _ : Unit => False) (fun _ _ _ => True) (va_A (wC c0 h k0 x0 d0 ++ (wS g h a1 a2 a3 a4 σ ++ (wE g e0 ε))) sz)) 1 6 (va_A (wC c0 h k0 x0 d0 ++ (wS g h a1 a2 a3 a4 σ ++ (wE g e0 ε))) sz) := by
  refine vx_ofWH (cc := cL_lengthByKinds) (maxL := 4) (ret := (some .int)) (by decide) rfl ?_
  intro p e s m args below meth c s₁ B hml hv
  obtain ⟨rfl, rfl, hP, hD0, hE, hZ⟩ := hv
  have hx := B.exec
  have hb := B.bytes
  have hr := B.returns
  have hts := atoms_spec (ws := wsL_lengthByKinds) B.pre
  have htab := vx_table (x := yL_lengthByKinds) B (hts _ List.mem_cons_self)
  have hown : s.vm.findClass RL = some m.cls := findClass_of_methodNamed B.named
  have hlocks := B.notSynchronized
  have hD := hD0.self (sz := s.heap.size)
  generalize hAe : (va_A (wC c0 h k0 x0 d0 ++ (wS g h a1 a2 a3 a4 σ ++ (wE g e0 ε))) s.heap.size) = A at hD hZ ⊢
  have hA : ∀ q : Nat, s.heap.size ≤ q → A q := fun q h => by rw [← hAe]; exact Or.inr h
  have hS : va_S A s.heap s.heap [] := va_S.rf
  have hP : va_P g.1 vwCl (wC c0 h k0 x0 d0 ++ (wS g h a1 a2 a3 a4 σ ++ (wE g e0 ε))) s.heap := hP
  have hl := lv_entry ([.ref c0, .int p1, .ref e0]) (n := 4) (Nat.le_of_ble_eq_true rfl)
  rw [lg_entry_eq]
  generalize (lg_sl ([.ref c0, .int p1, .ref e0]) ++ List.replicate (4 - (lg_sl ([.ref c0, .int p1, .ref e0])).length) Slot.unset).toArray = ls at hl ⊢
  have hl : lv_has ls 4 [(0, .ref c0), (1, .int p1), (2, .ref e0)] := hl
  unfold fL_lengthByKinds at hf
  refine lv_aload_n hx hb dL_lengthByKinds_0 rfl (lv_at hl 2 rfl) ?_
  refine lv_iconst (v := (0 : Int32)) hx hb dL_lengthByKinds_1 (by decide) ?_
  refine lv_aload_n hx hb dL_lengthByKinds_2 rfl (lv_at hl 0 rfl) ?_
  refine lv_iload_n hx hb dL_lengthByKinds_3 rfl (lv_at hl 1 rfl) ?_
  obtain ⟨r_1, e_1, hf⟩ := bo hf
  refine wcallVd (W0 := (wC c0 h k0 x0 d0 ++ (wS g h a1 a2 a3 a4 σ ++ (wE g e0 ε)))) (Wc := (wC c0 h k0 x0 d0 ++ (wS g h a1 a2 a3 a4 σ))) (Wr := (wE g e0 ε)) (As := [.int p1]) (rest := [.int (0 : Int32), .ref e0]) [0, 1, 2, 3, 4, 5] [6] [1, 2, 3, 4, 5, 6, 0] 4 0 ⟨hx, hb, hml, hown, hts⟩ hP hD hE hZ hS hA (cX6_lengthByKinds_ok l hl0 g c0 h k0 x0 d0 a1 a2 a3 a4 σ p1 _ e_1) (cwV 1 hts gL_lengthByKinds_X6_lengthByKinds rfl rfl rfl hdX6_lengthByKinds ⟨(Nat.le_of_ble_eq_true rfl), (Nat.le_of_ble_eq_true rfl)⟩) rfl rfl rfl (by decide) (by decide) (by decide) (by decide) rfl rfl rfl rfl hl.1 rfl (Nat.le_of_ble_eq_true rfl) ⟨(Nat.le_of_ble_eq_true rfl), (Nat.le_of_ble_eq_true rfl)⟩ dL_lengthByKinds_4 (fun E ce q9 H locs ox_1 hP hD hS hce hcv hcl => ?_) (fun v_1 H locs ok_1 hP hD hS => ?_)
  · have hf := xe ox_1 hf
    by_cases z_2 : E = "java/lang/IndexOutOfBoundsException"
    · have hf := ip z_2 hf
      subst z_2
      refine vx_catch (name := "java/lang/IndexOutOfBoundsException") hown [] ⟨0, 8, 11, 13⟩ [] (htab.trans rfl) (fun z hz => absurd hz List.not_mem_nil) (by decide) (by decide) (hts _ hkL_lengthByKinds_13) (va_Nw.use rfl (hE.2.1 (.castable "java/lang/IndexOutOfBoundsException" "java/lang/IndexOutOfBoundsException") (by decide +kernel))) hce hcv hcl ?_
      refine lv_astore_n (lv' := [(3, .ref q9), (0, .ref c0), (1, .int p1), (2, .ref e0)]) hx hb dL_lengthByKinds_11 rfl hl (by decide) rfl (fun ls hl => ?_)
      refine lv_iconst (v := (1 : Int32)) hx hb dL_lengthByKinds_12 (by decide) ?_
      have ho := Option.some.inj hf
      subst ho
      exact w_iret (v := (1 : Int32)) hx hb hr hlocks hP hD hS ⟨(Nat.le_of_ble_eq_true rfl), (Nat.le_of_ble_eq_true rfl)⟩ rfl dL_lengthByKinds_13
    · have hf := iq z_2 hf
      exact nomatch (show (none : Option (Int32 × (Nat → UInt64))) = some _ from hf)
  · have hf := xo ok_1 hf
    refine va_dast hx hb hE.1 hP hD hS 6 3 rfl rfl (vin (by decide)) dL_lengthByKinds_7 (fun H locs hP hD hS => ?_)
    have hP : va_P g.1 vwCl (wC c0 h k0 x0 d0 ++ (wS g h a1 a2 a3 a4 σ ++ (wE g e0 (vf_upd ε (Int32.toNatClampNeg (0 : Int32)) v_1)))) H := hP
    have hD : va_D A (wC c0 h k0 x0 d0 ++ (wS g h a1 a2 a3 a4 σ ++ (wE g e0 (vf_upd ε (Int32.toNatClampNeg (0 : Int32)) v_1)))) := hD
    refine lv_goto (tgt := 14) hx hb dL_lengthByKinds_8 (by decide) ?_
    refine lv_iconst (v := (0 : Int32)) hx hb dL_lengthByKinds_14 (by decide) ?_
    have ho := Option.some.inj hf
    subst ho
    exact w_iret (v := (0 : Int32)) hx hb hr hlocks hP hD hS ⟨(Nat.le_of_ble_eq_true rfl), (Nat.le_of_ble_eq_true rfl)⟩ rfl dL_lengthByKinds_15

def fL_lengthBySteps (σ : Sh) (ε : (Nat → UInt64)) (p1 : Int32) : Option (Int32 × (Nat → UInt64)) := ((fX6_lengthBySteps σ p1).bind fun r_1 => xcase r_1 (fun e => (if e = "java/lang/IndexOutOfBoundsException" then (some ((1 : Int32), ε)) else none)) (fun v_1 => (some ((0 : Int32), (vf_upd ε (Int32.toNatClampNeg (0 : Int32)) v_1)))))
abbrev rmL_lengthBySteps : Room := { frames := 8, cells := 1, slots := 6, locals := 136 }
theorem hdL_lengthBySteps : yL_lengthBySteps.cls = RL ∧ yL_lengthBySteps.cls ≠ "java/lang/invoke/MethodHandle" ∧ yL_lengthBySteps.cls ≠ "java/lang/invoke/VarHandle" ∧ (parseMethodDescriptor yL_lengthBySteps.desc).map (fun d => d.parameters.length) = some 3 := by decide +kernel
theorem hkL_lengthBySteps_13 : (.classLink RL 13 "java/lang/IndexOutOfBoundsException" : Cond) ∈ wsL_lengthBySteps := by decide +kernel
set_option maxHeartbeats 4000000 in
set_option maxRecDepth 100000 in
theorem cL_lengthBySteps_ok (l : Launch) (hl0 : l.stackTraces = false) (g : Gg) (c0 h k0 x0 d0 a1 a2 a3 a4 e0 : Nat) (σ : Sh) (ε : (Nat → UInt64)) (p1 : Int32) (sz : Nat) {o : Int32 × (Nat → UInt64)} (hf : fL_lengthBySteps σ ε p1 = some o) : vx_Met l yL_lengthBySteps wsL_lengthBySteps rmL_lengthBySteps (va_Pc [.ref c0, .int p1, .ref e0] (PM g (wC c0 h k0 x0 d0 ++ (wS g h a1 a2 a3 a4 σ ++ (wE g e0 ε))) sz)) (va_Qi (fun r' (_ : Unit) => r' = o.1) (fun _ t => PQ g (wC c0 h k0 x0 d0 ++ (wS g h a1 a2 a3 a4 σ ++ (wE g e0 o.2))) (va_A (wC c0 h k0 x0 d0 ++ (wS g h a1 a2 a3 a4 σ ++ (wE g e0 ε))) sz) t) (va_A (wC c0 h k0 x0 d0 ++ (wS g h a1 a2 a3 a4 σ ++ (wE g e0 ε))) sz)) (vx_X (fun _ : Unit => False) (fun _ _ _ => True) (va_A (wC c0 h k0 x0 d0 ++ (wS g h a1 a2 a3 a4 σ ++ (wE g e0 ε))) sz)) 1 6 (va_A (wC c0 h k0 x0 d0 ++ (wS g h a1 a2 a3 a4 σ ++ (wE g e0 ε))) sz) := by
  refine vx_ofWH (cc := cL_lengthBySteps) (maxL := 4) (ret := (some .int)) (by decide) rfl ?_
  intro p e s m args below meth c s₁ B hml hv
  obtain ⟨rfl, rfl, hP, hD0, hE, hZ⟩ := hv
  have hx := B.exec
  have hb := B.bytes
  have hr := B.returns
  have hts := atoms_spec (ws := wsL_lengthBySteps) B.pre
  have htab := vx_table (x := yL_lengthBySteps) B (hts _ List.mem_cons_self)
  have hown : s.vm.findClass RL = some m.cls := findClass_of_methodNamed B.named
  have hlocks := B.notSynchronized
  have hD := hD0.self (sz := s.heap.size)
  generalize hAe : (va_A (wC c0 h k0 x0 d0 ++ (wS g h a1 a2 a3 a4 σ ++ (wE g e0 ε))) s.heap.size) = A at hD hZ ⊢
  have hA : ∀ q : Nat, s.heap.size ≤ q → A q := fun q h => by rw [← hAe]; exact Or.inr h
  have hS : va_S A s.heap s.heap [] := va_S.rf
  have hP : va_P g.1 vwCl (wC c0 h k0 x0 d0 ++ (wS g h a1 a2 a3 a4 σ ++ (wE g e0 ε))) s.heap := hP
  have hl := lv_entry ([.ref c0, .int p1, .ref e0]) (n := 4) (Nat.le_of_ble_eq_true rfl)
  rw [lg_entry_eq]
  generalize (lg_sl ([.ref c0, .int p1, .ref e0]) ++ List.replicate (4 - (lg_sl ([.ref c0, .int p1, .ref e0])).length) Slot.unset).toArray = ls at hl ⊢
  have hl : lv_has ls 4 [(0, .ref c0), (1, .int p1), (2, .ref e0)] := hl
  unfold fL_lengthBySteps at hf
  refine lv_aload_n hx hb dL_lengthBySteps_0 rfl (lv_at hl 2 rfl) ?_
  refine lv_iconst (v := (0 : Int32)) hx hb dL_lengthBySteps_1 (by decide) ?_
  refine lv_aload_n hx hb dL_lengthBySteps_2 rfl (lv_at hl 0 rfl) ?_
  refine lv_iload_n hx hb dL_lengthBySteps_3 rfl (lv_at hl 1 rfl) ?_
  obtain ⟨r_1, e_1, hf⟩ := bo hf
  refine wcallVd (W0 := (wC c0 h k0 x0 d0 ++ (wS g h a1 a2 a3 a4 σ ++ (wE g e0 ε)))) (Wc := (wC c0 h k0 x0 d0 ++ (wS g h a1 a2 a3 a4 σ))) (Wr := (wE g e0 ε)) (As := [.int p1]) (rest := [.int (0 : Int32), .ref e0]) [0, 1, 2, 3, 4, 5] [6] [1, 2, 3, 4, 5, 6, 0] 4 0 ⟨hx, hb, hml, hown, hts⟩ hP hD hE hZ hS hA (cX6_lengthBySteps_ok l hl0 g c0 h k0 x0 d0 a1 a2 a3 a4 σ p1 _ e_1) (cwV 1 hts gL_lengthBySteps_X6_lengthBySteps rfl rfl rfl hdX6_lengthBySteps ⟨(Nat.le_of_ble_eq_true rfl), (Nat.le_of_ble_eq_true rfl)⟩) rfl rfl rfl (by decide) (by decide) (by decide) (by decide) rfl rfl rfl rfl hl.1 rfl (Nat.le_of_ble_eq_true rfl) ⟨(Nat.le_of_ble_eq_true rfl), (Nat.le_of_ble_eq_true rfl)⟩ dL_lengthBySteps_4 (fun E ce q9 H locs ox_1 hP hD hS hce hcv hcl => ?_) (fun v_1 H locs ok_1 hP hD hS => ?_)
  · have hf := xe ox_1 hf
    by_cases z_2 : E = "java/lang/IndexOutOfBoundsException"
    · have hf := ip z_2 hf
      subst z_2
      refine vx_catch (name := "java/lang/IndexOutOfBoundsException") hown [] ⟨0, 8, 11, 13⟩ [] (htab.trans rfl) (fun z hz => absurd hz List.not_mem_nil) (by decide) (by decide) (hts _ hkL_lengthBySteps_13) (va_Nw.use rfl (hE.2.1 (.castable "java/lang/IndexOutOfBoundsException" "java/lang/IndexOutOfBoundsException") (by decide +kernel))) hce hcv hcl ?_
      refine lv_astore_n (lv' := [(3, .ref q9), (0, .ref c0), (1, .int p1), (2, .ref e0)]) hx hb dL_lengthBySteps_11 rfl hl (by decide) rfl (fun ls hl => ?_)
      refine lv_iconst (v := (1 : Int32)) hx hb dL_lengthBySteps_12 (by decide) ?_
      have ho := Option.some.inj hf
      subst ho
      exact w_iret (v := (1 : Int32)) hx hb hr hlocks hP hD hS ⟨(Nat.le_of_ble_eq_true rfl), (Nat.le_of_ble_eq_true rfl)⟩ rfl dL_lengthBySteps_13
    · have hf := iq z_2 hf
      exact nomatch (show (none : Option (Int32 × (Nat → UInt64))) = some _ from hf)
  · have hf := xo ok_1 hf
    refine va_dast hx hb hE.1 hP hD hS 6 3 rfl rfl (vin (by decide)) dL_lengthBySteps_7 (fun H locs hP hD hS => ?_)
    have hP : va_P g.1 vwCl (wC c0 h k0 x0 d0 ++ (wS g h a1 a2 a3 a4 σ ++ (wE g e0 (vf_upd ε (Int32.toNatClampNeg (0 : Int32)) v_1)))) H := hP
    have hD : va_D A (wC c0 h k0 x0 d0 ++ (wS g h a1 a2 a3 a4 σ ++ (wE g e0 (vf_upd ε (Int32.toNatClampNeg (0 : Int32)) v_1)))) := hD
    refine lv_goto (tgt := 14) hx hb dL_lengthBySteps_8 (by decide) ?_
    refine lv_iconst (v := (0 : Int32)) hx hb dL_lengthBySteps_14 (by decide) ?_
    have ho := Option.some.inj hf
    subst ho
    exact w_iret (v := (0 : Int32)) hx hb hr hlocks hP hD hS ⟨(Nat.le_of_ble_eq_true rfl), (Nat.le_of_ble_eq_true rfl)⟩ rfl dL_lengthBySteps_15

def fL_labelOf (σ : Sh) (ω : (Nat → Int64)) (p1 : Int32) : Option (Int32 × (Nat → Int64)) := ((fX6_labelOf σ p1).bind fun r_1 => xcase r_1 (fun e => (if e = "java/lang/IndexOutOfBoundsException" then (some ((1 : Int32), ω)) else none)) (fun v_1 => (some ((0 : Int32), (vp_updL ω (Int32.toNatClampNeg (0 : Int32)) (Int32.toInt64 v_1))))))
abbrev rmL_labelOf : Room := { frames := 8, cells := 1, slots := 6, locals := 132 }
theorem hdL_labelOf : yL_labelOf.cls = RL ∧ yL_labelOf.cls ≠ "java/lang/invoke/MethodHandle" ∧ yL_labelOf.cls ≠ "java/lang/invoke/VarHandle" ∧ (parseMethodDescriptor yL_labelOf.desc).map (fun d => d.parameters.length) = some 3 := by decide +kernel
theorem hkL_labelOf_13 : (.classLink RL 13 "java/lang/IndexOutOfBoundsException" : Cond) ∈ wsL_labelOf := by decide +kernel
set_option maxHeartbeats 4000000 in
set_option maxRecDepth 100000 in
theorem cL_labelOf_ok (l : Launch) (hl0 : l.stackTraces = false) (g : Gg) (c0 h k0 x0 d0 a1 a2 a3 a4 o0 : Nat) (σ : Sh) (ω : (Nat → Int64)) (p1 : Int32) (sz : Nat) {o : Int32 × (Nat → Int64)} (hf : fL_labelOf σ ω p1 = some o) : vx_Met l yL_labelOf wsL_labelOf rmL_labelOf (va_Pc [.ref c0, .int p1, .ref o0] (PM g (wC c0 h k0 x0 d0 ++ (wS g h a1 a2 a3 a4 σ ++ (wO g o0 ω))) sz)) (va_Qi (fun r' (_ : Unit) => r' = o.1) (fun _ t => PQ g (wC c0 h k0 x0 d0 ++ (wS g h a1 a2 a3 a4 σ ++ (wO g o0 o.2))) (va_A (wC c0 h k0 x0 d0 ++ (wS g h a1 a2 a3 a4 σ ++ (wO g o0 ω))) sz) t) (va_A (wC c0 h k0 x0 d0 ++ (wS g h a1 a2 a3 a4 σ ++ (wO g o0 ω))) sz)) (vx_X (fun _ : Unit => False) (fun _ _ _ => True) (va_A (wC c0 h k0 x0 d0 ++ (wS g h a1 a2 a3 a4 σ ++ (wO g o0 ω))) sz)) 1 6 (va_A (wC c0 h k0 x0 d0 ++ (wS g h a1 a2 a3 a4 σ ++ (wO g o0 ω))) sz) := by
  refine vx_ofWH (cc := cL_labelOf) (maxL := 4) (ret := (some .int)) (by decide) rfl ?_
  intro p e s m args below meth c s₁ B hml hv
  obtain ⟨rfl, rfl, hP, hD0, hE, hZ⟩ := hv
  have hx := B.exec
  have hb := B.bytes
  have hr := B.returns
  have hts := atoms_spec (ws := wsL_labelOf) B.pre
  have htab := vx_table (x := yL_labelOf) B (hts _ List.mem_cons_self)
  have hown : s.vm.findClass RL = some m.cls := findClass_of_methodNamed B.named
  have hlocks := B.notSynchronized
  have hD := hD0.self (sz := s.heap.size)
  generalize hAe : (va_A (wC c0 h k0 x0 d0 ++ (wS g h a1 a2 a3 a4 σ ++ (wO g o0 ω))) s.heap.size) = A at hD hZ ⊢
  have hA : ∀ q : Nat, s.heap.size ≤ q → A q := fun q h => by rw [← hAe]; exact Or.inr h
  have hS : va_S A s.heap s.heap [] := va_S.rf
  have hP : va_P g.1 vwCl (wC c0 h k0 x0 d0 ++ (wS g h a1 a2 a3 a4 σ ++ (wO g o0 ω))) s.heap := hP
  have hl := lv_entry ([.ref c0, .int p1, .ref o0]) (n := 4) (Nat.le_of_ble_eq_true rfl)
  rw [lg_entry_eq]
  generalize (lg_sl ([.ref c0, .int p1, .ref o0]) ++ List.replicate (4 - (lg_sl ([.ref c0, .int p1, .ref o0])).length) Slot.unset).toArray = ls at hl ⊢
  have hl : lv_has ls 4 [(0, .ref c0), (1, .int p1), (2, .ref o0)] := hl
  unfold fL_labelOf at hf
  refine lv_aload_n hx hb dL_labelOf_0 rfl (lv_at hl 2 rfl) ?_
  refine lv_iconst (v := (0 : Int32)) hx hb dL_labelOf_1 (by decide) ?_
  refine lv_aload_n hx hb dL_labelOf_2 rfl (lv_at hl 0 rfl) ?_
  refine lv_iload_n hx hb dL_labelOf_3 rfl (lv_at hl 1 rfl) ?_
  obtain ⟨r_1, e_1, hf⟩ := bo hf
  refine wcallVi (W0 := (wC c0 h k0 x0 d0 ++ (wS g h a1 a2 a3 a4 σ ++ (wO g o0 ω)))) (Wc := (wC c0 h k0 x0 d0 ++ (wS g h a1 a2 a3 a4 σ))) (Wr := (wO g o0 ω)) (As := [.int p1]) (rest := [.int (0 : Int32), .ref o0]) [0, 1, 2, 3, 4, 5] [6] [1, 2, 3, 4, 5, 6, 0] 4 0 ⟨hx, hb, hml, hown, hts⟩ hP hD hE hZ hS hA (cX6_labelOf_ok l hl0 g c0 h k0 x0 d0 a1 a2 a3 a4 σ p1 _ e_1) (cwV 1 hts gL_labelOf_X6_labelOf rfl rfl rfl hdX6_labelOf ⟨(Nat.le_of_ble_eq_true rfl), (Nat.le_of_ble_eq_true rfl)⟩) rfl rfl rfl (by decide) (by decide) (by decide) (by decide) rfl rfl rfl rfl hl.1 rfl (Nat.le_of_ble_eq_true rfl) ⟨(Nat.le_of_ble_eq_true rfl), (Nat.le_of_ble_eq_true rfl)⟩ dL_labelOf_4 (fun E ce q9 H locs ox_1 hP hD hS hce hcv hcl => ?_) (fun v_1 H locs ok_1 hP hD hS => ?_)
  · have hf := xe ox_1 hf
    by_cases z_2 : E = "java/lang/IndexOutOfBoundsException"
    · have hf := ip z_2 hf
      subst z_2
      refine vx_catch (name := "java/lang/IndexOutOfBoundsException") hown [] ⟨0, 9, 12, 13⟩ [] (htab.trans rfl) (fun z hz => absurd hz List.not_mem_nil) (by decide) (by decide) (hts _ hkL_labelOf_13) (va_Nw.use rfl (hE.2.1 (.castable "java/lang/IndexOutOfBoundsException" "java/lang/IndexOutOfBoundsException") (by decide +kernel))) hce hcv hcl ?_
      refine lv_astore_n (lv' := [(3, .ref q9), (0, .ref c0), (1, .int p1), (2, .ref o0)]) hx hb dL_labelOf_12 rfl hl (by decide) rfl (fun ls hl => ?_)
      refine lv_iconst (v := (1 : Int32)) hx hb dL_labelOf_13 (by decide) ?_
      have ho := Option.some.inj hf
      subst ho
      exact w_iret (v := (1 : Int32)) hx hb hr hlocks hP hD hS ⟨(Nat.le_of_ble_eq_true rfl), (Nat.le_of_ble_eq_true rfl)⟩ rfl dL_labelOf_14
    · have hf := iq z_2 hf
      exact nomatch (show (none : Option (Int32 × (Nat → Int64))) = some _ from hf)
  · have hf := xo ok_1 hf
    refine lv_i2l hx hb dL_labelOf_7 rfl ?_
    refine va_last hx hb hE.1 hP hD hS 6 2 rfl rfl (vin (by decide)) dL_labelOf_8 (fun H locs hP hD hS => ?_)
    have hP : va_P g.1 vwCl (wC c0 h k0 x0 d0 ++ (wS g h a1 a2 a3 a4 σ ++ (wO g o0 (vp_updL ω (Int32.toNatClampNeg (0 : Int32)) (Int32.toInt64 v_1))))) H := hP
    have hD : va_D A (wC c0 h k0 x0 d0 ++ (wS g h a1 a2 a3 a4 σ ++ (wO g o0 (vp_updL ω (Int32.toNatClampNeg (0 : Int32)) (Int32.toInt64 v_1))))) := hD
    refine lv_goto (tgt := 15) hx hb dL_labelOf_9 (by decide) ?_
    refine lv_iconst (v := (0 : Int32)) hx hb dL_labelOf_15 (by decide) ?_
    have ho := Option.some.inj hf
    subst ho
    exact w_iret (v := (0 : Int32)) hx hb hr hlocks hP hD hS ⟨(Nat.le_of_ble_eq_true rfl), (Nat.le_of_ble_eq_true rfl)⟩ rfl dL_labelOf_16

def fL_isTurned (σ : Sh) (ω : (Nat → Int64)) (p1 : Int32) : Option (Int32 × (Nat → Int64)) := ((fX6_isTurned σ p1).bind fun r_1 => xcase r_1 (fun e => (if e = "java/lang/IndexOutOfBoundsException" then (some ((1 : Int32), ω)) else none)) (fun v_1 => (if v_1 = true then (some ((0 : Int32), (vp_updL ω (Int32.toNatClampNeg (0 : Int32)) (1 : Int64)))) else (some ((0 : Int32), (vp_updL ω (Int32.toNatClampNeg (0 : Int32)) (0 : Int64)))))))
abbrev rmL_isTurned : Room := { frames := 8, cells := 1, slots := 6, locals := 133 }
theorem hdL_isTurned : yL_isTurned.cls = RL ∧ yL_isTurned.cls ≠ "java/lang/invoke/MethodHandle" ∧ yL_isTurned.cls ≠ "java/lang/invoke/VarHandle" ∧ (parseMethodDescriptor yL_isTurned.desc).map (fun d => d.parameters.length) = some 3 := by decide +kernel
theorem hkL_isTurned_13 : (.classLink RL 13 "java/lang/IndexOutOfBoundsException" : Cond) ∈ wsL_isTurned := by decide +kernel
set_option maxHeartbeats 4000000 in
set_option maxRecDepth 100000 in
theorem cL_isTurned_ok (l : Launch) (hl0 : l.stackTraces = false) (g : Gg) (c0 h k0 x0 d0 a1 a2 a3 a4 o0 : Nat) (σ : Sh) (ω : (Nat → Int64)) (p1 : Int32) (sz : Nat) {o : Int32 × (Nat → Int64)} (hf : fL_isTurned σ ω p1 = some o) : vx_Met l yL_isTurned wsL_isTurned rmL_isTurned (va_Pc [.ref c0, .int p1, .ref o0] (PM g (wC c0 h k0 x0 d0 ++ (wS g h a1 a2 a3 a4 σ ++ (wO g o0 ω))) sz)) (va_Qi (fun r' (_ : Unit) => r' = o.1) (fun _ t => PQ g (wC c0 h k0 x0 d0 ++ (wS g h a1 a2 a3 a4 σ ++ (wO g o0 o.2))) (va_A (wC c0 h k0 x0 d0 ++ (wS g h a1 a2 a3 a4 σ ++ (wO g o0 ω))) sz) t) (va_A (wC c0 h k0 x0 d0 ++ (wS g h a1 a2 a3 a4 σ ++ (wO g o0 ω))) sz)) (vx_X (fun _ : Unit => False) (fun _ _ _ => True) (va_A (wC c0 h k0 x0 d0 ++ (wS g h a1 a2 a3 a4 σ ++ (wO g o0 ω))) sz)) 1 6 (va_A (wC c0 h k0 x0 d0 ++ (wS g h a1 a2 a3 a4 σ ++ (wO g o0 ω))) sz) := by
  refine vx_ofWH (cc := cL_isTurned) (maxL := 4) (ret := (some .int)) (by decide) rfl ?_
  intro p e s m args below meth c s₁ B hml hv
  obtain ⟨rfl, rfl, hP, hD0, hE, hZ⟩ := hv
  have hx := B.exec
  have hb := B.bytes
  have hr := B.returns
  have hts := atoms_spec (ws := wsL_isTurned) B.pre
  have htab := vx_table (x := yL_isTurned) B (hts _ List.mem_cons_self)
  have hown : s.vm.findClass RL = some m.cls := findClass_of_methodNamed B.named
  have hlocks := B.notSynchronized
  have hD := hD0.self (sz := s.heap.size)
  generalize hAe : (va_A (wC c0 h k0 x0 d0 ++ (wS g h a1 a2 a3 a4 σ ++ (wO g o0 ω))) s.heap.size) = A at hD hZ ⊢
  have hA : ∀ q : Nat, s.heap.size ≤ q → A q := fun q h => by rw [← hAe]; exact Or.inr h
  have hS : va_S A s.heap s.heap [] := va_S.rf
  have hP : va_P g.1 vwCl (wC c0 h k0 x0 d0 ++ (wS g h a1 a2 a3 a4 σ ++ (wO g o0 ω))) s.heap := hP
  have hl := lv_entry ([.ref c0, .int p1, .ref o0]) (n := 4) (Nat.le_of_ble_eq_true rfl)
  rw [lg_entry_eq]
  generalize (lg_sl ([.ref c0, .int p1, .ref o0]) ++ List.replicate (4 - (lg_sl ([.ref c0, .int p1, .ref o0])).length) Slot.unset).toArray = ls at hl ⊢
  have hl : lv_has ls 4 [(0, .ref c0), (1, .int p1), (2, .ref o0)] := hl
  unfold fL_isTurned at hf
  refine lv_aload_n hx hb dL_isTurned_0 rfl (lv_at hl 2 rfl) ?_
  refine lv_iconst (v := (0 : Int32)) hx hb dL_isTurned_1 (by decide) ?_
  refine lv_aload_n hx hb dL_isTurned_2 rfl (lv_at hl 0 rfl) ?_
  refine lv_iload_n hx hb dL_isTurned_3 rfl (lv_at hl 1 rfl) ?_
  obtain ⟨r_1, e_1, hf⟩ := bo hf
  refine wcallVb (W0 := (wC c0 h k0 x0 d0 ++ (wS g h a1 a2 a3 a4 σ ++ (wO g o0 ω)))) (Wc := (wC c0 h k0 x0 d0 ++ (wS g h a1 a2 a3 a4 σ))) (Wr := (wO g o0 ω)) (As := [.int p1]) (rest := [.int (0 : Int32), .ref o0]) [0, 1, 2, 3, 4, 5] [6] [1, 2, 3, 4, 5, 6, 0] 4 0 ⟨hx, hb, hml, hown, hts⟩ hP hD hE hZ hS hA (cX6_isTurned_ok l hl0 g c0 h k0 x0 d0 a1 a2 a3 a4 σ p1 _ e_1) (cwV 1 hts gL_isTurned_X6_isTurned rfl rfl rfl hdX6_isTurned ⟨(Nat.le_of_ble_eq_true rfl), (Nat.le_of_ble_eq_true rfl)⟩) rfl rfl rfl (by decide) (by decide) (by decide) (by decide) rfl rfl rfl rfl hl.1 rfl (Nat.le_of_ble_eq_true rfl) ⟨(Nat.le_of_ble_eq_true rfl), (Nat.le_of_ble_eq_true rfl)⟩ dL_isTurned_4 (fun E ce q9 H locs ox_1 hP hD hS hce hcv hcl => ?_) (fun v_1 H locs ok_1 hP hD hS => ?_)
  · have hf := xe ox_1 hf
    by_cases z_2 : E = "java/lang/IndexOutOfBoundsException"
    · have hf := ip z_2 hf
      subst z_2
      refine vx_catch (name := "java/lang/IndexOutOfBoundsException") hown [] ⟨0, 16, 19, 13⟩ [] (htab.trans rfl) (fun z hz => absurd hz List.not_mem_nil) (by decide) (by decide) (hts _ hkL_isTurned_13) (va_Nw.use rfl (hE.2.1 (.castable "java/lang/IndexOutOfBoundsException" "java/lang/IndexOutOfBoundsException") (by decide +kernel))) hce hcv hcl ?_
      refine lv_astore_n (lv' := [(3, .ref q9), (0, .ref c0), (1, .int p1), (2, .ref o0)]) hx hb dL_isTurned_19 rfl hl (by decide) rfl (fun ls hl => ?_)
      refine lv_iconst (v := (1 : Int32)) hx hb dL_isTurned_20 (by decide) ?_
      have ho := Option.some.inj hf
      subst ho
      exact w_iret (v := (1 : Int32)) hx hb hr hlocks hP hD hS ⟨(Nat.le_of_ble_eq_true rfl), (Nat.le_of_ble_eq_true rfl)⟩ rfl dL_isTurned_21
    · have hf := iq z_2 hf
      exact nomatch (show (none : Option (Int32 × (Nat → Int64))) = some _ from hf)
  · have hf := xo ok_1 hf
    refine lv_beq (tgt := 14) hx hb dL_isTurned_7 (by decide) (fun c_3 => ?_) (fun c_3 => ?_)
    · have hf := iq c_3 hf
      refine lv_lconst (v := 0) hx hb dL_isTurned_14 (by decide) ?_
      refine va_last hx hb hE.1 hP hD hS 6 2 rfl rfl (vin (by decide)) dL_isTurned_15 (fun H locs hP hD hS => ?_)
      have hP : va_P g.1 vwCl (wC c0 h k0 x0 d0 ++ (wS g h a1 a2 a3 a4 σ ++ (wO g o0 (vp_updL ω (Int32.toNatClampNeg (0 : Int32)) (0 : Int64))))) H := hP
      have hD : va_D A (wC c0 h k0 x0 d0 ++ (wS g h a1 a2 a3 a4 σ ++ (wO g o0 (vp_updL ω (Int32.toNatClampNeg (0 : Int32)) (0 : Int64))))) := hD
      refine lv_goto (tgt := 22) hx hb dL_isTurned_16 (by decide) ?_
      refine lv_iconst (v := (0 : Int32)) hx hb dL_isTurned_22 (by decide) ?_
      have ho := Option.some.inj hf
      subst ho
      exact w_iret (v := (0 : Int32)) hx hb hr hlocks hP hD hS ⟨(Nat.le_of_ble_eq_true rfl), (Nat.le_of_ble_eq_true rfl)⟩ rfl dL_isTurned_23
    · have hf := ip c_3 hf
      refine lv_lconst (v := 1) hx hb dL_isTurned_10 (by decide) ?_
      refine lv_goto (tgt := 15) hx hb dL_isTurned_11 (by decide) ?_
      refine va_last hx hb hE.1 hP hD hS 6 2 rfl rfl (vin (by decide)) dL_isTurned_15 (fun H locs hP hD hS => ?_)
      have hP : va_P g.1 vwCl (wC c0 h k0 x0 d0 ++ (wS g h a1 a2 a3 a4 σ ++ (wO g o0 (vp_updL ω (Int32.toNatClampNeg (0 : Int32)) (1 : Int64))))) H := hP
      have hD : va_D A (wC c0 h k0 x0 d0 ++ (wS g h a1 a2 a3 a4 σ ++ (wO g o0 (vp_updL ω (Int32.toNatClampNeg (0 : Int32)) (1 : Int64))))) := hD
      refine lv_goto (tgt := 22) hx hb dL_isTurned_16 (by decide) ?_
      refine lv_iconst (v := (0 : Int32)) hx hb dL_isTurned_22 (by decide) ?_
      have ho := Option.some.inj hf
      subst ho
      exact w_iret (v := (0 : Int32)) hx hb hr hlocks hP hD hS ⟨(Nat.le_of_ble_eq_true rfl), (Nat.le_of_ble_eq_true rfl)⟩ rfl dL_isTurned_23

def fL_readFrom (σ : Sh) (ω : (Nat → Int64)) (p1 : Int32) : Option (Int32 × (Nat → Int64)) := ((fX6_readFrom σ p1).bind fun r_1 => xcase r_1 (fun e => (if e = "java/lang/IndexOutOfBoundsException" then (some ((1 : Int32), ω)) else none)) (fun v_1 => (some ((0 : Int32), (vp_updL ω (Int32.toNatClampNeg (0 : Int32)) (Int32.toInt64 v_1))))))
abbrev rmL_readFrom : Room := { frames := 8, cells := 1, slots := 6, locals := 133 }
theorem hdL_readFrom : yL_readFrom.cls = RL ∧ yL_readFrom.cls ≠ "java/lang/invoke/MethodHandle" ∧ yL_readFrom.cls ≠ "java/lang/invoke/VarHandle" ∧ (parseMethodDescriptor yL_readFrom.desc).map (fun d => d.parameters.length) = some 3 := by decide +kernel
theorem hkL_readFrom_13 : (.classLink RL 13 "java/lang/IndexOutOfBoundsException" : Cond) ∈ wsL_readFrom := by decide +kernel
set_option maxHeartbeats 4000000 in
set_option maxRecDepth 100000 in
theorem cL_readFrom_ok (l : Launch) (hl0 : l.stackTraces = false) (g : Gg) (c0 h k0 x0 d0 a1 a2 a3 a4 o0 : Nat) (σ : Sh) (ω : (Nat → Int64)) (p1 : Int32) (sz : Nat) {o : Int32 × (Nat → Int64)} (hf : fL_readFrom σ ω p1 = some o) : vx_Met l yL_readFrom wsL_readFrom rmL_readFrom (va_Pc [.ref c0, .int p1, .ref o0] (PM g (wC c0 h k0 x0 d0 ++ (wS g h a1 a2 a3 a4 σ ++ (wO g o0 ω))) sz)) (va_Qi (fun r' (_ : Unit) => r' = o.1) (fun _ t => PQ g (wC c0 h k0 x0 d0 ++ (wS g h a1 a2 a3 a4 σ ++ (wO g o0 o.2))) (va_A (wC c0 h k0 x0 d0 ++ (wS g h a1 a2 a3 a4 σ ++ (wO g o0 ω))) sz) t) (va_A (wC c0 h k0 x0 d0 ++ (wS g h a1 a2 a3 a4 σ ++ (wO g o0 ω))) sz)) (vx_X (fun _ : Unit => False) (fun _ _ _ => True) (va_A (wC c0 h k0 x0 d0 ++ (wS g h a1 a2 a3 a4 σ ++ (wO g o0 ω))) sz)) 1 6 (va_A (wC c0 h k0 x0 d0 ++ (wS g h a1 a2 a3 a4 σ ++ (wO g o0 ω))) sz) := by
  refine vx_ofWH (cc := cL_readFrom) (maxL := 4) (ret := (some .int)) (by decide) rfl ?_
  intro p e s m args below meth c s₁ B hml hv
  obtain ⟨rfl, rfl, hP, hD0, hE, hZ⟩ := hv
  have hx := B.exec
  have hb := B.bytes
  have hr := B.returns
  have hts := atoms_spec (ws := wsL_readFrom) B.pre
  have htab := vx_table (x := yL_readFrom) B (hts _ List.mem_cons_self)
  have hown : s.vm.findClass RL = some m.cls := findClass_of_methodNamed B.named
  have hlocks := B.notSynchronized
  have hD := hD0.self (sz := s.heap.size)
  generalize hAe : (va_A (wC c0 h k0 x0 d0 ++ (wS g h a1 a2 a3 a4 σ ++ (wO g o0 ω))) s.heap.size) = A at hD hZ ⊢
  have hA : ∀ q : Nat, s.heap.size ≤ q → A q := fun q h => by rw [← hAe]; exact Or.inr h
  have hS : va_S A s.heap s.heap [] := va_S.rf
  have hP : va_P g.1 vwCl (wC c0 h k0 x0 d0 ++ (wS g h a1 a2 a3 a4 σ ++ (wO g o0 ω))) s.heap := hP
  have hl := lv_entry ([.ref c0, .int p1, .ref o0]) (n := 4) (Nat.le_of_ble_eq_true rfl)
  rw [lg_entry_eq]
  generalize (lg_sl ([.ref c0, .int p1, .ref o0]) ++ List.replicate (4 - (lg_sl ([.ref c0, .int p1, .ref o0])).length) Slot.unset).toArray = ls at hl ⊢
  have hl : lv_has ls 4 [(0, .ref c0), (1, .int p1), (2, .ref o0)] := hl
  unfold fL_readFrom at hf
  refine lv_aload_n hx hb dL_readFrom_0 rfl (lv_at hl 2 rfl) ?_
  refine lv_iconst (v := (0 : Int32)) hx hb dL_readFrom_1 (by decide) ?_
  refine lv_aload_n hx hb dL_readFrom_2 rfl (lv_at hl 0 rfl) ?_
  refine lv_iload_n hx hb dL_readFrom_3 rfl (lv_at hl 1 rfl) ?_
  obtain ⟨r_1, e_1, hf⟩ := bo hf
  refine wcallVi (W0 := (wC c0 h k0 x0 d0 ++ (wS g h a1 a2 a3 a4 σ ++ (wO g o0 ω)))) (Wc := (wC c0 h k0 x0 d0 ++ (wS g h a1 a2 a3 a4 σ))) (Wr := (wO g o0 ω)) (As := [.int p1]) (rest := [.int (0 : Int32), .ref o0]) [0, 1, 2, 3, 4, 5] [6] [1, 2, 3, 4, 5, 6, 0] 4 0 ⟨hx, hb, hml, hown, hts⟩ hP hD hE hZ hS hA (cX6_readFrom_ok l hl0 g c0 h k0 x0 d0 a1 a2 a3 a4 σ p1 _ e_1) (cwV 1 hts gL_readFrom_X6_readFrom rfl rfl rfl hdX6_readFrom ⟨(Nat.le_of_ble_eq_true rfl), (Nat.le_of_ble_eq_true rfl)⟩) rfl rfl rfl (by decide) (by decide) (by decide) (by decide) rfl rfl rfl rfl hl.1 rfl (Nat.le_of_ble_eq_true rfl) ⟨(Nat.le_of_ble_eq_true rfl), (Nat.le_of_ble_eq_true rfl)⟩ dL_readFrom_4 (fun E ce q9 H locs ox_1 hP hD hS hce hcv hcl => ?_) (fun v_1 H locs ok_1 hP hD hS => ?_)
  · have hf := xe ox_1 hf
    by_cases z_2 : E = "java/lang/IndexOutOfBoundsException"
    · have hf := ip z_2 hf
      subst z_2
      refine vx_catch (name := "java/lang/IndexOutOfBoundsException") hown [] ⟨0, 9, 12, 13⟩ [] (htab.trans rfl) (fun z hz => absurd hz List.not_mem_nil) (by decide) (by decide) (hts _ hkL_readFrom_13) (va_Nw.use rfl (hE.2.1 (.castable "java/lang/IndexOutOfBoundsException" "java/lang/IndexOutOfBoundsException") (by decide +kernel))) hce hcv hcl ?_
      refine lv_astore_n (lv' := [(3, .ref q9), (0, .ref c0), (1, .int p1), (2, .ref o0)]) hx hb dL_readFrom_12 rfl hl (by decide) rfl (fun ls hl => ?_)
      refine lv_iconst (v := (1 : Int32)) hx hb dL_readFrom_13 (by decide) ?_
      have ho := Option.some.inj hf
      subst ho
      exact w_iret (v := (1 : Int32)) hx hb hr hlocks hP hD hS ⟨(Nat.le_of_ble_eq_true rfl), (Nat.le_of_ble_eq_true rfl)⟩ rfl dL_readFrom_14
    · have hf := iq z_2 hf
      exact nomatch (show (none : Option (Int32 × (Nat → Int64))) = some _ from hf)
  · have hf := xo ok_1 hf
    refine lv_i2l hx hb dL_readFrom_7 rfl ?_
    refine va_last hx hb hE.1 hP hD hS 6 2 rfl rfl (vin (by decide)) dL_readFrom_8 (fun H locs hP hD hS => ?_)
    have hP : va_P g.1 vwCl (wC c0 h k0 x0 d0 ++ (wS g h a1 a2 a3 a4 σ ++ (wO g o0 (vp_updL ω (Int32.toNatClampNeg (0 : Int32)) (Int32.toInt64 v_1))))) H := hP
    have hD : va_D A (wC c0 h k0 x0 d0 ++ (wS g h a1 a2 a3 a4 σ ++ (wO g o0 (vp_updL ω (Int32.toNatClampNeg (0 : Int32)) (Int32.toInt64 v_1))))) := hD
    refine lv_goto (tgt := 15) hx hb dL_readFrom_9 (by decide) ?_
    refine lv_iconst (v := (0 : Int32)) hx hb dL_readFrom_15 (by decide) ?_
    have ho := Option.some.inj hf
    subst ho
    exact w_iret (v := (0 : Int32)) hx hb hr hlocks hP hD hS ⟨(Nat.le_of_ble_eq_true rfl), (Nat.le_of_ble_eq_true rfl)⟩ rfl dL_readFrom_16

def fL_sizeOf (σ : Sh) (ω : (Nat → Int64)) (p1 : Int32) : Option (Int32 × (Nat → Int64)) := ((fX6_sizeOf σ p1).bind fun r_1 => xcase r_1 (fun e => (if e = "java/lang/IndexOutOfBoundsException" then (some ((1 : Int32), ω)) else none)) (fun v_1 => (some ((0 : Int32), (vp_updL ω (Int32.toNatClampNeg (0 : Int32)) (Int32.toInt64 v_1))))))
abbrev rmL_sizeOf : Room := { frames := 8, cells := 1, slots := 6, locals := 132 }
theorem hdL_sizeOf : yL_sizeOf.cls = RL ∧ yL_sizeOf.cls ≠ "java/lang/invoke/MethodHandle" ∧ yL_sizeOf.cls ≠ "java/lang/invoke/VarHandle" ∧ (parseMethodDescriptor yL_sizeOf.desc).map (fun d => d.parameters.length) = some 3 := by decide +kernel
theorem hkL_sizeOf_13 : (.classLink RL 13 "java/lang/IndexOutOfBoundsException" : Cond) ∈ wsL_sizeOf := by decide +kernel
set_option maxHeartbeats 4000000 in
set_option maxRecDepth 100000 in
theorem cL_sizeOf_ok (l : Launch) (hl0 : l.stackTraces = false) (g : Gg) (c0 h k0 x0 d0 a1 a2 a3 a4 o0 : Nat) (σ : Sh) (ω : (Nat → Int64)) (p1 : Int32) (sz : Nat) {o : Int32 × (Nat → Int64)} (hf : fL_sizeOf σ ω p1 = some o) : vx_Met l yL_sizeOf wsL_sizeOf rmL_sizeOf (va_Pc [.ref c0, .int p1, .ref o0] (PM g (wC c0 h k0 x0 d0 ++ (wS g h a1 a2 a3 a4 σ ++ (wO g o0 ω))) sz)) (va_Qi (fun r' (_ : Unit) => r' = o.1) (fun _ t => PQ g (wC c0 h k0 x0 d0 ++ (wS g h a1 a2 a3 a4 σ ++ (wO g o0 o.2))) (va_A (wC c0 h k0 x0 d0 ++ (wS g h a1 a2 a3 a4 σ ++ (wO g o0 ω))) sz) t) (va_A (wC c0 h k0 x0 d0 ++ (wS g h a1 a2 a3 a4 σ ++ (wO g o0 ω))) sz)) (vx_X (fun _ : Unit => False) (fun _ _ _ => True) (va_A (wC c0 h k0 x0 d0 ++ (wS g h a1 a2 a3 a4 σ ++ (wO g o0 ω))) sz)) 1 6 (va_A (wC c0 h k0 x0 d0 ++ (wS g h a1 a2 a3 a4 σ ++ (wO g o0 ω))) sz) := by
  refine vx_ofWH (cc := cL_sizeOf) (maxL := 4) (ret := (some .int)) (by decide) rfl ?_
  intro p e s m args below meth c s₁ B hml hv
  obtain ⟨rfl, rfl, hP, hD0, hE, hZ⟩ := hv
  have hx := B.exec
  have hb := B.bytes
  have hr := B.returns
  have hts := atoms_spec (ws := wsL_sizeOf) B.pre
  have htab := vx_table (x := yL_sizeOf) B (hts _ List.mem_cons_self)
  have hown : s.vm.findClass RL = some m.cls := findClass_of_methodNamed B.named
  have hlocks := B.notSynchronized
  have hD := hD0.self (sz := s.heap.size)
  generalize hAe : (va_A (wC c0 h k0 x0 d0 ++ (wS g h a1 a2 a3 a4 σ ++ (wO g o0 ω))) s.heap.size) = A at hD hZ ⊢
  have hA : ∀ q : Nat, s.heap.size ≤ q → A q := fun q h => by rw [← hAe]; exact Or.inr h
  have hS : va_S A s.heap s.heap [] := va_S.rf
  have hP : va_P g.1 vwCl (wC c0 h k0 x0 d0 ++ (wS g h a1 a2 a3 a4 σ ++ (wO g o0 ω))) s.heap := hP
  have hl := lv_entry ([.ref c0, .int p1, .ref o0]) (n := 4) (Nat.le_of_ble_eq_true rfl)
  rw [lg_entry_eq]
  generalize (lg_sl ([.ref c0, .int p1, .ref o0]) ++ List.replicate (4 - (lg_sl ([.ref c0, .int p1, .ref o0])).length) Slot.unset).toArray = ls at hl ⊢
  have hl : lv_has ls 4 [(0, .ref c0), (1, .int p1), (2, .ref o0)] := hl
  unfold fL_sizeOf at hf
  refine lv_aload_n hx hb dL_sizeOf_0 rfl (lv_at hl 2 rfl) ?_
  refine lv_iconst (v := (0 : Int32)) hx hb dL_sizeOf_1 (by decide) ?_
  refine lv_aload_n hx hb dL_sizeOf_2 rfl (lv_at hl 0 rfl) ?_
  refine lv_iload_n hx hb dL_sizeOf_3 rfl (lv_at hl 1 rfl) ?_
  obtain ⟨r_1, e_1, hf⟩ := bo hf
  refine wcallVi (W0 := (wC c0 h k0 x0 d0 ++ (wS g h a1 a2 a3 a4 σ ++ (wO g o0 ω)))) (Wc := (wC c0 h k0 x0 d0 ++ (wS g h a1 a2 a3 a4 σ))) (Wr := (wO g o0 ω)) (As := [.int p1]) (rest := [.int (0 : Int32), .ref o0]) [0, 1, 2, 3, 4, 5] [6] [1, 2, 3, 4, 5, 6, 0] 4 0 ⟨hx, hb, hml, hown, hts⟩ hP hD hE hZ hS hA (cX6_sizeOf_ok l hl0 g c0 h k0 x0 d0 a1 a2 a3 a4 σ p1 _ e_1) (cwV 1 hts gL_sizeOf_X6_sizeOf rfl rfl rfl hdX6_sizeOf ⟨(Nat.le_of_ble_eq_true rfl), (Nat.le_of_ble_eq_true rfl)⟩) rfl rfl rfl (by decide) (by decide) (by decide) (by decide) rfl rfl rfl rfl hl.1 rfl (Nat.le_of_ble_eq_true rfl) ⟨(Nat.le_of_ble_eq_true rfl), (Nat.le_of_ble_eq_true rfl)⟩ dL_sizeOf_4 (fun E ce q9 H locs ox_1 hP hD hS hce hcv hcl => ?_) (fun v_1 H locs ok_1 hP hD hS => ?_)
  · have hf := xe ox_1 hf
    by_cases z_2 : E = "java/lang/IndexOutOfBoundsException"
    · have hf := ip z_2 hf
      subst z_2
      refine vx_catch (name := "java/lang/IndexOutOfBoundsException") hown [] ⟨0, 9, 12, 13⟩ [] (htab.trans rfl) (fun z hz => absurd hz List.not_mem_nil) (by decide) (by decide) (hts _ hkL_sizeOf_13) (va_Nw.use rfl (hE.2.1 (.castable "java/lang/IndexOutOfBoundsException" "java/lang/IndexOutOfBoundsException") (by decide +kernel))) hce hcv hcl ?_
      refine lv_astore_n (lv' := [(3, .ref q9), (0, .ref c0), (1, .int p1), (2, .ref o0)]) hx hb dL_sizeOf_12 rfl hl (by decide) rfl (fun ls hl => ?_)
      refine lv_iconst (v := (1 : Int32)) hx hb dL_sizeOf_13 (by decide) ?_
      have ho := Option.some.inj hf
      subst ho
      exact w_iret (v := (1 : Int32)) hx hb hr hlocks hP hD hS ⟨(Nat.le_of_ble_eq_true rfl), (Nat.le_of_ble_eq_true rfl)⟩ rfl dL_sizeOf_14
    · have hf := iq z_2 hf
      exact nomatch (show (none : Option (Int32 × (Nat → Int64))) = some _ from hf)
  · have hf := xo ok_1 hf
    refine lv_i2l hx hb dL_sizeOf_7 rfl ?_
    refine va_last hx hb hE.1 hP hD hS 6 2 rfl rfl (vin (by decide)) dL_sizeOf_8 (fun H locs hP hD hS => ?_)
    have hP : va_P g.1 vwCl (wC c0 h k0 x0 d0 ++ (wS g h a1 a2 a3 a4 σ ++ (wO g o0 (vp_updL ω (Int32.toNatClampNeg (0 : Int32)) (Int32.toInt64 v_1))))) H := hP
    have hD : va_D A (wC c0 h k0 x0 d0 ++ (wS g h a1 a2 a3 a4 σ ++ (wO g o0 (vp_updL ω (Int32.toNatClampNeg (0 : Int32)) (Int32.toInt64 v_1))))) := hD
    refine lv_goto (tgt := 15) hx hb dL_sizeOf_9 (by decide) ?_
    refine lv_iconst (v := (0 : Int32)) hx hb dL_sizeOf_15 (by decide) ?_
    have ho := Option.some.inj hf
    subst ho
    exact w_iret (v := (0 : Int32)) hx hb hr hlocks hP hD hS ⟨(Nat.le_of_ble_eq_true rfl), (Nat.le_of_ble_eq_true rfl)⟩ rfl dL_sizeOf_16

def fL_bendOf (σ : Sh) (ω : (Nat → Int64)) (p1 p2 : Int32) : Option (Int32 × (Nat → Int64)) := ((fX6_bendOf σ p1 p2).bind fun r_1 => xcase r_1 (fun e => (if e = "java/lang/IndexOutOfBoundsException" then (some ((1 : Int32), ω)) else none)) (fun v_1 => (some ((0 : Int32), (vp_updL ω (Int32.toNatClampNeg (0 : Int32)) (Int32.toInt64 v_1))))))
abbrev rmL_bendOf : Room := { frames := 8, cells := 1, slots := 6, locals := 134 }
theorem hdL_bendOf : yL_bendOf.cls = RL ∧ yL_bendOf.cls ≠ "java/lang/invoke/MethodHandle" ∧ yL_bendOf.cls ≠ "java/lang/invoke/VarHandle" ∧ (parseMethodDescriptor yL_bendOf.desc).map (fun d => d.parameters.length) = some 4 := by decide +kernel
theorem hkL_bendOf_13 : (.classLink RL 13 "java/lang/IndexOutOfBoundsException" : Cond) ∈ wsL_bendOf := by decide +kernel
set_option maxHeartbeats 4000000 in
set_option maxRecDepth 100000 in
theorem cL_bendOf_ok (l : Launch) (hl0 : l.stackTraces = false) (g : Gg) (c0 h k0 x0 d0 a1 a2 a3 a4 o0 : Nat) (σ : Sh) (ω : (Nat → Int64)) (p1 p2 : Int32) (sz : Nat) {o : Int32 × (Nat → Int64)} (hf : fL_bendOf σ ω p1 p2 = some o) : vx_Met l yL_bendOf wsL_bendOf rmL_bendOf (va_Pc [.ref c0, .int p1, .int p2, .ref o0] (PM g (wC c0 h k0 x0 d0 ++ (wS g h a1 a2 a3 a4 σ ++ (wO g o0 ω))) sz)) (va_Qi (fun r' (_ : Unit) => r' = o.1) (fun _ t => PQ g (wC c0 h k0 x0 d0 ++ (wS g h a1 a2 a3 a4 σ ++ (wO g o0 o.2))) (va_A (wC c0 h k0 x0 d0 ++ (wS g h a1 a2 a3 a4 σ ++ (wO g o0 ω))) sz) t) (va_A (wC c0 h k0 x0 d0 ++ (wS g h a1 a2 a3 a4 σ ++ (wO g o0 ω))) sz)) (vx_X (fun _ : Unit => False) (fun _ _ _ => True) (va_A (wC c0 h k0 x0 d0 ++ (wS g h a1 a2 a3 a4 σ ++ (wO g o0 ω))) sz)) 1 6 (va_A (wC c0 h k0 x0 d0 ++ (wS g h a1 a2 a3 a4 σ ++ (wO g o0 ω))) sz) := by
  refine vx_ofWH (cc := cL_bendOf) (maxL := 5) (ret := (some .int)) (by decide) rfl ?_
  intro p e s m args below meth c s₁ B hml hv
  obtain ⟨rfl, rfl, hP, hD0, hE, hZ⟩ := hv
  have hx := B.exec
  have hb := B.bytes
  have hr := B.returns
  have hts := atoms_spec (ws := wsL_bendOf) B.pre
  have htab := vx_table (x := yL_bendOf) B (hts _ List.mem_cons_self)
  have hown : s.vm.findClass RL = some m.cls := findClass_of_methodNamed B.named
  have hlocks := B.notSynchronized
  have hD := hD0.self (sz := s.heap.size)
  generalize hAe : (va_A (wC c0 h k0 x0 d0 ++ (wS g h a1 a2 a3 a4 σ ++ (wO g o0 ω))) s.heap.size) = A at hD hZ ⊢
  have hA : ∀ q : Nat, s.heap.size ≤ q → A q := fun q h => by rw [← hAe]; exact Or.inr h
  have hS : va_S A s.heap s.heap [] := va_S.rf
  have hP : va_P g.1 vwCl (wC c0 h k0 x0 d0 ++ (wS g h a1 a2 a3 a4 σ ++ (wO g o0 ω))) s.heap := hP
  have hl := lv_entry ([.ref c0, .int p1, .int p2, .ref o0]) (n := 5) (Nat.le_of_ble_eq_true rfl)
  rw [lg_entry_eq]
  generalize (lg_sl ([.ref c0, .int p1, .int p2, .ref o0]) ++ List.replicate (5 - (lg_sl ([.ref c0, .int p1, .int p2, .ref o0])).length) Slot.unset).toArray = ls at hl ⊢
  have hl : lv_has ls 5 [(0, .ref c0), (1, .int p1), (2, .int p2), (3, .ref o0)] := hl
  unfold fL_bendOf at hf
  refine lv_aload_n hx hb dL_bendOf_0 rfl (lv_at hl 3 rfl) ?_
  refine lv_iconst (v := (0 : Int32)) hx hb dL_bendOf_1 (by decide) ?_
  refine lv_aload_n hx hb dL_bendOf_2 rfl (lv_at hl 0 rfl) ?_
  refine lv_iload_n hx hb dL_bendOf_3 rfl (lv_at hl 1 rfl) ?_
  refine lv_iload_n hx hb dL_bendOf_4 rfl (lv_at hl 2 rfl) ?_
  obtain ⟨r_1, e_1, hf⟩ := bo hf
  refine wcallVi (W0 := (wC c0 h k0 x0 d0 ++ (wS g h a1 a2 a3 a4 σ ++ (wO g o0 ω)))) (Wc := (wC c0 h k0 x0 d0 ++ (wS g h a1 a2 a3 a4 σ))) (Wr := (wO g o0 ω)) (As := [.int p1, .int p2]) (rest := [.int (0 : Int32), .ref o0]) [0, 1, 2, 3, 4, 5] [6] [1, 2, 3, 4, 5, 6, 0] 4 0 ⟨hx, hb, hml, hown, hts⟩ hP hD hE hZ hS hA (cX6_bendOf_ok l hl0 g c0 h k0 x0 d0 a1 a2 a3 a4 σ p1 p2 _ e_1) (cwV 2 hts gL_bendOf_X6_bendOf rfl rfl rfl hdX6_bendOf ⟨(Nat.le_of_ble_eq_true rfl), (Nat.le_of_ble_eq_true rfl)⟩) rfl rfl rfl (by decide) (by decide) (by decide) (by decide) rfl rfl rfl rfl hl.1 rfl (Nat.le_of_ble_eq_true rfl) ⟨(Nat.le_of_ble_eq_true rfl), (Nat.le_of_ble_eq_true rfl)⟩ dL_bendOf_5 (fun E ce q9 H locs ox_1 hP hD hS hce hcv hcl => ?_) (fun v_1 H locs ok_1 hP hD hS => ?_)
  · have hf := xe ox_1 hf
    by_cases z_2 : E = "java/lang/IndexOutOfBoundsException"
    · have hf := ip z_2 hf
      subst z_2
      refine vx_catch (name := "java/lang/IndexOutOfBoundsException") hown [] ⟨0, 10, 13, 13⟩ [] (htab.trans rfl) (fun z hz => absurd hz List.not_mem_nil) (by decide) (by decide) (hts _ hkL_bendOf_13) (va_Nw.use rfl (hE.2.1 (.castable "java/lang/IndexOutOfBoundsException" "java/lang/IndexOutOfBoundsException") (by decide +kernel))) hce hcv hcl ?_
      refine lv_astore (lv' := [(4, .ref q9), (0, .ref c0), (1, .int p1), (2, .int p2), (3, .ref o0)]) hx hb dL_bendOf_13 hl (by decide) rfl (fun ls hl => ?_)
      refine lv_iconst (v := (1 : Int32)) hx hb dL_bendOf_15 (by decide) ?_
      have ho := Option.some.inj hf
      subst ho
      exact w_iret (v := (1 : Int32)) hx hb hr hlocks hP hD hS ⟨(Nat.le_of_ble_eq_true rfl), (Nat.le_of_ble_eq_true rfl)⟩ rfl dL_bendOf_16
    · have hf := iq z_2 hf
      exact nomatch (show (none : Option (Int32 × (Nat → Int64))) = some _ from hf)
  · have hf := xo ok_1 hf
    refine lv_i2l hx hb dL_bendOf_8 rfl ?_
    refine va_last hx hb hE.1 hP hD hS 6 2 rfl rfl (vin (by decide)) dL_bendOf_9 (fun H locs hP hD hS => ?_)
    have hP : va_P g.1 vwCl (wC c0 h k0 x0 d0 ++ (wS g h a1 a2 a3 a4 σ ++ (wO g o0 (vp_updL ω (Int32.toNatClampNeg (0 : Int32)) (Int32.toInt64 v_1))))) H := hP
    have hD : va_D A (wC c0 h k0 x0 d0 ++ (wS g h a1 a2 a3 a4 σ ++ (wO g o0 (vp_updL ω (Int32.toNatClampNeg (0 : Int32)) (Int32.toInt64 v_1))))) := hD
    refine lv_goto (tgt := 17) hx hb dL_bendOf_10 (by decide) ?_
    refine lv_iconst (v := (0 : Int32)) hx hb dL_bendOf_17 (by decide) ?_
    have ho := Option.some.inj hf
    subst ho
    exact w_iret (v := (0 : Int32)) hx hb hr hlocks hP hD hS ⟨(Nat.le_of_ble_eq_true rfl), (Nat.le_of_ble_eq_true rfl)⟩ rfl dL_bendOf_18

def fL_whyNotLabelled (σ : Sh) (ω : (Nat → Int64)) (p1 p2 : Int32) : Option (Int32 × (Nat → Int64)) := ((fX6_whyNotLabelled σ p1 p2).bind fun r_1 => xcase r_1 (fun e => (if e = "java/lang/IndexOutOfBoundsException" then (some ((1 : Int32), ω)) else none)) (fun v_1 => (some ((0 : Int32), (vp_updL ω (Int32.toNatClampNeg (0 : Int32)) (Int32.toInt64 v_1))))))
abbrev rmL_whyNotLabelled : Room := { frames := 8, cells := 1, slots := 6, locals := 143 }
theorem hdL_whyNotLabelled : yL_whyNotLabelled.cls = RL ∧ yL_whyNotLabelled.cls ≠ "java/lang/invoke/MethodHandle" ∧ yL_whyNotLabelled.cls ≠ "java/lang/invoke/VarHandle" ∧ (parseMethodDescriptor yL_whyNotLabelled.desc).map (fun d => d.parameters.length) = some 4 := by decide +kernel
theorem hkL_whyNotLabelled_13 : (.classLink RL 13 "java/lang/IndexOutOfBoundsException" : Cond) ∈ wsL_whyNotLabelled := by decide +kernel
set_option maxHeartbeats 4000000 in
set_option maxRecDepth 100000 in
theorem cL_whyNotLabelled_ok (l : Launch) (hl0 : l.stackTraces = false) (g : Gg) (c0 h k0 x0 d0 a1 a2 a3 a4 o0 : Nat) (σ : Sh) (ω : (Nat → Int64)) (p1 p2 : Int32) (sz : Nat) {o : Int32 × (Nat → Int64)} (hf : fL_whyNotLabelled σ ω p1 p2 = some o) : vx_Met l yL_whyNotLabelled wsL_whyNotLabelled rmL_whyNotLabelled (va_Pc [.ref c0, .int p1, .int p2, .ref o0] (PM g (wC c0 h k0 x0 d0 ++ (wS g h a1 a2 a3 a4 σ ++ (wO g o0 ω))) sz)) (va_Qi (fun r' (_ : Unit) => r' = o.1) (fun _ t => PQ g (wC c0 h k0 x0 d0 ++ (wS g h a1 a2 a3 a4 σ ++ (wO g o0 o.2))) (va_A (wC c0 h k0 x0 d0 ++ (wS g h a1 a2 a3 a4 σ ++ (wO g o0 ω))) sz) t) (va_A (wC c0 h k0 x0 d0 ++ (wS g h a1 a2 a3 a4 σ ++ (wO g o0 ω))) sz)) (vx_X (fun _ : Unit => False) (fun _ _ _ => True) (va_A (wC c0 h k0 x0 d0 ++ (wS g h a1 a2 a3 a4 σ ++ (wO g o0 ω))) sz)) 1 6 (va_A (wC c0 h k0 x0 d0 ++ (wS g h a1 a2 a3 a4 σ ++ (wO g o0 ω))) sz) := by
  refine vx_ofWH (cc := cL_whyNotLabelled) (maxL := 5) (ret := (some .int)) (by decide) rfl ?_
  intro p e s m args below meth c s₁ B hml hv
  obtain ⟨rfl, rfl, hP, hD0, hE, hZ⟩ := hv
  have hx := B.exec
  have hb := B.bytes
  have hr := B.returns
  have hts := atoms_spec (ws := wsL_whyNotLabelled) B.pre
  have htab := vx_table (x := yL_whyNotLabelled) B (hts _ List.mem_cons_self)
  have hown : s.vm.findClass RL = some m.cls := findClass_of_methodNamed B.named
  have hlocks := B.notSynchronized
  have hD := hD0.self (sz := s.heap.size)
  generalize hAe : (va_A (wC c0 h k0 x0 d0 ++ (wS g h a1 a2 a3 a4 σ ++ (wO g o0 ω))) s.heap.size) = A at hD hZ ⊢
  have hA : ∀ q : Nat, s.heap.size ≤ q → A q := fun q h => by rw [← hAe]; exact Or.inr h
  have hS : va_S A s.heap s.heap [] := va_S.rf
  have hP : va_P g.1 vwCl (wC c0 h k0 x0 d0 ++ (wS g h a1 a2 a3 a4 σ ++ (wO g o0 ω))) s.heap := hP
  have hl := lv_entry ([.ref c0, .int p1, .int p2, .ref o0]) (n := 5) (Nat.le_of_ble_eq_true rfl)
  rw [lg_entry_eq]
  generalize (lg_sl ([.ref c0, .int p1, .int p2, .ref o0]) ++ List.replicate (5 - (lg_sl ([.ref c0, .int p1, .int p2, .ref o0])).length) Slot.unset).toArray = ls at hl ⊢
  have hl : lv_has ls 5 [(0, .ref c0), (1, .int p1), (2, .int p2), (3, .ref o0)] := hl
  unfold fL_whyNotLabelled at hf
  refine lv_aload_n hx hb dL_whyNotLabelled_0 rfl (lv_at hl 3 rfl) ?_
  refine lv_iconst (v := (0 : Int32)) hx hb dL_whyNotLabelled_1 (by decide) ?_
  refine lv_aload_n hx hb dL_whyNotLabelled_2 rfl (lv_at hl 0 rfl) ?_
  refine lv_iload_n hx hb dL_whyNotLabelled_3 rfl (lv_at hl 1 rfl) ?_
  refine lv_iload_n hx hb dL_whyNotLabelled_4 rfl (lv_at hl 2 rfl) ?_
  obtain ⟨r_1, e_1, hf⟩ := bo hf
  refine wcallVi (W0 := (wC c0 h k0 x0 d0 ++ (wS g h a1 a2 a3 a4 σ ++ (wO g o0 ω)))) (Wc := (wC c0 h k0 x0 d0 ++ (wS g h a1 a2 a3 a4 σ))) (Wr := (wO g o0 ω)) (As := [.int p1, .int p2]) (rest := [.int (0 : Int32), .ref o0]) [0, 1, 2, 3, 4, 5] [6] [1, 2, 3, 4, 5, 6, 0] 4 0 ⟨hx, hb, hml, hown, hts⟩ hP hD hE hZ hS hA (cX6_whyNotLabelled_ok l hl0 g c0 h k0 x0 d0 a1 a2 a3 a4 σ p1 p2 _ e_1) (cwV 2 hts gL_whyNotLabelled_X6_whyNotLabelled rfl rfl rfl hdX6_whyNotLabelled ⟨(Nat.le_of_ble_eq_true rfl), (Nat.le_of_ble_eq_true rfl)⟩) rfl rfl rfl (by decide) (by decide) (by decide) (by decide) rfl rfl rfl rfl hl.1 rfl (Nat.le_of_ble_eq_true rfl) ⟨(Nat.le_of_ble_eq_true rfl), (Nat.le_of_ble_eq_true rfl)⟩ dL_whyNotLabelled_5 (fun E ce q9 H locs ox_1 hP hD hS hce hcv hcl => ?_) (fun v_1 H locs ok_1 hP hD hS => ?_)
  · have hf := xe ox_1 hf
    by_cases z_2 : E = "java/lang/IndexOutOfBoundsException"
    · have hf := ip z_2 hf
      subst z_2
      refine vx_catch (name := "java/lang/IndexOutOfBoundsException") hown [] ⟨0, 10, 13, 13⟩ [] (htab.trans rfl) (fun z hz => absurd hz List.not_mem_nil) (by decide) (by decide) (hts _ hkL_whyNotLabelled_13) (va_Nw.use rfl (hE.2.1 (.castable "java/lang/IndexOutOfBoundsException" "java/lang/IndexOutOfBoundsException") (by decide +kernel))) hce hcv hcl ?_
      refine lv_astore (lv' := [(4, .ref q9), (0, .ref c0), (1, .int p1), (2, .int p2), (3, .ref o0)]) hx hb dL_whyNotLabelled_13 hl (by decide) rfl (fun ls hl => ?_)
      refine lv_iconst (v := (1 : Int32)) hx hb dL_whyNotLabelled_15 (by decide) ?_
      have ho := Option.some.inj hf
      subst ho
      exact w_iret (v := (1 : Int32)) hx hb hr hlocks hP hD hS ⟨(Nat.le_of_ble_eq_true rfl), (Nat.le_of_ble_eq_true rfl)⟩ rfl dL_whyNotLabelled_16
    · have hf := iq z_2 hf
      exact nomatch (show (none : Option (Int32 × (Nat → Int64))) = some _ from hf)
  · have hf := xo ok_1 hf
    refine lv_i2l hx hb dL_whyNotLabelled_8 rfl ?_
    refine va_last hx hb hE.1 hP hD hS 6 2 rfl rfl (vin (by decide)) dL_whyNotLabelled_9 (fun H locs hP hD hS => ?_)
    have hP : va_P g.1 vwCl (wC c0 h k0 x0 d0 ++ (wS g h a1 a2 a3 a4 σ ++ (wO g o0 (vp_updL ω (Int32.toNatClampNeg (0 : Int32)) (Int32.toInt64 v_1))))) H := hP
    have hD : va_D A (wC c0 h k0 x0 d0 ++ (wS g h a1 a2 a3 a4 σ ++ (wO g o0 (vp_updL ω (Int32.toNatClampNeg (0 : Int32)) (Int32.toInt64 v_1))))) := hD
    refine lv_goto (tgt := 17) hx hb dL_whyNotLabelled_10 (by decide) ?_
    refine lv_iconst (v := (0 : Int32)) hx hb dL_whyNotLabelled_17 (by decide) ?_
    have ho := Option.some.inj hf
    subst ho
    exact w_iret (v := (0 : Int32)) hx hb hr hlocks hP hD hS ⟨(Nat.le_of_ble_eq_true rfl), (Nat.le_of_ble_eq_true rfl)⟩ rfl dL_whyNotLabelled_18

def fL_placesOf (σ : Sh) (ω : (Nat → Int64)) (p1 : Int32) : Option (Int32 × (Nat → Int64)) := ((fX6_placesOf σ p1).bind fun r_1 => xcase r_1 (fun e => (if e = "java/lang/IndexOutOfBoundsException" then (some ((1 : Int32), ω)) else none)) (fun v_1 => (some ((0 : Int32), (vp_updL ω (Int32.toNatClampNeg (0 : Int32)) (Int32.toInt64 v_1))))))
abbrev rmL_placesOf : Room := { frames := 8, cells := 1, slots := 6, locals := 166 }
theorem hdL_placesOf : yL_placesOf.cls = RL ∧ yL_placesOf.cls ≠ "java/lang/invoke/MethodHandle" ∧ yL_placesOf.cls ≠ "java/lang/invoke/VarHandle" ∧ (parseMethodDescriptor yL_placesOf.desc).map (fun d => d.parameters.length) = some 3 := by decide +kernel
theorem hkL_placesOf_13 : (.classLink RL 13 "java/lang/IndexOutOfBoundsException" : Cond) ∈ wsL_placesOf := by decide +kernel
set_option maxHeartbeats 4000000 in
set_option maxRecDepth 100000 in
theorem cL_placesOf_ok (l : Launch) (hl0 : l.stackTraces = false) (g : Gg) (c0 h k0 x0 d0 a1 a2 a3 a4 o0 : Nat) (σ : Sh) (ω : (Nat → Int64)) (p1 : Int32) (sz : Nat) {o : Int32 × (Nat → Int64)} (hf : fL_placesOf σ ω p1 = some o) : vx_Met l yL_placesOf wsL_placesOf rmL_placesOf (va_Pc [.ref c0, .int p1, .ref o0] (PM g (wC c0 h k0 x0 d0 ++ (wS g h a1 a2 a3 a4 σ ++ (wO g o0 ω))) sz)) (va_Qi (fun r' (_ : Unit) => r' = o.1) (fun _ t => PQ g (wC c0 h k0 x0 d0 ++ (wS g h a1 a2 a3 a4 σ ++ (wO g o0 o.2))) (va_A (wC c0 h k0 x0 d0 ++ (wS g h a1 a2 a3 a4 σ ++ (wO g o0 ω))) sz) t) (va_A (wC c0 h k0 x0 d0 ++ (wS g h a1 a2 a3 a4 σ ++ (wO g o0 ω))) sz)) (vx_X (fun _ : Unit => False) (fun _ _ _ => True) (va_A (wC c0 h k0 x0 d0 ++ (wS g h a1 a2 a3 a4 σ ++ (wO g o0 ω))) sz)) 1 6 (va_A (wC c0 h k0 x0 d0 ++ (wS g h a1 a2 a3 a4 σ ++ (wO g o0 ω))) sz) := by
  refine vx_ofWH (cc := cL_placesOf) (maxL := 4) (ret := (some .int)) (by decide) rfl ?_
  intro p e s m args below meth c s₁ B hml hv
  obtain ⟨rfl, rfl, hP, hD0, hE, hZ⟩ := hv
  have hx := B.exec
  have hb := B.bytes
  have hr := B.returns
  have hts := atoms_spec (ws := wsL_placesOf) B.pre
  have htab := vx_table (x := yL_placesOf) B (hts _ List.mem_cons_self)
  have hown : s.vm.findClass RL = some m.cls := findClass_of_methodNamed B.named
  have hlocks := B.notSynchronized
  have hD := hD0.self (sz := s.heap.size)
  generalize hAe : (va_A (wC c0 h k0 x0 d0 ++ (wS g h a1 a2 a3 a4 σ ++ (wO g o0 ω))) s.heap.size) = A at hD hZ ⊢
  have hA : ∀ q : Nat, s.heap.size ≤ q → A q := fun q h => by rw [← hAe]; exact Or.inr h
  have hS : va_S A s.heap s.heap [] := va_S.rf
  have hP : va_P g.1 vwCl (wC c0 h k0 x0 d0 ++ (wS g h a1 a2 a3 a4 σ ++ (wO g o0 ω))) s.heap := hP
  have hl := lv_entry ([.ref c0, .int p1, .ref o0]) (n := 4) (Nat.le_of_ble_eq_true rfl)
  rw [lg_entry_eq]
  generalize (lg_sl ([.ref c0, .int p1, .ref o0]) ++ List.replicate (4 - (lg_sl ([.ref c0, .int p1, .ref o0])).length) Slot.unset).toArray = ls at hl ⊢
  have hl : lv_has ls 4 [(0, .ref c0), (1, .int p1), (2, .ref o0)] := hl
  unfold fL_placesOf at hf
  refine lv_aload_n hx hb dL_placesOf_0 rfl (lv_at hl 2 rfl) ?_
  refine lv_iconst (v := (0 : Int32)) hx hb dL_placesOf_1 (by decide) ?_
  refine lv_aload_n hx hb dL_placesOf_2 rfl (lv_at hl 0 rfl) ?_
  refine lv_iload_n hx hb dL_placesOf_3 rfl (lv_at hl 1 rfl) ?_
  obtain ⟨r_1, e_1, hf⟩ := bo hf
  refine wcallVi (W0 := (wC c0 h k0 x0 d0 ++ (wS g h a1 a2 a3 a4 σ ++ (wO g o0 ω)))) (Wc := (wC c0 h k0 x0 d0 ++ (wS g h a1 a2 a3 a4 σ))) (Wr := (wO g o0 ω)) (As := [.int p1]) (rest := [.int (0 : Int32), .ref o0]) [0, 1, 2, 3, 4, 5] [6] [1, 2, 3, 4, 5, 6, 0] 4 0 ⟨hx, hb, hml, hown, hts⟩ hP hD hE hZ hS hA (cX6_placesOf_ok l hl0 g c0 h k0 x0 d0 a1 a2 a3 a4 σ p1 _ e_1) (cwV 1 hts gL_placesOf_X6_placesOf rfl rfl rfl hdX6_placesOf ⟨(Nat.le_of_ble_eq_true rfl), (Nat.le_of_ble_eq_true rfl)⟩) rfl rfl rfl (by decide) (by decide) (by decide) (by decide) rfl rfl rfl rfl hl.1 rfl (Nat.le_of_ble_eq_true rfl) ⟨(Nat.le_of_ble_eq_true rfl), (Nat.le_of_ble_eq_true rfl)⟩ dL_placesOf_4 (fun E ce q9 H locs ox_1 hP hD hS hce hcv hcl => ?_) (fun v_1 H locs ok_1 hP hD hS => ?_)
  · have hf := xe ox_1 hf
    by_cases z_2 : E = "java/lang/IndexOutOfBoundsException"
    · have hf := ip z_2 hf
      subst z_2
      refine vx_catch (name := "java/lang/IndexOutOfBoundsException") hown [] ⟨0, 9, 12, 13⟩ [] (htab.trans rfl) (fun z hz => absurd hz List.not_mem_nil) (by decide) (by decide) (hts _ hkL_placesOf_13) (va_Nw.use rfl (hE.2.1 (.castable "java/lang/IndexOutOfBoundsException" "java/lang/IndexOutOfBoundsException") (by decide +kernel))) hce hcv hcl ?_
      refine lv_astore_n (lv' := [(3, .ref q9), (0, .ref c0), (1, .int p1), (2, .ref o0)]) hx hb dL_placesOf_12 rfl hl (by decide) rfl (fun ls hl => ?_)
      refine lv_iconst (v := (1 : Int32)) hx hb dL_placesOf_13 (by decide) ?_
      have ho := Option.some.inj hf
      subst ho
      exact w_iret (v := (1 : Int32)) hx hb hr hlocks hP hD hS ⟨(Nat.le_of_ble_eq_true rfl), (Nat.le_of_ble_eq_true rfl)⟩ rfl dL_placesOf_14
    · have hf := iq z_2 hf
      exact nomatch (show (none : Option (Int32 × (Nat → Int64))) = some _ from hf)
  · have hf := xo ok_1 hf
    refine lv_i2l hx hb dL_placesOf_7 rfl ?_
    refine va_last hx hb hE.1 hP hD hS 6 2 rfl rfl (vin (by decide)) dL_placesOf_8 (fun H locs hP hD hS => ?_)
    have hP : va_P g.1 vwCl (wC c0 h k0 x0 d0 ++ (wS g h a1 a2 a3 a4 σ ++ (wO g o0 (vp_updL ω (Int32.toNatClampNeg (0 : Int32)) (Int32.toInt64 v_1))))) H := hP
    have hD : va_D A (wC c0 h k0 x0 d0 ++ (wS g h a1 a2 a3 a4 σ ++ (wO g o0 (vp_updL ω (Int32.toNatClampNeg (0 : Int32)) (Int32.toInt64 v_1))))) := hD
    refine lv_goto (tgt := 15) hx hb dL_placesOf_9 (by decide) ?_
    refine lv_iconst (v := (0 : Int32)) hx hb dL_placesOf_15 (by decide) ?_
    have ho := Option.some.inj hf
    subst ho
    exact w_iret (v := (0 : Int32)) hx hb hr hlocks hP hD hS ⟨(Nat.le_of_ble_eq_true rfl), (Nat.le_of_ble_eq_true rfl)⟩ rfl dL_placesOf_16
