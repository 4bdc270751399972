def fL_begin (σ : Sh) (η : Hi) (ω : (Nat → Int64)) (p1 p2 : Int32) : Option (Int32 × Sh × Hi × (Nat → Int64)) := ((fX6_begin σ η p1 p2).bind fun r_1 => xcase r_1 (fun e => (if e = "java/lang/IndexOutOfBoundsException" then (some ((1 : Int32), σ, η, ω)) else (if e = "java/lang/IllegalArgumentException" then (some ((2 : Int32), σ, η, ω)) else (if e = "java/lang/IllegalStateException" then (some ((3 : Int32), σ, η, ω)) else none)))) (fun v_1 => (some ((0 : Int32), v_1.2.1, v_1.2.2, (vp_updL ω (Int32.toNatClampNeg (0 : Int32)) (Int32.toInt64 v_1.1))))))
abbrev rmL_begin : Room := { frames := 8, cells := 3, slots := 18, locals := 132 }
theorem hdL_begin : yL_begin.cls = RL ∧ yL_begin.cls ≠ "java/lang/invoke/MethodHandle" ∧ yL_begin.cls ≠ "java/lang/invoke/VarHandle" ∧ (parseMethodDescriptor yL_begin.desc).map (fun d => d.parameters.length) = some 4 := by decide +kernel
theorem hkL_begin_13 : (.classLink RL 13 "java/lang/IndexOutOfBoundsException" : Cond) ∈ wsL_begin := by decide +kernel
theorem hkL_begin_15 : (.classLink RL 15 "java/lang/IllegalArgumentException" : Cond) ∈ wsL_begin := by decide +kernel
theorem hkL_begin_17 : (.classLink RL 17 "java/lang/IllegalStateException" : Cond) ∈ wsL_begin := by decide +kernel
set_option maxHeartbeats 4000000 in
set_option maxRecDepth 100000 in
theorem cL_begin_ok (l : Launch) (hl0 : l.stackTraces = false) (g : Gg) (c0 h k0 x0 d0 a1 a2 a3 a4 k1 o0 : Nat) (γ : Nat → Nat → Nat) (σ : Sh) (η : Hi) (ω : (Nat → Int64)) (p1 p2 : Int32) (sz : Nat) {o : Int32 × Sh × Hi × (Nat → Int64)} (hf : fL_begin σ η ω p1 p2 = some o) : vx_Met l yL_begin wsL_begin rmL_begin (va_Pc [.ref c0, .int p1, .int p2, .ref o0] (PM g (wC c0 h k0 x0 d0 ++ (wS g h a1 a2 a3 a4 σ ++ (wH g k0 k1 γ η ++ (wO g o0 ω)))) sz)) (va_Qi (fun r' (_ : Unit) => r' = o.1) (fun _ t => PQ g (wC c0 h k0 x0 d0 ++ (wS g h a1 a2 a3 a4 o.2.1 ++ (wH g k0 k1 γ o.2.2.1 ++ (wO g o0 o.2.2.2)))) (va_A (wC c0 h k0 x0 d0 ++ (wS g h a1 a2 a3 a4 σ ++ (wH g k0 k1 γ η ++ (wO g o0 ω)))) sz) t) (va_A (wC c0 h k0 x0 d0 ++ (wS g h a1 a2 a3 a4 σ ++ (wH g k0 k1 γ η ++ (wO g o0 ω)))) sz)) (vx_X (fun _ : Unit => False) (fun _ _ _ => True) (va_A (wC c0 h k0 x0 d0 ++ (wS g h a1 a2 a3 a4 σ ++ (wH g k0 k1 γ η ++ (wO g o0 ω)))) sz)) 3 18 (va_A (wC c0 h k0 x0 d0 ++ (wS g h a1 a2 a3 a4 σ ++ (wH g k0 k1 γ η ++ (wO g o0 ω)))) sz) := by
  refine vx_ofWH (cc := cL_begin) (maxL := 5) (ret := (some .int)) (by decide) rfl ?_
  intro p e s m args below meth c s₁ B hml hv
  obtain ⟨rfl, rfl, hP, hD0, hE, hZ⟩ := hv
  have hx := B.exec
  have hb := B.bytes
  have hr := B.returns
  have hts := atoms_spec (ws := wsL_begin) B.pre
  have htab := vx_table (x := yL_begin) B (hts _ List.mem_cons_self)
  have hown : s.vm.findClass RL = some m.cls := findClass_of_methodNamed B.named
  have hlocks := B.notSynchronized
  have hD := hD0.self (sz := s.heap.size)
  generalize hAe : (va_A (wC c0 h k0 x0 d0 ++ (wS g h a1 a2 a3 a4 σ ++ (wH g k0 k1 γ η ++ (wO g o0 ω)))) s.heap.size) = A at hD hZ ⊢
  have hA : ∀ q : Nat, s.heap.size ≤ q → A q := fun q h => by rw [← hAe]; exact Or.inr h
  have hS : va_S A s.heap s.heap [] := va_S.rf
  have hP : va_P g.1 vwCl (wC c0 h k0 x0 d0 ++ (wS g h a1 a2 a3 a4 σ ++ (wH g k0 k1 γ η ++ (wO g o0 ω)))) s.heap := hP
  have hl := lv_entry ([.ref c0, .int p1, .int p2, .ref o0]) (n := 5) (Nat.le_of_ble_eq_true rfl)
  rw [lg_entry_eq]
  generalize (lg_sl ([.ref c0, .int p1, .int p2, .ref o0]) ++ List.replicate (5 - (lg_sl ([.ref c0, .int p1, .int p2, .ref o0])).length) Slot.unset).toArray = ls at hl ⊢
  have hl : lv_has ls 5 [(0, .ref c0), (1, .int p1), (2, .int p2), (3, .ref o0)] := hl
  unfold fL_begin at hf
  refine lv_aload_n hx hb dL_begin_0 rfl (lv_at hl 3 rfl) ?_
  refine lv_iconst (v := (0 : Int32)) hx hb dL_begin_1 (by decide) ?_
  refine lv_aload_n hx hb dL_begin_2 rfl (lv_at hl 0 rfl) ?_
  refine lv_iload_n hx hb dL_begin_3 rfl (lv_at hl 1 rfl) ?_
  refine lv_iload_n hx hb dL_begin_4 rfl (lv_at hl 2 rfl) ?_
  obtain ⟨r_1, e_1, hf⟩ := bo hf
  refine wcallVmi (W0 := (wC c0 h k0 x0 d0 ++ (wS g h a1 a2 a3 a4 σ ++ (wH g k0 k1 γ η ++ (wO g o0 ω))))) (Wc := (wC c0 h k0 x0 d0 ++ (wS g h a1 a2 a3 a4 σ ++ (wH g k0 k1 γ η)))) (Wr := (wO g o0 ω)) (W1 := fun u : Sh × Hi => (wC c0 h k0 x0 d0 ++ (wS g h a1 a2 a3 a4 u.1 ++ (wH g k0 k1 γ u.2)))) (W2 := fun u : Sh × Hi => (wC c0 h k0 x0 d0 ++ (wS g h a1 a2 a3 a4 u.1 ++ (wH g k0 k1 γ u.2 ++ (wO g o0 ω))))) (As := [.int p1, .int p2]) (rest := [.int (0 : Int32), .ref o0]) [0, 1, 2, 3, 4, 5, 6, 7, 8, 9, 10, 11, 12, 13, 14, 15, 16, 17, 18, 19, 20, 21, 22, 23, 24, 25, 26, 27, 28, 29, 30, 31, 32, 33, 34, 35, 36, 37] [38] [1, 2, 3, 4, 5, 6, 7, 8, 9, 10, 11, 12, 13, 14, 15, 16, 17, 18, 19, 20, 21, 22, 23, 24, 25, 26, 27, 28, 29, 30, 31, 32, 33, 34, 35, 36, 37, 38, 0] 4 0 ⟨hx, hb, hml, hown, hts⟩ hP hD hE hZ hS hA (cX6_begin_ok l hl0 g c0 h k0 x0 d0 a1 a2 a3 a4 k1 γ σ η p1 p2 _ e_1) (cwV 2 hts gL_begin_X6_begin rfl rfl rfl hdX6_begin ⟨(Nat.le_of_ble_eq_true rfl), (Nat.le_of_ble_eq_true rfl)⟩) rfl rfl (fun _ => rfl) (by decide) (by decide) (by decide) (by decide) rfl rfl rfl rfl hl.1 rfl (Nat.le_of_ble_eq_true rfl) ⟨(Nat.le_of_ble_eq_true rfl), (Nat.le_of_ble_eq_true rfl)⟩ dL_begin_5 (fun E ce q9 H locs ox_1 hP hD hS hce hcv hcl => ?_) (fun v_1 H locs ok_1 hP hD hS => ?_)
  · have hf := xe ox_1 hf
    by_cases z_2 : E = "java/lang/IndexOutOfBoundsException"
    · have hf := ip z_2 hf
      subst z_2
      refine vx_catch (name := "java/lang/IndexOutOfBoundsException") hown [] ⟨0, 10, 13, 13⟩ [⟨0, 10, 17, 15⟩, ⟨0, 10, 21, 17⟩] (htab.trans rfl) (fun z hz => absurd hz List.not_mem_nil) (by decide) (by decide) (hts _ hkL_begin_13) (va_Nw.use rfl (hE.2.1 (.castable "java/lang/IndexOutOfBoundsException" "java/lang/IndexOutOfBoundsException") (by decide +kernel))) hce hcv hcl ?_
      refine lv_astore (lv' := [(4, .ref q9), (0, .ref c0), (1, .int p1), (2, .int p2), (3, .ref o0)]) hx hb dL_begin_13 hl (by decide) rfl (fun ls hl => ?_)
      refine lv_iconst (v := (1 : Int32)) hx hb dL_begin_15 (by decide) ?_
      have ho := Option.some.inj hf
      subst ho
      exact w_iret (v := (1 : Int32)) hx hb hr hlocks hP hD hS ⟨(Nat.le_of_ble_eq_true rfl), (Nat.le_of_ble_eq_true rfl)⟩ rfl dL_begin_16
    · have hf := iq z_2 hf
      by_cases z_3 : E = "java/lang/IllegalArgumentException"
      · have hf := ip z_3 hf
        subst z_3
        refine vx_catch (name := "java/lang/IllegalArgumentException") hown [⟨0, 10, 13, 13⟩] ⟨0, 10, 17, 15⟩ [⟨0, 10, 21, 17⟩] (htab.trans rfl) (fun z hz => by simp only [List.mem_cons, List.not_mem_nil, or_false] at hz; rcases hz with rfl <;> first | exact Or.inr ⟨by decide, _, hts _ hkL_begin_13, hE.2.2.2.1 ("java/lang/IllegalArgumentException", "java/lang/IndexOutOfBoundsException") (by decide)⟩) (by decide) (by decide) (hts _ hkL_begin_15) (va_Nw.use rfl (hE.2.1 (.castable "java/lang/IllegalArgumentException" "java/lang/IllegalArgumentException") (by decide +kernel))) hce hcv hcl ?_
        refine lv_astore (lv' := [(4, .ref q9), (0, .ref c0), (1, .int p1), (2, .int p2), (3, .ref o0)]) hx hb dL_begin_17 hl (by decide) rfl (fun ls hl => ?_)
        refine lv_iconst (v := (2 : Int32)) hx hb dL_begin_19 (by decide) ?_
        have ho := Option.some.inj hf
        subst ho
        exact w_iret (v := (2 : Int32)) hx hb hr hlocks hP hD hS ⟨(Nat.le_of_ble_eq_true rfl), (Nat.le_of_ble_eq_true rfl)⟩ rfl dL_begin_20
      · have hf := iq z_3 hf
        by_cases z_4 : E = "java/lang/IllegalStateException"
        · have hf := ip z_4 hf
          subst z_4
          refine vx_catch (name := "java/lang/IllegalStateException") hown [⟨0, 10, 13, 13⟩, ⟨0, 10, 17, 15⟩] ⟨0, 10, 21, 17⟩ [] (htab.trans rfl) (fun z hz => by simp only [List.mem_cons, List.not_mem_nil, or_false] at hz; rcases hz with rfl | rfl <;> first | exact Or.inr ⟨by decide, _, hts _ hkL_begin_13, hE.2.2.2.1 ("java/lang/IllegalStateException", "java/lang/IndexOutOfBoundsException") (by decide)⟩ | exact Or.inr ⟨by decide, _, hts _ hkL_begin_15, hE.2.2.2.1 ("java/lang/IllegalStateException", "java/lang/IllegalArgumentException") (by decide)⟩) (by decide) (by decide) (hts _ hkL_begin_17) (va_Nw.use rfl (hE.2.1 (.castable "java/lang/IllegalStateException" "java/lang/IllegalStateException") (by decide +kernel))) hce hcv hcl ?_
          refine lv_astore (lv' := [(4, .ref q9), (0, .ref c0), (1, .int p1), (2, .int p2), (3, .ref o0)]) hx hb dL_begin_21 hl (by decide) rfl (fun ls hl => ?_)
          refine lv_iconst (v := (3 : Int32)) hx hb dL_begin_23 (by decide) ?_
          have ho := Option.some.inj hf
          subst ho
          exact w_iret (v := (3 : Int32)) hx hb hr hlocks hP hD hS ⟨(Nat.le_of_ble_eq_true rfl), (Nat.le_of_ble_eq_true rfl)⟩ rfl dL_begin_24
        · have hf := iq z_4 hf
          exact nomatch (show (none : Option (Int32 × Sh × Hi × (Nat → Int64))) = some _ from hf)
  · have hf := xo ok_1 hf
    refine lv_i2l hx hb dL_begin_8 rfl ?_
    refine va_last hx hb hE.1 hP hD hS 38 2 rfl rfl (vin (by decide)) dL_begin_9 (fun H locs hP hD hS => ?_)
    have hP : va_P g.1 vwCl (wC c0 h k0 x0 d0 ++ (wS g h a1 a2 a3 a4 v_1.2.1 ++ (wH g k0 k1 γ v_1.2.2 ++ (wO g o0 (vp_updL ω (Int32.toNatClampNeg (0 : Int32)) (Int32.toInt64 v_1.1)))))) H := hP
    have hD : va_D A (wC c0 h k0 x0 d0 ++ (wS g h a1 a2 a3 a4 v_1.2.1 ++ (wH g k0 k1 γ v_1.2.2 ++ (wO g o0 (vp_updL ω (Int32.toNatClampNeg (0 : Int32)) (Int32.toInt64 v_1.1)))))) := hD
    refine lv_goto (tgt := 25) hx hb dL_begin_10 (by decide) ?_
    refine lv_iconst (v := (0 : Int32)) hx hb dL_begin_25 (by decide) ?_
    have ho := Option.some.inj hf
    subst ho
    exact w_iret (v := (0 : Int32)) hx hb hr hlocks hP hD hS ⟨(Nat.le_of_ble_eq_true rfl), (Nat.le_of_ble_eq_true rfl)⟩ rfl dL_begin_26

def fL_step (σ : Sh) (η : Hi) (ω : (Nat → Int64)) (p1 p2 : Int32) : Option (Int32 × Sh × Hi × (Nat → Int64)) := ((fX6_step σ η p1 p2).bind fun r_1 => xcase r_1 (fun e => (if e = "java/lang/IndexOutOfBoundsException" then (some ((1 : Int32), σ, η, ω)) else (if e = "java/lang/IllegalArgumentException" then (some ((2 : Int32), σ, η, ω)) else (if e = "java/lang/IllegalStateException" then (some ((3 : Int32), σ, η, ω)) else none)))) (fun v_1 => (if v_1.1 = true then (some ((0 : Int32), v_1.2.1, v_1.2.2, (vp_updL ω (Int32.toNatClampNeg (0 : Int32)) (1 : Int64)))) else (some ((0 : Int32), v_1.2.1, v_1.2.2, (vp_updL ω (Int32.toNatClampNeg (0 : Int32)) (0 : Int64)))))))
abbrev rmL_step : Room := { frames := 8, cells := 3, slots := 18, locals := 133 }
theorem hdL_step : yL_step.cls = RL ∧ yL_step.cls ≠ "java/lang/invoke/MethodHandle" ∧ yL_step.cls ≠ "java/lang/invoke/VarHandle" ∧ (parseMethodDescriptor yL_step.desc).map (fun d => d.parameters.length) = some 4 := by decide +kernel
theorem hkL_step_13 : (.classLink RL 13 "java/lang/IndexOutOfBoundsException" : Cond) ∈ wsL_step := by decide +kernel
theorem hkL_step_15 : (.classLink RL 15 "java/lang/IllegalArgumentException" : Cond) ∈ wsL_step := by decide +kernel
theorem hkL_step_17 : (.classLink RL 17 "java/lang/IllegalStateException" : Cond) ∈ wsL_step := by decide +kernel
set_option maxHeartbeats 4000000 in
set_option maxRecDepth 100000 in
theorem cL_step_ok (l : Launch) (hl0 : l.stackTraces = false) (g : Gg) (c0 h k0 x0 d0 a1 a2 a3 a4 k1 o0 : Nat) (γ : Nat → Nat → Nat) (σ : Sh) (η : Hi) (ω : (Nat → Int64)) (p1 p2 : Int32) (sz : Nat) {o : Int32 × Sh × Hi × (Nat → Int64)} (hf : fL_step σ η ω p1 p2 = some o) : vx_Met l yL_step wsL_step rmL_step (va_Pc [.ref c0, .int p1, .int p2, .ref o0] (PM g (wC c0 h k0 x0 d0 ++ (wS g h a1 a2 a3 a4 σ ++ (wH g k0 k1 γ η ++ (wO g o0 ω)))) sz)) (va_Qi (fun r' (_ : Unit) => r' = o.1) (fun _ t => PQ g (wC c0 h k0 x0 d0 ++ (wS g h a1 a2 a3 a4 o.2.1 ++ (wH g k0 k1 γ o.2.2.1 ++ (wO g o0 o.2.2.2)))) (va_A (wC c0 h k0 x0 d0 ++ (wS g h a1 a2 a3 a4 σ ++ (wH g k0 k1 γ η ++ (wO g o0 ω)))) sz) t) (va_A (wC c0 h k0 x0 d0 ++ (wS g h a1 a2 a3 a4 σ ++ (wH g k0 k1 γ η ++ (wO g o0 ω)))) sz)) (vx_X (fun _ : Unit => False) (fun _ _ _ => True) (va_A (wC c0 h k0 x0 d0 ++ (wS g h a1 a2 a3 a4 σ ++ (wH g k0 k1 γ η ++ (wO g o0 ω)))) sz)) 3 18 (va_A (wC c0 h k0 x0 d0 ++ (wS g h a1 a2 a3 a4 σ ++ (wH g k0 k1 γ η ++ (wO g o0 ω)))) sz) := by
  refine vx_ofWH (cc := cL_step) (maxL := 5) (ret := (some .int)) (by decide) rfl ?_
  intro p e s m args below meth c s₁ B hml hv
  obtain ⟨rfl, rfl, hP, hD0, hE, hZ⟩ := hv
  have hx := B.exec
  have hb := B.bytes
  have hr := B.returns
  have hts := atoms_spec (ws := wsL_step) B.pre
  have htab := vx_table (x := yL_step) B (hts _ List.mem_cons_self)
  have hown : s.vm.findClass RL = some m.cls := findClass_of_methodNamed B.named
  have hlocks := B.notSynchronized
  have hD := hD0.self (sz := s.heap.size)
  generalize hAe : (va_A (wC c0 h k0 x0 d0 ++ (wS g h a1 a2 a3 a4 σ ++ (wH g k0 k1 γ η ++ (wO g o0 ω)))) s.heap.size) = A at hD hZ ⊢
  have hA : ∀ q : Nat, s.heap.size ≤ q → A q := fun q h => by rw [← hAe]; exact Or.inr h
  have hS : va_S A s.heap s.heap [] := va_S.rf
  have hP : va_P g.1 vwCl (wC c0 h k0 x0 d0 ++ (wS g h a1 a2 a3 a4 σ ++ (wH g k0 k1 γ η ++ (wO g o0 ω)))) s.heap := hP
  have hl := lv_entry ([.ref c0, .int p1, .int p2, .ref o0]) (n := 5) (Nat.le_of_ble_eq_true rfl)
  rw [lg_entry_eq]
  generalize (lg_sl ([.ref c0, .int p1, .int p2, .ref o0]) ++ List.replicate (5 - (lg_sl ([.ref c0, .int p1, .int p2, .ref o0])).length) Slot.unset).toArray = ls at hl ⊢
  have hl : lv_has ls 5 [(0, .ref c0), (1, .int p1), (2, .int p2), (3, .ref o0)] := hl
  unfold fL_step at hf
  refine lv_aload_n hx hb dL_step_0 rfl (lv_at hl 3 rfl) ?_
  refine lv_iconst (v := (0 : Int32)) hx hb dL_step_1 (by decide) ?_
  refine lv_aload_n hx hb dL_step_2 rfl (lv_at hl 0 rfl) ?_
  refine lv_iload_n hx hb dL_step_3 rfl (lv_at hl 1 rfl) ?_
  refine lv_iload_n hx hb dL_step_4 rfl (lv_at hl 2 rfl) ?_
  obtain ⟨r_1, e_1, hf⟩ := bo hf
  refine wcallVmb (W0 := (wC c0 h k0 x0 d0 ++ (wS g h a1 a2 a3 a4 σ ++ (wH g k0 k1 γ η ++ (wO g o0 ω))))) (Wc := (wC c0 h k0 x0 d0 ++ (wS g h a1 a2 a3 a4 σ ++ (wH g k0 k1 γ η)))) (Wr := (wO g o0 ω)) (W1 := fun u : Sh × Hi => (wC c0 h k0 x0 d0 ++ (wS g h a1 a2 a3 a4 u.1 ++ (wH g k0 k1 γ u.2)))) (W2 := fun u : Sh × Hi => (wC c0 h k0 x0 d0 ++ (wS g h a1 a2 a3 a4 u.1 ++ (wH g k0 k1 γ u.2 ++ (wO g o0 ω))))) (As := [.int p1, .int p2]) (rest := [.int (0 : Int32), .ref o0]) [0, 1, 2, 3, 4, 5, 6, 7, 8, 9, 10, 11, 12, 13, 14, 15, 16, 17, 18, 19, 20, 21, 22, 23, 24, 25, 26, 27, 28, 29, 30, 31, 32, 33, 34, 35, 36, 37] [38] [1, 2, 3, 4, 5, 6, 7, 8, 9, 10, 11, 12, 13, 14, 15, 16, 17, 18, 19, 20, 21, 22, 23, 24, 25, 26, 27, 28, 29, 30, 31, 32, 33, 34, 35, 36, 37, 38, 0] 4 0 ⟨hx, hb, hml, hown, hts⟩ hP hD hE hZ hS hA (cX6_step_ok l hl0 g c0 h k0 x0 d0 a1 a2 a3 a4 k1 γ σ η p1 p2 _ e_1) (cwV 2 hts gL_step_X6_step rfl rfl rfl hdX6_step ⟨(Nat.le_of_ble_eq_true rfl), (Nat.le_of_ble_eq_true rfl)⟩) rfl rfl (fun _ => rfl) (by decide) (by decide) (by decide) (by decide) rfl rfl rfl rfl hl.1 rfl (Nat.le_of_ble_eq_true rfl) ⟨(Nat.le_of_ble_eq_true rfl), (Nat.le_of_ble_eq_true rfl)⟩ dL_step_5 (fun E ce q9 H locs ox_1 hP hD hS hce hcv hcl => ?_) (fun v_1 H locs ok_1 hP hD hS => ?_)
  · have hf := xe ox_1 hf
    by_cases z_2 : E = "java/lang/IndexOutOfBoundsException"
    · have hf := ip z_2 hf
      subst z_2
      refine vx_catch (name := "java/lang/IndexOutOfBoundsException") hown [] ⟨0, 17, 20, 13⟩ [⟨0, 17, 24, 15⟩, ⟨0, 17, 28, 17⟩] (htab.trans rfl) (fun z hz => absurd hz List.not_mem_nil) (by decide) (by decide) (hts _ hkL_step_13) (va_Nw.use rfl (hE.2.1 (.castable "java/lang/IndexOutOfBoundsException" "java/lang/IndexOutOfBoundsException") (by decide +kernel))) hce hcv hcl ?_
      refine lv_astore (lv' := [(4, .ref q9), (0, .ref c0), (1, .int p1), (2, .int p2), (3, .ref o0)]) hx hb dL_step_20 hl (by decide) rfl (fun ls hl => ?_)
      refine lv_iconst (v := (1 : Int32)) hx hb dL_step_22 (by decide) ?_
      have ho := Option.some.inj hf
      subst ho
      exact w_iret (v := (1 : Int32)) hx hb hr hlocks hP hD hS ⟨(Nat.le_of_ble_eq_true rfl), (Nat.le_of_ble_eq_true rfl)⟩ rfl dL_step_23
    · have hf := iq z_2 hf
      by_cases z_3 : E = "java/lang/IllegalArgumentException"
      · have hf := ip z_3 hf
        subst z_3
        refine vx_catch (name := "java/lang/IllegalArgumentException") hown [⟨0, 17, 20, 13⟩] ⟨0, 17, 24, 15⟩ [⟨0, 17, 28, 17⟩] (htab.trans rfl) (fun z hz => by simp only [List.mem_cons, List.not_mem_nil, or_false] at hz; rcases hz with rfl <;> first | exact Or.inr ⟨by decide, _, hts _ hkL_step_13, hE.2.2.2.1 ("java/lang/IllegalArgumentException", "java/lang/IndexOutOfBoundsException") (by decide)⟩) (by decide) (by decide) (hts _ hkL_step_15) (va_Nw.use rfl (hE.2.1 (.castable "java/lang/IllegalArgumentException" "java/lang/IllegalArgumentException") (by decide +kernel))) hce hcv hcl ?_
        refine lv_astore (lv' := [(4, .ref q9), (0, .ref c0), (1, .int p1), (2, .int p2), (3, .ref o0)]) hx hb dL_step_24 hl (by decide) rfl (fun ls hl => ?_)
        refine lv_iconst (v := (2 : Int32)) hx hb dL_step_26 (by decide) ?_
        have ho := Option.some.inj hf
        subst ho
        exact w_iret (v := (2 : Int32)) hx hb hr hlocks hP hD hS ⟨(Nat.le_of_ble_eq_true rfl), (Nat.le_of_ble_eq_true rfl)⟩ rfl dL_step_27
      · have hf := iq z_3 hf
        by_cases z_4 : E = "java/lang/IllegalStateException"
        · have hf := ip z_4 hf
          subst z_4
          refine vx_catch (name := "java/lang/IllegalStateException") hown [⟨0, 17, 20, 13⟩, ⟨0, 17, 24, 15⟩] ⟨0, 17, 28, 17⟩ [] (htab.trans rfl) (fun z hz => by simp only [List.mem_cons, List.not_mem_nil, or_false] at hz; rcases hz with rfl | rfl <;> first | exact Or.inr ⟨by decide, _, hts _ hkL_step_13, hE.2.2.2.1 ("java/lang/IllegalStateException", "java/lang/IndexOutOfBoundsException") (by decide)⟩ | exact Or.inr ⟨by decide, _, hts _ hkL_step_15, hE.2.2.2.1 ("java/lang/IllegalStateException", "java/lang/IllegalArgumentException") (by decide)⟩) (by decide) (by decide) (hts _ hkL_step_17) (va_Nw.use rfl (hE.2.1 (.castable "java/lang/IllegalStateException" "java/lang/IllegalStateException") (by decide +kernel))) hce hcv hcl ?_
          refine lv_astore (lv' := [(4, .ref q9), (0, .ref c0), (1, .int p1), (2, .int p2), (3, .ref o0)]) hx hb dL_step_28 hl (by decide) rfl (fun ls hl => ?_)
          refine lv_iconst (v := (3 : Int32)) hx hb dL_step_30 (by decide) ?_
          have ho := Option.some.inj hf
          subst ho
          exact w_iret (v := (3 : Int32)) hx hb hr hlocks hP hD hS ⟨(Nat.le_of_ble_eq_true rfl), (Nat.le_of_ble_eq_true rfl)⟩ rfl dL_step_31
        · have hf := iq z_4 hf
          exact nomatch (show (none : Option (Int32 × Sh × Hi × (Nat → Int64))) = some _ from hf)
  · have hf := xo ok_1 hf
    refine lv_beq (tgt := 15) hx hb dL_step_8 (by decide) (fun c_5 => ?_) (fun c_5 => ?_)
    · have hf := iq c_5 hf
      refine lv_lconst (v := 0) hx hb dL_step_15 (by decide) ?_
      refine va_last hx hb hE.1 hP hD hS 38 2 rfl rfl (vin (by decide)) dL_step_16 (fun H locs hP hD hS => ?_)
      have hP : va_P g.1 vwCl (wC c0 h k0 x0 d0 ++ (wS g h a1 a2 a3 a4 v_1.2.1 ++ (wH g k0 k1 γ v_1.2.2 ++ (wO g o0 (vp_updL ω (Int32.toNatClampNeg (0 : Int32)) (0 : Int64)))))) H := hP
      have hD : va_D A (wC c0 h k0 x0 d0 ++ (wS g h a1 a2 a3 a4 v_1.2.1 ++ (wH g k0 k1 γ v_1.2.2 ++ (wO g o0 (vp_updL ω (Int32.toNatClampNeg (0 : Int32)) (0 : Int64)))))) := hD
      refine lv_goto (tgt := 32) hx hb dL_step_17 (by decide) ?_
      refine lv_iconst (v := (0 : Int32)) hx hb dL_step_32 (by decide) ?_
      have ho := Option.some.inj hf
      subst ho
      exact w_iret (v := (0 : Int32)) hx hb hr hlocks hP hD hS ⟨(Nat.le_of_ble_eq_true rfl), (Nat.le_of_ble_eq_true rfl)⟩ rfl dL_step_33
    · have hf := ip c_5 hf
      refine lv_lconst (v := 1) hx hb dL_step_11 (by decide) ?_
      refine lv_goto (tgt := 16) hx hb dL_step_12 (by decide) ?_
      refine va_last hx hb hE.1 hP hD hS 38 2 rfl rfl (vin (by decide)) dL_step_16 (fun H locs hP hD hS => ?_)
      have hP : va_P g.1 vwCl (wC c0 h k0 x0 d0 ++ (wS g h a1 a2 a3 a4 v_1.2.1 ++ (wH g k0 k1 γ v_1.2.2 ++ (wO g o0 (vp_updL ω (Int32.toNatClampNeg (0 : Int32)) (1 : Int64)))))) H := hP
      have hD : va_D A (wC c0 h k0 x0 d0 ++ (wS g h a1 a2 a3 a4 v_1.2.1 ++ (wH g k0 k1 γ v_1.2.2 ++ (wO g o0 (vp_updL ω (Int32.toNatClampNeg (0 : Int32)) (1 : Int64)))))) := hD
      refine lv_goto (tgt := 32) hx hb dL_step_17 (by decide) ?_
      refine lv_iconst (v := (0 : Int32)) hx hb dL_step_32 (by decide) ?_
      have ho := Option.some.inj hf
      subst ho
      exact w_iret (v := (0 : Int32)) hx hb hr hlocks hP hD hS ⟨(Nat.le_of_ble_eq_true rfl), (Nat.le_of_ble_eq_true rfl)⟩ rfl dL_step_33

def fL_wipe (σ : Sh) (η : Hi) (ω : (Nat → Int64)) (p1 : Int32) : Option (Int32 × Sh × Hi × (Nat → Int64)) := ((fX6_wipe σ η p1).bind fun r_1 => xcase r_1 (fun e => (if e = "java/lang/IndexOutOfBoundsException" then (some ((1 : Int32), σ, η, ω)) else none)) (fun v_1 => (some ((0 : Int32), v_1.2.1, v_1.2.2, (vp_updL ω (Int32.toNatClampNeg (0 : Int32)) (Int32.toInt64 v_1.1))))))
abbrev rmL_wipe : Room := { frames := 8, cells := 1, slots := 6, locals := 132 }
theorem hdL_wipe : yL_wipe.cls = RL ∧ yL_wipe.cls ≠ "java/lang/invoke/MethodHandle" ∧ yL_wipe.cls ≠ "java/lang/invoke/VarHandle" ∧ (parseMethodDescriptor yL_wipe.desc).map (fun d => d.parameters.length) = some 3 := by decide +kernel
theorem hkL_wipe_13 : (.classLink RL 13 "java/lang/IndexOutOfBoundsException" : Cond) ∈ wsL_wipe := by decide +kernel
set_option maxHeartbeats 4000000 in
set_option maxRecDepth 100000 in
theorem cL_wipe_ok (l : Launch) (hl0 : l.stackTraces = false) (g : Gg) (c0 h k0 x0 d0 a1 a2 a3 a4 k1 o0 : Nat) (γ : Nat → Nat → Nat) (σ : Sh) (η : Hi) (ω : (Nat → Int64)) (p1 : Int32) (sz : Nat) {o : Int32 × Sh × Hi × (Nat → Int64)} (hf : fL_wipe σ η ω p1 = some o) : vx_Met l yL_wipe wsL_wipe rmL_wipe (va_Pc [.ref c0, .int p1, .ref o0] (PM g (wC c0 h k0 x0 d0 ++ (wS g h a1 a2 a3 a4 σ ++ (wH g k0 k1 γ η ++ (wO g o0 ω)))) sz)) (va_Qi (fun r' (_ : Unit) => r' = o.1) (fun _ t => PQ g (wC c0 h k0 x0 d0 ++ (wS g h a1 a2 a3 a4 o.2.1 ++ (wH g k0 k1 γ o.2.2.1 ++ (wO g o0 o.2.2.2)))) (va_A (wC c0 h k0 x0 d0 ++ (wS g h a1 a2 a3 a4 σ ++ (wH g k0 k1 γ η ++ (wO g o0 ω)))) sz) t) (va_A (wC c0 h k0 x0 d0 ++ (wS g h a1 a2 a3 a4 σ ++ (wH g k0 k1 γ η ++ (wO g o0 ω)))) sz)) (vx_X (fun _ : Unit => False) (fun _ _ _ => True) (va_A (wC c0 h k0 x0 d0 ++ (wS g h a1 a2 a3 a4 σ ++ (wH g k0 k1 γ η ++ (wO g o0 ω)))) sz)) 1 6 (va_A (wC c0 h k0 x0 d0 ++ (wS g h a1 a2 a3 a4 σ ++ (wH g k0 k1 γ η ++ (wO g o0 ω)))) sz) := by
  refine vx_ofWH (cc := cL_wipe) (maxL := 4) (ret := (some .int)) (by decide) rfl ?_
  intro p e s m args below meth c s₁ B hml hv
  obtain ⟨rfl, rfl, hP, hD0, hE, hZ⟩ := hv
  have hx := B.exec
  have hb := B.bytes
  have hr := B.returns
  have hts := atoms_spec (ws := wsL_wipe) B.pre
  have htab := vx_table (x := yL_wipe) B (hts _ List.mem_cons_self)
  have hown : s.vm.findClass RL = some m.cls := findClass_of_methodNamed B.named
  have hlocks := B.notSynchronized
  have hD := hD0.self (sz := s.heap.size)
  generalize hAe : (va_A (wC c0 h k0 x0 d0 ++ (wS g h a1 a2 a3 a4 σ ++ (wH g k0 k1 γ η ++ (wO g o0 ω)))) s.heap.size) = A at hD hZ ⊢
  have hA : ∀ q : Nat, s.heap.size ≤ q → A q := fun q h => by rw [← hAe]; exact Or.inr h
  have hS : va_S A s.heap s.heap [] := va_S.rf
  have hP : va_P g.1 vwCl (wC c0 h k0 x0 d0 ++ (wS g h a1 a2 a3 a4 σ ++ (wH g k0 k1 γ η ++ (wO g o0 ω)))) s.heap := hP
  have hl := lv_entry ([.ref c0, .int p1, .ref o0]) (n := 4) (Nat.le_of_ble_eq_true rfl)
  rw [lg_entry_eq]
  generalize (lg_sl ([.ref c0, .int p1, .ref o0]) ++ List.replicate (4 - (lg_sl ([.ref c0, .int p1, .ref o0])).length) Slot.unset).toArray = ls at hl ⊢
  have hl : lv_has ls 4 [(0, .ref c0), (1, .int p1), (2, .ref o0)] := hl
  unfold fL_wipe at hf
  refine lv_aload_n hx hb dL_wipe_0 rfl (lv_at hl 2 rfl) ?_
  refine lv_iconst (v := (0 : Int32)) hx hb dL_wipe_1 (by decide) ?_
  refine lv_aload_n hx hb dL_wipe_2 rfl (lv_at hl 0 rfl) ?_
  refine lv_iload_n hx hb dL_wipe_3 rfl (lv_at hl 1 rfl) ?_
  obtain ⟨r_1, e_1, hf⟩ := bo hf
  refine wcallVmi (W0 := (wC c0 h k0 x0 d0 ++ (wS g h a1 a2 a3 a4 σ ++ (wH g k0 k1 γ η ++ (wO g o0 ω))))) (Wc := (wC c0 h k0 x0 d0 ++ (wS g h a1 a2 a3 a4 σ ++ (wH g k0 k1 γ η)))) (Wr := (wO g o0 ω)) (W1 := fun u : Sh × Hi => (wC c0 h k0 x0 d0 ++ (wS g h a1 a2 a3 a4 u.1 ++ (wH g k0 k1 γ u.2)))) (W2 := fun u : Sh × Hi => (wC c0 h k0 x0 d0 ++ (wS g h a1 a2 a3 a4 u.1 ++ (wH g k0 k1 γ u.2 ++ (wO g o0 ω))))) (As := [.int p1]) (rest := [.int (0 : Int32), .ref o0]) [0, 1, 2, 3, 4, 5, 6, 7, 8, 9, 10, 11, 12, 13, 14, 15, 16, 17, 18, 19, 20, 21, 22, 23, 24, 25, 26, 27, 28, 29, 30, 31, 32, 33, 34, 35, 36, 37] [38] [1, 2, 3, 4, 5, 6, 7, 8, 9, 10, 11, 12, 13, 14, 15, 16, 17, 18, 19, 20, 21, 22, 23, 24, 25, 26, 27, 28, 29, 30, 31, 32, 33, 34, 35, 36, 37, 38, 0] 4 0 ⟨hx, hb, hml, hown, hts⟩ hP hD hE hZ hS hA (cX6_wipe_ok l hl0 g c0 h k0 x0 d0 a1 a2 a3 a4 k1 γ σ η p1 _ e_1) (cwV 1 hts gL_wipe_X6_wipe rfl rfl rfl hdX6_wipe ⟨(Nat.le_of_ble_eq_true rfl), (Nat.le_of_ble_eq_true rfl)⟩) rfl rfl (fun _ => rfl) (by decide) (by decide) (by decide) (by decide) rfl rfl rfl rfl hl.1 rfl (Nat.le_of_ble_eq_true rfl) ⟨(Nat.le_of_ble_eq_true rfl), (Nat.le_of_ble_eq_true rfl)⟩ dL_wipe_4 (fun E ce q9 H locs ox_1 hP hD hS hce hcv hcl => ?_) (fun v_1 H locs ok_1 hP hD hS => ?_)
  · have hf := xe ox_1 hf
    by_cases z_2 : E = "java/lang/IndexOutOfBoundsException"
    · have hf := ip z_2 hf
      subst z_2
      refine vx_catch (name := "java/lang/IndexOutOfBoundsException") hown [] ⟨0, 9, 12, 13⟩ [] (htab.trans rfl) (fun z hz => absurd hz List.not_mem_nil) (by decide) (by decide) (hts _ hkL_wipe_13) (va_Nw.use rfl (hE.2.1 (.castable "java/lang/IndexOutOfBoundsException" "java/lang/IndexOutOfBoundsException") (by decide +kernel))) hce hcv hcl ?_
      refine lv_astore_n (lv' := [(3, .ref q9), (0, .ref c0), (1, .int p1), (2, .ref o0)]) hx hb dL_wipe_12 rfl hl (by decide) rfl (fun ls hl => ?_)
      refine lv_iconst (v := (1 : Int32)) hx hb dL_wipe_13 (by decide) ?_
      have ho := Option.some.inj hf
      subst ho
      exact w_iret (v := (1 : Int32)) hx hb hr hlocks hP hD hS ⟨(Nat.le_of_ble_eq_true rfl), (Nat.le_of_ble_eq_true rfl)⟩ rfl dL_wipe_14
    · have hf := iq z_2 hf
      exact nomatch (show (none : Option (Int32 × Sh × Hi × (Nat → Int64))) = some _ from hf)
  · have hf := xo ok_1 hf
    refine lv_i2l hx hb dL_wipe_7 rfl ?_
    refine va_last hx hb hE.1 hP hD hS 38 2 rfl rfl (vin (by decide)) dL_wipe_8 (fun H locs hP hD hS => ?_)
    have hP : va_P g.1 vwCl (wC c0 h k0 x0 d0 ++ (wS g h a1 a2 a3 a4 v_1.2.1 ++ (wH g k0 k1 γ v_1.2.2 ++ (wO g o0 (vp_updL ω (Int32.toNatClampNeg (0 : Int32)) (Int32.toInt64 v_1.1)))))) H := hP
    have hD : va_D A (wC c0 h k0 x0 d0 ++ (wS g h a1 a2 a3 a4 v_1.2.1 ++ (wH g k0 k1 γ v_1.2.2 ++ (wO g o0 (vp_updL ω (Int32.toNatClampNeg (0 : Int32)) (Int32.toInt64 v_1.1)))))) := hD
    refine lv_goto (tgt := 15) hx hb dL_wipe_9 (by decide) ?_
    refine lv_iconst (v := (0 : Int32)) hx hb dL_wipe_15 (by decide) ?_
    have ho := Option.some.inj hf
    subst ho
    exact w_iret (v := (0 : Int32)) hx hb hr hlocks hP hD hS ⟨(Nat.le_of_ble_eq_true rfl), (Nat.le_of_ble_eq_true rfl)⟩ rfl dL_wipe_16

def fL_setLevel (σ : Sh) (η : Hi) (ω : (Nat → Int64)) (p1 p2 : Int32) : Option (Int32 × Sh × Hi × (Nat → Int64)) := ((fX6_setLevel σ η p1 p2).bind fun r_1 => xcase r_1 (fun e => (if e = "java/lang/IndexOutOfBoundsException" then (some ((1 : Int32), σ, η, ω)) else (if e = "java/lang/IllegalArgumentException" then (some ((2 : Int32), σ, η, ω)) else none))) (fun v_1 => (some ((0 : Int32), v_1.2.1, v_1.2.2, (vp_updL ω (Int32.toNatClampNeg (0 : Int32)) (Int32.toInt64 v_1.1))))))
abbrev rmL_setLevel : Room := { frames := 8, cells := 2, slots := 12, locals := 134 }
theorem hdL_setLevel : yL_setLevel.cls = RL ∧ yL_setLevel.cls ≠ "java/lang/invoke/MethodHandle" ∧ yL_setLevel.cls ≠ "java/lang/invoke/VarHandle" ∧ (parseMethodDescriptor yL_setLevel.desc).map (fun d => d.parameters.length) = some 4 := by decide +kernel
theorem hkL_setLevel_13 : (.classLink RL 13 "java/lang/IndexOutOfBoundsException" : Cond) ∈ wsL_setLevel := by decide +kernel
theorem hkL_setLevel_15 : (.classLink RL 15 "java/lang/IllegalArgumentException" : Cond) ∈ wsL_setLevel := by decide +kernel
set_option maxHeartbeats 4000000 in
set_option maxRecDepth 100000 in
theorem cL_setLevel_ok (l : Launch) (hl0 : l.stackTraces = false) (g : Gg) (c0 h k0 x0 d0 a1 a2 a3 a4 k1 o0 : Nat) (γ : Nat → Nat → Nat) (σ : Sh) (η : Hi) (ω : (Nat → Int64)) (p1 p2 : Int32) (sz : Nat) {o : Int32 × Sh × Hi × (Nat → Int64)} (hf : fL_setLevel σ η ω p1 p2 = some o) : vx_Met l yL_setLevel wsL_setLevel rmL_setLevel (va_Pc [.ref c0, .int p1, .int p2, .ref o0] (PM g (wC c0 h k0 x0 d0 ++ (wS g h a1 a2 a3 a4 σ ++ (wH g k0 k1 γ η ++ (wO g o0 ω)))) sz)) (va_Qi (fun r' (_ : Unit) => r' = o.1) (fun _ t => PQ g (wC c0 h k0 x0 d0 ++ (wS g h a1 a2 a3 a4 o.2.1 ++ (wH g k0 k1 γ o.2.2.1 ++ (wO g o0 o.2.2.2)))) (va_A (wC c0 h k0 x0 d0 ++ (wS g h a1 a2 a3 a4 σ ++ (wH g k0 k1 γ η ++ (wO g o0 ω)))) sz) t) (va_A (wC c0 h k0 x0 d0 ++ (wS g h a1 a2 a3 a4 σ ++ (wH g k0 k1 γ η ++ (wO g o0 ω)))) sz)) (vx_X (fun _ : Unit => False) (fun _ _ _ => True) (va_A (wC c0 h k0 x0 d0 ++ (wS g h a1 a2 a3 a4 σ ++ (wH g k0 k1 γ η ++ (wO g o0 ω)))) sz)) 2 12 (va_A (wC c0 h k0 x0 d0 ++ (wS g h a1 a2 a3 a4 σ ++ (wH g k0 k1 γ η ++ (wO g o0 ω)))) sz) := by
  refine vx_ofWH (cc := cL_setLevel) (maxL := 5) (ret := (some .int)) (by decide) rfl ?_
  intro p e s m args below meth c s₁ B hml hv
  obtain ⟨rfl, rfl, hP, hD0, hE, hZ⟩ := hv
  have hx := B.exec
  have hb := B.bytes
  have hr := B.returns
  have hts := atoms_spec (ws := wsL_setLevel) B.pre
  have htab := vx_table (x := yL_setLevel) B (hts _ List.mem_cons_self)
  have hown : s.vm.findClass RL = some m.cls := findClass_of_methodNamed B.named
  have hlocks := B.notSynchronized
  have hD := hD0.self (sz := s.heap.size)
  generalize hAe : (va_A (wC c0 h k0 x0 d0 ++ (wS g h a1 a2 a3 a4 σ ++ (wH g k0 k1 γ η ++ (wO g o0 ω)))) s.heap.size) = A at hD hZ ⊢
  have hA : ∀ q : Nat, s.heap.size ≤ q → A q := fun q h => by rw [← hAe]; exact Or.inr h
  have hS : va_S A s.heap s.heap [] := va_S.rf
  have hP : va_P g.1 vwCl (wC c0 h k0 x0 d0 ++ (wS g h a1 a2 a3 a4 σ ++ (wH g k0 k1 γ η ++ (wO g o0 ω)))) s.heap := hP
  have hl := lv_entry ([.ref c0, .int p1, .int p2, .ref o0]) (n := 5) (Nat.le_of_ble_eq_true rfl)
  rw [lg_entry_eq]
  generalize (lg_sl ([.ref c0, .int p1, .int p2, .ref o0]) ++ List.replicate (5 - (lg_sl ([.ref c0, .int p1, .int p2, .ref o0])).length) Slot.unset).toArray = ls at hl ⊢
  have hl : lv_has ls 5 [(0, .ref c0), (1, .int p1), (2, .int p2), (3, .ref o0)] := hl
  unfold fL_setLevel at hf
  refine lv_aload_n hx hb dL_setLevel_0 rfl (lv_at hl 3 rfl) ?_
  refine lv_iconst (v := (0 : Int32)) hx hb dL_setLevel_1 (by decide) ?_
  refine lv_aload_n hx hb dL_setLevel_2 rfl (lv_at hl 0 rfl) ?_
  refine lv_iload_n hx hb dL_setLevel_3 rfl (lv_at hl 1 rfl) ?_
  refine lv_iload_n hx hb dL_setLevel_4 rfl (lv_at hl 2 rfl) ?_
  obtain ⟨r_1, e_1, hf⟩ := bo hf
  refine wcallVmi (W0 := (wC c0 h k0 x0 d0 ++ (wS g h a1 a2 a3 a4 σ ++ (wH g k0 k1 γ η ++ (wO g o0 ω))))) (Wc := (wC c0 h k0 x0 d0 ++ (wS g h a1 a2 a3 a4 σ ++ (wH g k0 k1 γ η)))) (Wr := (wO g o0 ω)) (W1 := fun u : Sh × Hi => (wC c0 h k0 x0 d0 ++ (wS g h a1 a2 a3 a4 u.1 ++ (wH g k0 k1 γ u.2)))) (W2 := fun u : Sh × Hi => (wC c0 h k0 x0 d0 ++ (wS g h a1 a2 a3 a4 u.1 ++ (wH g k0 k1 γ u.2 ++ (wO g o0 ω))))) (As := [.int p1, .int p2]) (rest := [.int (0 : Int32), .ref o0]) [0, 1, 2, 3, 4, 5, 6, 7, 8, 9, 10, 11, 12, 13, 14, 15, 16, 17, 18, 19, 20, 21, 22, 23, 24, 25, 26, 27, 28, 29, 30, 31, 32, 33, 34, 35, 36, 37] [38] [1, 2, 3, 4, 5, 6, 7, 8, 9, 10, 11, 12, 13, 14, 15, 16, 17, 18, 19, 20, 21, 22, 23, 24, 25, 26, 27, 28, 29, 30, 31, 32, 33, 34, 35, 36, 37, 38, 0] 4 0 ⟨hx, hb, hml, hown, hts⟩ hP hD hE hZ hS hA (cX6_setLevel_ok l hl0 g c0 h k0 x0 d0 a1 a2 a3 a4 k1 γ σ η p1 p2 _ e_1) (cwV 2 hts gL_setLevel_X6_setLevel rfl rfl rfl hdX6_setLevel ⟨(Nat.le_of_ble_eq_true rfl), (Nat.le_of_ble_eq_true rfl)⟩) rfl rfl (fun _ => rfl) (by decide) (by decide) (by decide) (by decide) rfl rfl rfl rfl hl.1 rfl (Nat.le_of_ble_eq_true rfl) ⟨(Nat.le_of_ble_eq_true rfl), (Nat.le_of_ble_eq_true rfl)⟩ dL_setLevel_5 (fun E ce q9 H locs ox_1 hP hD hS hce hcv hcl => ?_) (fun v_1 H locs ok_1 hP hD hS => ?_)
  · have hf := xe ox_1 hf
    by_cases z_2 : E = "java/lang/IndexOutOfBoundsException"
    · have hf := ip z_2 hf
      subst z_2
      refine vx_catch (name := "java/lang/IndexOutOfBoundsException") hown [] ⟨0, 10, 13, 13⟩ [⟨0, 10, 17, 15⟩] (htab.trans rfl) (fun z hz => absurd hz List.not_mem_nil) (by decide) (by decide) (hts _ hkL_setLevel_13) (va_Nw.use rfl (hE.2.1 (.castable "java/lang/IndexOutOfBoundsException" "java/lang/IndexOutOfBoundsException") (by decide +kernel))) hce hcv hcl ?_
      refine lv_astore (lv' := [(4, .ref q9), (0, .ref c0), (1, .int p1), (2, .int p2), (3, .ref o0)]) hx hb dL_setLevel_13 hl (by decide) rfl (fun ls hl => ?_)
      refine lv_iconst (v := (1 : Int32)) hx hb dL_setLevel_15 (by decide) ?_
      have ho := Option.some.inj hf
      subst ho
      exact w_iret (v := (1 : Int32)) hx hb hr hlocks hP hD hS ⟨(Nat.le_of_ble_eq_true rfl), (Nat.le_of_ble_eq_true rfl)⟩ rfl dL_setLevel_16
    · have hf := iq z_2 hf
      by_cases z_3 : E = "java/lang/IllegalArgumentException"
      · have hf := ip z_3 hf
        subst z_3
        refine vx_catch (name := "java/lang/IllegalArgumentException") hown [⟨0, 10, 13, 13⟩] ⟨0, 10, 17, 15⟩ [] (htab.trans rfl) (fun z hz => by simp only [List.mem_cons, List.not_mem_nil, or_false] at hz; rcases hz with rfl <;> first | exact Or.inr ⟨by decide, _, hts _ hkL_setLevel_13, hE.2.2.2.1 ("java/lang/IllegalArgumentException", "java/lang/IndexOutOfBoundsException") (by decide)⟩) (by decide) (by decide) (hts _ hkL_setLevel_15) (va_Nw.use rfl (hE.2.1 (.castable "java/lang/IllegalArgumentException" "java/lang/IllegalArgumentException") (by decide +kernel))) hce hcv hcl ?_
        refine lv_astore (lv' := [(4, .ref q9), (0, .ref c0), (1, .int p1), (2, .int p2), (3, .ref o0)]) hx hb dL_setLevel_17 hl (by decide) rfl (fun ls hl => ?_)
        refine lv_iconst (v := (2 : Int32)) hx hb dL_setLevel_19 (by decide) ?_
        have ho := Option.some.inj hf
        subst ho
        exact w_iret (v := (2 : Int32)) hx hb hr hlocks hP hD hS ⟨(Nat.le_of_ble_eq_true rfl), (Nat.le_of_ble_eq_true rfl)⟩ rfl dL_setLevel_20
      · have hf := iq z_3 hf
        exact nomatch (show (none : Option (Int32 × Sh × Hi × (Nat → Int64))) = some _ from hf)
  · have hf := xo ok_1 hf
    refine lv_i2l hx hb dL_setLevel_8 rfl ?_
    refine va_last hx hb hE.1 hP hD hS 38 2 rfl rfl (vin (by decide)) dL_setLevel_9 (fun H locs hP hD hS => ?_)
    have hP : va_P g.1 vwCl (wC c0 h k0 x0 d0 ++ (wS g h a1 a2 a3 a4 v_1.2.1 ++ (wH g k0 k1 γ v_1.2.2 ++ (wO g o0 (vp_updL ω (Int32.toNatClampNeg (0 : Int32)) (Int32.toInt64 v_1.1)))))) H := hP
    have hD : va_D A (wC c0 h k0 x0 d0 ++ (wS g h a1 a2 a3 a4 v_1.2.1 ++ (wH g k0 k1 γ v_1.2.2 ++ (wO g o0 (vp_updL ω (Int32.toNatClampNeg (0 : Int32)) (Int32.toInt64 v_1.1)))))) := hD
    refine lv_goto (tgt := 21) hx hb dL_setLevel_10 (by decide) ?_
    refine lv_iconst (v := (0 : Int32)) hx hb dL_setLevel_21 (by decide) ?_
    have ho := Option.some.inj hf
    subst ho
    exact w_iret (v := (0 : Int32)) hx hb hr hlocks hP hD hS ⟨(Nat.le_of_ble_eq_true rfl), (Nat.le_of_ble_eq_true rfl)⟩ rfl dL_setLevel_22

def fL_label (σ : Sh) (η : Hi) (ω : (Nat → Int64)) (p1 p2 : Int32) : Option (Int32 × Sh × Hi × (Nat → Int64)) := ((fX6_label σ η p1 p2).bind fun r_1 => xcase r_1 (fun e => (if e = "java/lang/IndexOutOfBoundsException" then (some ((1 : Int32), σ, η, ω)) else (if e = "java/lang/IllegalStateException" then (some ((2 : Int32), σ, η, ω)) else none))) (fun v_1 => (some ((0 : Int32), v_1.2.1, v_1.2.2, (vp_updL ω (Int32.toNatClampNeg (0 : Int32)) (Int32.toInt64 v_1.1))))))
abbrev rmL_label : Room := { frames := 8, cells := 2, slots := 12, locals := 143 }
theorem hdL_label : yL_label.cls = RL ∧ yL_label.cls ≠ "java/lang/invoke/MethodHandle" ∧ yL_label.cls ≠ "java/lang/invoke/VarHandle" ∧ (parseMethodDescriptor yL_label.desc).map (fun d => d.parameters.length) = some 4 := by decide +kernel
theorem hkL_label_13 : (.classLink RL 13 "java/lang/IndexOutOfBoundsException" : Cond) ∈ wsL_label := by decide +kernel
theorem hkL_label_17 : (.classLink RL 17 "java/lang/IllegalStateException" : Cond) ∈ wsL_label := by decide +kernel
set_option maxHeartbeats 4000000 in
set_option maxRecDepth 100000 in
theorem cL_label_ok (l : Launch) (hl0 : l.stackTraces = false) (g : Gg) (c0 h k0 x0 d0 a1 a2 a3 a4 k1 o0 : Nat) (γ : Nat → Nat → Nat) (σ : Sh) (η : Hi) (ω : (Nat → Int64)) (p1 p2 : Int32) (sz : Nat) {o : Int32 × Sh × Hi × (Nat → Int64)} (hf : fL_label σ η ω p1 p2 = some o) : vx_Met l yL_label wsL_label rmL_label (va_Pc [.ref c0, .int p1, .int p2, .ref o0] (PM g (wC c0 h k0 x0 d0 ++ (wS g h a1 a2 a3 a4 σ ++ (wH g k0 k1 γ η ++ (wO g o0 ω)))) sz)) (va_Qi (fun r' (_ : Unit) => r' = o.1) (fun _ t => PQ g (wC c0 h k0 x0 d0 ++ (wS g h a1 a2 a3 a4 o.2.1 ++ (wH g k0 k1 γ o.2.2.1 ++ (wO g o0 o.2.2.2)))) (va_A (wC c0 h k0 x0 d0 ++ (wS g h a1 a2 a3 a4 σ ++ (wH g k0 k1 γ η ++ (wO g o0 ω)))) sz) t) (va_A (wC c0 h k0 x0 d0 ++ (wS g h a1 a2 a3 a4 σ ++ (wH g k0 k1 γ η ++ (wO g o0 ω)))) sz)) (vx_X (fun _ : Unit => False) (fun _ _ _ => True) (va_A (wC c0 h k0 x0 d0 ++ (wS g h a1 a2 a3 a4 σ ++ (wH g k0 k1 γ η ++ (wO g o0 ω)))) sz)) 2 12 (va_A (wC c0 h k0 x0 d0 ++ (wS g h a1 a2 a3 a4 σ ++ (wH g k0 k1 γ η ++ (wO g o0 ω)))) sz) := by
  refine vx_ofWH (cc := cL_label) (maxL := 5) (ret := (some .int)) (by decide) rfl ?_
  intro p e s m args below meth c s₁ B hml hv
  obtain ⟨rfl, rfl, hP, hD0, hE, hZ⟩ := hv
  have hx := B.exec
  have hb := B.bytes
  have hr := B.returns
  have hts := atoms_spec (ws := wsL_label) B.pre
  have htab := vx_table (x := yL_label) B (hts _ List.mem_cons_self)
  have hown : s.vm.findClass RL = some m.cls := findClass_of_methodNamed B.named
  have hlocks := B.notSynchronized
  have hD := hD0.self (sz := s.heap.size)
  generalize hAe : (va_A (wC c0 h k0 x0 d0 ++ (wS g h a1 a2 a3 a4 σ ++ (wH g k0 k1 γ η ++ (wO g o0 ω)))) s.heap.size) = A at hD hZ ⊢
  have hA : ∀ q : Nat, s.heap.size ≤ q → A q := fun q h => by rw [← hAe]; exact Or.inr h
  have hS : va_S A s.heap s.heap [] := va_S.rf
  have hP : va_P g.1 vwCl (wC c0 h k0 x0 d0 ++ (wS g h a1 a2 a3 a4 σ ++ (wH g k0 k1 γ η ++ (wO g o0 ω)))) s.heap := hP
  have hl := lv_entry ([.ref c0, .int p1, .int p2, .ref o0]) (n := 5) (Nat.le_of_ble_eq_true rfl)
  rw [lg_entry_eq]
  generalize (lg_sl ([.ref c0, .int p1, .int p2, .ref o0]) ++ List.replicate (5 - (lg_sl ([.ref c0, .int p1, .int p2, .ref o0])).length) Slot.unset).toArray = ls at hl ⊢
  have hl : lv_has ls 5 [(0, .ref c0), (1, .int p1), (2, .int p2), (3, .ref o0)] := hl
  unfold fL_label at hf
  refine lv_aload_n hx hb dL_label_0 rfl (lv_at hl 3 rfl) ?_
  refine lv_iconst (v := (0 : Int32)) hx hb dL_label_1 (by decide) ?_
  refine lv_aload_n hx hb dL_label_2 rfl (lv_at hl 0 rfl) ?_
  refine lv_iload_n hx hb dL_label_3 rfl (lv_at hl 1 rfl) ?_
  refine lv_iload_n hx hb dL_label_4 rfl (lv_at hl 2 rfl) ?_
  obtain ⟨r_1, e_1, hf⟩ := bo hf
  refine wcallVmi (W0 := (wC c0 h k0 x0 d0 ++ (wS g h a1 a2 a3 a4 σ ++ (wH g k0 k1 γ η ++ (wO g o0 ω))))) (Wc := (wC c0 h k0 x0 d0 ++ (wS g h a1 a2 a3 a4 σ ++ (wH g k0 k1 γ η)))) (Wr := (wO g o0 ω)) (W1 := fun u : Sh × Hi => (wC c0 h k0 x0 d0 ++ (wS g h a1 a2 a3 a4 u.1 ++ (wH g k0 k1 γ u.2)))) (W2 := fun u : Sh × Hi => (wC c0 h k0 x0 d0 ++ (wS g h a1 a2 a3 a4 u.1 ++ (wH g k0 k1 γ u.2 ++ (wO g o0 ω))))) (As := [.int p1, .int p2]) (rest := [.int (0 : Int32), .ref o0]) [0, 1, 2, 3, 4, 5, 6, 7, 8, 9, 10, 11, 12, 13, 14, 15, 16, 17, 18, 19, 20, 21, 22, 23, 24, 25, 26, 27, 28, 29, 30, 31, 32, 33, 34, 35, 36, 37] [38] [1, 2, 3, 4, 5, 6, 7, 8, 9, 10, 11, 12, 13, 14, 15, 16, 17, 18, 19, 20, 21, 22, 23, 24, 25, 26, 27, 28, 29, 30, 31, 32, 33, 34, 35, 36, 37, 38, 0] 4 0 ⟨hx, hb, hml, hown, hts⟩ hP hD hE hZ hS hA (cX6_label_ok l hl0 g c0 h k0 x0 d0 a1 a2 a3 a4 k1 γ σ η p1 p2 _ e_1) (cwV 2 hts gL_label_X6_label rfl rfl rfl hdX6_label ⟨(Nat.le_of_ble_eq_true rfl), (Nat.le_of_ble_eq_true rfl)⟩) rfl rfl (fun _ => rfl) (by decide) (by decide) (by decide) (by decide) rfl rfl rfl rfl hl.1 rfl (Nat.le_of_ble_eq_true rfl) ⟨(Nat.le_of_ble_eq_true rfl), (Nat.le_of_ble_eq_true rfl)⟩ dL_label_5 (fun E ce q9 H locs ox_1 hP hD hS hce hcv hcl => ?_) (fun v_1 H locs ok_1 hP hD hS => ?_)
  · have hf := xe ox_1 hf
    by_cases z_2 : E = "java/lang/IndexOutOfBoundsException"
    · have hf := ip z_2 hf
      subst z_2
      refine vx_catch (name := "java/lang/IndexOutOfBoundsException") hown [] ⟨0, 10, 13, 13⟩ [⟨0, 10, 17, 17⟩] (htab.trans rfl) (fun z hz => absurd hz List.not_mem_nil) (by decide) (by decide) (hts _ hkL_label_13) (va_Nw.use rfl (hE.2.1 (.castable "java/lang/IndexOutOfBoundsException" "java/lang/IndexOutOfBoundsException") (by decide +kernel))) hce hcv hcl ?_
      refine lv_astore (lv' := [(4, .ref q9), (0, .ref c0), (1, .int p1), (2, .int p2), (3, .ref o0)]) hx hb dL_label_13 hl (by decide) rfl (fun ls hl => ?_)
      refine lv_iconst (v := (1 : Int32)) hx hb dL_label_15 (by decide) ?_
      have ho := Option.some.inj hf
      subst ho
      exact w_iret (v := (1 : Int32)) hx hb hr hlocks hP hD hS ⟨(Nat.le_of_ble_eq_true rfl), (Nat.le_of_ble_eq_true rfl)⟩ rfl dL_label_16
    · have hf := iq z_2 hf
      by_cases z_3 : E = "java/lang/IllegalStateException"
      · have hf := ip z_3 hf
        subst z_3
        refine vx_catch (name := "java/lang/IllegalStateException") hown [⟨0, 10, 13, 13⟩] ⟨0, 10, 17, 17⟩ [] (htab.trans rfl) (fun z hz => by simp only [List.mem_cons, List.not_mem_nil, or_false] at hz; rcases hz with rfl <;> first | exact Or.inr ⟨by decide, _, hts _ hkL_label_13, hE.2.2.2.1 ("java/lang/IllegalStateException", "java/lang/IndexOutOfBoundsException") (by decide)⟩) (by decide) (by decide) (hts _ hkL_label_17) (va_Nw.use rfl (hE.2.1 (.castable "java/lang/IllegalStateException" "java/lang/IllegalStateException") (by decide +kernel))) hce hcv hcl ?_
        refine lv_astore (lv' := [(4, .ref q9), (0, .ref c0), (1, .int p1), (2, .int p2), (3, .ref o0)]) hx hb dL_label_17 hl (by decide) rfl (fun ls hl => ?_)
        refine lv_iconst (v := (2 : Int32)) hx hb dL_label_19 (by decide) ?_
        have ho := Option.some.inj hf
        subst ho
        exact w_iret (v := (2 : Int32)) hx hb hr hlocks hP hD hS ⟨(Nat.le_of_ble_eq_true rfl), (Nat.le_of_ble_eq_true rfl)⟩ rfl dL_label_20
      · have hf := iq z_3 hf
        exact nomatch (show (none : Option (Int32 × Sh × Hi × (Nat → Int64))) = some _ from hf)
  · have hf := xo ok_1 hf
    refine lv_i2l hx hb dL_label_8 rfl ?_
    refine va_last hx hb hE.1 hP hD hS 38 2 rfl rfl (vin (by decide)) dL_label_9 (fun H locs hP hD hS => ?_)
    have hP : va_P g.1 vwCl (wC c0 h k0 x0 d0 ++ (wS g h a1 a2 a3 a4 v_1.2.1 ++ (wH g k0 k1 γ v_1.2.2 ++ (wO g o0 (vp_updL ω (Int32.toNatClampNeg (0 : Int32)) (Int32.toInt64 v_1.1)))))) H := hP
    have hD : va_D A (wC c0 h k0 x0 d0 ++ (wS g h a1 a2 a3 a4 v_1.2.1 ++ (wH g k0 k1 γ v_1.2.2 ++ (wO g o0 (vp_updL ω (Int32.toNatClampNeg (0 : Int32)) (Int32.toInt64 v_1.1)))))) := hD
    refine lv_goto (tgt := 21) hx hb dL_label_10 (by decide) ?_
    refine lv_iconst (v := (0 : Int32)) hx hb dL_label_21 (by decide) ?_
    have ho := Option.some.inj hf
    subst ho
    exact w_iret (v := (0 : Int32)) hx hb hr hlocks hP hD hS ⟨(Nat.le_of_ble_eq_true rfl), (Nat.le_of_ble_eq_true rfl)⟩ rfl dL_label_22

def fL_unlabel (σ : Sh) (η : Hi) (ω : (Nat → Int64)) (p1 : Int32) : Option (Int32 × Sh × Hi × (Nat → Int64)) := ((fX6_unlabel σ η p1).bind fun r_1 => xcase r_1 (fun e => (if e = "java/lang/IndexOutOfBoundsException" then (some ((1 : Int32), σ, η, ω)) else (if e = "java/lang/IllegalStateException" then (some ((2 : Int32), σ, η, ω)) else none))) (fun v_1 => (some ((0 : Int32), v_1.2.1, v_1.2.2, (vp_updL ω (Int32.toNatClampNeg (0 : Int32)) (Int32.toInt64 v_1.1))))))
abbrev rmL_unlabel : Room := { frames := 8, cells := 2, slots := 12, locals := 133 }
theorem hdL_unlabel : yL_unlabel.cls = RL ∧ yL_unlabel.cls ≠ "java/lang/invoke/MethodHandle" ∧ yL_unlabel.cls ≠ "java/lang/invoke/VarHandle" ∧ (parseMethodDescriptor yL_unlabel.desc).map (fun d => d.parameters.length) = some 3 := by decide +kernel
theorem hkL_unlabel_13 : (.classLink RL 13 "java/lang/IndexOutOfBoundsException" : Cond) ∈ wsL_unlabel := by decide +kernel
theorem hkL_unlabel_17 : (.classLink RL 17 "java/lang/IllegalStateException" : Cond) ∈ wsL_unlabel := by decide +kernel
set_option maxHeartbeats 4000000 in
set_option maxRecDepth 100000 in
theorem cL_unlabel_ok (l : Launch) (hl0 : l.stackTraces = false) (g : Gg) (c0 h k0 x0 d0 a1 a2 a3 a4 k1 o0 : Nat) (γ : Nat → Nat → Nat) (σ : Sh) (η : Hi) (ω : (Nat → Int64)) (p1 : Int32) (sz : Nat) {o : Int32 × Sh × Hi × (Nat → Int64)} (hf : fL_unlabel σ η ω p1 = some o) : vx_Met l yL_unlabel wsL_unlabel rmL_unlabel (va_Pc [.ref c0, .int p1, .ref o0] (PM g (wC c0 h k0 x0 d0 ++ (wS g h a1 a2 a3 a4 σ ++ (wH g k0 k1 γ η ++ (wO g o0 ω)))) sz)) (va_Qi (fun r' (_ : Unit) => r' = o.1) (fun _ t => PQ g (wC c0 h k0 x0 d0 ++ (wS g h a1 a2 a3 a4 o.2.1 ++ (wH g k0 k1 γ o.2.2.1 ++ (wO g o0 o.2.2.2)))) (va_A (wC c0 h k0 x0 d0 ++ (wS g h a1 a2 a3 a4 σ ++ (wH g k0 k1 γ η ++ (wO g o0 ω)))) sz) t) (va_A (wC c0 h k0 x0 d0 ++ (wS g h a1 a2 a3 a4 σ ++ (wH g k0 k1 γ η ++ (wO g o0 ω)))) sz)) (vx_X (fun _ : Unit => False) (fun _ _ _ => True) (va_A (wC c0 h k0 x0 d0 ++ (wS g h a1 a2 a3 a4 σ ++ (wH g k0 k1 γ η ++ (wO g o0 ω)))) sz)) 2 12 (va_A (wC c0 h k0 x0 d0 ++ (wS g h a1 a2 a3 a4 σ ++ (wH g k0 k1 γ η ++ (wO g o0 ω)))) sz) := by
  refine vx_ofWH (cc := cL_unlabel) (maxL := 4) (ret := (some .int)) (by decide) rfl ?_
  intro p e s m args below meth c s₁ B hml hv
  obtain ⟨rfl, rfl, hP, hD0, hE, hZ⟩ := hv
  have hx := B.exec
  have hb := B.bytes
  have hr := B.returns
  have hts := atoms_spec (ws := wsL_unlabel) B.pre
  have htab := vx_table (x := yL_unlabel) B (hts _ List.mem_cons_self)
  have hown : s.vm.findClass RL = some m.cls := findClass_of_methodNamed B.named
  have hlocks := B.notSynchronized
  have hD := hD0.self (sz := s.heap.size)
  generalize hAe : (va_A (wC c0 h k0 x0 d0 ++ (wS g h a1 a2 a3 a4 σ ++ (wH g k0 k1 γ η ++ (wO g o0 ω)))) s.heap.size) = A at hD hZ ⊢
  have hA : ∀ q : Nat, s.heap.size ≤ q → A q := fun q h => by rw [← hAe]; exact Or.inr h
  have hS : va_S A s.heap s.heap [] := va_S.rf
  have hP : va_P g.1 vwCl (wC c0 h k0 x0 d0 ++ (wS g h a1 a2 a3 a4 σ ++ (wH g k0 k1 γ η ++ (wO g o0 ω)))) s.heap := hP
  have hl := lv_entry ([.ref c0, .int p1, .ref o0]) (n := 4) (Nat.le_of_ble_eq_true rfl)
  rw [lg_entry_eq]
  generalize (lg_sl ([.ref c0, .int p1, .ref o0]) ++ List.replicate (4 - (lg_sl ([.ref c0, .int p1, .ref o0])).length) Slot.unset).toArray = ls at hl ⊢
  have hl : lv_has ls 4 [(0, .ref c0), (1, .int p1), (2, .ref o0)] := hl
  unfold fL_unlabel at hf
  refine lv_aload_n hx hb dL_unlabel_0 rfl (lv_at hl 2 rfl) ?_
  refine lv_iconst (v := (0 : Int32)) hx hb dL_unlabel_1 (by decide) ?_
  refine lv_aload_n hx hb dL_unlabel_2 rfl (lv_at hl 0 rfl) ?_
  refine lv_iload_n hx hb dL_unlabel_3 rfl (lv_at hl 1 rfl) ?_
  obtain ⟨r_1, e_1, hf⟩ := bo hf
  refine wcallVmi (W0 := (wC c0 h k0 x0 d0 ++ (wS g h a1 a2 a3 a4 σ ++ (wH g k0 k1 γ η ++ (wO g o0 ω))))) (Wc := (wC c0 h k0 x0 d0 ++ (wS g h a1 a2 a3 a4 σ ++ (wH g k0 k1 γ η)))) (Wr := (wO g o0 ω)) (W1 := fun u : Sh × Hi => (wC c0 h k0 x0 d0 ++ (wS g h a1 a2 a3 a4 u.1 ++ (wH g k0 k1 γ u.2)))) (W2 := fun u : Sh × Hi => (wC c0 h k0 x0 d0 ++ (wS g h a1 a2 a3 a4 u.1 ++ (wH g k0 k1 γ u.2 ++ (wO g o0 ω))))) (As := [.int p1]) (rest := [.int (0 : Int32), .ref o0]) [0, 1, 2, 3, 4, 5, 6, 7, 8, 9, 10, 11, 12, 13, 14, 15, 16, 17, 18, 19, 20, 21, 22, 23, 24, 25, 26, 27, 28, 29, 30, 31, 32, 33, 34, 35, 36, 37] [38] [1, 2, 3, 4, 5, 6, 7, 8, 9, 10, 11, 12, 13, 14, 15, 16, 17, 18, 19, 20, 21, 22, 23, 24, 25, 26, 27, 28, 29, 30, 31, 32, 33, 34, 35, 36, 37, 38, 0] 4 0 ⟨hx, hb, hml, hown, hts⟩ hP hD hE hZ hS hA (cX6_unlabel_ok l hl0 g c0 h k0 x0 d0 a1 a2 a3 a4 k1 γ σ η p1 _ e_1) (cwV 1 hts gL_unlabel_X6_unlabel rfl rfl rfl hdX6_unlabel ⟨(Nat.le_of_ble_eq_true rfl), (Nat.le_of_ble_eq_true rfl)⟩) rfl rfl (fun _ => rfl) (by decide) (by decide) (by decide) (by decide) rfl rfl rfl rfl hl.1 rfl (Nat.le_of_ble_eq_true rfl) ⟨(Nat.le_of_ble_eq_true rfl), (Nat.le_of_ble_eq_true rfl)⟩ dL_unlabel_4 (fun E ce q9 H locs ox_1 hP hD hS hce hcv hcl => ?_) (fun v_1 H locs ok_1 hP hD hS => ?_)
  · have hf := xe ox_1 hf
    by_cases z_2 : E = "java/lang/IndexOutOfBoundsException"
    · have hf := ip z_2 hf
      subst z_2
      refine vx_catch (name := "java/lang/IndexOutOfBoundsException") hown [] ⟨0, 9, 12, 13⟩ [⟨0, 9, 15, 17⟩] (htab.trans rfl) (fun z hz => absurd hz List.not_mem_nil) (by decide) (by decide) (hts _ hkL_unlabel_13) (va_Nw.use rfl (hE.2.1 (.castable "java/lang/IndexOutOfBoundsException" "java/lang/IndexOutOfBoundsException") (by decide +kernel))) hce hcv hcl ?_
      refine lv_astore_n (lv' := [(3, .ref q9), (0, .ref c0), (1, .int p1), (2, .ref o0)]) hx hb dL_unlabel_12 rfl hl (by decide) rfl (fun ls hl => ?_)
      refine lv_iconst (v := (1 : Int32)) hx hb dL_unlabel_13 (by decide) ?_
      have ho := Option.some.inj hf
      subst ho
      exact w_iret (v := (1 : Int32)) hx hb hr hlocks hP hD hS ⟨(Nat.le_of_ble_eq_true rfl), (Nat.le_of_ble_eq_true rfl)⟩ rfl dL_unlabel_14
    · have hf := iq z_2 hf
      by_cases z_3 : E = "java/lang/IllegalStateException"
      · have hf := ip z_3 hf
        subst z_3
        refine vx_catch (name := "java/lang/IllegalStateException") hown [⟨0, 9, 12, 13⟩] ⟨0, 9, 15, 17⟩ [] (htab.trans rfl) (fun z hz => by simp only [List.mem_cons, List.not_mem_nil, or_false] at hz; rcases hz with rfl <;> first | exact Or.inr ⟨by decide, _, hts _ hkL_unlabel_13, hE.2.2.2.1 ("java/lang/IllegalStateException", "java/lang/IndexOutOfBoundsException") (by decide)⟩) (by decide) (by decide) (hts _ hkL_unlabel_17) (va_Nw.use rfl (hE.2.1 (.castable "java/lang/IllegalStateException" "java/lang/IllegalStateException") (by decide +kernel))) hce hcv hcl ?_
        refine lv_astore_n (lv' := [(3, .ref q9), (0, .ref c0), (1, .int p1), (2, .ref o0)]) hx hb dL_unlabel_15 rfl hl (by decide) rfl (fun ls hl => ?_)
        refine lv_iconst (v := (2 : Int32)) hx hb dL_unlabel_16 (by decide) ?_
        have ho := Option.some.inj hf
        subst ho
        exact w_iret (v := (2 : Int32)) hx hb hr hlocks hP hD hS ⟨(Nat.le_of_ble_eq_true rfl), (Nat.le_of_ble_eq_true rfl)⟩ rfl dL_unlabel_17
      · have hf := iq z_3 hf
        exact nomatch (show (none : Option (Int32 × Sh × Hi × (Nat → Int64))) = some _ from hf)
  · have hf := xo ok_1 hf
    refine lv_i2l hx hb dL_unlabel_7 rfl ?_
    refine va_last hx hb hE.1 hP hD hS 38 2 rfl rfl (vin (by decide)) dL_unlabel_8 (fun H locs hP hD hS => ?_)
    have hP : va_P g.1 vwCl (wC c0 h k0 x0 d0 ++ (wS g h a1 a2 a3 a4 v_1.2.1 ++ (wH g k0 k1 γ v_1.2.2 ++ (wO g o0 (vp_updL ω (Int32.toNatClampNeg (0 : Int32)) (Int32.toInt64 v_1.1)))))) H := hP
    have hD : va_D A (wC c0 h k0 x0 d0 ++ (wS g h a1 a2 a3 a4 v_1.2.1 ++ (wH g k0 k1 γ v_1.2.2 ++ (wO g o0 (vp_updL ω (Int32.toNatClampNeg (0 : Int32)) (Int32.toInt64 v_1.1)))))) := hD
    refine lv_goto (tgt := 18) hx hb dL_unlabel_9 (by decide) ?_
    refine lv_iconst (v := (0 : Int32)) hx hb dL_unlabel_18 (by decide) ?_
    have ho := Option.some.inj hf
    subst ho
    exact w_iret (v := (0 : Int32)) hx hb hr hlocks hP hD hS ⟨(Nat.le_of_ble_eq_true rfl), (Nat.le_of_ble_eq_true rfl)⟩ rfl dL_unlabel_19

def fL_labelBest (σ : Sh) (η : Hi) (ω : (Nat → Int64)) (p1 : Int32) : Option (Int32 × Sh × Hi × (Nat → Int64)) := ((fX6_labelBest σ η p1).bind fun r_1 => xcase r_1 (fun e => (if e = "java/lang/IndexOutOfBoundsException" then (some ((1 : Int32), σ, η, ω)) else (if e = "java/lang/IllegalStateException" then (some ((2 : Int32), σ, η, ω)) else none))) (fun v_1 => (some ((0 : Int32), v_1.2.1, v_1.2.2, (vp_updL ω (Int32.toNatClampNeg (0 : Int32)) (Int32.toInt64 v_1.1))))))
abbrev rmL_labelBest : Room := { frames := 8, cells := 2, slots := 12, locals := 149 }
theorem hdL_labelBest : yL_labelBest.cls = RL ∧ yL_labelBest.cls ≠ "java/lang/invoke/MethodHandle" ∧ yL_labelBest.cls ≠ "java/lang/invoke/VarHandle" ∧ (parseMethodDescriptor yL_labelBest.desc).map (fun d => d.parameters.length) = some 3 := by decide +kernel
theorem hkL_labelBest_13 : (.classLink RL 13 "java/lang/IndexOutOfBoundsException" : Cond) ∈ wsL_labelBest := by decide +kernel
theorem hkL_labelBest_17 : (.classLink RL 17 "java/lang/IllegalStateException" : Cond) ∈ wsL_labelBest := by decide +kernel
set_option maxHeartbeats 4000000 in
set_option maxRecDepth 100000 in
theorem cL_labelBest_ok (l : Launch) (hl0 : l.stackTraces = false) (g : Gg) (c0 h k0 x0 d0 a1 a2 a3 a4 k1 o0 : Nat) (γ : Nat → Nat → Nat) (σ : Sh) (η : Hi) (ω : (Nat → Int64)) (p1 : Int32) (sz : Nat) {o : Int32 × Sh × Hi × (Nat → Int64)} (hf : fL_labelBest σ η ω p1 = some o) : vx_Met l yL_labelBest wsL_labelBest rmL_labelBest (va_Pc [.ref c0, .int p1, .ref o0] (PM g (wC c0 h k0 x0 d0 ++ (wS g h a1 a2 a3 a4 σ ++ (wH g k0 k1 γ η ++ (wO g o0 ω)))) sz)) (va_Qi (fun r' (_ : Unit) => r' = o.1) (fun _ t => PQ g (wC c0 h k0 x0 d0 ++ (wS g h a1 a2 a3 a4 o.2.1 ++ (wH g k0 k1 γ o.2.2.1 ++ (wO g o0 o.2.2.2)))) (va_A (wC c0 h k0 x0 d0 ++ (wS g h a1 a2 a3 a4 σ ++ (wH g k0 k1 γ η ++ (wO g o0 ω)))) sz) t) (va_A (wC c0 h k0 x0 d0 ++ (wS g h a1 a2 a3 a4 σ ++ (wH g k0 k1 γ η ++ (wO g o0 ω)))) sz)) (vx_X (fun _ : Unit => False) (fun _ _ _ => True) (va_A (wC c0 h k0 x0 d0 ++ (wS g h a1 a2 a3 a4 σ ++ (wH g k0 k1 γ η ++ (wO g o0 ω)))) sz)) 2 12 (va_A (wC c0 h k0 x0 d0 ++ (wS g h a1 a2 a3 a4 σ ++ (wH g k0 k1 γ η ++ (wO g o0 ω)))) sz) := by
  refine vx_ofWH (cc := cL_labelBest) (maxL := 4) (ret := (some .int)) (by decide) rfl ?_
  intro p e s m args below meth c s₁ B hml hv
  obtain ⟨rfl, rfl, hP, hD0, hE, hZ⟩ := hv
  have hx := B.exec
  have hb := B.bytes
  have hr := B.returns
  have hts := atoms_spec (ws := wsL_labelBest) B.pre
  have htab := vx_table (x := yL_labelBest) B (hts _ List.mem_cons_self)
  have hown : s.vm.findClass RL = some m.cls := findClass_of_methodNamed B.named
  have hlocks := B.notSynchronized
  have hD := hD0.self (sz := s.heap.size)
  generalize hAe : (va_A (wC c0 h k0 x0 d0 ++ (wS g h a1 a2 a3 a4 σ ++ (wH g k0 k1 γ η ++ (wO g o0 ω)))) s.heap.size) = A at hD hZ ⊢
  have hA : ∀ q : Nat, s.heap.size ≤ q → A q := fun q h => by rw [← hAe]; exact Or.inr h
  have hS : va_S A s.heap s.heap [] := va_S.rf
  have hP : va_P g.1 vwCl (wC c0 h k0 x0 d0 ++ (wS g h a1 a2 a3 a4 σ ++ (wH g k0 k1 γ η ++ (wO g o0 ω)))) s.heap := hP
  have hl := lv_entry ([.ref c0, .int p1, .ref o0]) (n := 4) (Nat.le_of_ble_eq_true rfl)
  rw [lg_entry_eq]
  generalize (lg_sl ([.ref c0, .int p1, .ref o0]) ++ List.replicate (4 - (lg_sl ([.ref c0, .int p1, .ref o0])).length) Slot.unset).toArray = ls at hl ⊢
  have hl : lv_has ls 4 [(0, .ref c0), (1, .int p1), (2, .ref o0)] := hl
  unfold fL_labelBest at hf
  refine lv_aload_n hx hb dL_labelBest_0 rfl (lv_at hl 2 rfl) ?_
  refine lv_iconst (v := (0 : Int32)) hx hb dL_labelBest_1 (by decide) ?_
  refine lv_aload_n hx hb dL_labelBest_2 rfl (lv_at hl 0 rfl) ?_
  refine lv_iload_n hx hb dL_labelBest_3 rfl (lv_at hl 1 rfl) ?_
  obtain ⟨r_1, e_1, hf⟩ := bo hf
  refine wcallVmi (W0 := (wC c0 h k0 x0 d0 ++ (wS g h a1 a2 a3 a4 σ ++ (wH g k0 k1 γ η ++ (wO g o0 ω))))) (Wc := (wC c0 h k0 x0 d0 ++ (wS g h a1 a2 a3 a4 σ ++ (wH g k0 k1 γ η)))) (Wr := (wO g o0 ω)) (W1 := fun u : Sh × Hi => (wC c0 h k0 x0 d0 ++ (wS g h a1 a2 a3 a4 u.1 ++ (wH g k0 k1 γ u.2)))) (W2 := fun u : Sh × Hi => (wC c0 h k0 x0 d0 ++ (wS g h a1 a2 a3 a4 u.1 ++ (wH g k0 k1 γ u.2 ++ (wO g o0 ω))))) (As := [.int p1]) (rest := [.int (0 : Int32), .ref o0]) [0, 1, 2, 3, 4, 5, 6, 7, 8, 9, 10, 11, 12, 13, 14, 15, 16, 17, 18, 19, 20, 21, 22, 23, 24, 25, 26, 27, 28, 29, 30, 31, 32, 33, 34, 35, 36, 37] [38] [1, 2, 3, 4, 5, 6, 7, 8, 9, 10, 11, 12, 13, 14, 15, 16, 17, 18, 19, 20, 21, 22, 23, 24, 25, 26, 27, 28, 29, 30, 31, 32, 33, 34, 35, 36, 37, 38, 0] 4 0 ⟨hx, hb, hml, hown, hts⟩ hP hD hE hZ hS hA (cX6_labelBest_ok l hl0 g c0 h k0 x0 d0 a1 a2 a3 a4 k1 γ σ η p1 _ e_1) (cwV 1 hts gL_labelBest_X6_labelBest rfl rfl rfl hdX6_labelBest ⟨(Nat.le_of_ble_eq_true rfl), (Nat.le_of_ble_eq_true rfl)⟩) rfl rfl (fun _ => rfl) (by decide) (by decide) (by decide) (by decide) rfl rfl rfl rfl hl.1 rfl (Nat.le_of_ble_eq_true rfl) ⟨(Nat.le_of_ble_eq_true rfl), (Nat.le_of_ble_eq_true rfl)⟩ dL_labelBest_4 (fun E ce q9 H locs ox_1 hP hD hS hce hcv hcl => ?_) (fun v_1 H locs ok_1 hP hD hS => ?_)
  · have hf := xe ox_1 hf
    by_cases z_2 : E = "java/lang/IndexOutOfBoundsException"
    · have hf := ip z_2 hf
      subst z_2
      refine vx_catch (name := "java/lang/IndexOutOfBoundsException") hown [] ⟨0, 9, 12, 13⟩ [⟨0, 9, 15, 17⟩] (htab.trans rfl) (fun z hz => absurd hz List.not_mem_nil) (by decide) (by decide) (hts _ hkL_labelBest_13) (va_Nw.use rfl (hE.2.1 (.castable "java/lang/IndexOutOfBoundsException" "java/lang/IndexOutOfBoundsException") (by decide +kernel))) hce hcv hcl ?_
      refine lv_astore_n (lv' := [(3, .ref q9), (0, .ref c0), (1, .int p1), (2, .ref o0)]) hx hb dL_labelBest_12 rfl hl (by decide) rfl (fun ls hl => ?_)
      refine lv_iconst (v := (1 : Int32)) hx hb dL_labelBest_13 (by decide) ?_
      have ho := Option.some.inj hf
      subst ho
      exact w_iret (v := (1 : Int32)) hx hb hr hlocks hP hD hS ⟨(Nat.le_of_ble_eq_true rfl), (Nat.le_of_ble_eq_true rfl)⟩ rfl dL_labelBest_14
    · have hf := iq z_2 hf
      by_cases z_3 : E = "java/lang/IllegalStateException"
      · have hf := ip z_3 hf
        subst z_3
        refine vx_catch (name := "java/lang/IllegalStateException") hown [⟨0, 9, 12, 13⟩] ⟨0, 9, 15, 17⟩ [] (htab.trans rfl) (fun z hz => by simp only [List.mem_cons, List.not_mem_nil, or_false] at hz; rcases hz with rfl <;> first | exact Or.inr ⟨by decide, _, hts _ hkL_labelBest_13, hE.2.2.2.1 ("java/lang/IllegalStateException", "java/lang/IndexOutOfBoundsException") (by decide)⟩) (by decide) (by decide) (hts _ hkL_labelBest_17) (va_Nw.use rfl (hE.2.1 (.castable "java/lang/IllegalStateException" "java/lang/IllegalStateException") (by decide +kernel))) hce hcv hcl ?_
        refine lv_astore_n (lv' := [(3, .ref q9), (0, .ref c0), (1, .int p1), (2, .ref o0)]) hx hb dL_labelBest_15 rfl hl (by decide) rfl (fun ls hl => ?_)
        refine lv_iconst (v := (2 : Int32)) hx hb dL_labelBest_16 (by decide) ?_
        have ho := Option.some.inj hf
        subst ho
        exact w_iret (v := (2 : Int32)) hx hb hr hlocks hP hD hS ⟨(Nat.le_of_ble_eq_true rfl), (Nat.le_of_ble_eq_true rfl)⟩ rfl dL_labelBest_17
      · have hf := iq z_3 hf
        exact nomatch (show (none : Option (Int32 × Sh × Hi × (Nat → Int64))) = some _ from hf)
  · have hf := xo ok_1 hf
    refine lv_i2l hx hb dL_labelBest_7 rfl ?_
    refine va_last hx hb hE.1 hP hD hS 38 2 rfl rfl (vin (by decide)) dL_labelBest_8 (fun H locs hP hD hS => ?_)
    have hP : va_P g.1 vwCl (wC c0 h k0 x0 d0 ++ (wS g h a1 a2 a3 a4 v_1.2.1 ++ (wH g k0 k1 γ v_1.2.2 ++ (wO g o0 (vp_updL ω (Int32.toNatClampNeg (0 : Int32)) (Int32.toInt64 v_1.1)))))) H := hP
    have hD : va_D A (wC c0 h k0 x0 d0 ++ (wS g h a1 a2 a3 a4 v_1.2.1 ++ (wH g k0 k1 γ v_1.2.2 ++ (wO g o0 (vp_updL ω (Int32.toNatClampNeg (0 : Int32)) (Int32.toInt64 v_1.1)))))) := hD
    refine lv_goto (tgt := 18) hx hb dL_labelBest_9 (by decide) ?_
    refine lv_iconst (v := (0 : Int32)) hx hb dL_labelBest_18 (by decide) ?_
    have ho := Option.some.inj hf
    subst ho
    exact w_iret (v := (0 : Int32)) hx hb hr hlocks hP hD hS ⟨(Nat.le_of_ble_eq_true rfl), (Nat.le_of_ble_eq_true rfl)⟩ rfl dL_labelBest_19

def fL_setGap (σ : Sh) (η : Hi) (ω : (Nat → Int64)) (p1 : Int32) : Option (Int32 × Sh × Hi × (Nat → Int64)) := ((fX6_setGap σ η p1).bind fun r_1 => xcase r_1 (fun e => (if e = "java/lang/IllegalArgumentException" then (some ((1 : Int32), σ, η, ω)) else none)) (fun v_1 => (some ((0 : Int32), v_1.2.1, v_1.2.2, (vp_updL ω (Int32.toNatClampNeg (0 : Int32)) (Int32.toInt64 v_1.1))))))
abbrev rmL_setGap : Room := { frames := 7, cells := 1, slots := 6, locals := 125 }
theorem hdL_setGap : yL_setGap.cls = RL ∧ yL_setGap.cls ≠ "java/lang/invoke/MethodHandle" ∧ yL_setGap.cls ≠ "java/lang/invoke/VarHandle" ∧ (parseMethodDescriptor yL_setGap.desc).map (fun d => d.parameters.length) = some 3 := by decide +kernel
theorem hkL_setGap_15 : (.classLink RL 15 "java/lang/IllegalArgumentException" : Cond) ∈ wsL_setGap := by decide +kernel
set_option maxHeartbeats 4000000 in
set_option maxRecDepth 100000 in
theorem cL_setGap_ok (l : Launch) (hl0 : l.stackTraces = false) (g : Gg) (c0 h k0 x0 d0 a1 a2 a3 a4 k1 o0 : Nat) (γ : Nat → Nat → Nat) (σ : Sh) (η : Hi) (ω : (Nat → Int64)) (p1 : Int32) (sz : Nat) {o : Int32 × Sh × Hi × (Nat → Int64)} (hf : fL_setGap σ η ω p1 = some o) : vx_Met l yL_setGap wsL_setGap rmL_setGap (va_Pc [.ref c0, .int p1, .ref o0] (PM g (wC c0 h k0 x0 d0 ++ (wS g h a1 a2 a3 a4 σ ++ (wH g k0 k1 γ η ++ (wO g o0 ω)))) sz)) (va_Qi (fun r' (_ : Unit) => r' = o.1) (fun _ t => PQ g (wC c0 h k0 x0 d0 ++ (wS g h a1 a2 a3 a4 o.2.1 ++ (wH g k0 k1 γ o.2.2.1 ++ (wO g o0 o.2.2.2)))) (va_A (wC c0 h k0 x0 d0 ++ (wS g h a1 a2 a3 a4 σ ++ (wH g k0 k1 γ η ++ (wO g o0 ω)))) sz) t) (va_A (wC c0 h k0 x0 d0 ++ (wS g h a1 a2 a3 a4 σ ++ (wH g k0 k1 γ η ++ (wO g o0 ω)))) sz)) (vx_X (fun _ : Unit => False) (fun _ _ _ => True) (va_A (wC c0 h k0 x0 d0 ++ (wS g h a1 a2 a3 a4 σ ++ (wH g k0 k1 γ η ++ (wO g o0 ω)))) sz)) 1 6 (va_A (wC c0 h k0 x0 d0 ++ (wS g h a1 a2 a3 a4 σ ++ (wH g k0 k1 γ η ++ (wO g o0 ω)))) sz) := by
  refine vx_ofWH (cc := cL_setGap) (maxL := 4) (ret := (some .int)) (by decide) rfl ?_
  intro p e s m args below meth c s₁ B hml hv
  obtain ⟨rfl, rfl, hP, hD0, hE, hZ⟩ := hv
  have hx := B.exec
  have hb := B.bytes
  have hr := B.returns
  have hts := atoms_spec (ws := wsL_setGap) B.pre
  have htab := vx_table (x := yL_setGap) B (hts _ List.mem_cons_self)
  have hown : s.vm.findClass RL = some m.cls := findClass_of_methodNamed B.named
  have hlocks := B.notSynchronized
  have hD := hD0.self (sz := s.heap.size)
  generalize hAe : (va_A (wC c0 h k0 x0 d0 ++ (wS g h a1 a2 a3 a4 σ ++ (wH g k0 k1 γ η ++ (wO g o0 ω)))) s.heap.size) = A at hD hZ ⊢
  have hA : ∀ q : Nat, s.heap.size ≤ q → A q := fun q h => by rw [← hAe]; exact Or.inr h
  have hS : va_S A s.heap s.heap [] := va_S.rf
  have hP : va_P g.1 vwCl (wC c0 h k0 x0 d0 ++ (wS g h a1 a2 a3 a4 σ ++ (wH g k0 k1 γ η ++ (wO g o0 ω)))) s.heap := hP
  have hl := lv_entry ([.ref c0, .int p1, .ref o0]) (n := 4) (Nat.le_of_ble_eq_true rfl)
  rw [lg_entry_eq]
  generalize (lg_sl ([.ref c0, .int p1, .ref o0]) ++ List.replicate (4 - (lg_sl ([.ref c0, .int p1, .ref o0])).length) Slot.unset).toArray = ls at hl ⊢
  have hl : lv_has ls 4 [(0, .ref c0), (1, .int p1), (2, .ref o0)] := hl
  unfold fL_setGap at hf
  refine lv_aload_n hx hb dL_setGap_0 rfl (lv_at hl 2 rfl) ?_
  refine lv_iconst (v := (0 : Int32)) hx hb dL_setGap_1 (by decide) ?_
  refine lv_aload_n hx hb dL_setGap_2 rfl (lv_at hl 0 rfl) ?_
  refine lv_iload_n hx hb dL_setGap_3 rfl (lv_at hl 1 rfl) ?_
  obtain ⟨r_1, e_1, hf⟩ := bo hf
  refine wcallVmi (W0 := (wC c0 h k0 x0 d0 ++ (wS g h a1 a2 a3 a4 σ ++ (wH g k0 k1 γ η ++ (wO g o0 ω))))) (Wc := (wC c0 h k0 x0 d0 ++ (wS g h a1 a2 a3 a4 σ ++ (wH g k0 k1 γ η)))) (Wr := (wO g o0 ω)) (W1 := fun u : Sh × Hi => (wC c0 h k0 x0 d0 ++ (wS g h a1 a2 a3 a4 u.1 ++ (wH g k0 k1 γ u.2)))) (W2 := fun u : Sh × Hi => (wC c0 h k0 x0 d0 ++ (wS g h a1 a2 a3 a4 u.1 ++ (wH g k0 k1 γ u.2 ++ (wO g o0 ω))))) (As := [.int p1]) (rest := [.int (0 : Int32), .ref o0]) [0, 1, 2, 3, 4, 5, 6, 7, 8, 9, 10, 11, 12, 13, 14, 15, 16, 17, 18, 19, 20, 21, 22, 23, 24, 25, 26, 27, 28, 29, 30, 31, 32, 33, 34, 35, 36, 37] [38] [1, 2, 3, 4, 5, 6, 7, 8, 9, 10, 11, 12, 13, 14, 15, 16, 17, 18, 19, 20, 21, 22, 23, 24, 25, 26, 27, 28, 29, 30, 31, 32, 33, 34, 35, 36, 37, 38, 0] 4 0 ⟨hx, hb, hml, hown, hts⟩ hP hD hE hZ hS hA (cX6_setGap_ok l hl0 g c0 h k0 x0 d0 a1 a2 a3 a4 k1 γ σ η p1 _ e_1) (cwV 1 hts gL_setGap_X6_setGap rfl rfl rfl hdX6_setGap ⟨(Nat.le_of_ble_eq_true rfl), (Nat.le_of_ble_eq_true rfl)⟩) rfl rfl (fun _ => rfl) (by decide) (by decide) (by decide) (by decide) rfl rfl rfl rfl hl.1 rfl (Nat.le_of_ble_eq_true rfl) ⟨(Nat.le_of_ble_eq_true rfl), (Nat.le_of_ble_eq_true rfl)⟩ dL_setGap_4 (fun E ce q9 H locs ox_1 hP hD hS hce hcv hcl => ?_) (fun v_1 H locs ok_1 hP hD hS => ?_)
  · have hf := xe ox_1 hf
    by_cases z_2 : E = "java/lang/IllegalArgumentException"
    · have hf := ip z_2 hf
      subst z_2
      refine vx_catch (name := "java/lang/IllegalArgumentException") hown [] ⟨0, 9, 12, 15⟩ [] (htab.trans rfl) (fun z hz => absurd hz List.not_mem_nil) (by decide) (by decide) (hts _ hkL_setGap_15) (va_Nw.use rfl (hE.2.1 (.castable "java/lang/IllegalArgumentException" "java/lang/IllegalArgumentException") (by decide +kernel))) hce hcv hcl ?_
      refine lv_astore_n (lv' := [(3, .ref q9), (0, .ref c0), (1, .int p1), (2, .ref o0)]) hx hb dL_setGap_12 rfl hl (by decide) rfl (fun ls hl => ?_)
      refine lv_iconst (v := (1 : Int32)) hx hb dL_setGap_13 (by decide) ?_
      have ho := Option.some.inj hf
      subst ho
      exact w_iret (v := (1 : Int32)) hx hb hr hlocks hP hD hS ⟨(Nat.le_of_ble_eq_true rfl), (Nat.le_of_ble_eq_true rfl)⟩ rfl dL_setGap_14
    · have hf := iq z_2 hf
      exact nomatch (show (none : Option (Int32 × Sh × Hi × (Nat → Int64))) = some _ from hf)
  · have hf := xo ok_1 hf
    refine lv_i2l hx hb dL_setGap_7 rfl ?_
    refine va_last hx hb hE.1 hP hD hS 38 2 rfl rfl (vin (by decide)) dL_setGap_8 (fun H locs hP hD hS => ?_)
    have hP : va_P g.1 vwCl (wC c0 h k0 x0 d0 ++ (wS g h a1 a2 a3 a4 v_1.2.1 ++ (wH g k0 k1 γ v_1.2.2 ++ (wO g o0 (vp_updL ω (Int32.toNatClampNeg (0 : Int32)) (Int32.toInt64 v_1.1)))))) H := hP
    have hD : va_D A (wC c0 h k0 x0 d0 ++ (wS g h a1 a2 a3 a4 v_1.2.1 ++ (wH g k0 k1 γ v_1.2.2 ++ (wO g o0 (vp_updL ω (Int32.toNatClampNeg (0 : Int32)) (Int32.toInt64 v_1.1)))))) := hD
    refine lv_goto (tgt := 15) hx hb dL_setGap_9 (by decide) ?_
    refine lv_iconst (v := (0 : Int32)) hx hb dL_setGap_15 (by decide) ?_
    have ho := Option.some.inj hf
    subst ho
    exact w_iret (v := (0 : Int32)) hx hb hr hlocks hP hD hS ⟨(Nat.le_of_ble_eq_true rfl), (Nat.le_of_ble_eq_true rfl)⟩ rfl dL_setGap_16

def fL_levelOf (σ : Sh) (ω : (Nat → Int64)) (p1 : Int32) : Option (Int32 × (Nat → Int64)) := ((fX6_levelOf σ p1).bind fun r_1 => xcase r_1 (fun e => (if e = "java/lang/IndexOutOfBoundsException" then (some ((1 : Int32), ω)) else none)) (fun v_1 => (some ((0 : Int32), (vp_updL ω (Int32.toNatClampNeg (0 : Int32)) (Int32.toInt64 v_1))))))
abbrev rmL_levelOf : Room := { frames := 8, cells := 1, slots := 6, locals := 132 }
theorem hdL_levelOf : yL_levelOf.cls = RL ∧ yL_levelOf.cls ≠ "java/lang/invoke/MethodHandle" ∧ yL_levelOf.cls ≠ "java/lang/invoke/VarHandle" ∧ (parseMethodDescriptor yL_levelOf.desc).map (fun d => d.parameters.length) = some 3 := by decide +kernel
theorem hkL_levelOf_13 : (.classLink RL 13 "java/lang/IndexOutOfBoundsException" : Cond) ∈ wsL_levelOf := by decide +kernel
set_option maxHeartbeats 4000000 in
set_option maxRecDepth 100000 in
theorem cL_levelOf_ok (l : Launch) (hl0 : l.stackTraces = false) (g : Gg) (c0 h k0 x0 d0 a1 a2 a3 a4 o0 : Nat) (σ : Sh) (ω : (Nat → Int64)) (p1 : Int32) (sz : Nat) {o : Int32 × (Nat → Int64)} (hf : fL_levelOf σ ω p1 = some o) : vx_Met l yL_levelOf wsL_levelOf rmL_levelOf (va_Pc [.ref c0, .int p1, .ref o0] (PM g (wC c0 h k0 x0 d0 ++ (wS g h a1 a2 a3 a4 σ ++ (wO g o0 ω))) sz)) (va_Qi (fun r' (_ : Unit) => r' = o.1) (fun _ t => PQ g (wC c0 h k0 x0 d0 ++ (wS g h a1 a2 a3 a4 σ ++ (wO g o0 o.2))) (va_A (wC c0 h k0 x0 d0 ++ (wS g h a1 a2 a3 a4 σ ++ (wO g o0 ω))) sz) t) (va_A (wC c0 h k0 x0 d0 ++ (wS g h a1 a2 a3 a4 σ ++ (wO g o0 ω))) sz)) (vx_X (fun _ : Unit => False) (fun _ _ _ => True) (va_A (wC c0 h k0 x0 d0 ++ (wS g h a1 a2 a3 a4 σ ++ (wO g o0 ω))) sz)) 1 6 (va_A (wC c0 h k0 x0 d0 ++ (wS g h a1 a2 a3 a4 σ ++ (wO g o0 ω))) sz) := by
  refine vx_ofWH (cc := cL_levelOf) (maxL := 4) (ret := (some .int)) (by decide) rfl ?_
  intro p e s m args below meth c s₁ B hml hv
  obtain ⟨rfl, rfl, hP, hD0, hE, hZ⟩ := hv
  have hx := B.exec
  have hb := B.bytes
  have hr := B.returns
  have hts := atoms_spec (ws := wsL_levelOf) B.pre
  have htab := vx_table (x := yL_levelOf) B (hts _ List.mem_cons_self)
  have hown : s.vm.findClass RL = some m.cls := findClass_of_methodNamed B.named
  have hlocks := B.notSynchronized
  have hD := hD0.self (sz := s.heap.size)
  generalize hAe : (va_A (wC c0 h k0 x0 d0 ++ (wS g h a1 a2 a3 a4 σ ++ (wO g o0 ω))) s.heap.size) = A at hD hZ ⊢
  have hA : ∀ q : Nat, s.heap.size ≤ q → A q := fun q h => by rw [← hAe]; exact Or.inr h
  have hS : va_S A s.heap s.heap [] := va_S.rf
  have hP : va_P g.1 vwCl (wC c0 h k0 x0 d0 ++ (wS g h a1 a2 a3 a4 σ ++ (wO g o0 ω))) s.heap := hP
  have hl := lv_entry ([.ref c0, .int p1, .ref o0]) (n := 4) (Nat.le_of_ble_eq_true rfl)
  rw [lg_entry_eq]
  generalize (lg_sl ([.ref c0, .int p1, .ref o0]) ++ List.replicate (4 - (lg_sl ([.ref c0, .int p1, .ref o0])).length) Slot.unset).toArray = ls at hl ⊢
  have hl : lv_has ls 4 [(0, .ref c0), (1, .int p1), (2, .ref o0)] := hl
  unfold fL_levelOf at hf
  refine lv_aload_n hx hb dL_levelOf_0 rfl (lv_at hl 2 rfl) ?_
  refine lv_iconst (v := (0 : Int32)) hx hb dL_levelOf_1 (by decide) ?_
  refine lv_aload_n hx hb dL_levelOf_2 rfl (lv_at hl 0 rfl) ?_
  refine lv_iload_n hx hb dL_levelOf_3 rfl (lv_at hl 1 rfl) ?_
  obtain ⟨r_1, e_1, hf⟩ := bo hf
  refine wcallVi (W0 := (wC c0 h k0 x0 d0 ++ (wS g h a1 a2 a3 a4 σ ++ (wO g o0 ω)))) (Wc := (wC c0 h k0 x0 d0 ++ (wS g h a1 a2 a3 a4 σ))) (Wr := (wO g o0 ω)) (As := [.int p1]) (rest := [.int (0 : Int32), .ref o0]) [0, 1, 2, 3, 4, 5] [6] [1, 2, 3, 4, 5, 6, 0] 4 0 ⟨hx, hb, hml, hown, hts⟩ hP hD hE hZ hS hA (cX6_levelOf_ok l hl0 g c0 h k0 x0 d0 a1 a2 a3 a4 σ p1 _ e_1) (cwV 1 hts gL_levelOf_X6_levelOf rfl rfl rfl hdX6_levelOf ⟨(Nat.le_of_ble_eq_true rfl), (Nat.le_of_ble_eq_true rfl)⟩) rfl rfl rfl (by decide) (by decide) (by decide) (by decide) rfl rfl rfl rfl hl.1 rfl (Nat.le_of_ble_eq_true rfl) ⟨(Nat.le_of_ble_eq_true rfl), (Nat.le_of_ble_eq_true rfl)⟩ dL_levelOf_4 (fun E ce q9 H locs ox_1 hP hD hS hce hcv hcl => ?_) (fun v_1 H locs ok_1 hP hD hS => ?_)
  · have hf := xe ox_1 hf
    by_cases z_2 : E = "java/lang/IndexOutOfBoundsException"
    · have hf := ip z_2 hf
      subst z_2
      refine vx_catch (name := "java/lang/IndexOutOfBoundsException") hown [] ⟨0, 9, 12, 13⟩ [] (htab.trans rfl) (fun z hz => absurd hz List.not_mem_nil) (by decide) (by decide) (hts _ hkL_levelOf_13) (va_Nw.use rfl (hE.2.1 (.castable "java/lang/IndexOutOfBoundsException" "java/lang/IndexOutOfBoundsException") (by decide +kernel))) hce hcv hcl ?_
      refine lv_astore_n (lv' := [(3, .ref q9), (0, .ref c0), (1, .int p1), (2, .ref o0)]) hx hb dL_levelOf_12 rfl hl (by decide) rfl (fun ls hl => ?_)
      refine lv_iconst (v := (1 : Int32)) hx hb dL_levelOf_13 (by decide) ?_
      have ho := Option.some.inj hf
      subst ho
      exact w_iret (v := (1 : Int32)) hx hb hr hlocks hP hD hS ⟨(Nat.le_of_ble_eq_true rfl), (Nat.le_of_ble_eq_true rfl)⟩ rfl dL_levelOf_14
    · have hf := iq z_2 hf
      exact nomatch (show (none : Option (Int32 × (Nat → Int64))) = some _ from hf)
  · have hf := xo ok_1 hf
    refine lv_i2l hx hb dL_levelOf_7 rfl ?_
    refine va_last hx hb hE.1 hP hD hS 6 2 rfl rfl (vin (by decide)) dL_levelOf_8 (fun H locs hP hD hS => ?_)
    have hP : va_P g.1 vwCl (wC c0 h k0 x0 d0 ++ (wS g h a1 a2 a3 a4 σ ++ (wO g o0 (vp_updL ω (Int32.toNatClampNeg (0 : Int32)) (Int32.toInt64 v_1))))) H := hP
    have hD : va_D A (wC c0 h k0 x0 d0 ++ (wS g h a1 a2 a3 a4 σ ++ (wO g o0 (vp_updL ω (Int32.toNatClampNeg (0 : Int32)) (Int32.toInt64 v_1))))) := hD
    refine lv_goto (tgt := 15) hx hb dL_levelOf_9 (by decide) ?_
    refine lv_iconst (v := (0 : Int32)) hx hb dL_levelOf_15 (by decide) ?_
    have ho := Option.some.inj hf
    subst ho
    exact w_iret (v := (0 : Int32)) hx hb hr hlocks hP hD hS ⟨(Nat.le_of_ble_eq_true rfl), (Nat.le_of_ble_eq_true rfl)⟩ rfl dL_levelOf_16

def fL_stepsOf (σ : Sh) (ω : (Nat → Int64)) (p1 : Int32) : Option (Int32 × (Nat → Int64)) := ((fX6_stepsOf σ p1).bind fun r_1 => xcase r_1 (fun e => (if e = "java/lang/IndexOutOfBoundsException" then (some ((1 : Int32), ω)) else none)) (fun v_1 => (some ((0 : Int32), (vp_updL ω (Int32.toNatClampNeg (0 : Int32)) (Int32.toInt64 v_1))))))
abbrev rmL_stepsOf : Room := { frames := 8, cells := 1, slots := 6, locals := 132 }
theorem hdL_stepsOf : yL_stepsOf.cls = RL ∧ yL_stepsOf.cls ≠ "java/lang/invoke/MethodHandle" ∧ yL_stepsOf.cls ≠ "java/lang/invoke/VarHandle" ∧ (parseMethodDescriptor yL_stepsOf.desc).map (fun d => d.parameters.length) = some 3 := by decide +kernel
theorem hkL_stepsOf_13 : (.classLink RL 13 "java/lang/IndexOutOfBoundsException" : Cond) ∈ wsL_stepsOf := by decide +kernel
set_option maxHeartbeats 4000000 in
set_option maxRecDepth 100000 in
theorem cL_stepsOf_ok (l : Launch) (hl0 : l.stackTraces = false) (g : Gg) (c0 h k0 x0 d0 a1 a2 a3 a4 o0 : Nat) (σ : Sh) (ω : (Nat → Int64)) (p1 : Int32) (sz : Nat) {o : Int32 × (Nat → Int64)} (hf : fL_stepsOf σ ω p1 = some o) : vx_Met l yL_stepsOf wsL_stepsOf rmL_stepsOf (va_Pc [.ref c0, .int p1, .ref o0] (PM g (wC c0 h k0 x0 d0 ++ (wS g h a1 a2 a3 a4 σ ++ (wO g o0 ω))) sz)) (va_Qi (fun r' (_ : Unit) => r' = o.1) (fun _ t => PQ g (wC c0 h k0 x0 d0 ++ (wS g h a1 a2 a3 a4 σ ++ (wO g o0 o.2))) (va_A (wC c0 h k0 x0 d0 ++ (wS g h a1 a2 a3 a4 σ ++ (wO g o0 ω))) sz) t) (va_A (wC c0 h k0 x0 d0 ++ (wS g h a1 a2 a3 a4 σ ++ (wO g o0 ω))) sz)) (vx_X (fun _ : Unit => False) (fun _ _ _ => True) (va_A (wC c0 h k0 x0 d0 ++ (wS g h a1 a2 a3 a4 σ ++ (wO g o0 ω))) sz)) 1 6 (va_A (wC c0 h k0 x0 d0 ++ (wS g h a1 a2 a3 a4 σ ++ (wO g o0 ω))) sz) := by
  refine vx_ofWH (cc := cL_stepsOf) (maxL := 4) (ret := (some .int)) (by decide) rfl ?_
  intro p e s m args below meth c s₁ B hml hv
  obtain ⟨rfl, rfl, hP, hD0, hE, hZ⟩ := hv
  have hx := B.exec
  have hb := B.bytes
  have hr := B.returns
  have hts := atoms_spec (ws := wsL_stepsOf) B.pre
  have htab := vx_table (x := yL_stepsOf) B (hts _ List.mem_cons_self)
  have hown : s.vm.findClass RL = some m.cls := findClass_of_methodNamed B.named
  have hlocks := B.notSynchronized
  have hD := hD0.self (sz := s.heap.size)
  generalize hAe : (va_A (wC c0 h k0 x0 d0 ++ (wS g h a1 a2 a3 a4 σ ++ (wO g o0 ω))) s.heap.size) = A at hD hZ ⊢
  have hA : ∀ q : Nat, s.heap.size ≤ q → A q := fun q h => by rw [← hAe]; exact Or.inr h
  have hS : va_S A s.heap s.heap [] := va_S.rf
  have hP : va_P g.1 vwCl (wC c0 h k0 x0 d0 ++ (wS g h a1 a2 a3 a4 σ ++ (wO g o0 ω))) s.heap := hP
  have hl := lv_entry ([.ref c0, .int p1, .ref o0]) (n := 4) (Nat.le_of_ble_eq_true rfl)
  rw [lg_entry_eq]
  generalize (lg_sl ([.ref c0, .int p1, .ref o0]) ++ List.replicate (4 - (lg_sl ([.ref c0, .int p1, .ref o0])).length) Slot.unset).toArray = ls at hl ⊢
  have hl : lv_has ls 4 [(0, .ref c0), (1, .int p1), (2, .ref o0)] := hl
  unfold fL_stepsOf at hf
  refine lv_aload_n hx hb dL_stepsOf_0 rfl (lv_at hl 2 rfl) ?_
  refine lv_iconst (v := (0 : Int32)) hx hb dL_stepsOf_1 (by decide) ?_
  refine lv_aload_n hx hb dL_stepsOf_2 rfl (lv_at hl 0 rfl) ?_
  refine lv_iload_n hx hb dL_stepsOf_3 rfl (lv_at hl 1 rfl) ?_
  obtain ⟨r_1, e_1, hf⟩ := bo hf
  refine wcallVi (W0 := (wC c0 h k0 x0 d0 ++ (wS g h a1 a2 a3 a4 σ ++ (wO g o0 ω)))) (Wc := (wC c0 h k0 x0 d0 ++ (wS g h a1 a2 a3 a4 σ))) (Wr := (wO g o0 ω)) (As := [.int p1]) (rest := [.int (0 : Int32), .ref o0]) [0, 1, 2, 3, 4, 5] [6] [1, 2, 3, 4, 5, 6, 0] 4 0 ⟨hx, hb, hml, hown, hts⟩ hP hD hE hZ hS hA (cX6_stepsOf_ok l hl0 g c0 h k0 x0 d0 a1 a2 a3 a4 σ p1 _ e_1) (cwV 1 hts gL_stepsOf_X6_stepsOf rfl rfl rfl hdX6_stepsOf ⟨(Nat.le_of_ble_eq_true rfl), (Nat.le_of_ble_eq_true rfl)⟩) rfl rfl rfl (by decide) (by decide) (by decide) (by decide) rfl rfl rfl rfl hl.1 rfl (Nat.le_of_ble_eq_true rfl) ⟨(Nat.le_of_ble_eq_true rfl), (Nat.le_of_ble_eq_true rfl)⟩ dL_stepsOf_4 (fun E ce q9 H locs ox_1 hP hD hS hce hcv hcl => ?_) (fun v_1 H locs ok_1 hP hD hS => ?_)
  · have hf := xe ox_1 hf
    by_cases z_2 : E = "java/lang/IndexOutOfBoundsException"
    · have hf := ip z_2 hf
      subst z_2
      refine vx_catch (name := "java/lang/IndexOutOfBoundsException") hown [] ⟨0, 9, 12, 13⟩ [] (htab.trans rfl) (fun z hz => absurd hz List.not_mem_nil) (by decide) (by decide) (hts _ hkL_stepsOf_13) (va_Nw.use rfl (hE.2.1 (.castable "java/lang/IndexOutOfBoundsException" "java/lang/IndexOutOfBoundsException") (by decide +kernel))) hce hcv hcl ?_
      refine lv_astore_n (lv' := [(3, .ref q9), (0, .ref c0), (1, .int p1), (2, .ref o0)]) hx hb dL_stepsOf_12 rfl hl (by decide) rfl (fun ls hl => ?_)
      refine lv_iconst (v := (1 : Int32)) hx hb dL_stepsOf_13 (by decide) ?_
      have ho := Option.some.inj hf
      subst ho
      exact w_iret (v := (1 : Int32)) hx hb hr hlocks hP hD hS ⟨(Nat.le_of_ble_eq_true rfl), (Nat.le_of_ble_eq_true rfl)⟩ rfl dL_stepsOf_14
    · have hf := iq z_2 hf
      exact nomatch (show (none : Option (Int32 × (Nat → Int64))) = some _ from hf)
  · have hf := xo ok_1 hf
    refine lv_i2l hx hb dL_stepsOf_7 rfl ?_
    refine va_last hx hb hE.1 hP hD hS 6 2 rfl rfl (vin (by decide)) dL_stepsOf_8 (fun H locs hP hD hS => ?_)
    have hP : va_P g.1 vwCl (wC c0 h k0 x0 d0 ++ (wS g h a1 a2 a3 a4 σ ++ (wO g o0 (vp_updL ω (Int32.toNatClampNeg (0 : Int32)) (Int32.toInt64 v_1))))) H := hP
    have hD : va_D A (wC c0 h k0 x0 d0 ++ (wS g h a1 a2 a3 a4 σ ++ (wO g o0 (vp_updL ω (Int32.toNatClampNeg (0 : Int32)) (Int32.toInt64 v_1))))) := hD
    refine lv_goto (tgt := 15) hx hb dL_stepsOf_9 (by decide) ?_
    refine lv_iconst (v := (0 : Int32)) hx hb dL_stepsOf_15 (by decide) ?_
    have ho := Option.some.inj hf
    subst ho
    exact w_iret (v := (0 : Int32)) hx hb hr hlocks hP hD hS ⟨(Nat.le_of_ble_eq_true rfl), (Nat.le_of_ble_eq_true rfl)⟩ rfl dL_stepsOf_16

def fL_pointOf (σ : Sh) (ω : (Nat → Int64)) (p1 p2 : Int32) : Option (Int32 × (Nat → Int64)) := ((fX6_pointOf σ p1 p2).bind fun r_1 => xcase r_1 (fun e => (if e = "java/lang/IndexOutOfBoundsException" then (some ((1 : Int32), ω)) else none)) (fun v_1 => (some ((0 : Int32), (vp_updL ω (Int32.toNatClampNeg (0 : Int32)) (Int32.toInt64 v_1))))))
abbrev rmL_pointOf : Room := { frames := 8, cells := 1, slots := 6, locals := 134 }
theorem hdL_pointOf : yL_pointOf.cls = RL ∧ yL_pointOf.cls ≠ "java/lang/invoke/MethodHandle" ∧ yL_pointOf.cls ≠ "java/lang/invoke/VarHandle" ∧ (parseMethodDescriptor yL_pointOf.desc).map (fun d => d.parameters.length) = some 4 := by decide +kernel
theorem hkL_pointOf_13 : (.classLink RL 13 "java/lang/IndexOutOfBoundsException" : Cond) ∈ wsL_pointOf := by decide +kernel
set_option maxHeartbeats 4000000 in
set_option maxRecDepth 100000 in
theorem cL_pointOf_ok (l : Launch) (hl0 : l.stackTraces = false) (g : Gg) (c0 h k0 x0 d0 a1 a2 a3 a4 o0 : Nat) (σ : Sh) (ω : (Nat → Int64)) (p1 p2 : Int32) (sz : Nat) {o : Int32 × (Nat → Int64)} (hf : fL_pointOf σ ω p1 p2 = some o) : vx_Met l yL_pointOf wsL_pointOf rmL_pointOf (va_Pc [.ref c0, .int p1, .int p2, .ref o0] (PM g (wC c0 h k0 x0 d0 ++ (wS g h a1 a2 a3 a4 σ ++ (wO g o0 ω))) sz)) (va_Qi (fun r' (_ : Unit) => r' = o.1) (fun _ t => PQ g (wC c0 h k0 x0 d0 ++ (wS g h a1 a2 a3 a4 σ ++ (wO g o0 o.2))) (va_A (wC c0 h k0 x0 d0 ++ (wS g h a1 a2 a3 a4 σ ++ (wO g o0 ω))) sz) t) (va_A (wC c0 h k0 x0 d0 ++ (wS g h a1 a2 a3 a4 σ ++ (wO g o0 ω))) sz)) (vx_X (fun _ : Unit => False) (fun _ _ _ => True) (va_A (wC c0 h k0 x0 d0 ++ (wS g h a1 a2 a3 a4 σ ++ (wO g o0 ω))) sz)) 1 6 (va_A (wC c0 h k0 x0 d0 ++ (wS g h a1 a2 a3 a4 σ ++ (wO g o0 ω))) sz) := by
  refine vx_ofWH (cc := cL_pointOf) (maxL := 5) (ret := (some .int)) (by decide) rfl ?_
  intro p e s m args below meth c s₁ B hml hv
  obtain ⟨rfl, rfl, hP, hD0, hE, hZ⟩ := hv
  have hx := B.exec
  have hb := B.bytes
  have hr := B.returns
  have hts := atoms_spec (ws := wsL_pointOf) B.pre
  have htab := vx_table (x := yL_pointOf) B (hts _ List.mem_cons_self)
  have hown : s.vm.findClass RL = some m.cls := findClass_of_methodNamed B.named
  have hlocks := B.notSynchronized
  have hD := hD0.self (sz := s.heap.size)
  generalize hAe : (va_A (wC c0 h k0 x0 d0 ++ (wS g h a1 a2 a3 a4 σ ++ (wO g o0 ω))) s.heap.size) = A at hD hZ ⊢
  have hA : ∀ q : Nat, s.heap.size ≤ q → A q := fun q h => by rw [← hAe]; exact Or.inr h
  have hS : va_S A s.heap s.heap [] := va_S.rf
  have hP : va_P g.1 vwCl (wC c0 h k0 x0 d0 ++ (wS g h a1 a2 a3 a4 σ ++ (wO g o0 ω))) s.heap := hP
  have hl := lv_entry ([.ref c0, .int p1, .int p2, .ref o0]) (n := 5) (Nat.le_of_ble_eq_true rfl)
  rw [lg_entry_eq]
  generalize (lg_sl ([.ref c0, .int p1, .int p2, .ref o0]) ++ List.replicate (5 - (lg_sl ([.ref c0, .int p1, .int p2, .ref o0])).length) Slot.unset).toArray = ls at hl ⊢
  have hl : lv_has ls 5 [(0, .ref c0), (1, .int p1), (2, .int p2), (3, .ref o0)] := hl
  unfold fL_pointOf at hf
  refine lv_aload_n hx hb dL_pointOf_0 rfl (lv_at hl 3 rfl) ?_
  refine lv_iconst (v := (0 : Int32)) hx hb dL_pointOf_1 (by decide) ?_
  refine lv_aload_n hx hb dL_pointOf_2 rfl (lv_at hl 0 rfl) ?_
  refine lv_iload_n hx hb dL_pointOf_3 rfl (lv_at hl 1 rfl) ?_
  refine lv_iload_n hx hb dL_pointOf_4 rfl (lv_at hl 2 rfl) ?_
  obtain ⟨r_1, e_1, hf⟩ := bo hf
  refine wcallVi (W0 := (wC c0 h k0 x0 d0 ++ (wS g h a1 a2 a3 a4 σ ++ (wO g o0 ω)))) (Wc := (wC c0 h k0 x0 d0 ++ (wS g h a1 a2 a3 a4 σ))) (Wr := (wO g o0 ω)) (As := [.int p1, .int p2]) (rest := [.int (0 : Int32), .ref o0]) [0, 1, 2, 3, 4, 5] [6] [1, 2, 3, 4, 5, 6, 0] 4 0 ⟨hx, hb, hml, hown, hts⟩ hP hD hE hZ hS hA (cX6_pointOf_ok l hl0 g c0 h k0 x0 d0 a1 a2 a3 a4 σ p1 p2 _ e_1) (cwV 2 hts gL_pointOf_X6_pointOf rfl rfl rfl hdX6_pointOf ⟨(Nat.le_of_ble_eq_true rfl), (Nat.le_of_ble_eq_true rfl)⟩) rfl rfl rfl (by decide) (by decide) (by decide) (by decide) rfl rfl rfl rfl hl.1 rfl (Nat.le_of_ble_eq_true rfl) ⟨(Nat.le_of_ble_eq_true rfl), (Nat.le_of_ble_eq_true rfl)⟩ dL_pointOf_5 (fun E ce q9 H locs ox_1 hP hD hS hce hcv hcl => ?_) (fun v_1 H locs ok_1 hP hD hS => ?_)
  · have hf := xe ox_1 hf
    by_cases z_2 : E = "java/lang/IndexOutOfBoundsException"
    · have hf := ip z_2 hf
      subst z_2
      refine vx_catch (name := "java/lang/IndexOutOfBoundsException") hown [] ⟨0, 10, 13, 13⟩ [] (htab.trans rfl) (fun z hz => absurd hz List.not_mem_nil) (by decide) (by decide) (hts _ hkL_pointOf_13) (va_Nw.use rfl (hE.2.1 (.castable "java/lang/IndexOutOfBoundsException" "java/lang/IndexOutOfBoundsException") (by decide +kernel))) hce hcv hcl ?_
      refine lv_astore (lv' := [(4, .ref q9), (0, .ref c0), (1, .int p1), (2, .int p2), (3, .ref o0)]) hx hb dL_pointOf_13 hl (by decide) rfl (fun ls hl => ?_)
      refine lv_iconst (v := (1 : Int32)) hx hb dL_pointOf_15 (by decide) ?_
      have ho := Option.some.inj hf
      subst ho
      exact w_iret (v := (1 : Int32)) hx hb hr hlocks hP hD hS ⟨(Nat.le_of_ble_eq_true rfl), (Nat.le_of_ble_eq_true rfl)⟩ rfl dL_pointOf_16
    · have hf := iq z_2 hf
      exact nomatch (show (none : Option (Int32 × (Nat → Int64))) = some _ from hf)
  · have hf := xo ok_1 hf
    refine lv_i2l hx hb dL_pointOf_8 rfl ?_
    refine va_last hx hb hE.1 hP hD hS 6 2 rfl rfl (vin (by decide)) dL_pointOf_9 (fun H locs hP hD hS => ?_)
    have hP : va_P g.1 vwCl (wC c0 h k0 x0 d0 ++ (wS g h a1 a2 a3 a4 σ ++ (wO g o0 (vp_updL ω (Int32.toNatClampNeg (0 : Int32)) (Int32.toInt64 v_1))))) H := hP
    have hD : va_D A (wC c0 h k0 x0 d0 ++ (wS g h a1 a2 a3 a4 σ ++ (wO g o0 (vp_updL ω (Int32.toNatClampNeg (0 : Int32)) (Int32.toInt64 v_1))))) := hD
    refine lv_goto (tgt := 17) hx hb dL_pointOf_10 (by decide) ?_
    refine lv_iconst (v := (0 : Int32)) hx hb dL_pointOf_17 (by decide) ?_
    have ho := Option.some.inj hf
    subst ho
    exact w_iret (v := (0 : Int32)) hx hb hr hlocks hP hD hS ⟨(Nat.le_of_ble_eq_true rfl), (Nat.le_of_ble_eq_true rfl)⟩ rfl dL_pointOf_18

def fL_lineAt (σ : Sh) (ω : (Nat → Int64)) (p1 : Int32) : Option (Int32 × (Nat → Int64)) := ((fX6_lineAt σ p1).bind fun r_1 => xcase r_1 (fun e => (if e = "java/lang/IndexOutOfBoundsException" then (some ((1 : Int32), ω)) else none)) (fun v_1 => (some ((0 : Int32), (vp_updL ω (Int32.toNatClampNeg (0 : Int32)) (Int32.toInt64 v_1))))))
abbrev rmL_lineAt : Room := { frames := 8, cells := 1, slots := 6, locals := 131 }
theorem hdL_lineAt : yL_lineAt.cls = RL ∧ yL_lineAt.cls ≠ "java/lang/invoke/MethodHandle" ∧ yL_lineAt.cls ≠ "java/lang/invoke/VarHandle" ∧ (parseMethodDescriptor yL_lineAt.desc).map (fun d => d.parameters.length) = some 3 := by decide +kernel
theorem hkL_lineAt_13 : (.classLink RL 13 "java/lang/IndexOutOfBoundsException" : Cond) ∈ wsL_lineAt := by decide +kernel
set_option maxHeartbeats 4000000 in
set_option maxRecDepth 100000 in
theorem cL_lineAt_ok (l : Launch) (hl0 : l.stackTraces = false) (g : Gg) (c0 h k0 x0 d0 a1 a2 a3 a4 o0 : Nat) (σ : Sh) (ω : (Nat → Int64)) (p1 : Int32) (sz : Nat) {o : Int32 × (Nat → Int64)} (hf : fL_lineAt σ ω p1 = some o) : vx_Met l yL_lineAt wsL_lineAt rmL_lineAt (va_Pc [.ref c0, .int p1, .ref o0] (PM g (wC c0 h k0 x0 d0 ++ (wS g h a1 a2 a3 a4 σ ++ (wO g o0 ω))) sz)) (va_Qi (fun r' (_ : Unit) => r' = o.1) (fun _ t => PQ g (wC c0 h k0 x0 d0 ++ (wS g h a1 a2 a3 a4 σ ++ (wO g o0 o.2))) (va_A (wC c0 h k0 x0 d0 ++ (wS g h a1 a2 a3 a4 σ ++ (wO g o0 ω))) sz) t) (va_A (wC c0 h k0 x0 d0 ++ (wS g h a1 a2 a3 a4 σ ++ (wO g o0 ω))) sz)) (vx_X (fun _ : Unit => False) (fun _ _ _ => True) (va_A (wC c0 h k0 x0 d0 ++ (wS g h a1 a2 a3 a4 σ ++ (wO g o0 ω))) sz)) 1 6 (va_A (wC c0 h k0 x0 d0 ++ (wS g h a1 a2 a3 a4 σ ++ (wO g o0 ω))) sz) := by
  refine vx_ofWH (cc := cL_lineAt) (maxL := 4) (ret := (some .int)) (by decide) rfl ?_
  intro p e s m args below meth c s₁ B hml hv
  obtain ⟨rfl, rfl, hP, hD0, hE, hZ⟩ := hv
  have hx := B.exec
  have hb := B.bytes
  have hr := B.returns
  have hts := atoms_spec (ws := wsL_lineAt) B.pre
  have htab := vx_table (x := yL_lineAt) B (hts _ List.mem_cons_self)
  have hown : s.vm.findClass RL = some m.cls := findClass_of_methodNamed B.named
  have hlocks := B.notSynchronized
  have hD := hD0.self (sz := s.heap.size)
  generalize hAe : (va_A (wC c0 h k0 x0 d0 ++ (wS g h a1 a2 a3 a4 σ ++ (wO g o0 ω))) s.heap.size) = A at hD hZ ⊢
  have hA : ∀ q : Nat, s.heap.size ≤ q → A q := fun q h => by rw [← hAe]; exact Or.inr h
  have hS : va_S A s.heap s.heap [] := va_S.rf
  have hP : va_P g.1 vwCl (wC c0 h k0 x0 d0 ++ (wS g h a1 a2 a3 a4 σ ++ (wO g o0 ω))) s.heap := hP
  have hl := lv_entry ([.ref c0, .int p1, .ref o0]) (n := 4) (Nat.le_of_ble_eq_true rfl)
  rw [lg_entry_eq]
  generalize (lg_sl ([.ref c0, .int p1, .ref o0]) ++ List.replicate (4 - (lg_sl ([.ref c0, .int p1, .ref o0])).length) Slot.unset).toArray = ls at hl ⊢
  have hl : lv_has ls 4 [(0, .ref c0), (1, .int p1), (2, .ref o0)] := hl
  unfold fL_lineAt at hf
  refine lv_aload_n hx hb dL_lineAt_0 rfl (lv_at hl 2 rfl) ?_
  refine lv_iconst (v := (0 : Int32)) hx hb dL_lineAt_1 (by decide) ?_
  refine lv_aload_n hx hb dL_lineAt_2 rfl (lv_at hl 0 rfl) ?_
  refine lv_iload_n hx hb dL_lineAt_3 rfl (lv_at hl 1 rfl) ?_
  obtain ⟨r_1, e_1, hf⟩ := bo hf
  refine wcallVi (W0 := (wC c0 h k0 x0 d0 ++ (wS g h a1 a2 a3 a4 σ ++ (wO g o0 ω)))) (Wc := (wC c0 h k0 x0 d0 ++ (wS g h a1 a2 a3 a4 σ))) (Wr := (wO g o0 ω)) (As := [.int p1]) (rest := [.int (0 : Int32), .ref o0]) [0, 1, 2, 3, 4, 5] [6] [1, 2, 3, 4, 5, 6, 0] 4 0 ⟨hx, hb, hml, hown, hts⟩ hP hD hE hZ hS hA (cX6_lineAt_ok l hl0 g c0 h k0 x0 d0 a1 a2 a3 a4 σ p1 _ e_1) (cwV 1 hts gL_lineAt_X6_lineAt rfl rfl rfl hdX6_lineAt ⟨(Nat.le_of_ble_eq_true rfl), (Nat.le_of_ble_eq_true rfl)⟩) rfl rfl rfl (by decide) (by decide) (by decide) (by decide) rfl rfl rfl rfl hl.1 rfl (Nat.le_of_ble_eq_true rfl) ⟨(Nat.le_of_ble_eq_true rfl), (Nat.le_of_ble_eq_true rfl)⟩ dL_lineAt_4 (fun E ce q9 H locs ox_1 hP hD hS hce hcv hcl => ?_) (fun v_1 H locs ok_1 hP hD hS => ?_)
  · have hf := xe ox_1 hf
    by_cases z_2 : E = "java/lang/IndexOutOfBoundsException"
    · have hf := ip z_2 hf
      subst z_2
      refine vx_catch (name := "java/lang/IndexOutOfBoundsException") hown [] ⟨0, 9, 12, 13⟩ [] (htab.trans rfl) (fun z hz => absurd hz List.not_mem_nil) (by decide) (by decide) (hts _ hkL_lineAt_13) (va_Nw.use rfl (hE.2.1 (.castable "java/lang/IndexOutOfBoundsException" "java/lang/IndexOutOfBoundsException") (by decide +kernel))) hce hcv hcl ?_
      refine lv_astore_n (lv' := [(3, .ref q9), (0, .ref c0), (1, .int p1), (2, .ref o0)]) hx hb dL_lineAt_12 rfl hl (by decide) rfl (fun ls hl => ?_)
      refine lv_iconst (v := (1 : Int32)) hx hb dL_lineAt_13 (by decide) ?_
      have ho := Option.some.inj hf
      subst ho
      exact w_iret (v := (1 : Int32)) hx hb hr hlocks hP hD hS ⟨(Nat.le_of_ble_eq_true rfl), (Nat.le_of_ble_eq_true rfl)⟩ rfl dL_lineAt_14
    · have hf := iq z_2 hf
      exact nomatch (show (none : Option (Int32 × (Nat → Int64))) = some _ from hf)
  · have hf := xo ok_1 hf
    refine lv_i2l hx hb dL_lineAt_7 rfl ?_
    refine va_last hx hb hE.1 hP hD hS 6 2 rfl rfl (vin (by decide)) dL_lineAt_8 (fun H locs hP hD hS => ?_)
    have hP : va_P g.1 vwCl (wC c0 h k0 x0 d0 ++ (wS g h a1 a2 a3 a4 σ ++ (wO g o0 (vp_updL ω (Int32.toNatClampNeg (0 : Int32)) (Int32.toInt64 v_1))))) H := hP
    have hD : va_D A (wC c0 h k0 x0 d0 ++ (wS g h a1 a2 a3 a4 σ ++ (wO g o0 (vp_updL ω (Int32.toNatClampNeg (0 : Int32)) (Int32.toInt64 v_1))))) := hD
    refine lv_goto (tgt := 15) hx hb dL_lineAt_9 (by decide) ?_
    refine lv_iconst (v := (0 : Int32)) hx hb dL_lineAt_15 (by decide) ?_
    have ho := Option.some.inj hf
    subst ho
    exact w_iret (v := (0 : Int32)) hx hb hr hlocks hP hD hS ⟨(Nat.le_of_ble_eq_true rfl), (Nat.le_of_ble_eq_true rfl)⟩ rfl dL_lineAt_16
