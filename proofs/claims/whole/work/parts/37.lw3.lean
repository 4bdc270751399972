def fL_bestPlace (σ : Sh) (ω : (Nat → Int64)) (p1 : Int32) : Option (Int32 × (Nat → Int64)) := ((fX6_bestPlace σ p1).bind fun r_1 => xcase r_1 (fun e => (if e = "java/lang/IndexOutOfBoundsException" then (some ((1 : Int32), ω)) else none)) (fun v_1 => (some ((0 : Int32), (vp_updL ω (Int32.toNatClampNeg (0 : Int32)) (Int32.toInt64 v_1))))))
abbrev rmL_bestPlace : Room := { frames := 8, cells := 1, slots := 6, locals := 148 }
theorem hdL_bestPlace : yL_bestPlace.cls = RL ∧ yL_bestPlace.cls ≠ "java/lang/invoke/MethodHandle" ∧ yL_bestPlace.cls ≠ "java/lang/invoke/VarHandle" ∧ (parseMethodDescriptor yL_bestPlace.desc).map (fun d => d.parameters.length) = some 3 := by decide +kernel
theorem hkL_bestPlace_13 : (.classLink RL 13 "java/lang/IndexOutOfBoundsException" : Cond) ∈ wsL_bestPlace := by decide +kernel
set_option maxHeartbeats 4000000 in
set_option maxRecDepth 100000 in
theorem cL_bestPlace_ok (l : Launch) (hl0 : l.stackTraces = false) (g : Gg) (c0 h k0 x0 d0 a1 a2 a3 a4 o0 : Nat) (σ : Sh) (ω : (Nat → Int64)) (p1 : Int32) (sz : Nat) {o : Int32 × (Nat → Int64)} (hf : fL_bestPlace σ ω p1 = some o) : vx_Met l yL_bestPlace wsL_bestPlace rmL_bestPlace (va_Pc [.ref c0, .int p1, .ref o0] (PM g (wC c0 h k0 x0 d0 ++ (wS g h a1 a2 a3 a4 σ ++ (wO g o0 ω))) sz)) (va_Qi (fun r' (_ : Unit) => r' = o.1) (fun _ t => PQ g (wC c0 h k0 x0 d0 ++ (wS g h a1 a2 a3 a4 σ ++ (wO g o0 o.2))) (va_A (wC c0 h k0 x0 d0 ++ (wS g h a1 a2 a3 a4 σ ++ (wO g o0 ω))) sz) t) (va_A (wC c0 h k0 x0 d0 ++ (wS g h a1 a2 a3 a4 σ ++ (wO g o0 ω))) sz)) (vx_X (fun _ : Unit => False) (fun _ _ _ => True) (va_A (wC c0 h k0 x0 d0 ++ (wS g h a1 a2 a3 a4 σ ++ (wO g o0 ω))) sz)) 1 6 (va_A (wC c0 h k0 x0 d0 ++ (wS g h a1 a2 a3 a4 σ ++ (wO g o0 ω))) sz) := by
  refine vx_ofWH (cc := cL_bestPlace) (maxL := 4) (ret := (some .int)) (by decide) rfl ?_
  intro p e s m args below meth c s₁ B hml hv
  obtain ⟨rfl, rfl, hP, hD0, hE, hZ⟩ := hv
  have hx := B.exec
  have hb := B.bytes
  have hr := B.returns
  have hts := atoms_spec (ws := wsL_bestPlace) B.pre
  have htab := vx_table (x := yL_bestPlace) B (hts _ List.mem_cons_self)
  have hown : s.vm.findClass RL = some m.cls := findClass_of_methodNamed B.named
  have hlocks := B.notSynchronized
  have hD := hD0.self (sz := s.heap.size)
  generalize hAe : (va_A (wC c0 h k0 x0 d0 ++ (wS g h a1 a2 a3 a4 σ ++ (wO g o0 ω))) s.heap.size) = A at hD hZ ⊢
  have hA : ∀ q : Nat, s.heap.size ≤ q → A q := fun q h => by rw [← hAe]; exact Or.inr h
  have hS : va_S A s.heap s.heap [] := va_S.rf
  have hP : va_P g.1 vwCl (wC c0 h k0 x0 d0 ++ (wS g h a1 a2 a3 a4 σ ++ (wO g o0 ω))) s.heap := hP
  have hl := lv_entry ([.ref c0, .int p1, .ref o0]) (n := 4) (Nat.le_of_ble_eq_true rfl)
  rw [lg_entry_eq]
  generalize (lg_sl ([.ref c0, .int p1, .ref o0]) ++ List.replicate (4 - (lg_sl ([.ref c0, .int p1, .ref o0])).length) Slot.unset).toArray = ls at hl ⊢
  have hl : lv_has ls 4 [(0, .ref c0), (1, .int p1), (2, .ref o0)] := hl
  unfold fL_bestPlace at hf
  refine lv_aload_n hx hb dL_bestPlace_0 rfl (lv_at hl 2 rfl) ?_
  refine lv_iconst (v := (0 : Int32)) hx hb dL_bestPlace_1 (by decide) ?_
  refine lv_aload_n hx hb dL_bestPlace_2 rfl (lv_at hl 0 rfl) ?_
  refine lv_iload_n hx hb dL_bestPlace_3 rfl (lv_at hl 1 rfl) ?_
  obtain ⟨r_1, e_1, hf⟩ := bo hf
  refine wcallVi (W0 := (wC c0 h k0 x0 d0 ++ (wS g h a1 a2 a3 a4 σ ++ (wO g o0 ω)))) (Wc := (wC c0 h k0 x0 d0 ++ (wS g h a1 a2 a3 a4 σ))) (Wr := (wO g o0 ω)) (As := [.int p1]) (rest := [.int (0 : Int32), .ref o0]) [0, 1, 2, 3, 4, 5] [6] [1, 2, 3, 4, 5, 6, 0] 4 0 ⟨hx, hb, hml, hown, hts⟩ hP hD hE hZ hS hA (cX6_bestPlace_ok l hl0 g c0 h k0 x0 d0 a1 a2 a3 a4 σ p1 _ e_1) (cwV 1 hts gL_bestPlace_X6_bestPlace rfl rfl rfl hdX6_bestPlace ⟨(Nat.le_of_ble_eq_true rfl), (Nat.le_of_ble_eq_true rfl)⟩) rfl rfl rfl (by decide) (by decide) (by decide) (by decide) rfl rfl rfl rfl hl.1 rfl (Nat.le_of_ble_eq_true rfl) ⟨(Nat.le_of_ble_eq_true rfl), (Nat.le_of_ble_eq_true rfl)⟩ dL_bestPlace_4 (fun E ce q9 H locs ox_1 hP hD hS hce hcv hcl => ?_) (fun v_1 H locs ok_1 hP hD hS => ?_)
  · have hf := xe ox_1 hf
    by_cases z_2 : E = "java/lang/IndexOutOfBoundsException"
    · have hf := ip z_2 hf
      subst z_2
      refine vx_catch (name := "java/lang/IndexOutOfBoundsException") hown [] ⟨0, 9, 12, 13⟩ [] (htab.trans rfl) (fun z hz => absurd hz List.not_mem_nil) (by decide) (by decide) (hts _ hkL_bestPlace_13) (va_Nw.use rfl (hE.2.1 (.castable "java/lang/IndexOutOfBoundsException" "java/lang/IndexOutOfBoundsException") (by decide +kernel))) hce hcv hcl ?_
      refine lv_astore_n (lv' := [(3, .ref q9), (0, .ref c0), (1, .int p1), (2, .ref o0)]) hx hb dL_bestPlace_12 rfl hl (by decide) rfl (fun ls hl => ?_)
      refine lv_iconst (v := (1 : Int32)) hx hb dL_bestPlace_13 (by decide) ?_
      have ho := Option.some.inj hf
      subst ho
      exact w_iret (v := (1 : Int32)) hx hb hr hlocks hP hD hS ⟨(Nat.le_of_ble_eq_true rfl), (Nat.le_of_ble_eq_true rfl)⟩ rfl dL_bestPlace_14
    · have hf := iq z_2 hf
      exact nomatch (show (none : Option (Int32 × (Nat → Int64))) = some _ from hf)
  · have hf := xo ok_1 hf
    refine lv_i2l hx hb dL_bestPlace_7 rfl ?_
    refine va_last hx hb hE.1 hP hD hS 6 2 rfl rfl (vin (by decide)) dL_bestPlace_8 (fun H locs hP hD hS => ?_)
    have hP : va_P g.1 vwCl (wC c0 h k0 x0 d0 ++ (wS g h a1 a2 a3 a4 σ ++ (wO g o0 (vp_updL ω (Int32.toNatClampNeg (0 : Int32)) (Int32.toInt64 v_1))))) H := hP
    have hD : va_D A (wC c0 h k0 x0 d0 ++ (wS g h a1 a2 a3 a4 σ ++ (wO g o0 (vp_updL ω (Int32.toNatClampNeg (0 : Int32)) (Int32.toInt64 v_1))))) := hD
    refine lv_goto (tgt := 15) hx hb dL_bestPlace_9 (by decide) ?_
    refine lv_iconst (v := (0 : Int32)) hx hb dL_bestPlace_15 (by decide) ?_
    have ho := Option.some.inj hf
    subst ho
    exact w_iret (v := (0 : Int32)) hx hb hr hlocks hP hD hS ⟨(Nat.le_of_ble_eq_true rfl), (Nat.le_of_ble_eq_true rfl)⟩ rfl dL_bestPlace_16

def fL_isWithinByRays (σ : Sh) (ω : (Nat → Int64)) (p1 p2 : Int32) : Option (Int32 × (Nat → Int64)) := ((fX6_isWithinByRays σ p1 p2).bind fun r_1 => xcase r_1 (fun e => (if e = "java/lang/IndexOutOfBoundsException" then (some ((1 : Int32), ω)) else none)) (fun v_1 => (if v_1 = true then (some ((0 : Int32), (vp_updL ω (Int32.toNatClampNeg (0 : Int32)) (1 : Int64)))) else (some ((0 : Int32), (vp_updL ω (Int32.toNatClampNeg (0 : Int32)) (0 : Int64)))))))
abbrev rmL_isWithinByRays : Room := { frames := 8, cells := 2, slots := 12, locals := 133 }
theorem hdL_isWithinByRays : yL_isWithinByRays.cls = RL ∧ yL_isWithinByRays.cls ≠ "java/lang/invoke/MethodHandle" ∧ yL_isWithinByRays.cls ≠ "java/lang/invoke/VarHandle" ∧ (parseMethodDescriptor yL_isWithinByRays.desc).map (fun d => d.parameters.length) = some 4 := by decide +kernel
theorem hkL_isWithinByRays_13 : (.classLink RL 13 "java/lang/IndexOutOfBoundsException" : Cond) ∈ wsL_isWithinByRays := by decide +kernel
set_option maxHeartbeats 4000000 in
set_option maxRecDepth 100000 in
theorem cL_isWithinByRays_ok (l : Launch) (hl0 : l.stackTraces = false) (g : Gg) (c0 h k0 x0 d0 a1 a2 a3 a4 o0 : Nat) (σ : Sh) (ω : (Nat → Int64)) (p1 p2 : Int32) (sz : Nat) {o : Int32 × (Nat → Int64)} (hf : fL_isWithinByRays σ ω p1 p2 = some o) : vx_Met l yL_isWithinByRays wsL_isWithinByRays rmL_isWithinByRays (va_Pc [.ref c0, .int p1, .int p2, .ref o0] (PM g (wC c0 h k0 x0 d0 ++ (wS g h a1 a2 a3 a4 σ ++ (wO g o0 ω))) sz)) (va_Qi (fun r' (_ : Unit) => r' = o.1) (fun _ t => PQ g (wC c0 h k0 x0 d0 ++ (wS g h a1 a2 a3 a4 σ ++ (wO g o0 o.2))) (va_A (wC c0 h k0 x0 d0 ++ (wS g h a1 a2 a3 a4 σ ++ (wO g o0 ω))) sz) t) (va_A (wC c0 h k0 x0 d0 ++ (wS g h a1 a2 a3 a4 σ ++ (wO g o0 ω))) sz)) (vx_X (fun _ : Unit => False) (fun _ _ _ => True) (va_A (wC c0 h k0 x0 d0 ++ (wS g h a1 a2 a3 a4 σ ++ (wO g o0 ω))) sz)) 2 12 (va_A (wC c0 h k0 x0 d0 ++ (wS g h a1 a2 a3 a4 σ ++ (wO g o0 ω))) sz) := by
  refine vx_ofWH (cc := cL_isWithinByRays) (maxL := 5) (ret := (some .int)) (by decide) rfl ?_
  intro p e s m args below meth c s₁ B hml hv
  obtain ⟨rfl, rfl, hP, hD0, hE, hZ⟩ := hv
  have hx := B.exec
  have hb := B.bytes
  have hr := B.returns
  have hts := atoms_spec (ws := wsL_isWithinByRays) B.pre
  have htab := vx_table (x := yL_isWithinByRays) B (hts _ List.mem_cons_self)
  have hown : s.vm.findClass RL = some m.cls := findClass_of_methodNamed B.named
  have hlocks := B.notSynchronized
  have hD := hD0.self (sz := s.heap.size)
  generalize hAe : (va_A (wC c0 h k0 x0 d0 ++ (wS g h a1 a2 a3 a4 σ ++ (wO g o0 ω))) s.heap.size) = A at hD hZ ⊢
  have hA : ∀ q : Nat, s.heap.size ≤ q → A q := fun q h => by rw [← hAe]; exact Or.inr h
  have hS : va_S A s.heap s.heap [] := va_S.rf
  have hP : va_P g.1 vwCl (wC c0 h k0 x0 d0 ++ (wS g h a1 a2 a3 a4 σ ++ (wO g o0 ω))) s.heap := hP
  have hl := lv_entry ([.ref c0, .int p1, .int p2, .ref o0]) (n := 5) (Nat.le_of_ble_eq_true rfl)
  rw [lg_entry_eq]
  generalize (lg_sl ([.ref c0, .int p1, .int p2, .ref o0]) ++ List.replicate (5 - (lg_sl ([.ref c0, .int p1, .int p2, .ref o0])).length) Slot.unset).toArray = ls at hl ⊢
  have hl : lv_has ls 5 [(0, .ref c0), (1, .int p1), (2, .int p2), (3, .ref o0)] := hl
  unfold fL_isWithinByRays at hf
  refine lv_aload_n hx hb dL_isWithinByRays_0 rfl (lv_at hl 3 rfl) ?_
  refine lv_iconst (v := (0 : Int32)) hx hb dL_isWithinByRays_1 (by decide) ?_
  refine lv_aload_n hx hb dL_isWithinByRays_2 rfl (lv_at hl 0 rfl) ?_
  refine lv_iload_n hx hb dL_isWithinByRays_3 rfl (lv_at hl 1 rfl) ?_
  refine lv_iload_n hx hb dL_isWithinByRays_4 rfl (lv_at hl 2 rfl) ?_
  obtain ⟨r_1, e_1, hf⟩ := bo hf
  refine wcallVb (W0 := (wC c0 h k0 x0 d0 ++ (wS g h a1 a2 a3 a4 σ ++ (wO g o0 ω)))) (Wc := (wC c0 h k0 x0 d0 ++ (wS g h a1 a2 a3 a4 σ))) (Wr := (wO g o0 ω)) (As := [.int p1, .int p2]) (rest := [.int (0 : Int32), .ref o0]) [0, 1, 2, 3, 4, 5] [6] [1, 2, 3, 4, 5, 6, 0] 4 0 ⟨hx, hb, hml, hown, hts⟩ hP hD hE hZ hS hA (cX6_isWithinByRays_ok l hl0 g c0 h k0 x0 d0 a1 a2 a3 a4 σ p1 p2 _ e_1) (cwV 2 hts gL_isWithinByRays_X6_isWithinByRays rfl rfl rfl hdX6_isWithinByRays ⟨(Nat.le_of_ble_eq_true rfl), (Nat.le_of_ble_eq_true rfl)⟩) rfl rfl rfl (by decide) (by decide) (by decide) (by decide) rfl rfl rfl rfl hl.1 rfl (Nat.le_of_ble_eq_true rfl) ⟨(Nat.le_of_ble_eq_true rfl), (Nat.le_of_ble_eq_true rfl)⟩ dL_isWithinByRays_5 (fun E ce q9 H locs ox_1 hP hD hS hce hcv hcl => ?_) (fun v_1 H locs ok_1 hP hD hS => ?_)
  · have hf := xe ox_1 hf
    by_cases z_2 : E = "java/lang/IndexOutOfBoundsException"
    · have hf := ip z_2 hf
      subst z_2
      refine vx_catch (name := "java/lang/IndexOutOfBoundsException") hown [] ⟨0, 17, 20, 13⟩ [] (htab.trans rfl) (fun z hz => absurd hz List.not_mem_nil) (by decide) (by decide) (hts _ hkL_isWithinByRays_13) (va_Nw.use rfl (hE.2.1 (.castable "java/lang/IndexOutOfBoundsException" "java/lang/IndexOutOfBoundsException") (by decide +kernel))) hce hcv hcl ?_
      refine lv_astore (lv' := [(4, .ref q9), (0, .ref c0), (1, .int p1), (2, .int p2), (3, .ref o0)]) hx hb dL_isWithinByRays_20 hl (by decide) rfl (fun ls hl => ?_)
      refine lv_iconst (v := (1 : Int32)) hx hb dL_isWithinByRays_22 (by decide) ?_
      have ho := Option.some.inj hf
      subst ho
      exact w_iret (v := (1 : Int32)) hx hb hr hlocks hP hD hS ⟨(Nat.le_of_ble_eq_true rfl), (Nat.le_of_ble_eq_true rfl)⟩ rfl dL_isWithinByRays_23
    · have hf := iq z_2 hf
      exact nomatch (show (none : Option (Int32 × (Nat → Int64))) = some _ from hf)
  · have hf := xo ok_1 hf
    refine lv_beq (tgt := 15) hx hb dL_isWithinByRays_8 (by decide) (fun c_3 => ?_) (fun c_3 => ?_)
    · have hf := iq c_3 hf
      refine lv_lconst (v := 0) hx hb dL_isWithinByRays_15 (by decide) ?_
      refine va_last hx hb hE.1 hP hD hS 6 2 rfl rfl (vin (by decide)) dL_isWithinByRays_16 (fun H locs hP hD hS => ?_)
      have hP : va_P g.1 vwCl (wC c0 h k0 x0 d0 ++ (wS g h a1 a2 a3 a4 σ ++ (wO g o0 (vp_updL ω (Int32.toNatClampNeg (0 : Int32)) (0 : Int64))))) H := hP
      have hD : va_D A (wC c0 h k0 x0 d0 ++ (wS g h a1 a2 a3 a4 σ ++ (wO g o0 (vp_updL ω (Int32.toNatClampNeg (0 : Int32)) (0 : Int64))))) := hD
      refine lv_goto (tgt := 24) hx hb dL_isWithinByRays_17 (by decide) ?_
      refine lv_iconst (v := (0 : Int32)) hx hb dL_isWithinByRays_24 (by decide) ?_
      have ho := Option.some.inj hf
      subst ho
      exact w_iret (v := (0 : Int32)) hx hb hr hlocks hP hD hS ⟨(Nat.le_of_ble_eq_true rfl), (Nat.le_of_ble_eq_true rfl)⟩ rfl dL_isWithinByRays_25
    · have hf := ip c_3 hf
      refine lv_lconst (v := 1) hx hb dL_isWithinByRays_11 (by decide) ?_
      refine lv_goto (tgt := 16) hx hb dL_isWithinByRays_12 (by decide) ?_
      refine va_last hx hb hE.1 hP hD hS 6 2 rfl rfl (vin (by decide)) dL_isWithinByRays_16 (fun H locs hP hD hS => ?_)
      have hP : va_P g.1 vwCl (wC c0 h k0 x0 d0 ++ (wS g h a1 a2 a3 a4 σ ++ (wO g o0 (vp_updL ω (Int32.toNatClampNeg (0 : Int32)) (1 : Int64))))) H := hP
      have hD : va_D A (wC c0 h k0 x0 d0 ++ (wS g h a1 a2 a3 a4 σ ++ (wO g o0 (vp_updL ω (Int32.toNatClampNeg (0 : Int32)) (1 : Int64))))) := hD
      refine lv_goto (tgt := 24) hx hb dL_isWithinByRays_17 (by decide) ?_
      refine lv_iconst (v := (0 : Int32)) hx hb dL_isWithinByRays_24 (by decide) ?_
      have ho := Option.some.inj hf
      subst ho
      exact w_iret (v := (0 : Int32)) hx hb hr hlocks hP hD hS ⟨(Nat.le_of_ble_eq_true rfl), (Nat.le_of_ble_eq_true rfl)⟩ rfl dL_isWithinByRays_25

def fL_isWithinBySpreading (σ : Sh) (δ : Dr) (ω : (Nat → Int64)) (p1 p2 : Int32) : Option (Int32 × Dr × (Nat → Int64)) := ((fX6_isWithinBySpreading σ δ p1 p2).bind fun r_1 => xcase r_1 (fun e => (if e = "java/lang/IndexOutOfBoundsException" then (some ((1 : Int32), δ, ω)) else none)) (fun v_1 => (if v_1.1 = true then (some ((0 : Int32), v_1.2, (vp_updL ω (Int32.toNatClampNeg (0 : Int32)) (1 : Int64)))) else (some ((0 : Int32), v_1.2, (vp_updL ω (Int32.toNatClampNeg (0 : Int32)) (0 : Int64)))))))
abbrev rmL_isWithinBySpreading : Room := { frames := 8, cells := 2, slots := 12, locals := 133 }
theorem hdL_isWithinBySpreading : yL_isWithinBySpreading.cls = RL ∧ yL_isWithinBySpreading.cls ≠ "java/lang/invoke/MethodHandle" ∧ yL_isWithinBySpreading.cls ≠ "java/lang/invoke/VarHandle" ∧ (parseMethodDescriptor yL_isWithinBySpreading.desc).map (fun d => d.parameters.length) = some 4 := by decide +kernel
theorem hkL_isWithinBySpreading_13 : (.classLink RL 13 "java/lang/IndexOutOfBoundsException" : Cond) ∈ wsL_isWithinBySpreading := by decide +kernel
set_option maxHeartbeats 4000000 in
set_option maxRecDepth 100000 in
theorem cL_isWithinBySpreading_ok (l : Launch) (hl0 : l.stackTraces = false) (g : Gg) (c0 h k0 x0 d0 a1 a2 a3 a4 d1 d2 o0 : Nat) (σ : Sh) (δ : Dr) (ω : (Nat → Int64)) (p1 p2 : Int32) (sz : Nat) {o : Int32 × Dr × (Nat → Int64)} (hf : fL_isWithinBySpreading σ δ ω p1 p2 = some o) : vx_Met l yL_isWithinBySpreading wsL_isWithinBySpreading rmL_isWithinBySpreading (va_Pc [.ref c0, .int p1, .int p2, .ref o0] (PM g (wC c0 h k0 x0 d0 ++ (wS g h a1 a2 a3 a4 σ ++ (wD g d0 d1 d2 δ ++ (wO g o0 ω)))) sz)) (va_Qi (fun r' (_ : Unit) => r' = o.1) (fun _ t => PQ g (wC c0 h k0 x0 d0 ++ (wS g h a1 a2 a3 a4 σ ++ (wD g d0 d1 d2 o.2.1 ++ (wO g o0 o.2.2)))) (va_A (wC c0 h k0 x0 d0 ++ (wS g h a1 a2 a3 a4 σ ++ (wD g d0 d1 d2 δ ++ (wO g o0 ω)))) sz) t) (va_A (wC c0 h k0 x0 d0 ++ (wS g h a1 a2 a3 a4 σ ++ (wD g d0 d1 d2 δ ++ (wO g o0 ω)))) sz)) (vx_X (fun _ : Unit => False) (fun _ _ _ => True) (va_A (wC c0 h k0 x0 d0 ++ (wS g h a1 a2 a3 a4 σ ++ (wD g d0 d1 d2 δ ++ (wO g o0 ω)))) sz)) 2 12 (va_A (wC c0 h k0 x0 d0 ++ (wS g h a1 a2 a3 a4 σ ++ (wD g d0 d1 d2 δ ++ (wO g o0 ω)))) sz) := by
  refine vx_ofWH (cc := cL_isWithinBySpreading) (maxL := 5) (ret := (some .int)) (by decide) rfl ?_
  intro p e s m args below meth c s₁ B hml hv
  obtain ⟨rfl, rfl, hP, hD0, hE, hZ⟩ := hv
  have hx := B.exec
  have hb := B.bytes
  have hr := B.returns
  have hts := atoms_spec (ws := wsL_isWithinBySpreading) B.pre
  have htab := vx_table (x := yL_isWithinBySpreading) B (hts _ List.mem_cons_self)
  have hown : s.vm.findClass RL = some m.cls := findClass_of_methodNamed B.named
  have hlocks := B.notSynchronized
  have hD := hD0.self (sz := s.heap.size)
  generalize hAe : (va_A (wC c0 h k0 x0 d0 ++ (wS g h a1 a2 a3 a4 σ ++ (wD g d0 d1 d2 δ ++ (wO g o0 ω)))) s.heap.size) = A at hD hZ ⊢
  have hA : ∀ q : Nat, s.heap.size ≤ q → A q := fun q h => by rw [← hAe]; exact Or.inr h
  have hS : va_S A s.heap s.heap [] := va_S.rf
  have hP : va_P g.1 vwCl (wC c0 h k0 x0 d0 ++ (wS g h a1 a2 a3 a4 σ ++ (wD g d0 d1 d2 δ ++ (wO g o0 ω)))) s.heap := hP
  have hl := lv_entry ([.ref c0, .int p1, .int p2, .ref o0]) (n := 5) (Nat.le_of_ble_eq_true rfl)
  rw [lg_entry_eq]
  generalize (lg_sl ([.ref c0, .int p1, .int p2, .ref o0]) ++ List.replicate (5 - (lg_sl ([.ref c0, .int p1, .int p2, .ref o0])).length) Slot.unset).toArray = ls at hl ⊢
  have hl : lv_has ls 5 [(0, .ref c0), (1, .int p1), (2, .int p2), (3, .ref o0)] := hl
  unfold fL_isWithinBySpreading at hf
  refine lv_aload_n hx hb dL_isWithinBySpreading_0 rfl (lv_at hl 3 rfl) ?_
  refine lv_iconst (v := (0 : Int32)) hx hb dL_isWithinBySpreading_1 (by decide) ?_
  refine lv_aload_n hx hb dL_isWithinBySpreading_2 rfl (lv_at hl 0 rfl) ?_
  refine lv_iload_n hx hb dL_isWithinBySpreading_3 rfl (lv_at hl 1 rfl) ?_
  refine lv_iload_n hx hb dL_isWithinBySpreading_4 rfl (lv_at hl 2 rfl) ?_
  obtain ⟨r_1, e_1, hf⟩ := bo hf
  refine wcallVmb (W0 := (wC c0 h k0 x0 d0 ++ (wS g h a1 a2 a3 a4 σ ++ (wD g d0 d1 d2 δ ++ (wO g o0 ω))))) (Wc := (wC c0 h k0 x0 d0 ++ (wS g h a1 a2 a3 a4 σ ++ (wD g d0 d1 d2 δ)))) (Wr := (wO g o0 ω)) (W1 := fun u : Dr => (wC c0 h k0 x0 d0 ++ (wS g h a1 a2 a3 a4 σ ++ (wD g d0 d1 d2 u)))) (W2 := fun u : Dr => (wC c0 h k0 x0 d0 ++ (wS g h a1 a2 a3 a4 σ ++ (wD g d0 d1 d2 u ++ (wO g o0 ω))))) (As := [.int p1, .int p2]) (rest := [.int (0 : Int32), .ref o0]) [0, 1, 2, 3, 4, 5, 6, 7, 8] [9] [1, 2, 3, 4, 5, 6, 7, 8, 9, 0] 4 0 ⟨hx, hb, hml, hown, hts⟩ hP hD hE hZ hS hA (cX6_isWithinBySpreading_ok l hl0 g c0 h k0 x0 d0 a1 a2 a3 a4 d1 d2 σ δ p1 p2 _ e_1) (cwV 2 hts gL_isWithinBySpreading_X6_isWithinBySpreading rfl rfl rfl hdX6_isWithinBySpreading ⟨(Nat.le_of_ble_eq_true rfl), (Nat.le_of_ble_eq_true rfl)⟩) rfl rfl (fun _ => rfl) (by decide) (by decide) (by decide) (by decide) rfl rfl rfl rfl hl.1 rfl (Nat.le_of_ble_eq_true rfl) ⟨(Nat.le_of_ble_eq_true rfl), (Nat.le_of_ble_eq_true rfl)⟩ dL_isWithinBySpreading_5 (fun E ce q9 H locs ox_1 hP hD hS hce hcv hcl => ?_) (fun v_1 H locs ok_1 hP hD hS => ?_)
  · have hf := xe ox_1 hf
    by_cases z_2 : E = "java/lang/IndexOutOfBoundsException"
    · have hf := ip z_2 hf
      subst z_2
      refine vx_catch (name := "java/lang/IndexOutOfBoundsException") hown [] ⟨0, 17, 20, 13⟩ [] (htab.trans rfl) (fun z hz => absurd hz List.not_mem_nil) (by decide) (by decide) (hts _ hkL_isWithinBySpreading_13) (va_Nw.use rfl (hE.2.1 (.castable "java/lang/IndexOutOfBoundsException" "java/lang/IndexOutOfBoundsException") (by decide +kernel))) hce hcv hcl ?_
      refine lv_astore (lv' := [(4, .ref q9), (0, .ref c0), (1, .int p1), (2, .int p2), (3, .ref o0)]) hx hb dL_isWithinBySpreading_20 hl (by decide) rfl (fun ls hl => ?_)
      refine lv_iconst (v := (1 : Int32)) hx hb dL_isWithinBySpreading_22 (by decide) ?_
      have ho := Option.some.inj hf
      subst ho
      exact w_iret (v := (1 : Int32)) hx hb hr hlocks hP hD hS ⟨(Nat.le_of_ble_eq_true rfl), (Nat.le_of_ble_eq_true rfl)⟩ rfl dL_isWithinBySpreading_23
    · have hf := iq z_2 hf
      exact nomatch (show (none : Option (Int32 × Dr × (Nat → Int64))) = some _ from hf)
  · have hf := xo ok_1 hf
    refine lv_beq (tgt := 15) hx hb dL_isWithinBySpreading_8 (by decide) (fun c_3 => ?_) (fun c_3 => ?_)
    · have hf := iq c_3 hf
      refine lv_lconst (v := 0) hx hb dL_isWithinBySpreading_15 (by decide) ?_
      refine va_last hx hb hE.1 hP hD hS 9 2 rfl rfl (vin (by decide)) dL_isWithinBySpreading_16 (fun H locs hP hD hS => ?_)
      have hP : va_P g.1 vwCl (wC c0 h k0 x0 d0 ++ (wS g h a1 a2 a3 a4 σ ++ (wD g d0 d1 d2 v_1.2 ++ (wO g o0 (vp_updL ω (Int32.toNatClampNeg (0 : Int32)) (0 : Int64)))))) H := hP
      have hD : va_D A (wC c0 h k0 x0 d0 ++ (wS g h a1 a2 a3 a4 σ ++ (wD g d0 d1 d2 v_1.2 ++ (wO g o0 (vp_updL ω (Int32.toNatClampNeg (0 : Int32)) (0 : Int64)))))) := hD
      refine lv_goto (tgt := 24) hx hb dL_isWithinBySpreading_17 (by decide) ?_
      refine lv_iconst (v := (0 : Int32)) hx hb dL_isWithinBySpreading_24 (by decide) ?_
      have ho := Option.some.inj hf
      subst ho
      exact w_iret (v := (0 : Int32)) hx hb hr hlocks hP hD hS ⟨(Nat.le_of_ble_eq_true rfl), (Nat.le_of_ble_eq_true rfl)⟩ rfl dL_isWithinBySpreading_25
    · have hf := ip c_3 hf
      refine lv_lconst (v := 1) hx hb dL_isWithinBySpreading_11 (by decide) ?_
      refine lv_goto (tgt := 16) hx hb dL_isWithinBySpreading_12 (by decide) ?_
      refine va_last hx hb hE.1 hP hD hS 9 2 rfl rfl (vin (by decide)) dL_isWithinBySpreading_16 (fun H locs hP hD hS => ?_)
      have hP : va_P g.1 vwCl (wC c0 h k0 x0 d0 ++ (wS g h a1 a2 a3 a4 σ ++ (wD g d0 d1 d2 v_1.2 ++ (wO g o0 (vp_updL ω (Int32.toNatClampNeg (0 : Int32)) (1 : Int64)))))) H := hP
      have hD : va_D A (wC c0 h k0 x0 d0 ++ (wS g h a1 a2 a3 a4 σ ++ (wD g d0 d1 d2 v_1.2 ++ (wO g o0 (vp_updL ω (Int32.toNatClampNeg (0 : Int32)) (1 : Int64)))))) := hD
      refine lv_goto (tgt := 24) hx hb dL_isWithinBySpreading_17 (by decide) ?_
      refine lv_iconst (v := (0 : Int32)) hx hb dL_isWithinBySpreading_24 (by decide) ?_
      have ho := Option.some.inj hf
      subst ho
      exact w_iret (v := (0 : Int32)) hx hb hr hlocks hP hD hS ⟨(Nat.le_of_ble_eq_true rfl), (Nat.le_of_ble_eq_true rfl)⟩ rfl dL_isWithinBySpreading_25

def fL_pointsWithin (σ : Sh) (ω : (Nat → Int64)) (p1 : Int32) : Option (Int32 × (Nat → Int64)) := ((fX6_pointsWithin σ p1).bind fun r_1 => xcase r_1 (fun e => (if e = "java/lang/IndexOutOfBoundsException" then (some ((1 : Int32), ω)) else none)) (fun v_1 => (some ((0 : Int32), (vp_updL ω (Int32.toNatClampNeg (0 : Int32)) (Int32.toInt64 v_1))))))
abbrev rmL_pointsWithin : Room := { frames := 8, cells := 1, slots := 6, locals := 134 }
theorem hdL_pointsWithin : yL_pointsWithin.cls = RL ∧ yL_pointsWithin.cls ≠ "java/lang/invoke/MethodHandle" ∧ yL_pointsWithin.cls ≠ "java/lang/invoke/VarHandle" ∧ (parseMethodDescriptor yL_pointsWithin.desc).map (fun d => d.parameters.length) = some 3 := by decide +kernel
theorem hkL_pointsWithin_13 : (.classLink RL 13 "java/lang/IndexOutOfBoundsException" : Cond) ∈ wsL_pointsWithin := by decide +kernel
set_option maxHeartbeats 4000000 in
set_option maxRecDepth 100000 in
theorem cL_pointsWithin_ok (l : Launch) (hl0 : l.stackTraces = false) (g : Gg) (c0 h k0 x0 d0 a1 a2 a3 a4 o0 : Nat) (σ : Sh) (ω : (Nat → Int64)) (p1 : Int32) (sz : Nat) {o : Int32 × (Nat → Int64)} (hf : fL_pointsWithin σ ω p1 = some o) : vx_Met l yL_pointsWithin wsL_pointsWithin rmL_pointsWithin (va_Pc [.ref c0, .int p1, .ref o0] (PM g (wC c0 h k0 x0 d0 ++ (wS g h a1 a2 a3 a4 σ ++ (wO g o0 ω))) sz)) (va_Qi (fun r' (_ : Unit) => r' = o.1) (fun _ t => PQ g (wC c0 h k0 x0 d0 ++ (wS g h a1 a2 a3 a4 σ ++ (wO g o0 o.2))) (va_A (wC c0 h k0 x0 d0 ++ (wS g h a1 a2 a3 a4 σ ++ (wO g o0 ω))) sz) t) (va_A (wC c0 h k0 x0 d0 ++ (wS g h a1 a2 a3 a4 σ ++ (wO g o0 ω))) sz)) (vx_X (fun _ : Unit => False) (fun _ _ _ => True) (va_A (wC c0 h k0 x0 d0 ++ (wS g h a1 a2 a3 a4 σ ++ (wO g o0 ω))) sz)) 1 6 (va_A (wC c0 h k0 x0 d0 ++ (wS g h a1 a2 a3 a4 σ ++ (wO g o0 ω))) sz) := by
  refine vx_ofWH (cc := cL_pointsWithin) (maxL := 4) (ret := (some .int)) (by decide) rfl ?_
  intro p e s m args below meth c s₁ B hml hv
  obtain ⟨rfl, rfl, hP, hD0, hE, hZ⟩ := hv
  have hx := B.exec
  have hb := B.bytes
  have hr := B.returns
  have hts := atoms_spec (ws := wsL_pointsWithin) B.pre
  have htab := vx_table (x := yL_pointsWithin) B (hts _ List.mem_cons_self)
  have hown : s.vm.findClass RL = some m.cls := findClass_of_methodNamed B.named
  have hlocks := B.notSynchronized
  have hD := hD0.self (sz := s.heap.size)
  generalize hAe : (va_A (wC c0 h k0 x0 d0 ++ (wS g h a1 a2 a3 a4 σ ++ (wO g o0 ω))) s.heap.size) = A at hD hZ ⊢
  have hA : ∀ q : Nat, s.heap.size ≤ q → A q := fun q h => by rw [← hAe]; exact Or.inr h
  have hS : va_S A s.heap s.heap [] := va_S.rf
  have hP : va_P g.1 vwCl (wC c0 h k0 x0 d0 ++ (wS g h a1 a2 a3 a4 σ ++ (wO g o0 ω))) s.heap := hP
  have hl := lv_entry ([.ref c0, .int p1, .ref o0]) (n := 4) (Nat.le_of_ble_eq_true rfl)
  rw [lg_entry_eq]
  generalize (lg_sl ([.ref c0, .int p1, .ref o0]) ++ List.replicate (4 - (lg_sl ([.ref c0, .int p1, .ref o0])).length) Slot.unset).toArray = ls at hl ⊢
  have hl : lv_has ls 4 [(0, .ref c0), (1, .int p1), (2, .ref o0)] := hl
  unfold fL_pointsWithin at hf
  refine lv_aload_n hx hb dL_pointsWithin_0 rfl (lv_at hl 2 rfl) ?_
  refine lv_iconst (v := (0 : Int32)) hx hb dL_pointsWithin_1 (by decide) ?_
  refine lv_aload_n hx hb dL_pointsWithin_2 rfl (lv_at hl 0 rfl) ?_
  refine lv_iload_n hx hb dL_pointsWithin_3 rfl (lv_at hl 1 rfl) ?_
  obtain ⟨r_1, e_1, hf⟩ := bo hf
  refine wcallVi (W0 := (wC c0 h k0 x0 d0 ++ (wS g h a1 a2 a3 a4 σ ++ (wO g o0 ω)))) (Wc := (wC c0 h k0 x0 d0 ++ (wS g h a1 a2 a3 a4 σ))) (Wr := (wO g o0 ω)) (As := [.int p1]) (rest := [.int (0 : Int32), .ref o0]) [0, 1, 2, 3, 4, 5] [6] [1, 2, 3, 4, 5, 6, 0] 4 0 ⟨hx, hb, hml, hown, hts⟩ hP hD hE hZ hS hA (cX6_pointsWithin_ok l hl0 g c0 h k0 x0 d0 a1 a2 a3 a4 σ p1 _ e_1) (cwV 1 hts gL_pointsWithin_X6_pointsWithin rfl rfl rfl hdX6_pointsWithin ⟨(Nat.le_of_ble_eq_true rfl), (Nat.le_of_ble_eq_true rfl)⟩) rfl rfl rfl (by decide) (by decide) (by decide) (by decide) rfl rfl rfl rfl hl.1 rfl (Nat.le_of_ble_eq_true rfl) ⟨(Nat.le_of_ble_eq_true rfl), (Nat.le_of_ble_eq_true rfl)⟩ dL_pointsWithin_4 (fun E ce q9 H locs ox_1 hP hD hS hce hcv hcl => ?_) (fun v_1 H locs ok_1 hP hD hS => ?_)
  · have hf := xe ox_1 hf
    by_cases z_2 : E = "java/lang/IndexOutOfBoundsException"
    · have hf := ip z_2 hf
      subst z_2
      refine vx_catch (name := "java/lang/IndexOutOfBoundsException") hown [] ⟨0, 9, 12, 13⟩ [] (htab.trans rfl) (fun z hz => absurd hz List.not_mem_nil) (by decide) (by decide) (hts _ hkL_pointsWithin_13) (va_Nw.use rfl (hE.2.1 (.castable "java/lang/IndexOutOfBoundsException" "java/lang/IndexOutOfBoundsException") (by decide +kernel))) hce hcv hcl ?_
      refine lv_astore_n (lv' := [(3, .ref q9), (0, .ref c0), (1, .int p1), (2, .ref o0)]) hx hb dL_pointsWithin_12 rfl hl (by decide) rfl (fun ls hl => ?_)
      refine lv_iconst (v := (1 : Int32)) hx hb dL_pointsWithin_13 (by decide) ?_
      have ho := Option.some.inj hf
      subst ho
      exact w_iret (v := (1 : Int32)) hx hb hr hlocks hP hD hS ⟨(Nat.le_of_ble_eq_true rfl), (Nat.le_of_ble_eq_true rfl)⟩ rfl dL_pointsWithin_14
    · have hf := iq z_2 hf
      exact nomatch (show (none : Option (Int32 × (Nat → Int64))) = some _ from hf)
  · have hf := xo ok_1 hf
    refine lv_i2l hx hb dL_pointsWithin_7 rfl ?_
    refine va_last hx hb hE.1 hP hD hS 6 2 rfl rfl (vin (by decide)) dL_pointsWithin_8 (fun H locs hP hD hS => ?_)
    have hP : va_P g.1 vwCl (wC c0 h k0 x0 d0 ++ (wS g h a1 a2 a3 a4 σ ++ (wO g o0 (vp_updL ω (Int32.toNatClampNeg (0 : Int32)) (Int32.toInt64 v_1))))) H := hP
    have hD : va_D A (wC c0 h k0 x0 d0 ++ (wS g h a1 a2 a3 a4 σ ++ (wO g o0 (vp_updL ω (Int32.toNatClampNeg (0 : Int32)) (Int32.toInt64 v_1))))) := hD
    refine lv_goto (tgt := 15) hx hb dL_pointsWithin_9 (by decide) ?_
    refine lv_iconst (v := (0 : Int32)) hx hb dL_pointsWithin_15 (by decide) ?_
    have ho := Option.some.inj hf
    subst ho
    exact w_iret (v := (0 : Int32)) hx hb hr hlocks hP hD hS ⟨(Nat.le_of_ble_eq_true rfl), (Nat.le_of_ble_eq_true rfl)⟩ rfl dL_pointsWithin_16

def fL_lineRound (σ : Sh) (ω : (Nat → Int64)) (p1 : Int32) : Option (Int32 × (Nat → Int64)) := ((fX6_lineRound σ p1).bind fun r_1 => xcase r_1 (fun e => (if e = "java/lang/IndexOutOfBoundsException" then (some ((1 : Int32), ω)) else none)) (fun v_1 => (some ((0 : Int32), (vp_updL ω (Int32.toNatClampNeg (0 : Int32)) (Int32.toInt64 v_1))))))
abbrev rmL_lineRound : Room := { frames := 8, cells := 1, slots := 6, locals := 132 }
theorem hdL_lineRound : yL_lineRound.cls = RL ∧ yL_lineRound.cls ≠ "java/lang/invoke/MethodHandle" ∧ yL_lineRound.cls ≠ "java/lang/invoke/VarHandle" ∧ (parseMethodDescriptor yL_lineRound.desc).map (fun d => d.parameters.length) = some 3 := by decide +kernel
theorem hkL_lineRound_13 : (.classLink RL 13 "java/lang/IndexOutOfBoundsException" : Cond) ∈ wsL_lineRound := by decide +kernel
set_option maxHeartbeats 4000000 in
set_option maxRecDepth 100000 in
theorem cL_lineRound_ok (l : Launch) (hl0 : l.stackTraces = false) (g : Gg) (c0 h k0 x0 d0 a1 a2 a3 a4 o0 : Nat) (σ : Sh) (ω : (Nat → Int64)) (p1 : Int32) (sz : Nat) {o : Int32 × (Nat → Int64)} (hf : fL_lineRound σ ω p1 = some o) : vx_Met l yL_lineRound wsL_lineRound rmL_lineRound (va_Pc [.ref c0, .int p1, .ref o0] (PM g (wC c0 h k0 x0 d0 ++ (wS g h a1 a2 a3 a4 σ ++ (wO g o0 ω))) sz)) (va_Qi (fun r' (_ : Unit) => r' = o.1) (fun _ t => PQ g (wC c0 h k0 x0 d0 ++ (wS g h a1 a2 a3 a4 σ ++ (wO g o0 o.2))) (va_A (wC c0 h k0 x0 d0 ++ (wS g h a1 a2 a3 a4 σ ++ (wO g o0 ω))) sz) t) (va_A (wC c0 h k0 x0 d0 ++ (wS g h a1 a2 a3 a4 σ ++ (wO g o0 ω))) sz)) (vx_X (fun _ : Unit => False) (fun _ _ _ => True) (va_A (wC c0 h k0 x0 d0 ++ (wS g h a1 a2 a3 a4 σ ++ (wO g o0 ω))) sz)) 1 6 (va_A (wC c0 h k0 x0 d0 ++ (wS g h a1 a2 a3 a4 σ ++ (wO g o0 ω))) sz) := by
  refine vx_ofWH (cc := cL_lineRound) (maxL := 4) (ret := (some .int)) (by decide) rfl ?_
  intro p e s m args below meth c s₁ B hml hv
  obtain ⟨rfl, rfl, hP, hD0, hE, hZ⟩ := hv
  have hx := B.exec
  have hb := B.bytes
  have hr := B.returns
  have hts := atoms_spec (ws := wsL_lineRound) B.pre
  have htab := vx_table (x := yL_lineRound) B (hts _ List.mem_cons_self)
  have hown : s.vm.findClass RL = some m.cls := findClass_of_methodNamed B.named
  have hlocks := B.notSynchronized
  have hD := hD0.self (sz := s.heap.size)
  generalize hAe : (va_A (wC c0 h k0 x0 d0 ++ (wS g h a1 a2 a3 a4 σ ++ (wO g o0 ω))) s.heap.size) = A at hD hZ ⊢
  have hA : ∀ q : Nat, s.heap.size ≤ q → A q := fun q h => by rw [← hAe]; exact Or.inr h
  have hS : va_S A s.heap s.heap [] := va_S.rf
  have hP : va_P g.1 vwCl (wC c0 h k0 x0 d0 ++ (wS g h a1 a2 a3 a4 σ ++ (wO g o0 ω))) s.heap := hP
  have hl := lv_entry ([.ref c0, .int p1, .ref o0]) (n := 4) (Nat.le_of_ble_eq_true rfl)
  rw [lg_entry_eq]
  generalize (lg_sl ([.ref c0, .int p1, .ref o0]) ++ List.replicate (4 - (lg_sl ([.ref c0, .int p1, .ref o0])).length) Slot.unset).toArray = ls at hl ⊢
  have hl : lv_has ls 4 [(0, .ref c0), (1, .int p1), (2, .ref o0)] := hl
  unfold fL_lineRound at hf
  refine lv_aload_n hx hb dL_lineRound_0 rfl (lv_at hl 2 rfl) ?_
  refine lv_iconst (v := (0 : Int32)) hx hb dL_lineRound_1 (by decide) ?_
  refine lv_aload_n hx hb dL_lineRound_2 rfl (lv_at hl 0 rfl) ?_
  refine lv_iload_n hx hb dL_lineRound_3 rfl (lv_at hl 1 rfl) ?_
  obtain ⟨r_1, e_1, hf⟩ := bo hf
  refine wcallVi (W0 := (wC c0 h k0 x0 d0 ++ (wS g h a1 a2 a3 a4 σ ++ (wO g o0 ω)))) (Wc := (wC c0 h k0 x0 d0 ++ (wS g h a1 a2 a3 a4 σ))) (Wr := (wO g o0 ω)) (As := [.int p1]) (rest := [.int (0 : Int32), .ref o0]) [0, 1, 2, 3, 4, 5] [6] [1, 2, 3, 4, 5, 6, 0] 4 0 ⟨hx, hb, hml, hown, hts⟩ hP hD hE hZ hS hA (cX6_lineRound_ok l hl0 g c0 h k0 x0 d0 a1 a2 a3 a4 σ p1 _ e_1) (cwV 1 hts gL_lineRound_X6_lineRound rfl rfl rfl hdX6_lineRound ⟨(Nat.le_of_ble_eq_true rfl), (Nat.le_of_ble_eq_true rfl)⟩) rfl rfl rfl (by decide) (by decide) (by decide) (by decide) rfl rfl rfl rfl hl.1 rfl (Nat.le_of_ble_eq_true rfl) ⟨(Nat.le_of_ble_eq_true rfl), (Nat.le_of_ble_eq_true rfl)⟩ dL_lineRound_4 (fun E ce q9 H locs ox_1 hP hD hS hce hcv hcl => ?_) (fun v_1 H locs ok_1 hP hD hS => ?_)
  · have hf := xe ox_1 hf
    by_cases z_2 : E = "java/lang/IndexOutOfBoundsException"
    · have hf := ip z_2 hf
      subst z_2
      refine vx_catch (name := "java/lang/IndexOutOfBoundsException") hown [] ⟨0, 9, 12, 13⟩ [] (htab.trans rfl) (fun z hz => absurd hz List.not_mem_nil) (by decide) (by decide) (hts _ hkL_lineRound_13) (va_Nw.use rfl (hE.2.1 (.castable "java/lang/IndexOutOfBoundsException" "java/lang/IndexOutOfBoundsException") (by decide +kernel))) hce hcv hcl ?_
      refine lv_astore_n (lv' := [(3, .ref q9), (0, .ref c0), (1, .int p1), (2, .ref o0)]) hx hb dL_lineRound_12 rfl hl (by decide) rfl (fun ls hl => ?_)
      refine lv_iconst (v := (1 : Int32)) hx hb dL_lineRound_13 (by decide) ?_
      have ho := Option.some.inj hf
      subst ho
      exact w_iret (v := (1 : Int32)) hx hb hr hlocks hP hD hS ⟨(Nat.le_of_ble_eq_true rfl), (Nat.le_of_ble_eq_true rfl)⟩ rfl dL_lineRound_14
    · have hf := iq z_2 hf
      exact nomatch (show (none : Option (Int32 × (Nat → Int64))) = some _ from hf)
  · have hf := xo ok_1 hf
    refine lv_i2l hx hb dL_lineRound_7 rfl ?_
    refine va_last hx hb hE.1 hP hD hS 6 2 rfl rfl (vin (by decide)) dL_lineRound_8 (fun H locs hP hD hS => ?_)
    have hP : va_P g.1 vwCl (wC c0 h k0 x0 d0 ++ (wS g h a1 a2 a3 a4 σ ++ (wO g o0 (vp_updL ω (Int32.toNatClampNeg (0 : Int32)) (Int32.toInt64 v_1))))) H := hP
    have hD : va_D A (wC c0 h k0 x0 d0 ++ (wS g h a1 a2 a3 a4 σ ++ (wO g o0 (vp_updL ω (Int32.toNatClampNeg (0 : Int32)) (Int32.toInt64 v_1))))) := hD
    refine lv_goto (tgt := 15) hx hb dL_lineRound_9 (by decide) ?_
    refine lv_iconst (v := (0 : Int32)) hx hb dL_lineRound_15 (by decide) ?_
    have ho := Option.some.inj hf
    subst ho
    exact w_iret (v := (0 : Int32)) hx hb hr hlocks hP hD hS ⟨(Nat.le_of_ble_eq_true rfl), (Nat.le_of_ble_eq_true rfl)⟩ rfl dL_lineRound_16

def fL_isSteady (σ : Sh) (ω : (Nat → Int64)) (p1 : Int32) : Option (Int32 × (Nat → Int64)) := ((fX6_isSteady σ p1).bind fun r_1 => xcase r_1 (fun e => (if e = "java/lang/IndexOutOfBoundsException" then (some ((1 : Int32), ω)) else none)) (fun v_1 => (if v_1 = true then (some ((0 : Int32), (vp_updL ω (Int32.toNatClampNeg (0 : Int32)) (1 : Int64)))) else (some ((0 : Int32), (vp_updL ω (Int32.toNatClampNeg (0 : Int32)) (0 : Int64)))))))
abbrev rmL_isSteady : Room := { frames := 8, cells := 1, slots := 6, locals := 133 }
theorem hdL_isSteady : yL_isSteady.cls = RL ∧ yL_isSteady.cls ≠ "java/lang/invoke/MethodHandle" ∧ yL_isSteady.cls ≠ "java/lang/invoke/VarHandle" ∧ (parseMethodDescriptor yL_isSteady.desc).map (fun d => d.parameters.length) = some 3 := by decide +kernel
theorem hkL_isSteady_13 : (.classLink RL 13 "java/lang/IndexOutOfBoundsException" : Cond) ∈ wsL_isSteady := by decide +kernel
set_option maxHeartbeats 4000000 in
set_option maxRecDepth 100000 in
theorem cL_isSteady_ok (l : Launch) (hl0 : l.stackTraces = false) (g : Gg) (c0 h k0 x0 d0 a1 a2 a3 a4 o0 : Nat) (σ : Sh) (ω : (Nat → Int64)) (p1 : Int32) (sz : Nat) {o : Int32 × (Nat → Int64)} (hf : fL_isSteady σ ω p1 = some o) : vx_Met l yL_isSteady wsL_isSteady rmL_isSteady (va_Pc [.ref c0, .int p1, .ref o0] (PM g (wC c0 h k0 x0 d0 ++ (wS g h a1 a2 a3 a4 σ ++ (wO g o0 ω))) sz)) (va_Qi (fun r' (_ : Unit) => r' = o.1) (fun _ t => PQ g (wC c0 h k0 x0 d0 ++ (wS g h a1 a2 a3 a4 σ ++ (wO g o0 o.2))) (va_A (wC c0 h k0 x0 d0 ++ (wS g h a1 a2 a3 a4 σ ++ (wO g o0 ω))) sz) t) (va_A (wC c0 h k0 x0 d0 ++ (wS g h a1 a2 a3 a4 σ ++ (wO g o0 ω))) sz)) (vx_X (fun _ : Unit => False) (fun _ _ _ => True) (va_A (wC c0 h k0 x0 d0 ++ (wS g h a1 a2 a3 a4 σ ++ (wO g o0 ω))) sz)) 1 6 (va_A (wC c0 h k0 x0 d0 ++ (wS g h a1 a2 a3 a4 σ ++ (wO g o0 ω))) sz) := by
  refine vx_ofWH (cc := cL_isSteady) (maxL := 4) (ret := (some .int)) (by decide) rfl ?_
  intro p e s m args below meth c s₁ B hml hv
  obtain ⟨rfl, rfl, hP, hD0, hE, hZ⟩ := hv
  have hx := B.exec
  have hb := B.bytes
  have hr := B.returns
  have hts := atoms_spec (ws := wsL_isSteady) B.pre
  have htab := vx_table (x := yL_isSteady) B (hts _ List.mem_cons_self)
  have hown : s.vm.findClass RL = some m.cls := findClass_of_methodNamed B.named
  have hlocks := B.notSynchronized
  have hD := hD0.self (sz := s.heap.size)
  generalize hAe : (va_A (wC c0 h k0 x0 d0 ++ (wS g h a1 a2 a3 a4 σ ++ (wO g o0 ω))) s.heap.size) = A at hD hZ ⊢
  have hA : ∀ q : Nat, s.heap.size ≤ q → A q := fun q h => by rw [← hAe]; exact Or.inr h
  have hS : va_S A s.heap s.heap [] := va_S.rf
  have hP : va_P g.1 vwCl (wC c0 h k0 x0 d0 ++ (wS g h a1 a2 a3 a4 σ ++ (wO g o0 ω))) s.heap := hP
  have hl := lv_entry ([.ref c0, .int p1, .ref o0]) (n := 4) (Nat.le_of_ble_eq_true rfl)
  rw [lg_entry_eq]
  generalize (lg_sl ([.ref c0, .int p1, .ref o0]) ++ List.replicate (4 - (lg_sl ([.ref c0, .int p1, .ref o0])).length) Slot.unset).toArray = ls at hl ⊢
  have hl : lv_has ls 4 [(0, .ref c0), (1, .int p1), (2, .ref o0)] := hl
  unfold fL_isSteady at hf
  refine lv_aload_n hx hb dL_isSteady_0 rfl (lv_at hl 2 rfl) ?_
  refine lv_iconst (v := (0 : Int32)) hx hb dL_isSteady_1 (by decide) ?_
  refine lv_aload_n hx hb dL_isSteady_2 rfl (lv_at hl 0 rfl) ?_
  refine lv_iload_n hx hb dL_isSteady_3 rfl (lv_at hl 1 rfl) ?_
  obtain ⟨r_1, e_1, hf⟩ := bo hf
  refine wcallVb (W0 := (wC c0 h k0 x0 d0 ++ (wS g h a1 a2 a3 a4 σ ++ (wO g o0 ω)))) (Wc := (wC c0 h k0 x0 d0 ++ (wS g h a1 a2 a3 a4 σ))) (Wr := (wO g o0 ω)) (As := [.int p1]) (rest := [.int (0 : Int32), .ref o0]) [0, 1, 2, 3, 4, 5] [6] [1, 2, 3, 4, 5, 6, 0] 4 0 ⟨hx, hb, hml, hown, hts⟩ hP hD hE hZ hS hA (cX6_isSteady_ok l hl0 g c0 h k0 x0 d0 a1 a2 a3 a4 σ p1 _ e_1) (cwV 1 hts gL_isSteady_X6_isSteady rfl rfl rfl hdX6_isSteady ⟨(Nat.le_of_ble_eq_true rfl), (Nat.le_of_ble_eq_true rfl)⟩) rfl rfl rfl (by decide) (by decide) (by decide) (by decide) rfl rfl rfl rfl hl.1 rfl (Nat.le_of_ble_eq_true rfl) ⟨(Nat.le_of_ble_eq_true rfl), (Nat.le_of_ble_eq_true rfl)⟩ dL_isSteady_4 (fun E ce q9 H locs ox_1 hP hD hS hce hcv hcl => ?_) (fun v_1 H locs ok_1 hP hD hS => ?_)
  · have hf := xe ox_1 hf
    by_cases z_2 : E = "java/lang/IndexOutOfBoundsException"
    · have hf := ip z_2 hf
      subst z_2
      refine vx_catch (name := "java/lang/IndexOutOfBoundsException") hown [] ⟨0, 16, 19, 13⟩ [] (htab.trans rfl) (fun z hz => absurd hz List.not_mem_nil) (by decide) (by decide) (hts _ hkL_isSteady_13) (va_Nw.use rfl (hE.2.1 (.castable "java/lang/IndexOutOfBoundsException" "java/lang/IndexOutOfBoundsException") (by decide +kernel))) hce hcv hcl ?_
      refine lv_astore_n (lv' := [(3, .ref q9), (0, .ref c0), (1, .int p1), (2, .ref o0)]) hx hb dL_isSteady_19 rfl hl (by decide) rfl (fun ls hl => ?_)
      refine lv_iconst (v := (1 : Int32)) hx hb dL_isSteady_20 (by decide) ?_
      have ho := Option.some.inj hf
      subst ho
      exact w_iret (v := (1 : Int32)) hx hb hr hlocks hP hD hS ⟨(Nat.le_of_ble_eq_true rfl), (Nat.le_of_ble_eq_true rfl)⟩ rfl dL_isSteady_21
    · have hf := iq z_2 hf
      exact nomatch (show (none : Option (Int32 × (Nat → Int64))) = some _ from hf)
  · have hf := xo ok_1 hf
    refine lv_beq (tgt := 14) hx hb dL_isSteady_7 (by decide) (fun c_3 => ?_) (fun c_3 => ?_)
    · have hf := iq c_3 hf
      refine lv_lconst (v := 0) hx hb dL_isSteady_14 (by decide) ?_
      refine va_last hx hb hE.1 hP hD hS 6 2 rfl rfl (vin (by decide)) dL_isSteady_15 (fun H locs hP hD hS => ?_)
      have hP : va_P g.1 vwCl (wC c0 h k0 x0 d0 ++ (wS g h a1 a2 a3 a4 σ ++ (wO g o0 (vp_updL ω (Int32.toNatClampNeg (0 : Int32)) (0 : Int64))))) H := hP
      have hD : va_D A (wC c0 h k0 x0 d0 ++ (wS g h a1 a2 a3 a4 σ ++ (wO g o0 (vp_updL ω (Int32.toNatClampNeg (0 : Int32)) (0 : Int64))))) := hD
      refine lv_goto (tgt := 22) hx hb dL_isSteady_16 (by decide) ?_
      refine lv_iconst (v := (0 : Int32)) hx hb dL_isSteady_22 (by decide) ?_
      have ho := Option.some.inj hf
      subst ho
      exact w_iret (v := (0 : Int32)) hx hb hr hlocks hP hD hS ⟨(Nat.le_of_ble_eq_true rfl), (Nat.le_of_ble_eq_true rfl)⟩ rfl dL_isSteady_23
    · have hf := ip c_3 hf
      refine lv_lconst (v := 1) hx hb dL_isSteady_10 (by decide) ?_
      refine lv_goto (tgt := 15) hx hb dL_isSteady_11 (by decide) ?_
      refine va_last hx hb hE.1 hP hD hS 6 2 rfl rfl (vin (by decide)) dL_isSteady_15 (fun H locs hP hD hS => ?_)
      have hP : va_P g.1 vwCl (wC c0 h k0 x0 d0 ++ (wS g h a1 a2 a3 a4 σ ++ (wO g o0 (vp_updL ω (Int32.toNatClampNeg (0 : Int32)) (1 : Int64))))) H := hP
      have hD : va_D A (wC c0 h k0 x0 d0 ++ (wS g h a1 a2 a3 a4 σ ++ (wO g o0 (vp_updL ω (Int32.toNatClampNeg (0 : Int32)) (1 : Int64))))) := hD
      refine lv_goto (tgt := 22) hx hb dL_isSteady_16 (by decide) ?_
      refine lv_iconst (v := (0 : Int32)) hx hb dL_isSteady_22 (by decide) ?_
      have ho := Option.some.inj hf
      subst ho
      exact w_iret (v := (0 : Int32)) hx hb hr hlocks hP hD hS ⟨(Nat.le_of_ble_eq_true rfl), (Nat.le_of_ble_eq_true rfl)⟩ rfl dL_isSteady_23

def fL_lineByLevel (σ : Sh) (ω : (Nat → Int64)) (p1 : Int32) : Option (Int32 × (Nat → Int64)) := ((fX6_lineByLevel σ p1).bind fun r_1 => xcase r_1 (fun e => (if e = "java/lang/IndexOutOfBoundsException" then (some ((1 : Int32), ω)) else none)) (fun v_1 => (some ((0 : Int32), (vp_updL ω (Int32.toNatClampNeg (0 : Int32)) (Int32.toInt64 v_1))))))
abbrev rmL_lineByLevel : Room := { frames := 7, cells := 1, slots := 6, locals := 111 }
theorem hdL_lineByLevel : yL_lineByLevel.cls = RL ∧ yL_lineByLevel.cls ≠ "java/lang/invoke/MethodHandle" ∧ yL_lineByLevel.cls ≠ "java/lang/invoke/VarHandle" ∧ (parseMethodDescriptor yL_lineByLevel.desc).map (fun d => d.parameters.length) = some 3 := by decide +kernel
theorem hkL_lineByLevel_13 : (.classLink RL 13 "java/lang/IndexOutOfBoundsException" : Cond) ∈ wsL_lineByLevel := by decide +kernel
set_option maxHeartbeats 4000000 in
set_option maxRecDepth 100000 in
theorem cL_lineByLevel_ok (l : Launch) (hl0 : l.stackTraces = false) (g : Gg) (c0 h k0 x0 d0 a1 a2 a3 a4 o0 : Nat) (σ : Sh) (ω : (Nat → Int64)) (p1 : Int32) (sz : Nat) {o : Int32 × (Nat → Int64)} (hf : fL_lineByLevel σ ω p1 = some o) : vx_Met l yL_lineByLevel wsL_lineByLevel rmL_lineByLevel (va_Pc [.ref c0, .int p1, .ref o0] (PM g (wC c0 h k0 x0 d0 ++ (wS g h a1 a2 a3 a4 σ ++ (wO g o0 ω))) sz)) (va_Qi (fun r' (_ : Unit) => r' = o.1) (fun _ t => PQ g (wC c0 h k0 x0 d0 ++ (wS g h a1 a2 a3 a4 σ ++ (wO g o0 o.2))) (va_A (wC c0 h k0 x0 d0 ++ (wS g h a1 a2 a3 a4 σ ++ (wO g o0 ω))) sz) t) (va_A (wC c0 h k0 x0 d0 ++ (wS g h a1 a2 a3 a4 σ ++ (wO g o0 ω))) sz)) (vx_X (fun _ : Unit => False) (fun _ _ _ => True) (va_A (wC c0 h k0 x0 d0 ++ (wS g h a1 a2 a3 a4 σ ++ (wO g o0 ω))) sz)) 1 6 (va_A (wC c0 h k0 x0 d0 ++ (wS g h a1 a2 a3 a4 σ ++ (wO g o0 ω))) sz) := by
  refine vx_ofWH (cc := cL_lineByLevel) (maxL := 4) (ret := (some .int)) (by decide) rfl ?_
  intro p e s m args below meth c s₁ B hml hv
  obtain ⟨rfl, rfl, hP, hD0, hE, hZ⟩ := hv
  have hx := B.exec
  have hb := B.bytes
  have hr := B.returns
  have hts := atoms_spec (ws := wsL_lineByLevel) B.pre
  have htab := vx_table (x := yL_lineByLevel) B (hts _ List.mem_cons_self)
  have hown : s.vm.findClass RL = some m.cls := findClass_of_methodNamed B.named
  have hlocks := B.notSynchronized
  have hD := hD0.self (sz := s.heap.size)
  generalize hAe : (va_A (wC c0 h k0 x0 d0 ++ (wS g h a1 a2 a3 a4 σ ++ (wO g o0 ω))) s.heap.size) = A at hD hZ ⊢
  have hA : ∀ q : Nat, s.heap.size ≤ q → A q := fun q h => by rw [← hAe]; exact Or.inr h
  have hS : va_S A s.heap s.heap [] := va_S.rf
  have hP : va_P g.1 vwCl (wC c0 h k0 x0 d0 ++ (wS g h a1 a2 a3 a4 σ ++ (wO g o0 ω))) s.heap := hP
  have hl := lv_entry ([.ref c0, .int p1, .ref o0]) (n := 4) (Nat.le_of_ble_eq_true rfl)
  rw [lg_entry_eq]
  generalize (lg_sl ([.ref c0, .int p1, .ref o0]) ++ List.replicate (4 - (lg_sl ([.ref c0, .int p1, .ref o0])).length) Slot.unset).toArray = ls at hl ⊢
  have hl : lv_has ls 4 [(0, .ref c0), (1, .int p1), (2, .ref o0)] := hl
  unfold fL_lineByLevel at hf
  refine lv_aload_n hx hb dL_lineByLevel_0 rfl (lv_at hl 2 rfl) ?_
  refine lv_iconst (v := (0 : Int32)) hx hb dL_lineByLevel_1 (by decide) ?_
  refine lv_aload_n hx hb dL_lineByLevel_2 rfl (lv_at hl 0 rfl) ?_
  refine lv_iload_n hx hb dL_lineByLevel_3 rfl (lv_at hl 1 rfl) ?_
  obtain ⟨r_1, e_1, hf⟩ := bo hf
  refine wcallVi (W0 := (wC c0 h k0 x0 d0 ++ (wS g h a1 a2 a3 a4 σ ++ (wO g o0 ω)))) (Wc := (wC c0 h k0 x0 d0 ++ (wS g h a1 a2 a3 a4 σ))) (Wr := (wO g o0 ω)) (As := [.int p1]) (rest := [.int (0 : Int32), .ref o0]) [0, 1, 2, 3, 4, 5] [6] [1, 2, 3, 4, 5, 6, 0] 4 0 ⟨hx, hb, hml, hown, hts⟩ hP hD hE hZ hS hA (cX6_lineByLevel_ok l hl0 g c0 h k0 x0 d0 a1 a2 a3 a4 σ p1 _ e_1) (cwV 1 hts gL_lineByLevel_X6_lineByLevel rfl rfl rfl hdX6_lineByLevel ⟨(Nat.le_of_ble_eq_true rfl), (Nat.le_of_ble_eq_true rfl)⟩) rfl rfl rfl (by decide) (by decide) (by decide) (by decide) rfl rfl rfl rfl hl.1 rfl (Nat.le_of_ble_eq_true rfl) ⟨(Nat.le_of_ble_eq_true rfl), (Nat.le_of_ble_eq_true rfl)⟩ dL_lineByLevel_4 (fun E ce q9 H locs ox_1 hP hD hS hce hcv hcl => ?_) (fun v_1 H locs ok_1 hP hD hS => ?_)
  · have hf := xe ox_1 hf
    by_cases z_2 : E = "java/lang/IndexOutOfBoundsException"
    · have hf := ip z_2 hf
      subst z_2
      refine vx_catch (name := "java/lang/IndexOutOfBoundsException") hown [] ⟨0, 9, 12, 13⟩ [] (htab.trans rfl) (fun z hz => absurd hz List.not_mem_nil) (by decide) (by decide) (hts _ hkL_lineByLevel_13) (va_Nw.use rfl (hE.2.1 (.castable "java/lang/IndexOutOfBoundsException" "java/lang/IndexOutOfBoundsException") (by decide +kernel))) hce hcv hcl ?_
      refine lv_astore_n (lv' := [(3, .ref q9), (0, .ref c0), (1, .int p1), (2, .ref o0)]) hx hb dL_lineByLevel_12 rfl hl (by decide) rfl (fun ls hl => ?_)
      refine lv_iconst (v := (1 : Int32)) hx hb dL_lineByLevel_13 (by decide) ?_
      have ho := Option.some.inj hf
      subst ho
      exact w_iret (v := (1 : Int32)) hx hb hr hlocks hP hD hS ⟨(Nat.le_of_ble_eq_true rfl), (Nat.le_of_ble_eq_true rfl)⟩ rfl dL_lineByLevel_14
    · have hf := iq z_2 hf
      exact nomatch (show (none : Option (Int32 × (Nat → Int64))) = some _ from hf)
  · have hf := xo ok_1 hf
    refine lv_i2l hx hb dL_lineByLevel_7 rfl ?_
    refine va_last hx hb hE.1 hP hD hS 6 2 rfl rfl (vin (by decide)) dL_lineByLevel_8 (fun H locs hP hD hS => ?_)
    have hP : va_P g.1 vwCl (wC c0 h k0 x0 d0 ++ (wS g h a1 a2 a3 a4 σ ++ (wO g o0 (vp_updL ω (Int32.toNatClampNeg (0 : Int32)) (Int32.toInt64 v_1))))) H := hP
    have hD : va_D A (wC c0 h k0 x0 d0 ++ (wS g h a1 a2 a3 a4 σ ++ (wO g o0 (vp_updL ω (Int32.toNatClampNeg (0 : Int32)) (Int32.toInt64 v_1))))) := hD
    refine lv_goto (tgt := 15) hx hb dL_lineByLevel_9 (by decide) ?_
    refine lv_iconst (v := (0 : Int32)) hx hb dL_lineByLevel_15 (by decide) ?_
    have ho := Option.some.inj hf
    subst ho
    exact w_iret (v := (0 : Int32)) hx hb hr hlocks hP hD hS ⟨(Nat.le_of_ble_eq_true rfl), (Nat.le_of_ble_eq_true rfl)⟩ rfl dL_lineByLevel_16

def fL_append (τ : Tx) (ω : (Nat → Int64)) (p1 : Int32) : Option (Int32 × Tx × (Nat → Int64)) := ((fX6_append τ p1).bind fun r_1 => xcase r_1 (fun e => (if e = "java/lang/IllegalArgumentException" then (some ((1 : Int32), τ, ω)) else (if e = "java/lang/IllegalStateException" then (some ((2 : Int32), τ, ω)) else none))) (fun v_1 => (some ((0 : Int32), v_1.2, (vp_updL ω (Int32.toNatClampNeg (0 : Int32)) (Int32.toInt64 v_1.1))))))
abbrev rmL_append : Room := { frames := 7, cells := 1, slots := 6, locals := 111 }
theorem hdL_append : yL_append.cls = RL ∧ yL_append.cls ≠ "java/lang/invoke/MethodHandle" ∧ yL_append.cls ≠ "java/lang/invoke/VarHandle" ∧ (parseMethodDescriptor yL_append.desc).map (fun d => d.parameters.length) = some 3 := by decide +kernel
theorem hkL_append_15 : (.classLink RL 15 "java/lang/IllegalArgumentException" : Cond) ∈ wsL_append := by decide +kernel
theorem hkL_append_17 : (.classLink RL 17 "java/lang/IllegalStateException" : Cond) ∈ wsL_append := by decide +kernel
set_option maxHeartbeats 4000000 in
set_option maxRecDepth 100000 in
theorem cL_append_ok (l : Launch) (hl0 : l.stackTraces = false) (g : Gg) (c0 h k0 x0 d0 x1 o0 : Nat) (τ : Tx) (ω : (Nat → Int64)) (p1 : Int32) (sz : Nat) {o : Int32 × Tx × (Nat → Int64)} (hf : fL_append τ ω p1 = some o) : vx_Met l yL_append wsL_append rmL_append (va_Pc [.ref c0, .int p1, .ref o0] (PM g (wC c0 h k0 x0 d0 ++ (wX g x0 x1 τ ++ (wO g o0 ω))) sz)) (va_Qi (fun r' (_ : Unit) => r' = o.1) (fun _ t => PQ g (wC c0 h k0 x0 d0 ++ (wX g x0 x1 o.2.1 ++ (wO g o0 o.2.2))) (va_A (wC c0 h k0 x0 d0 ++ (wX g x0 x1 τ ++ (wO g o0 ω))) sz) t) (va_A (wC c0 h k0 x0 d0 ++ (wX g x0 x1 τ ++ (wO g o0 ω))) sz)) (vx_X (fun _ : Unit => False) (fun _ _ _ => True) (va_A (wC c0 h k0 x0 d0 ++ (wX g x0 x1 τ ++ (wO g o0 ω))) sz)) 1 6 (va_A (wC c0 h k0 x0 d0 ++ (wX g x0 x1 τ ++ (wO g o0 ω))) sz) := by
  refine vx_ofWH (cc := cL_append) (maxL := 4) (ret := (some .int)) (by decide) rfl ?_
  intro p e s m args below meth c s₁ B hml hv
  obtain ⟨rfl, rfl, hP, hD0, hE, hZ⟩ := hv
  have hx := B.exec
  have hb := B.bytes
  have hr := B.returns
  have hts := atoms_spec (ws := wsL_append) B.pre
  have htab := vx_table (x := yL_append) B (hts _ List.mem_cons_self)
  have hown : s.vm.findClass RL = some m.cls := findClass_of_methodNamed B.named
  have hlocks := B.notSynchronized
  have hD := hD0.self (sz := s.heap.size)
  generalize hAe : (va_A (wC c0 h k0 x0 d0 ++ (wX g x0 x1 τ ++ (wO g o0 ω))) s.heap.size) = A at hD hZ ⊢
  have hA : ∀ q : Nat, s.heap.size ≤ q → A q := fun q h => by rw [← hAe]; exact Or.inr h
  have hS : va_S A s.heap s.heap [] := va_S.rf
  have hP : va_P g.1 vwCl (wC c0 h k0 x0 d0 ++ (wX g x0 x1 τ ++ (wO g o0 ω))) s.heap := hP
  have hl := lv_entry ([.ref c0, .int p1, .ref o0]) (n := 4) (Nat.le_of_ble_eq_true rfl)
  rw [lg_entry_eq]
  generalize (lg_sl ([.ref c0, .int p1, .ref o0]) ++ List.replicate (4 - (lg_sl ([.ref c0, .int p1, .ref o0])).length) Slot.unset).toArray = ls at hl ⊢
  have hl : lv_has ls 4 [(0, .ref c0), (1, .int p1), (2, .ref o0)] := hl
  unfold fL_append at hf
  refine lv_aload_n hx hb dL_append_0 rfl (lv_at hl 2 rfl) ?_
  refine lv_iconst (v := (0 : Int32)) hx hb dL_append_1 (by decide) ?_
  refine lv_aload_n hx hb dL_append_2 rfl (lv_at hl 0 rfl) ?_
  refine lv_iload_n hx hb dL_append_3 rfl (lv_at hl 1 rfl) ?_
  obtain ⟨r_1, e_1, hf⟩ := bo hf
  refine wcallVmi (W0 := (wC c0 h k0 x0 d0 ++ (wX g x0 x1 τ ++ (wO g o0 ω)))) (Wc := (wC c0 h k0 x0 d0 ++ (wX g x0 x1 τ))) (Wr := (wO g o0 ω)) (W1 := fun u : Tx => (wC c0 h k0 x0 d0 ++ (wX g x0 x1 u))) (W2 := fun u : Tx => (wC c0 h k0 x0 d0 ++ (wX g x0 x1 u ++ (wO g o0 ω)))) (As := [.int p1]) (rest := [.int (0 : Int32), .ref o0]) [0, 1, 2] [3] [1, 2, 3, 0] 4 0 ⟨hx, hb, hml, hown, hts⟩ hP hD hE hZ hS hA (cX6_append_ok l hl0 g c0 h k0 x0 d0 x1 τ p1 _ e_1) (cwV 1 hts gL_append_X6_append rfl rfl rfl hdX6_append ⟨(Nat.le_of_ble_eq_true rfl), (Nat.le_of_ble_eq_true rfl)⟩) rfl rfl (fun _ => rfl) (by decide) (by decide) (by decide) (by decide) rfl rfl rfl rfl hl.1 rfl (Nat.le_of_ble_eq_true rfl) ⟨(Nat.le_of_ble_eq_true rfl), (Nat.le_of_ble_eq_true rfl)⟩ dL_append_4 (fun E ce q9 H locs ox_1 hP hD hS hce hcv hcl => ?_) (fun v_1 H locs ok_1 hP hD hS => ?_)
  · have hf := xe ox_1 hf
    by_cases z_2 : E = "java/lang/IllegalArgumentException"
    · have hf := ip z_2 hf
      subst z_2
      refine vx_catch (name := "java/lang/IllegalArgumentException") hown [] ⟨0, 9, 12, 15⟩ [⟨0, 9, 15, 17⟩] (htab.trans rfl) (fun z hz => absurd hz List.not_mem_nil) (by decide) (by decide) (hts _ hkL_append_15) (va_Nw.use rfl (hE.2.1 (.castable "java/lang/IllegalArgumentException" "java/lang/IllegalArgumentException") (by decide +kernel))) hce hcv hcl ?_
      refine lv_astore_n (lv' := [(3, .ref q9), (0, .ref c0), (1, .int p1), (2, .ref o0)]) hx hb dL_append_12 rfl hl (by decide) rfl (fun ls hl => ?_)
      refine lv_iconst (v := (1 : Int32)) hx hb dL_append_13 (by decide) ?_
      have ho := Option.some.inj hf
      subst ho
      exact w_iret (v := (1 : Int32)) hx hb hr hlocks hP hD hS ⟨(Nat.le_of_ble_eq_true rfl), (Nat.le_of_ble_eq_true rfl)⟩ rfl dL_append_14
    · have hf := iq z_2 hf
      by_cases z_3 : E = "java/lang/IllegalStateException"
      · have hf := ip z_3 hf
        subst z_3
        refine vx_catch (name := "java/lang/IllegalStateException") hown [⟨0, 9, 12, 15⟩] ⟨0, 9, 15, 17⟩ [] (htab.trans rfl) (fun z hz => by simp only [List.mem_cons, List.not_mem_nil, or_false] at hz; rcases hz with rfl <;> first | exact Or.inr ⟨by decide, _, hts _ hkL_append_15, hE.2.2.2.1 ("java/lang/IllegalStateException", "java/lang/IllegalArgumentException") (by decide)⟩) (by decide) (by decide) (hts _ hkL_append_17) (va_Nw.use rfl (hE.2.1 (.castable "java/lang/IllegalStateException" "java/lang/IllegalStateException") (by decide +kernel))) hce hcv hcl ?_
        refine lv_astore_n (lv' := [(3, .ref q9), (0, .ref c0), (1, .int p1), (2, .ref o0)]) hx hb dL_append_15 rfl hl (by decide) rfl (fun ls hl => ?_)
        refine lv_iconst (v := (2 : Int32)) hx hb dL_append_16 (by decide) ?_
        have ho := Option.some.inj hf
        subst ho
        exact w_iret (v := (2 : Int32)) hx hb hr hlocks hP hD hS ⟨(Nat.le_of_ble_eq_true rfl), (Nat.le_of_ble_eq_true rfl)⟩ rfl dL_append_17
      · have hf := iq z_3 hf
        exact nomatch (show (none : Option (Int32 × Tx × (Nat → Int64))) = some _ from hf)
  · have hf := xo ok_1 hf
    refine lv_i2l hx hb dL_append_7 rfl ?_
    refine va_last hx hb hE.1 hP hD hS 3 2 rfl rfl (vin (by decide)) dL_append_8 (fun H locs hP hD hS => ?_)
    have hP : va_P g.1 vwCl (wC c0 h k0 x0 d0 ++ (wX g x0 x1 v_1.2 ++ (wO g o0 (vp_updL ω (Int32.toNatClampNeg (0 : Int32)) (Int32.toInt64 v_1.1))))) H := hP
    have hD : va_D A (wC c0 h k0 x0 d0 ++ (wX g x0 x1 v_1.2 ++ (wO g o0 (vp_updL ω (Int32.toNatClampNeg (0 : Int32)) (Int32.toInt64 v_1.1))))) := hD
    refine lv_goto (tgt := 18) hx hb dL_append_9 (by decide) ?_
    refine lv_iconst (v := (0 : Int32)) hx hb dL_append_18 (by decide) ?_
    have ho := Option.some.inj hf
    subst ho
    exact w_iret (v := (0 : Int32)) hx hb hr hlocks hP hD hS ⟨(Nat.le_of_ble_eq_true rfl), (Nat.le_of_ble_eq_true rfl)⟩ rfl dL_append_19

def fL_runText (σ : Sh) (η : Hi) (τ : Tx) (ω : (Nat → Int64)) : Option (Int32 × Sh × Hi × Tx × (Nat → Int64)) := ((fX6_runText σ η τ).bind fun r_1 => xcase r_1 (fun e => (if e.1 = "java/lang/IllegalArgumentException" then (some ((1 : Int32), e.2.1, e.2.2.1, e.2.2.2, ω)) else none)) (fun v_1 => (some ((0 : Int32), v_1.2.1, v_1.2.2.1, v_1.2.2.2, (vp_updL ω (Int32.toNatClampNeg (0 : Int32)) (Int32.toInt64 v_1.1))))))
abbrev rmL_runText : Room := { frames := 8, cells := 1, slots := 6, locals := 193 }
theorem hdL_runText : yL_runText.cls = RL ∧ yL_runText.cls ≠ "java/lang/invoke/MethodHandle" ∧ yL_runText.cls ≠ "java/lang/invoke/VarHandle" ∧ (parseMethodDescriptor yL_runText.desc).map (fun d => d.parameters.length) = some 2 := by decide +kernel
theorem hkL_runText_15 : (.classLink RL 15 "java/lang/IllegalArgumentException" : Cond) ∈ wsL_runText := by decide +kernel
set_option maxHeartbeats 4000000 in
set_option maxRecDepth 100000 in
theorem cL_runText_ok (l : Launch) (hl0 : l.stackTraces = false) (g : Gg) (c0 h k0 x0 d0 a1 a2 a3 a4 k1 x1 o0 : Nat) (γ : Nat → Nat → Nat) (σ : Sh) (η : Hi) (τ : Tx) (ω : (Nat → Int64)) (sz : Nat) {o : Int32 × Sh × Hi × Tx × (Nat → Int64)} (hf : fL_runText σ η τ ω = some o) : vx_Met l yL_runText wsL_runText rmL_runText (va_Pc [.ref c0, .ref o0] (PM g (wC c0 h k0 x0 d0 ++ (wS g h a1 a2 a3 a4 σ ++ (wH g k0 k1 γ η ++ (wX g x0 x1 τ ++ (wO g o0 ω))))) sz)) (va_Qi (fun r' (_ : Unit) => r' = o.1) (fun _ t => PQ g (wC c0 h k0 x0 d0 ++ (wS g h a1 a2 a3 a4 o.2.1 ++ (wH g k0 k1 γ o.2.2.1 ++ (wX g x0 x1 o.2.2.2.1 ++ (wO g o0 o.2.2.2.2))))) (va_A (wC c0 h k0 x0 d0 ++ (wS g h a1 a2 a3 a4 σ ++ (wH g k0 k1 γ η ++ (wX g x0 x1 τ ++ (wO g o0 ω))))) sz) t) (va_A (wC c0 h k0 x0 d0 ++ (wS g h a1 a2 a3 a4 σ ++ (wH g k0 k1 γ η ++ (wX g x0 x1 τ ++ (wO g o0 ω))))) sz)) (vx_X (fun _ : Unit => False) (fun _ _ _ => True) (va_A (wC c0 h k0 x0 d0 ++ (wS g h a1 a2 a3 a4 σ ++ (wH g k0 k1 γ η ++ (wX g x0 x1 τ ++ (wO g o0 ω))))) sz)) 1 6 (va_A (wC c0 h k0 x0 d0 ++ (wS g h a1 a2 a3 a4 σ ++ (wH g k0 k1 γ η ++ (wX g x0 x1 τ ++ (wO g o0 ω))))) sz) := by
  refine vx_ofWH (cc := cL_runText) (maxL := 3) (ret := (some .int)) (by decide) rfl ?_
  intro p e s m args below meth c s₁ B hml hv
  obtain ⟨rfl, rfl, hP, hD0, hE, hZ⟩ := hv
  have hx := B.exec
  have hb := B.bytes
  have hr := B.returns
  have hts := atoms_spec (ws := wsL_runText) B.pre
  have htab := vx_table (x := yL_runText) B (hts _ List.mem_cons_self)
  have hown : s.vm.findClass RL = some m.cls := findClass_of_methodNamed B.named
  have hlocks := B.notSynchronized
  have hD := hD0.self (sz := s.heap.size)
  generalize hAe : (va_A (wC c0 h k0 x0 d0 ++ (wS g h a1 a2 a3 a4 σ ++ (wH g k0 k1 γ η ++ (wX g x0 x1 τ ++ (wO g o0 ω))))) s.heap.size) = A at hD hZ ⊢
  have hA : ∀ q : Nat, s.heap.size ≤ q → A q := fun q h => by rw [← hAe]; exact Or.inr h
  have hS : va_S A s.heap s.heap [] := va_S.rf
  have hP : va_P g.1 vwCl (wC c0 h k0 x0 d0 ++ (wS g h a1 a2 a3 a4 σ ++ (wH g k0 k1 γ η ++ (wX g x0 x1 τ ++ (wO g o0 ω))))) s.heap := hP
  have hl := lv_entry ([.ref c0, .ref o0]) (n := 3) (Nat.le_of_ble_eq_true rfl)
  rw [lg_entry_eq]
  generalize (lg_sl ([.ref c0, .ref o0]) ++ List.replicate (3 - (lg_sl ([.ref c0, .ref o0])).length) Slot.unset).toArray = ls at hl ⊢
  have hl : lv_has ls 3 [(0, .ref c0), (1, .ref o0)] := hl
  unfold fL_runText at hf
  refine lv_aload_n hx hb dL_runText_0 rfl (lv_at hl 1 rfl) ?_
  refine lv_iconst (v := (0 : Int32)) hx hb dL_runText_1 (by decide) ?_
  refine lv_aload_n hx hb dL_runText_2 rfl (lv_at hl 0 rfl) ?_
  obtain ⟨r_1, e_1, hf⟩ := bo hf
  refine wcallVei (W0 := (wC c0 h k0 x0 d0 ++ (wS g h a1 a2 a3 a4 σ ++ (wH g k0 k1 γ η ++ (wX g x0 x1 τ ++ (wO g o0 ω)))))) (Wc := (wC c0 h k0 x0 d0 ++ (wS g h a1 a2 a3 a4 σ ++ (wH g k0 k1 γ η ++ (wX g x0 x1 τ))))) (Wr := (wO g o0 ω)) (W1 := fun u : Sh × Hi × Tx => (wC c0 h k0 x0 d0 ++ (wS g h a1 a2 a3 a4 u.1 ++ (wH g k0 k1 γ u.2.1 ++ (wX g x0 x1 u.2.2))))) (W2 := fun u : Sh × Hi × Tx => (wC c0 h k0 x0 d0 ++ (wS g h a1 a2 a3 a4 u.1 ++ (wH g k0 k1 γ u.2.1 ++ (wX g x0 x1 u.2.2 ++ (wO g o0 ω)))))) (As := []) (rest := [.int (0 : Int32), .ref o0]) [0, 1, 2, 3, 4, 5, 6, 7, 8, 9, 10, 11, 12, 13, 14, 15, 16, 17, 18, 19, 20, 21, 22, 23, 24, 25, 26, 27, 28, 29, 30, 31, 32, 33, 34, 35, 36, 37, 38, 39] [40] [1, 2, 3, 4, 5, 6, 7, 8, 9, 10, 11, 12, 13, 14, 15, 16, 17, 18, 19, 20, 21, 22, 23, 24, 25, 26, 27, 28, 29, 30, 31, 32, 33, 34, 35, 36, 37, 38, 39, 40, 0] 4 0 ⟨hx, hb, hml, hown, hts⟩ hP hD hE hZ hS hA (cX6_runText_ok l hl0 g c0 h k0 x0 d0 a1 a2 a3 a4 k1 x1 γ σ η τ _ e_1) (cwV 0 hts gL_runText_X6_runText rfl rfl rfl hdX6_runText ⟨(Nat.le_of_ble_eq_true rfl), (Nat.le_of_ble_eq_true rfl)⟩) rfl rfl (fun _ => rfl) (by decide) (by decide) (by decide) (by decide) rfl rfl rfl rfl hl.1 rfl (Nat.le_of_ble_eq_true rfl) ⟨(Nat.le_of_ble_eq_true rfl), (Nat.le_of_ble_eq_true rfl)⟩ dL_runText_3 (fun E eu_1 ce q9 H locs ox_1 hP hD hS hce hcv hcl => ?_) (fun v_1 H locs ok_1 hP hD hS => ?_)
  · have hf := xe ox_1 hf
    by_cases z_2 : E = "java/lang/IllegalArgumentException"
    · have hf := ip z_2 hf
      subst z_2
      refine vx_catch (name := "java/lang/IllegalArgumentException") hown [] ⟨0, 8, 11, 15⟩ [] (htab.trans rfl) (fun z hz => absurd hz List.not_mem_nil) (by decide) (by decide) (hts _ hkL_runText_15) (va_Nw.use rfl (hE.2.1 (.castable "java/lang/IllegalArgumentException" "java/lang/IllegalArgumentException") (by decide +kernel))) hce hcv hcl ?_
      refine lv_astore_n (lv' := [(2, .ref q9), (0, .ref c0), (1, .ref o0)]) hx hb dL_runText_11 rfl hl (by decide) rfl (fun ls hl => ?_)
      refine lv_iconst (v := (1 : Int32)) hx hb dL_runText_12 (by decide) ?_
      have ho := Option.some.inj hf
      subst ho
      exact w_iret (v := (1 : Int32)) hx hb hr hlocks hP hD hS ⟨(Nat.le_of_ble_eq_true rfl), (Nat.le_of_ble_eq_true rfl)⟩ rfl dL_runText_13
    · have hf := iq z_2 hf
      exact nomatch (show (none : Option (Int32 × Sh × Hi × Tx × (Nat → Int64))) = some _ from hf)
  · have hf := xo ok_1 hf
    refine lv_i2l hx hb dL_runText_6 rfl ?_
    refine va_last hx hb hE.1 hP hD hS 40 2 rfl rfl (vin (by decide)) dL_runText_7 (fun H locs hP hD hS => ?_)
    have hP : va_P g.1 vwCl (wC c0 h k0 x0 d0 ++ (wS g h a1 a2 a3 a4 v_1.2.1 ++ (wH g k0 k1 γ v_1.2.2.1 ++ (wX g x0 x1 v_1.2.2.2 ++ (wO g o0 (vp_updL ω (Int32.toNatClampNeg (0 : Int32)) (Int32.toInt64 v_1.1))))))) H := hP
    have hD : va_D A (wC c0 h k0 x0 d0 ++ (wS g h a1 a2 a3 a4 v_1.2.1 ++ (wH g k0 k1 γ v_1.2.2.1 ++ (wX g x0 x1 v_1.2.2.2 ++ (wO g o0 (vp_updL ω (Int32.toNatClampNeg (0 : Int32)) (Int32.toInt64 v_1.1))))))) := hD
    refine lv_goto (tgt := 14) hx hb dL_runText_8 (by decide) ?_
    refine lv_iconst (v := (0 : Int32)) hx hb dL_runText_14 (by decide) ?_
    have ho := Option.some.inj hf
    subst ho
    exact w_iret (v := (0 : Int32)) hx hb hr hlocks hP hD hS ⟨(Nat.le_of_ble_eq_true rfl), (Nat.le_of_ble_eq_true rfl)⟩ rfl dL_runText_15

def fL_undo (σ : Sh) (η : Hi) (ω : (Nat → Int64)) : Option (Int32 × Sh × Hi × (Nat → Int64)) := ((fX6_undo σ η).bind fun r_1 => xcase r_1 (fun e => (if e = "java/lang/IllegalStateException" then (some ((1 : Int32), σ, η, ω)) else none)) (fun v_1 => (some ((0 : Int32), v_1.2.1, v_1.2.2, (vp_updL ω (Int32.toNatClampNeg (0 : Int32)) (Int32.toInt64 v_1.1))))))
abbrev rmL_undo : Room := { frames := 7, cells := 1, slots := 6, locals := 123 }
theorem hdL_undo : yL_undo.cls = RL ∧ yL_undo.cls ≠ "java/lang/invoke/MethodHandle" ∧ yL_undo.cls ≠ "java/lang/invoke/VarHandle" ∧ (parseMethodDescriptor yL_undo.desc).map (fun d => d.parameters.length) = some 2 := by decide +kernel
theorem hkL_undo_17 : (.classLink RL 17 "java/lang/IllegalStateException" : Cond) ∈ wsL_undo := by decide +kernel
set_option maxHeartbeats 4000000 in
set_option maxRecDepth 100000 in
theorem cL_undo_ok (l : Launch) (hl0 : l.stackTraces = false) (g : Gg) (c0 h k0 x0 d0 a1 a2 a3 a4 k1 o0 : Nat) (γ : Nat → Nat → Nat) (σ : Sh) (η : Hi) (ω : (Nat → Int64)) (sz : Nat) {o : Int32 × Sh × Hi × (Nat → Int64)} (hf : fL_undo σ η ω = some o) : vx_Met l yL_undo wsL_undo rmL_undo (va_Pc [.ref c0, .ref o0] (PM g (wC c0 h k0 x0 d0 ++ (wS g h a1 a2 a3 a4 σ ++ (wH g k0 k1 γ η ++ (wO g o0 ω)))) sz)) (va_Qi (fun r' (_ : Unit) => r' = o.1) (fun _ t => PQ g (wC c0 h k0 x0 d0 ++ (wS g h a1 a2 a3 a4 o.2.1 ++ (wH g k0 k1 γ o.2.2.1 ++ (wO g o0 o.2.2.2)))) (va_A (wC c0 h k0 x0 d0 ++ (wS g h a1 a2 a3 a4 σ ++ (wH g k0 k1 γ η ++ (wO g o0 ω)))) sz) t) (va_A (wC c0 h k0 x0 d0 ++ (wS g h a1 a2 a3 a4 σ ++ (wH g k0 k1 γ η ++ (wO g o0 ω)))) sz)) (vx_X (fun _ : Unit => False) (fun _ _ _ => True) (va_A (wC c0 h k0 x0 d0 ++ (wS g h a1 a2 a3 a4 σ ++ (wH g k0 k1 γ η ++ (wO g o0 ω)))) sz)) 1 6 (va_A (wC c0 h k0 x0 d0 ++ (wS g h a1 a2 a3 a4 σ ++ (wH g k0 k1 γ η ++ (wO g o0 ω)))) sz) := by
  refine vx_ofWH (cc := cL_undo) (maxL := 3) (ret := (some .int)) (by decide) rfl ?_
  intro p e s m args below meth c s₁ B hml hv
  obtain ⟨rfl, rfl, hP, hD0, hE, hZ⟩ := hv
  have hx := B.exec
  have hb := B.bytes
  have hr := B.returns
  have hts := atoms_spec (ws := wsL_undo) B.pre
  have htab := vx_table (x := yL_undo) B (hts _ List.mem_cons_self)
  have hown : s.vm.findClass RL = some m.cls := findClass_of_methodNamed B.named
  have hlocks := B.notSynchronized
  have hD := hD0.self (sz := s.heap.size)
  generalize hAe : (va_A (wC c0 h k0 x0 d0 ++ (wS g h a1 a2 a3 a4 σ ++ (wH g k0 k1 γ η ++ (wO g o0 ω)))) s.heap.size) = A at hD hZ ⊢
  have hA : ∀ q : Nat, s.heap.size ≤ q → A q := fun q h => by rw [← hAe]; exact Or.inr h
  have hS : va_S A s.heap s.heap [] := va_S.rf
  have hP : va_P g.1 vwCl (wC c0 h k0 x0 d0 ++ (wS g h a1 a2 a3 a4 σ ++ (wH g k0 k1 γ η ++ (wO g o0 ω)))) s.heap := hP
  have hl := lv_entry ([.ref c0, .ref o0]) (n := 3) (Nat.le_of_ble_eq_true rfl)
  rw [lg_entry_eq]
  generalize (lg_sl ([.ref c0, .ref o0]) ++ List.replicate (3 - (lg_sl ([.ref c0, .ref o0])).length) Slot.unset).toArray = ls at hl ⊢
  have hl : lv_has ls 3 [(0, .ref c0), (1, .ref o0)] := hl
  unfold fL_undo at hf
  refine lv_aload_n hx hb dL_undo_0 rfl (lv_at hl 1 rfl) ?_
  refine lv_iconst (v := (0 : Int32)) hx hb dL_undo_1 (by decide) ?_
  refine lv_aload_n hx hb dL_undo_2 rfl (lv_at hl 0 rfl) ?_
  obtain ⟨r_1, e_1, hf⟩ := bo hf
  refine wcallVmi (W0 := (wC c0 h k0 x0 d0 ++ (wS g h a1 a2 a3 a4 σ ++ (wH g k0 k1 γ η ++ (wO g o0 ω))))) (Wc := (wC c0 h k0 x0 d0 ++ (wS g h a1 a2 a3 a4 σ ++ (wH g k0 k1 γ η)))) (Wr := (wO g o0 ω)) (W1 := fun u : Sh × Hi => (wC c0 h k0 x0 d0 ++ (wS g h a1 a2 a3 a4 u.1 ++ (wH g k0 k1 γ u.2)))) (W2 := fun u : Sh × Hi => (wC c0 h k0 x0 d0 ++ (wS g h a1 a2 a3 a4 u.1 ++ (wH g k0 k1 γ u.2 ++ (wO g o0 ω))))) (As := []) (rest := [.int (0 : Int32), .ref o0]) [0, 1, 2, 3, 4, 5, 6, 7, 8, 9, 10, 11, 12, 13, 14, 15, 16, 17, 18, 19, 20, 21, 22, 23, 24, 25, 26, 27, 28, 29, 30, 31, 32, 33, 34, 35, 36, 37] [38] [1, 2, 3, 4, 5, 6, 7, 8, 9, 10, 11, 12, 13, 14, 15, 16, 17, 18, 19, 20, 21, 22, 23, 24, 25, 26, 27, 28, 29, 30, 31, 32, 33, 34, 35, 36, 37, 38, 0] 4 0 ⟨hx, hb, hml, hown, hts⟩ hP hD hE hZ hS hA (cX6_undo_ok l hl0 g c0 h k0 x0 d0 a1 a2 a3 a4 k1 γ σ η _ e_1) (cwV 0 hts gL_undo_X6_undo rfl rfl rfl hdX6_undo ⟨(Nat.le_of_ble_eq_true rfl), (Nat.le_of_ble_eq_true rfl)⟩) rfl rfl (fun _ => rfl) (by decide) (by decide) (by decide) (by decide) rfl rfl rfl rfl hl.1 rfl (Nat.le_of_ble_eq_true rfl) ⟨(Nat.le_of_ble_eq_true rfl), (Nat.le_of_ble_eq_true rfl)⟩ dL_undo_3 (fun E ce q9 H locs ox_1 hP hD hS hce hcv hcl => ?_) (fun v_1 H locs ok_1 hP hD hS => ?_)
  · have hf := xe ox_1 hf
    by_cases z_2 : E = "java/lang/IllegalStateException"
    · have hf := ip z_2 hf
      subst z_2
      refine vx_catch (name := "java/lang/IllegalStateException") hown [] ⟨0, 8, 11, 17⟩ [] (htab.trans rfl) (fun z hz => absurd hz List.not_mem_nil) (by decide) (by decide) (hts _ hkL_undo_17) (va_Nw.use rfl (hE.2.1 (.castable "java/lang/IllegalStateException" "java/lang/IllegalStateException") (by decide +kernel))) hce hcv hcl ?_
      refine lv_astore_n (lv' := [(2, .ref q9), (0, .ref c0), (1, .ref o0)]) hx hb dL_undo_11 rfl hl (by decide) rfl (fun ls hl => ?_)
      refine lv_iconst (v := (1 : Int32)) hx hb dL_undo_12 (by decide) ?_
      have ho := Option.some.inj hf
      subst ho
      exact w_iret (v := (1 : Int32)) hx hb hr hlocks hP hD hS ⟨(Nat.le_of_ble_eq_true rfl), (Nat.le_of_ble_eq_true rfl)⟩ rfl dL_undo_13
    · have hf := iq z_2 hf
      exact nomatch (show (none : Option (Int32 × Sh × Hi × (Nat → Int64))) = some _ from hf)
  · have hf := xo ok_1 hf
    refine lv_i2l hx hb dL_undo_6 rfl ?_
    refine va_last hx hb hE.1 hP hD hS 38 2 rfl rfl (vin (by decide)) dL_undo_7 (fun H locs hP hD hS => ?_)
    have hP : va_P g.1 vwCl (wC c0 h k0 x0 d0 ++ (wS g h a1 a2 a3 a4 v_1.2.1 ++ (wH g k0 k1 γ v_1.2.2 ++ (wO g o0 (vp_updL ω (Int32.toNatClampNeg (0 : Int32)) (Int32.toInt64 v_1.1)))))) H := hP
    have hD : va_D A (wC c0 h k0 x0 d0 ++ (wS g h a1 a2 a3 a4 v_1.2.1 ++ (wH g k0 k1 γ v_1.2.2 ++ (wO g o0 (vp_updL ω (Int32.toNatClampNeg (0 : Int32)) (Int32.toInt64 v_1.1)))))) := hD
    refine lv_goto (tgt := 14) hx hb dL_undo_8 (by decide) ?_
    refine lv_iconst (v := (0 : Int32)) hx hb dL_undo_14 (by decide) ?_
    have ho := Option.some.inj hf
    subst ho
    exact w_iret (v := (0 : Int32)) hx hb hr hlocks hP hD hS ⟨(Nat.le_of_ble_eq_true rfl), (Nat.le_of_ble_eq_true rfl)⟩ rfl dL_undo_15

def fL_restoreSnapshot (σ : Sh) (η : Hi) (ω : (Nat → Int64)) : Option (Int32 × Sh × Hi × (Nat → Int64)) := ((fX6_restoreSnapshot σ η).bind fun r_1 => xcase r_1 (fun e => (if e = "java/lang/IllegalStateException" then (some ((1 : Int32), σ, η, ω)) else none)) (fun v_1 => (some ((0 : Int32), v_1.2.1, v_1.2.2, (vp_updL ω (Int32.toNatClampNeg (0 : Int32)) (Int32.toInt64 v_1.1))))))
abbrev rmL_restoreSnapshot : Room := { frames := 7, cells := 1, slots := 6, locals := 123 }
theorem hdL_restoreSnapshot : yL_restoreSnapshot.cls = RL ∧ yL_restoreSnapshot.cls ≠ "java/lang/invoke/MethodHandle" ∧ yL_restoreSnapshot.cls ≠ "java/lang/invoke/VarHandle" ∧ (parseMethodDescriptor yL_restoreSnapshot.desc).map (fun d => d.parameters.length) = some 2 := by decide +kernel
theorem hkL_restoreSnapshot_17 : (.classLink RL 17 "java/lang/IllegalStateException" : Cond) ∈ wsL_restoreSnapshot := by decide +kernel
set_option maxHeartbeats 4000000 in
set_option maxRecDepth 100000 in
theorem cL_restoreSnapshot_ok (l : Launch) (hl0 : l.stackTraces = false) (g : Gg) (c0 h k0 x0 d0 a1 a2 a3 a4 k1 o0 : Nat) (γ : Nat → Nat → Nat) (σ : Sh) (η : Hi) (ω : (Nat → Int64)) (sz : Nat) {o : Int32 × Sh × Hi × (Nat → Int64)} (hf : fL_restoreSnapshot σ η ω = some o) : vx_Met l yL_restoreSnapshot wsL_restoreSnapshot rmL_restoreSnapshot (va_Pc [.ref c0, .ref o0] (PM g (wC c0 h k0 x0 d0 ++ (wS g h a1 a2 a3 a4 σ ++ (wH g k0 k1 γ η ++ (wO g o0 ω)))) sz)) (va_Qi (fun r' (_ : Unit) => r' = o.1) (fun _ t => PQ g (wC c0 h k0 x0 d0 ++ (wS g h a1 a2 a3 a4 o.2.1 ++ (wH g k0 k1 γ o.2.2.1 ++ (wO g o0 o.2.2.2)))) (va_A (wC c0 h k0 x0 d0 ++ (wS g h a1 a2 a3 a4 σ ++ (wH g k0 k1 γ η ++ (wO g o0 ω)))) sz) t) (va_A (wC c0 h k0 x0 d0 ++ (wS g h a1 a2 a3 a4 σ ++ (wH g k0 k1 γ η ++ (wO g o0 ω)))) sz)) (vx_X (fun _ : Unit => False) (fun _ _ _ => True) (va_A (wC c0 h k0 x0 d0 ++ (wS g h a1 a2 a3 a4 σ ++ (wH g k0 k1 γ η ++ (wO g o0 ω)))) sz)) 1 6 (va_A (wC c0 h k0 x0 d0 ++ (wS g h a1 a2 a3 a4 σ ++ (wH g k0 k1 γ η ++ (wO g o0 ω)))) sz) := by
  refine vx_ofWH (cc := cL_restoreSnapshot) (maxL := 3) (ret := (some .int)) (by decide) rfl ?_
  intro p e s m args below meth c s₁ B hml hv
  obtain ⟨rfl, rfl, hP, hD0, hE, hZ⟩ := hv
  have hx := B.exec
  have hb := B.bytes
  have hr := B.returns
  have hts := atoms_spec (ws := wsL_restoreSnapshot) B.pre
  have htab := vx_table (x := yL_restoreSnapshot) B (hts _ List.mem_cons_self)
  have hown : s.vm.findClass RL = some m.cls := findClass_of_methodNamed B.named
  have hlocks := B.notSynchronized
  have hD := hD0.self (sz := s.heap.size)
  generalize hAe : (va_A (wC c0 h k0 x0 d0 ++ (wS g h a1 a2 a3 a4 σ ++ (wH g k0 k1 γ η ++ (wO g o0 ω)))) s.heap.size) = A at hD hZ ⊢
  have hA : ∀ q : Nat, s.heap.size ≤ q → A q := fun q h => by rw [← hAe]; exact Or.inr h
  have hS : va_S A s.heap s.heap [] := va_S.rf
  have hP : va_P g.1 vwCl (wC c0 h k0 x0 d0 ++ (wS g h a1 a2 a3 a4 σ ++ (wH g k0 k1 γ η ++ (wO g o0 ω)))) s.heap := hP
  have hl := lv_entry ([.ref c0, .ref o0]) (n := 3) (Nat.le_of_ble_eq_true rfl)
  rw [lg_entry_eq]
  generalize (lg_sl ([.ref c0, .ref o0]) ++ List.replicate (3 - (lg_sl ([.ref c0, .ref o0])).length) Slot.unset).toArray = ls at hl ⊢
  have hl : lv_has ls 3 [(0, .ref c0), (1, .ref o0)] := hl
  unfold fL_restoreSnapshot at hf
  refine lv_aload_n hx hb dL_restoreSnapshot_0 rfl (lv_at hl 1 rfl) ?_
  refine lv_iconst (v := (0 : Int32)) hx hb dL_restoreSnapshot_1 (by decide) ?_
  refine lv_aload_n hx hb dL_restoreSnapshot_2 rfl (lv_at hl 0 rfl) ?_
  obtain ⟨r_1, e_1, hf⟩ := bo hf
  refine wcallVmi (W0 := (wC c0 h k0 x0 d0 ++ (wS g h a1 a2 a3 a4 σ ++ (wH g k0 k1 γ η ++ (wO g o0 ω))))) (Wc := (wC c0 h k0 x0 d0 ++ (wS g h a1 a2 a3 a4 σ ++ (wH g k0 k1 γ η)))) (Wr := (wO g o0 ω)) (W1 := fun u : Sh × Hi => (wC c0 h k0 x0 d0 ++ (wS g h a1 a2 a3 a4 u.1 ++ (wH g k0 k1 γ u.2)))) (W2 := fun u : Sh × Hi => (wC c0 h k0 x0 d0 ++ (wS g h a1 a2 a3 a4 u.1 ++ (wH g k0 k1 γ u.2 ++ (wO g o0 ω))))) (As := []) (rest := [.int (0 : Int32), .ref o0]) [0, 1, 2, 3, 4, 5, 6, 7, 8, 9, 10, 11, 12, 13, 14, 15, 16, 17, 18, 19, 20, 21, 22, 23, 24, 25, 26, 27, 28, 29, 30, 31, 32, 33, 34, 35, 36, 37] [38] [1, 2, 3, 4, 5, 6, 7, 8, 9, 10, 11, 12, 13, 14, 15, 16, 17, 18, 19, 20, 21, 22, 23, 24, 25, 26, 27, 28, 29, 30, 31, 32, 33, 34, 35, 36, 37, 38, 0] 4 0 ⟨hx, hb, hml, hown, hts⟩ hP hD hE hZ hS hA (cX6_restoreSnapshot_ok l hl0 g c0 h k0 x0 d0 a1 a2 a3 a4 k1 γ σ η _ e_1) (cwV 0 hts gL_restoreSnapshot_X6_restoreSnapshot rfl rfl rfl hdX6_restoreSnapshot ⟨(Nat.le_of_ble_eq_true rfl), (Nat.le_of_ble_eq_true rfl)⟩) rfl rfl (fun _ => rfl) (by decide) (by decide) (by decide) (by decide) rfl rfl rfl rfl hl.1 rfl (Nat.le_of_ble_eq_true rfl) ⟨(Nat.le_of_ble_eq_true rfl), (Nat.le_of_ble_eq_true rfl)⟩ dL_restoreSnapshot_3 (fun E ce q9 H locs ox_1 hP hD hS hce hcv hcl => ?_) (fun v_1 H locs ok_1 hP hD hS => ?_)
  · have hf := xe ox_1 hf
    by_cases z_2 : E = "java/lang/IllegalStateException"
    · have hf := ip z_2 hf
      subst z_2
      refine vx_catch (name := "java/lang/IllegalStateException") hown [] ⟨0, 8, 11, 17⟩ [] (htab.trans rfl) (fun z hz => absurd hz List.not_mem_nil) (by decide) (by decide) (hts _ hkL_restoreSnapshot_17) (va_Nw.use rfl (hE.2.1 (.castable "java/lang/IllegalStateException" "java/lang/IllegalStateException") (by decide +kernel))) hce hcv hcl ?_
      refine lv_astore_n (lv' := [(2, .ref q9), (0, .ref c0), (1, .ref o0)]) hx hb dL_restoreSnapshot_11 rfl hl (by decide) rfl (fun ls hl => ?_)
      refine lv_iconst (v := (1 : Int32)) hx hb dL_restoreSnapshot_12 (by decide) ?_
      have ho := Option.some.inj hf
      subst ho
      exact w_iret (v := (1 : Int32)) hx hb hr hlocks hP hD hS ⟨(Nat.le_of_ble_eq_true rfl), (Nat.le_of_ble_eq_true rfl)⟩ rfl dL_restoreSnapshot_13
    · have hf := iq z_2 hf
      exact nomatch (show (none : Option (Int32 × Sh × Hi × (Nat → Int64))) = some _ from hf)
  · have hf := xo ok_1 hf
    refine lv_i2l hx hb dL_restoreSnapshot_6 rfl ?_
    refine va_last hx hb hE.1 hP hD hS 38 2 rfl rfl (vin (by decide)) dL_restoreSnapshot_7 (fun H locs hP hD hS => ?_)
    have hP : va_P g.1 vwCl (wC c0 h k0 x0 d0 ++ (wS g h a1 a2 a3 a4 v_1.2.1 ++ (wH g k0 k1 γ v_1.2.2 ++ (wO g o0 (vp_updL ω (Int32.toNatClampNeg (0 : Int32)) (Int32.toInt64 v_1.1)))))) H := hP
    have hD : va_D A (wC c0 h k0 x0 d0 ++ (wS g h a1 a2 a3 a4 v_1.2.1 ++ (wH g k0 k1 γ v_1.2.2 ++ (wO g o0 (vp_updL ω (Int32.toNatClampNeg (0 : Int32)) (Int32.toInt64 v_1.1)))))) := hD
    refine lv_goto (tgt := 14) hx hb dL_restoreSnapshot_8 (by decide) ?_
    refine lv_iconst (v := (0 : Int32)) hx hb dL_restoreSnapshot_14 (by decide) ?_
    have ho := Option.some.inj hf
    subst ho
    exact w_iret (v := (0 : Int32)) hx hb hr hlocks hP hD hS ⟨(Nat.le_of_ble_eq_true rfl), (Nat.le_of_ble_eq_true rfl)⟩ rfl dL_restoreSnapshot_15
