def fL_low (p0 p1 : Int32) : Option (Int32) := (if ¬ p1 = 0 then (some (irm (p0 &&& (2147483647 : Int32)) p1)) else none)
abbrev rmL_low : Room := { frames := 0, cells := 0, slots := 0, locals := 0 }
theorem hdL_low : yL_low.cls = RL ∧ yL_low.cls ≠ "java/lang/invoke/MethodHandle" ∧ yL_low.cls ≠ "java/lang/invoke/VarHandle" ∧ (parseMethodDescriptor yL_low.desc).map (fun d => d.parameters.length) = some 2 := by decide +kernel
theorem kcL_low_8 : (.constant RL 8 (2147483647) : Cond) ∈ wsL_low := by decide +kernel
set_option maxHeartbeats 4000000 in
set_option maxRecDepth 100000 in
theorem cL_low_ok (l : Launch) (g : Gg) (p0 p1 : Int32) {r : Int32} (hf : fL_low p0 p1 = some r) : Met l yL_low wsL_low rmL_low (va_Pc [.int p0, .int p1] (PP g ([] : va_W))) (vp_Si (fun r' => r' = r)) 0 0 (fun _ => False) := by
  refine Met.ofW (cc := cL_low) (maxL := 2) (ret := (some .int)) (by decide) rfl ?_
  intro p e s m args below meth c s₁ B hml hv
  obtain ⟨rfl, hP, hE, hZ⟩ := hv
  have hx := B.exec
  have hb := B.bytes
  have hr := B.returns
  have hts := atoms_spec (ws := wsL_low) B.pre
  have hown : s.vm.findClass RL = some m.cls := findClass_of_methodNamed B.named
  have hlocks := B.notSynchronized
  have hS : va_S (fun _ => False) s.heap s.heap [] := va_S.rf
  have hl := lv_entry ([.int p0, .int p1]) (n := 2) (Nat.le_of_ble_eq_true rfl)
  rw [lg_entry_eq]
  generalize (lg_sl ([.int p0, .int p1]) ++ List.replicate (2 - (lg_sl ([.int p0, .int p1])).length) Slot.unset).toArray = ls at hl ⊢
  have hl : lv_has ls 2 [(0, .int p0), (1, .int p1)] := hl
  unfold fL_low at hf
  refine lv_iload_n hx hb dL_low_0 rfl (lv_at hl 0 rfl) ?_
  refine lv_ldc hx hb hown (hts _ kcL_low_8) dL_low_1 ?_
  refine lv_iand hx hb dL_low_3 ?_
  refine lv_iload_n hx hb dL_low_4 rfl (lv_at hl 1 rfl) ?_
  obtain ⟨h_1, hf⟩ := ck hf
  refine lv_irm hx hb dL_low_5 h_1 ?_
  exact p_iret (v := (irm (p0 &&& (2147483647 : Int32)) p1)) hx hb hr hlocks (Option.some.inj hf) dL_low_6

def fL_dir (ζ : (Nat → Int64)) (p1 p2 : Int32) : Option (Int32) := (if inR (((3 : Int32) * p1) + (p2 / (20 : Int32))) 24 then (some ((Int64.toInt32 ((ζ (Int32.toNatClampNeg (((3 : Int32) * p1) + (p2 / (20 : Int32))))) >>> ((Int32.toInt64 ((3 : Int32) * (irm p2 (20 : Int32)))) &&& 63))) &&& (7 : Int32))) else none)
abbrev rmL_dir : Room := { frames := 0, cells := 0, slots := 0, locals := 0 }
theorem hdL_dir : yL_dir.cls = RL ∧ yL_dir.cls ≠ "java/lang/invoke/MethodHandle" ∧ yL_dir.cls ≠ "java/lang/invoke/VarHandle" ∧ (parseMethodDescriptor yL_dir.desc).map (fun d => d.parameters.length) = some 3 := by decide +kernel
set_option maxHeartbeats 4000000 in
set_option maxRecDepth 100000 in
theorem cL_dir_ok (l : Launch) (g : Gg) (z0 : Nat) (ζ : (Nat → Int64)) (p1 p2 : Int32) {r : Int32} (hf : fL_dir ζ p1 p2 = some r) : Met l yL_dir wsL_dir rmL_dir (va_Pc [.ref z0, .int p1, .int p2] (PP g (wZ g z0 ζ))) (vp_Si (fun r' => r' = r)) 0 0 (fun _ => False) := by
  refine Met.ofW (cc := cL_dir) (maxL := 3) (ret := (some .int)) (by decide) rfl ?_
  intro p e s m args below meth c s₁ B hml hv
  obtain ⟨rfl, hP, hE, hZ⟩ := hv
  have hx := B.exec
  have hb := B.bytes
  have hr := B.returns
  have hts := atoms_spec (ws := wsL_dir) B.pre
  have hown : s.vm.findClass RL = some m.cls := findClass_of_methodNamed B.named
  have hlocks := B.notSynchronized
  have hS : va_S (fun _ => False) s.heap s.heap [] := va_S.rf
  have hl := lv_entry ([.ref z0, .int p1, .int p2]) (n := 3) (Nat.le_of_ble_eq_true rfl)
  rw [lg_entry_eq]
  generalize (lg_sl ([.ref z0, .int p1, .int p2]) ++ List.replicate (3 - (lg_sl ([.ref z0, .int p1, .int p2])).length) Slot.unset).toArray = ls at hl ⊢
  have hl : lv_has ls 3 [(0, .ref z0), (1, .int p1), (2, .int p2)] := hl
  unfold fL_dir at hf
  refine lv_aload_n hx hb dL_dir_0 rfl (lv_at hl 0 rfl) ?_
  refine lv_iconst (v := (3 : Int32)) hx hb dL_dir_1 (by decide) ?_
  refine lv_iload_n hx hb dL_dir_2 rfl (lv_at hl 1 rfl) ?_
  refine lv_imul hx hb dL_dir_3 ?_
  refine lv_iload_n hx hb dL_dir_4 rfl (lv_at hl 2 rfl) ?_
  refine lv_bipush (v := (20 : Int32)) hx hb dL_dir_5 (by decide) ?_
  refine lv_idiv hx hb dL_dir_7 (by decide) ?_
  refine lv_iadd hx hb dL_dir_8 ?_
  obtain ⟨h_1, hf⟩ := ck hf
  refine va_lald hx hb hE.1 hP 0 2 rfl rfl (vin h_1) dL_dir_9 ?_
  refine lv_iconst (v := (3 : Int32)) hx hb dL_dir_10 (by decide) ?_
  refine lv_iload_n hx hb dL_dir_11 rfl (lv_at hl 2 rfl) ?_
  refine lv_bipush (v := (20 : Int32)) hx hb dL_dir_12 (by decide) ?_
  refine lv_irm hx hb dL_dir_14 (by decide) ?_
  refine lv_imul hx hb dL_dir_15 ?_
  refine lv_lshr hx hb dL_dir_16 rfl ?_
  refine lv_l2i hx hb dL_dir_17 rfl ?_
  refine lv_bipush (v := (7 : Int32)) hx hb dL_dir_18 (by decide) ?_
  refine lv_iand hx hb dL_dir_20 ?_
  exact p_iret (v := ((Int64.toInt32 ((ζ (Int32.toNatClampNeg (((3 : Int32) * p1) + (p2 / (20 : Int32))))) >>> ((Int32.toInt64 ((3 : Int32) * (irm p2 (20 : Int32)))) &&& 63))) &&& (7 : Int32))) hx hb hr hlocks (Option.some.inj hf) dL_dir_21

def fL_right (p0 : Int32) : Option (Int32) := (if (irm p0 (4 : Int32)) = (2 : Int32) then (some (0 : Int32)) else (if p0 ≤ (2 : Int32) then (some (1 : Int32)) else (if (6 : Int32) ≤ p0 then (some (1 : Int32)) else (some (-1 : Int32)))))
abbrev rmL_right : Room := { frames := 0, cells := 0, slots := 0, locals := 0 }
theorem hdL_right : yL_right.cls = RL ∧ yL_right.cls ≠ "java/lang/invoke/MethodHandle" ∧ yL_right.cls ≠ "java/lang/invoke/VarHandle" ∧ (parseMethodDescriptor yL_right.desc).map (fun d => d.parameters.length) = some 1 := by decide +kernel
set_option maxHeartbeats 4000000 in
set_option maxRecDepth 100000 in
theorem cL_right_ok (l : Launch) (g : Gg) (p0 : Int32) {r : Int32} (hf : fL_right p0 = some r) : Met l yL_right wsL_right rmL_right (va_Pc [.int p0] (PP g ([] : va_W))) (vp_Si (fun r' => r' = r)) 0 0 (fun _ => False) := by
  refine Met.ofW (cc := cL_right) (maxL := 1) (ret := (some .int)) (by decide) rfl ?_
  intro p e s m args below meth c s₁ B hml hv
  obtain ⟨rfl, hP, hE, hZ⟩ := hv
  have hx := B.exec
  have hb := B.bytes
  have hr := B.returns
  have hts := atoms_spec (ws := wsL_right) B.pre
  have hown : s.vm.findClass RL = some m.cls := findClass_of_methodNamed B.named
  have hlocks := B.notSynchronized
  have hS : va_S (fun _ => False) s.heap s.heap [] := va_S.rf
  have hl := lv_entry ([.int p0]) (n := 1) (Nat.le_of_ble_eq_true rfl)
  rw [lg_entry_eq]
  generalize (lg_sl ([.int p0]) ++ List.replicate (1 - (lg_sl ([.int p0])).length) Slot.unset).toArray = ls at hl ⊢
  have hl : lv_has ls 1 [(0, .int p0)] := hl
  unfold fL_right at hf
  refine lv_iload_n hx hb dL_right_0 rfl (lv_at hl 0 rfl) ?_
  refine lv_iconst (v := (4 : Int32)) hx hb dL_right_1 (by decide) ?_
  refine lv_irm hx hb dL_right_2 (by decide) ?_
  refine lv_iconst (v := (2 : Int32)) hx hb dL_right_3 (by decide) ?_
  refine lv_icmp_ne (tgt := 11) hx hb dL_right_4 (by decide) (fun c_1 => ?_) (fun c_1 => ?_)
  · have hf := iq c_1 hf
    refine lv_iload_n hx hb dL_right_11 rfl (lv_at hl 0 rfl) ?_
    refine lv_iconst (v := (2 : Int32)) hx hb dL_right_12 (by decide) ?_
    refine lv_icmp_le (tgt := 26) hx hb dL_right_13 (by decide) (fun c_2 => ?_) (fun c_2 => ?_)
    · have hf := ip c_2 hf
      refine lv_iconst (v := (1 : Int32)) hx hb dL_right_26 (by decide) ?_
      exact p_iret (v := (1 : Int32)) hx hb hr hlocks (Option.some.inj hf) dL_right_27
    · have hf := iq c_2 hf
      refine lv_iload_n hx hb dL_right_16 rfl (lv_at hl 0 rfl) ?_
      refine lv_bipush (v := (6 : Int32)) hx hb dL_right_17 (by decide) ?_
      refine lv_icmp_ge (tgt := 26) hx hb dL_right_19 (by decide) (fun c_3 => ?_) (fun c_3 => ?_)
      · have hf := ip c_3 hf
        refine lv_iconst (v := (1 : Int32)) hx hb dL_right_26 (by decide) ?_
        exact p_iret (v := (1 : Int32)) hx hb hr hlocks (Option.some.inj hf) dL_right_27
      · have hf := iq c_3 hf
        refine lv_iconst (v := (-1 : Int32)) hx hb dL_right_22 (by decide) ?_
        refine lv_goto (tgt := 27) hx hb dL_right_23 (by decide) ?_
        exact p_iret (v := (-1 : Int32)) hx hb hr hlocks (Option.some.inj hf) dL_right_27
  · have hf := ip c_1 hf
    refine lv_iconst (v := (0 : Int32)) hx hb dL_right_7 (by decide) ?_
    refine lv_goto (tgt := 27) hx hb dL_right_8 (by decide) ?_
    exact p_iret (v := (0 : Int32)) hx hb hr hlocks (Option.some.inj hf) dL_right_27

def fL_below (p0 : Int32) : Option (Int32) := (if (irm p0 (4 : Int32)) = 0 then (some (0 : Int32)) else (if (4 : Int32) ≤ p0 then (some (-1 : Int32)) else (some (1 : Int32))))
abbrev rmL_below : Room := { frames := 0, cells := 0, slots := 0, locals := 0 }
theorem hdL_below : yL_below.cls = RL ∧ yL_below.cls ≠ "java/lang/invoke/MethodHandle" ∧ yL_below.cls ≠ "java/lang/invoke/VarHandle" ∧ (parseMethodDescriptor yL_below.desc).map (fun d => d.parameters.length) = some 1 := by decide +kernel
set_option maxHeartbeats 4000000 in
set_option maxRecDepth 100000 in
theorem cL_below_ok (l : Launch) (g : Gg) (p0 : Int32) {r : Int32} (hf : fL_below p0 = some r) : Met l yL_below wsL_below rmL_below (va_Pc [.int p0] (PP g ([] : va_W))) (vp_Si (fun r' => r' = r)) 0 0 (fun _ => False) := by
  refine Met.ofW (cc := cL_below) (maxL := 1) (ret := (some .int)) (by decide) rfl ?_
  intro p e s m args below meth c s₁ B hml hv
  obtain ⟨rfl, hP, hE, hZ⟩ := hv
  have hx := B.exec
  have hb := B.bytes
  have hr := B.returns
  have hts := atoms_spec (ws := wsL_below) B.pre
  have hown : s.vm.findClass RL = some m.cls := findClass_of_methodNamed B.named
  have hlocks := B.notSynchronized
  have hS : va_S (fun _ => False) s.heap s.heap [] := va_S.rf
  have hl := lv_entry ([.int p0]) (n := 1) (Nat.le_of_ble_eq_true rfl)
  rw [lg_entry_eq]
  generalize (lg_sl ([.int p0]) ++ List.replicate (1 - (lg_sl ([.int p0])).length) Slot.unset).toArray = ls at hl ⊢
  have hl : lv_has ls 1 [(0, .int p0)] := hl
  unfold fL_below at hf
  refine lv_iload_n hx hb dL_below_0 rfl (lv_at hl 0 rfl) ?_
  refine lv_iconst (v := (4 : Int32)) hx hb dL_below_1 (by decide) ?_
  refine lv_irm hx hb dL_below_2 (by decide) ?_
  refine lv_if_ne (tgt := 10) hx hb dL_below_3 (by decide) (fun c_1 => ?_) (fun c_1 => ?_)
  · have hf := iq c_1 hf
    refine lv_iload_n hx hb dL_below_10 rfl (lv_at hl 0 rfl) ?_
    refine lv_iconst (v := (4 : Int32)) hx hb dL_below_11 (by decide) ?_
    refine lv_icmp_ge (tgt := 19) hx hb dL_below_12 (by decide) (fun c_2 => ?_) (fun c_2 => ?_)
    · have hf := ip c_2 hf
      refine lv_iconst (v := (-1 : Int32)) hx hb dL_below_19 (by decide) ?_
      exact p_iret (v := (-1 : Int32)) hx hb hr hlocks (Option.some.inj hf) dL_below_20
    · have hf := iq c_2 hf
      refine lv_iconst (v := (1 : Int32)) hx hb dL_below_15 (by decide) ?_
      refine lv_goto (tgt := 20) hx hb dL_below_16 (by decide) ?_
      exact p_iret (v := (1 : Int32)) hx hb hr hlocks (Option.some.inj hf) dL_below_20
  · have hf := ip c_1 hf
    refine lv_iconst (v := (0 : Int32)) hx hb dL_below_6 (by decide) ?_
    refine lv_goto (tgt := 20) hx hb dL_below_7 (by decide) ?_
    exact p_iret (v := (0 : Int32)) hx hb hr hlocks (Option.some.inj hf) dL_below_20

def fL_walks_13 (ν : (Nat → Int32)) (ζ : (Nat → Int64)) (p2 : Int32) : Nat → Int32 → (Nat → Int32) → Option ((Nat → Int32))
  | 0, _, _ => none
  | n + 1, v4_13, ψ_13 => (if inR (((4 : Int32) * p2) + (2 : Int32)) 34 then (if (ν (Int32.toNatClampNeg (((4 : Int32) * p2) + (2 : Int32)))) ≤ v4_13 then (some ψ_13) else (if inR v4_13 61 then ((fL_dir ζ p2 v4_13).bind fun r_4 => ((fL_right r_4).bind fun r_5 => ((fL_dir ζ p2 v4_13).bind fun r_6 => ((fL_below r_6).bind fun r_7 => (if inR (v4_13 + (1 : Int32)) 61 then fL_walks_13 ν ζ p2 n (v4_13 + 1) (upd ψ_13 (Int32.toNatClampNeg (v4_13 + (1 : Int32))) (((ψ_13 (Int32.toNatClampNeg v4_13)) + r_5) + ((24 : Int32) * r_7))) else none))))) else none)) else none)
def fL_walks (ν : (Nat → Int32)) (ζ : (Nat → Int64)) (ψ : (Nat → Int32)) (p2 : Int32) : Option ((Nat → Int32)) := (if inR (((4 : Int32) * p2) + (1 : Int32)) 34 then fL_walks_13 ν ζ p2 FU (0 : Int32) (upd ψ (Int32.toNatClampNeg (0 : Int32)) (ν (Int32.toNatClampNeg (((4 : Int32) * p2) + (1 : Int32))))) else none)
abbrev rmL_walks : Room := { frames := 1, cells := 0, slots := 0, locals := 22 }
theorem hdL_walks : yL_walks.cls = RL ∧ yL_walks.cls ≠ "java/lang/invoke/MethodHandle" ∧ yL_walks.cls ≠ "java/lang/invoke/VarHandle" ∧ (parseMethodDescriptor yL_walks.desc).map (fun d => d.parameters.length) = some 4 := by decide +kernel
set_option maxHeartbeats 4000000 in
set_option maxRecDepth 100000 in
theorem cL_walks_ok (l : Launch) (g : Gg) (v0 z0 p0 : Nat) (ν : (Nat → Int32)) (ζ : (Nat → Int64)) (ψ : (Nat → Int32)) (p2 : Int32) (sz : Nat) {o : (Nat → Int32)} (hf : fL_walks ν ζ ψ p2 = some o) : Met l yL_walks wsL_walks rmL_walks (va_Pc [.ref v0, .ref z0, .int p2, .ref p0] (PM g (wV g v0 ν ++ (wZ g z0 ζ ++ (wP g p0 ψ))) sz)) (va_Qv (fun _ : Unit => True) (fun _ t => PQ g (wV g v0 ν ++ (wZ g z0 ζ ++ (wP g p0 o))) (va_A (wV g v0 ν ++ (wZ g z0 ζ ++ (wP g p0 ψ))) sz) t) (va_A (wV g v0 ν ++ (wZ g z0 ζ ++ (wP g p0 ψ))) sz)) 0 0 (va_A (wV g v0 ν ++ (wZ g z0 ζ ++ (wP g p0 ψ))) sz) := by
  refine Met.ofW (cc := cL_walks) (maxL := 5) (ret := none) (by decide) rfl ?_
  intro p e s m args below meth c s₁ B hml hv
  obtain ⟨rfl, rfl, hP, hD0, hE, hZ⟩ := hv
  have hx := B.exec
  have hb := B.bytes
  have hr := B.returns
  have hts := atoms_spec (ws := wsL_walks) B.pre
  have hown : s.vm.findClass RL = some m.cls := findClass_of_methodNamed B.named
  have hlocks := B.notSynchronized
  have hD := hD0.self (sz := s.heap.size)
  generalize hAe : (va_A (wV g v0 ν ++ (wZ g z0 ζ ++ (wP g p0 ψ))) s.heap.size) = A at hD hZ ⊢
  have hA : ∀ q : Nat, s.heap.size ≤ q → A q := fun q h => by rw [← hAe]; exact Or.inr h
  have hS : va_S A s.heap s.heap [] := va_S.rf
  have hP : va_P g.1 vwCl (wV g v0 ν ++ (wZ g z0 ζ ++ (wP g p0 ψ))) s.heap := hP
  have hl := lv_entry ([.ref v0, .ref z0, .int p2, .ref p0]) (n := 5) (Nat.le_of_ble_eq_true rfl)
  rw [lg_entry_eq]
  generalize (lg_sl ([.ref v0, .ref z0, .int p2, .ref p0]) ++ List.replicate (5 - (lg_sl ([.ref v0, .ref z0, .int p2, .ref p0])).length) Slot.unset).toArray = ls at hl ⊢
  have hl : lv_has ls 5 [(0, .ref v0), (1, .ref z0), (2, .int p2), (3, .ref p0)] := hl
  have hB13 : ∀ (n13 : Nat) (v4_13 : Int32) (ψ_13 : (Nat → Int32)) (H : Heap) (locs : List Loc) (ls : Array Slot), va_P g.1 vwCl (wV g v0 ν ++ (wZ g z0 ζ ++ (wP g p0 ψ_13))) H → va_D A (wV g v0 ν ++ (wZ g z0 ζ ++ (wP g p0 ψ_13))) → va_S A s.heap H locs → lv_has ls 5 [(0, .ref v0), (1, .ref z0), (2, .int p2), (3, .ref p0), (4, .int v4_13)] → fL_walks_13 ν ζ p2 n13 v4_13 ψ_13 = some o → W p l e (headSpec wsL_walks rmL_walks).room s m ([.ref v0, .ref z0, .int p2, .ref p0] : List Value).toArray below meth c H locs 0 0 (MQ below (va_Qv (fun _ : Unit => True) (fun _ t => PQ g (wV g v0 ν ++ (wZ g z0 ζ ++ (wP g p0 o))) A t) A) ([.ref v0, .ref z0, .int p2, .ref p0] : List Value).toArray s 0 0 A) (F0 m 13 ls []) := by
    intro  n13
    induction n13 with
    | zero => intro v4_13 ψ_13 H locs ls hP hD hS hl hf; exact nomatch (show (none : Option ((Nat → Int32))) = some _ from hf)
    | succ n13 ih13 =>
      intro v4_13 ψ_13 H locs ls hP hD hS hl hf
      rw [fL_walks_13] at hf
      refine lv_iload hx hb dL_walks_13 (lv_at hl 4 rfl) ?_
      refine lv_aload_n hx hb dL_walks_15 rfl (lv_at hl 0 rfl) ?_
      refine lv_iconst (v := (4 : Int32)) hx hb dL_walks_16 (by decide) ?_
      refine lv_iload_n hx hb dL_walks_17 rfl (lv_at hl 2 rfl) ?_
      refine lv_imul hx hb dL_walks_18 ?_
      refine lv_iconst (v := (2 : Int32)) hx hb dL_walks_19 (by decide) ?_
      refine lv_iadd hx hb dL_walks_20 ?_
      obtain ⟨h_1, hf⟩ := ck hf
      refine va_iald hx hb hE.1 hP 0 0 rfl rfl (vin h_1) dL_walks_21 ?_
      refine lv_icmp_ge (tgt := 66) hx hb dL_walks_22 (by decide) (fun c_2 => ?_) (fun c_2 => ?_)
      · have hf := ip c_2 hf
        have ho := Option.some.inj hf
        subst ho
        exact m_vret hx hb hr hlocks hP hD hS dL_walks_66
      · have hf := iq c_2 hf
        refine lv_aload_n hx hb dL_walks_25 rfl (lv_at hl 3 rfl) ?_
        refine lv_iload hx hb dL_walks_26 (lv_at hl 4 rfl) ?_
        refine lv_iconst (v := (1 : Int32)) hx hb dL_walks_28 (by decide) ?_
        refine lv_iadd hx hb dL_walks_29 ?_
        refine lv_aload_n hx hb dL_walks_30 rfl (lv_at hl 3 rfl) ?_
        refine lv_iload hx hb dL_walks_31 (lv_at hl 4 rfl) ?_
        obtain ⟨h_3, hf⟩ := ck hf
        refine va_iald hx hb hE.1 hP 2 0 rfl rfl (vin h_3) dL_walks_33 ?_
        refine lv_aload_n hx hb dL_walks_34 rfl (lv_at hl 1 rfl) ?_
        refine lv_iload_n hx hb dL_walks_35 rfl (lv_at hl 2 rfl) ?_
        refine lv_iload hx hb dL_walks_36 (lv_at hl 4 rfl) ?_
        obtain ⟨r_4, e_4, hf⟩ := bo hf
        refine pcallS (W0 := (wV g v0 ν ++ (wZ g z0 ζ ++ (wP g p0 ψ_13)))) (As := [.ref z0, .int p2, .int v4_13]) (rest := [.int (ψ_13 (Int32.toNatClampNeg v4_13)), .int (v4_13 + (1 : Int32)), .ref p0]) [1] ⟨hx, hb, hml, hown, hts⟩ hP hE hZ hS (cL_dir_ok l g z0 ζ p2 v4_13 e_4) (va_cwS 3 hts gL_walks_L_dir rfl rfl rfl hdL_dir.2 ⟨(Nat.le_of_ble_eq_true rfl), (Nat.le_of_ble_eq_true rfl)⟩) rfl rfl hl.1 rfl (Nat.le_of_ble_eq_true rfl) ⟨(Nat.le_of_ble_eq_true rfl), (Nat.le_of_ble_eq_true rfl)⟩ dL_walks_38 ?_
        obtain ⟨r_5, e_5, hf⟩ := bo hf
        refine pcallS (W0 := (wV g v0 ν ++ (wZ g z0 ζ ++ (wP g p0 ψ_13)))) (As := [.int r_4]) (rest := [.int (ψ_13 (Int32.toNatClampNeg v4_13)), .int (v4_13 + (1 : Int32)), .ref p0]) [] ⟨hx, hb, hml, hown, hts⟩ hP hE hZ hS (cL_right_ok l g  r_4 e_5) (va_cwS 1 hts gL_walks_L_right rfl rfl rfl hdL_right.2 ⟨(Nat.le_of_ble_eq_true rfl), (Nat.le_of_ble_eq_true rfl)⟩) rfl rfl hl.1 rfl (Nat.le_of_ble_eq_true rfl) ⟨(Nat.le_of_ble_eq_true rfl), (Nat.le_of_ble_eq_true rfl)⟩ dL_walks_41 ?_
        refine lv_iadd hx hb dL_walks_44 ?_
        refine lv_bipush (v := (24 : Int32)) hx hb dL_walks_45 (by decide) ?_
        refine lv_aload_n hx hb dL_walks_47 rfl (lv_at hl 1 rfl) ?_
        refine lv_iload_n hx hb dL_walks_48 rfl (lv_at hl 2 rfl) ?_
        refine lv_iload hx hb dL_walks_49 (lv_at hl 4 rfl) ?_
        obtain ⟨r_6, e_6, hf⟩ := bo hf
        refine pcallS (W0 := (wV g v0 ν ++ (wZ g z0 ζ ++ (wP g p0 ψ_13)))) (As := [.ref z0, .int p2, .int v4_13]) (rest := [.int (24 : Int32), .int ((ψ_13 (Int32.toNatClampNeg v4_13)) + r_5), .int (v4_13 + (1 : Int32)), .ref p0]) [1] ⟨hx, hb, hml, hown, hts⟩ hP hE hZ hS (cL_dir_ok l g z0 ζ p2 v4_13 e_6) (va_cwS 3 hts gL_walks_L_dir rfl rfl rfl hdL_dir.2 ⟨(Nat.le_of_ble_eq_true rfl), (Nat.le_of_ble_eq_true rfl)⟩) rfl rfl hl.1 rfl (Nat.le_of_ble_eq_true rfl) ⟨(Nat.le_of_ble_eq_true rfl), (Nat.le_of_ble_eq_true rfl)⟩ dL_walks_51 ?_
        obtain ⟨r_7, e_7, hf⟩ := bo hf
        refine pcallS (W0 := (wV g v0 ν ++ (wZ g z0 ζ ++ (wP g p0 ψ_13)))) (As := [.int r_6]) (rest := [.int (24 : Int32), .int ((ψ_13 (Int32.toNatClampNeg v4_13)) + r_5), .int (v4_13 + (1 : Int32)), .ref p0]) [] ⟨hx, hb, hml, hown, hts⟩ hP hE hZ hS (cL_below_ok l g  r_6 e_7) (va_cwS 1 hts gL_walks_L_below rfl rfl rfl hdL_below.2 ⟨(Nat.le_of_ble_eq_true rfl), (Nat.le_of_ble_eq_true rfl)⟩) rfl rfl hl.1 rfl (Nat.le_of_ble_eq_true rfl) ⟨(Nat.le_of_ble_eq_true rfl), (Nat.le_of_ble_eq_true rfl)⟩ dL_walks_54 ?_
        refine lv_imul hx hb dL_walks_57 ?_
        refine lv_iadd hx hb dL_walks_58 ?_
        obtain ⟨h_8, hf⟩ := ck hf
        refine va_iast hx hb hE.1 hP hD hS 2 0 rfl rfl (vin h_8) dL_walks_59 (fun H locs hP hD hS => ?_)
        have hP : va_P g.1 vwCl (wV g v0 ν ++ (wZ g z0 ζ ++ (wP g p0 (upd ψ_13 (Int32.toNatClampNeg (v4_13 + (1 : Int32))) (((ψ_13 (Int32.toNatClampNeg v4_13)) + r_5) + ((24 : Int32) * r_7)))))) H := hP
        have hD : va_D A (wV g v0 ν ++ (wZ g z0 ζ ++ (wP g p0 (upd ψ_13 (Int32.toNatClampNeg (v4_13 + (1 : Int32))) (((ψ_13 (Int32.toNatClampNeg v4_13)) + r_5) + ((24 : Int32) * r_7)))))) := hD
        refine lv_iinc (v := (v4_13 + 1)) (lv' := [(4, .int (v4_13 + 1)), (0, .ref v0), (1, .ref z0), (2, .int p2), (3, .ref p0)]) hx hb dL_walks_60 hl (k := 4) rfl rfl (by decide) rfl (fun ls hl => ?_)
        refine lv_goto (tgt := 13) hx hb dL_walks_63 (by decide) ?_
        exact ih13 (v4_13 + 1) (upd ψ_13 (Int32.toNatClampNeg (v4_13 + (1 : Int32))) (((ψ_13 (Int32.toNatClampNeg v4_13)) + r_5) + ((24 : Int32) * r_7))) _ _ ls hP hD hS (lv_sub hl [1, 2, 3, 4, 0] rfl) hf
  unfold fL_walks at hf
  refine lv_aload_n hx hb dL_walks_0 rfl (lv_at hl 3 rfl) ?_
  refine lv_iconst (v := (0 : Int32)) hx hb dL_walks_1 (by decide) ?_
  refine lv_aload_n hx hb dL_walks_2 rfl (lv_at hl 0 rfl) ?_
  refine lv_iconst (v := (4 : Int32)) hx hb dL_walks_3 (by decide) ?_
  refine lv_iload_n hx hb dL_walks_4 rfl (lv_at hl 2 rfl) ?_
  refine lv_imul hx hb dL_walks_5 ?_
  refine lv_iconst (v := (1 : Int32)) hx hb dL_walks_6 (by decide) ?_
  refine lv_iadd hx hb dL_walks_7 ?_
  obtain ⟨h_9, hf⟩ := ck hf
  refine va_iald hx hb hE.1 hP 0 0 rfl rfl (vin h_9) dL_walks_8 ?_
  refine va_iast hx hb hE.1 hP hD hS 2 0 rfl rfl (vin (by decide)) dL_walks_9 (fun H locs hP hD hS => ?_)
  have hP : va_P g.1 vwCl (wV g v0 ν ++ (wZ g z0 ζ ++ (wP g p0 (upd ψ (Int32.toNatClampNeg (0 : Int32)) (ν (Int32.toNatClampNeg (((4 : Int32) * p2) + (1 : Int32)))))))) H := hP
  have hD : va_D A (wV g v0 ν ++ (wZ g z0 ζ ++ (wP g p0 (upd ψ (Int32.toNatClampNeg (0 : Int32)) (ν (Int32.toNatClampNeg (((4 : Int32) * p2) + (1 : Int32)))))))) := hD
  refine lv_iconst (v := (0 : Int32)) hx hb dL_walks_10 (by decide) ?_
  refine lv_istore (lv' := [(4, .int (0 : Int32)), (0, .ref v0), (1, .ref z0), (2, .int p2), (3, .ref p0)]) hx hb dL_walks_11 hl (by decide) rfl (fun ls hl => ?_)
  exact hB13 FU (0 : Int32) (upd ψ (Int32.toNatClampNeg (0 : Int32)) (ν (Int32.toNatClampNeg (((4 : Int32) * p2) + (1 : Int32))))) _ _ ls hP hD hS (lv_sub hl [1, 2, 3, 4, 0] rfl) hf

def fL_closed (ν : (Nat → Int32)) (ψ : (Nat → Int32)) (p1 : Int32) : Option (Bool) := (if inR (((4 : Int32) * p1) + (2 : Int32)) 34 then (if (ν (Int32.toNatClampNeg (((4 : Int32) * p1) + (2 : Int32)))) ≤ (3 : Int32) then (some false) else (if inR (ν (Int32.toNatClampNeg (((4 : Int32) * p1) + (2 : Int32)))) 61 then (if (ψ (Int32.toNatClampNeg (ν (Int32.toNatClampNeg (((4 : Int32) * p1) + (2 : Int32)))))) = (ψ (Int32.toNatClampNeg (0 : Int32))) then (some true) else (some false)) else none)) else none)
abbrev rmL_closed : Room := { frames := 0, cells := 0, slots := 0, locals := 0 }
theorem hdL_closed : yL_closed.cls = RL ∧ yL_closed.cls ≠ "java/lang/invoke/MethodHandle" ∧ yL_closed.cls ≠ "java/lang/invoke/VarHandle" ∧ (parseMethodDescriptor yL_closed.desc).map (fun d => d.parameters.length) = some 3 := by decide +kernel
set_option maxHeartbeats 4000000 in
set_option maxRecDepth 100000 in
theorem cL_closed_ok (l : Launch) (g : Gg) (v0 p0 : Nat) (ν : (Nat → Int32)) (ψ : (Nat → Int32)) (p1 : Int32) {r : Bool} (hf : fL_closed ν ψ p1 = some r) : Met l yL_closed wsL_closed rmL_closed (va_Pc [.ref v0, .int p1, .ref p0] (PP g (wV g v0 ν ++ (wP g p0 ψ)))) (vp_Si (fun r' => r' = b2i r)) 0 0 (fun _ => False) := by
  refine Met.ofW (cc := cL_closed) (maxL := 4) (ret := (some .boolean)) (by decide) rfl ?_
  intro p e s m args below meth c s₁ B hml hv
  obtain ⟨rfl, hP, hE, hZ⟩ := hv
  have hx := B.exec
  have hb := B.bytes
  have hr := B.returns
  have hts := atoms_spec (ws := wsL_closed) B.pre
  have hown : s.vm.findClass RL = some m.cls := findClass_of_methodNamed B.named
  have hlocks := B.notSynchronized
  have hS : va_S (fun _ => False) s.heap s.heap [] := va_S.rf
  have hl := lv_entry ([.ref v0, .int p1, .ref p0]) (n := 4) (Nat.le_of_ble_eq_true rfl)
  rw [lg_entry_eq]
  generalize (lg_sl ([.ref v0, .int p1, .ref p0]) ++ List.replicate (4 - (lg_sl ([.ref v0, .int p1, .ref p0])).length) Slot.unset).toArray = ls at hl ⊢
  have hl : lv_has ls 4 [(0, .ref v0), (1, .int p1), (2, .ref p0)] := hl
  unfold fL_closed at hf
  refine lv_aload_n hx hb dL_closed_0 rfl (lv_at hl 0 rfl) ?_
  refine lv_iconst (v := (4 : Int32)) hx hb dL_closed_1 (by decide) ?_
  refine lv_iload_n hx hb dL_closed_2 rfl (lv_at hl 1 rfl) ?_
  refine lv_imul hx hb dL_closed_3 ?_
  refine lv_iconst (v := (2 : Int32)) hx hb dL_closed_4 (by decide) ?_
  refine lv_iadd hx hb dL_closed_5 ?_
  obtain ⟨h_1, hf⟩ := ck hf
  refine va_iald hx hb hE.1 hP 0 0 rfl rfl (vin h_1) dL_closed_6 ?_
  refine lv_istore_n (lv' := [(3, .int (ν (Int32.toNatClampNeg (((4 : Int32) * p1) + (2 : Int32))))), (0, .ref v0), (1, .int p1), (2, .ref p0)]) hx hb dL_closed_7 rfl hl (by decide) rfl (fun ls hl => ?_)
  refine lv_iload_n hx hb dL_closed_8 rfl (lv_at hl 0 rfl) ?_
  refine lv_iconst (v := (3 : Int32)) hx hb dL_closed_9 (by decide) ?_
  refine lv_icmp_le (tgt := 26) hx hb dL_closed_10 (by decide) (fun c_2 => ?_) (fun c_2 => ?_)
  · have hf := ip c_2 hf
    refine lv_iconst (v := (0 : Int32)) hx hb dL_closed_26 (by decide) ?_
    exact p_zret (v := false) hx hb hr hlocks (Option.some.inj hf) dL_closed_27
  · have hf := iq c_2 hf
    refine lv_aload_n hx hb dL_closed_13 rfl (lv_at hl 3 rfl) ?_
    refine lv_iload_n hx hb dL_closed_14 rfl (lv_at hl 0 rfl) ?_
    obtain ⟨h_3, hf⟩ := ck hf
    refine va_iald hx hb hE.1 hP 1 0 rfl rfl (vin h_3) dL_closed_15 ?_
    refine lv_aload_n hx hb dL_closed_16 rfl (lv_at hl 3 rfl) ?_
    refine lv_iconst (v := (0 : Int32)) hx hb dL_closed_17 (by decide) ?_
    refine va_iald hx hb hE.1 hP 1 0 rfl rfl (vin (by decide)) dL_closed_18 ?_
    refine lv_icmp_ne (tgt := 26) hx hb dL_closed_19 (by decide) (fun c_4 => ?_) (fun c_4 => ?_)
    · have hf := iq c_4 hf
      refine lv_iconst (v := (0 : Int32)) hx hb dL_closed_26 (by decide) ?_
      exact p_zret (v := false) hx hb hr hlocks (Option.some.inj hf) dL_closed_27
    · have hf := ip c_4 hf
      refine lv_iconst (v := (1 : Int32)) hx hb dL_closed_22 (by decide) ?_
      refine lv_goto (tgt := 27) hx hb dL_closed_23 (by decide) ?_
      exact p_zret (v := true) hx hb hr hlocks (Option.some.inj hf) dL_closed_27

def fL_owner_31 (cap : Nat) (ν : (Nat → Int32)) (ζ : (Nat → Int64)) (p2 : Int32) (v5_31 : Int32) (ψ_31 : (Nat → Int32)) (k11 : Int32 → Int32 → (Nat → Int32) → Nat → Option (Int32)) : Nat → Int32 → Int32 → Nat → Option (Int32)
  | 0, _, _, _ => none
  | n + 1, v4_31, v6_31, n_31 => (if inR (((4 : Int32) * v5_31) + (2 : Int32)) 34 then (if (ν (Int32.toNatClampNeg (((4 : Int32) * v5_31) + (2 : Int32)))) < v6_31 then k11 v4_31 (v5_31 + 1) ψ_31 n_31 else (if inR v6_31 61 then (if (ψ_31 (Int32.toNatClampNeg v6_31)) = p2 then fL_owner_31 cap ν ζ p2 v5_31 ψ_31 k11 n v5_31 (v6_31 + 1) n_31 else fL_owner_31 cap ν ζ p2 v5_31 ψ_31 k11 n v4_31 (v6_31 + 1) n_31) else none)) else none)
def fL_owner_11 (cap : Nat) (ν : (Nat → Int32)) (ζ : (Nat → Int64)) (p2 : Int32) : Nat → Int32 → Int32 → (Nat → Int32) → Nat → Option (Int32)
  | 0, _, _, _, _ => none
  | n + 1, v4_11, v5_11, ψ_11, n_11 => (if (ν (Int32.toNatClampNeg (32 : Int32))) ≤ v5_11 then (some v4_11) else ((fL_walks ν ζ ψ_11 v5_11).bind fun r_6 => fL_owner_31 cap ν ζ p2 v5_11 r_6 (fL_owner_11 cap ν ζ p2 n) FU v4_11 (0 : Int32) n_11))
def fL_owner (cap : Nat) (ν : (Nat → Int32)) (ζ : (Nat → Int64)) (p2 : Int32) : Option (Int32) := (if 0 + 1 ≤ cap then fL_owner_11 cap ν ζ p2 FU (-1 : Int32) (0 : Int32) (fun _ => (0 : Int32)) (0 + 1) else none)
abbrev rmL_owner (cap : Nat) : Room := { frames := 2, cells := 3 * cap, slots := 61 * cap, locals := 46 }
theorem hdL_owner : yL_owner.cls = RL ∧ yL_owner.cls ≠ "java/lang/invoke/MethodHandle" ∧ yL_owner.cls ≠ "java/lang/invoke/VarHandle" ∧ (parseMethodDescriptor yL_owner.desc).map (fun d => d.parameters.length) = some 3 := by decide +kernel
theorem naL_owner : (.arrayClass .int : Cond) ∈ wsL_owner := by decide +kernel
set_option maxHeartbeats 4000000 in
set_option maxRecDepth 100000 in
theorem cL_owner_ok (l : Launch) (hl0 : l.stackTraces = false) (g : Gg) (cap : Nat) (v0 z0 : Nat) (ν : (Nat → Int32)) (ζ : (Nat → Int64)) (p2 : Int32) (sz : Nat) {o : Int32} (hf : fL_owner cap ν ζ p2 = some o) : Met l yL_owner wsL_owner (rmL_owner cap) (va_Pc [.ref v0, .ref z0, .int p2] (PM g (wV g v0 ν ++ (wZ g z0 ζ)) sz)) (va_Qi (fun r' (_ : Unit) => r' = o) (fun _ t => PQ g (wV g v0 ν ++ (wZ g z0 ζ)) (va_A (wV g v0 ν ++ (wZ g z0 ζ)) sz) t) (va_A (wV g v0 ν ++ (wZ g z0 ζ)) sz)) (3 * cap) (61 * cap) (va_A (wV g v0 ν ++ (wZ g z0 ζ)) sz) := by
  refine Met.ofW (cc := cL_owner) (maxL := 7) (ret := (some .int)) (by decide) rfl ?_
  intro p e s m args below meth c s₁ B hml hv
  obtain ⟨rfl, rfl, hP, hD0, hE, hZ⟩ := hv
  have hx := B.exec
  have hb := B.bytes
  have hr := B.returns
  have hts := atoms_spec (ws := wsL_owner) B.pre
  have hown : s.vm.findClass RL = some m.cls := findClass_of_methodNamed B.named
  have hlocks := B.notSynchronized
  have hD := hD0.self (sz := s.heap.size)
  generalize hAe : (va_A (wV g v0 ν ++ (wZ g z0 ζ)) s.heap.size) = A at hD hZ ⊢
  have hA : ∀ q : Nat, s.heap.size ≤ q → A q := fun q h => by rw [← hAe]; exact Or.inr h
  have hS : va_S A s.heap s.heap [] := va_S.rf
  have hP : va_P g.1 vwCl (wV g v0 ν ++ (wZ g z0 ζ)) s.heap := hP
  have hl := lv_entry ([.ref v0, .ref z0, .int p2]) (n := 7) (Nat.le_of_ble_eq_true rfl)
  rw [lg_entry_eq]
  generalize (lg_sl ([.ref v0, .ref z0, .int p2]) ++ List.replicate (7 - (lg_sl ([.ref v0, .ref z0, .int p2])).length) Slot.unset).toArray = ls at hl ⊢
  refine W.cs (cells' := 3 * 0) (slots' := 61 * 0) rfl rfl ?_
  have hl : lv_has ls 7 [(0, .ref v0), (1, .ref z0), (2, .int p2)] := hl
  have hB11 : ∀ (p0 : Nat) (n11 : Nat) (v4_11 : Int32) (v5_11 : Int32) (ψ_11 : (Nat → Int32)) (n_11 : Nat) (H : Heap) (locs : List Loc) (hn : n_11 ≤ cap) (ls : Array Slot), va_P g.1 vwCl (wV g v0 ν ++ (wZ g z0 ζ ++ (wP g p0 ψ_11))) H → va_D A (wV g v0 ν ++ (wZ g z0 ζ ++ (wP g p0 ψ_11))) → va_S A s.heap H locs → lv_has ls 7 [(0, .ref v0), (1, .ref z0), (2, .int p2), (3, .ref p0), (4, .int v4_11), (5, .int v5_11)] → fL_owner_11 cap ν ζ p2 n11 v4_11 v5_11 ψ_11 n_11 = some o → W p l e (headSpec wsL_owner (rmL_owner cap)).room s m ([.ref v0, .ref z0, .int p2] : List Value).toArray below meth c H locs (3 * n_11) (61 * n_11) (MQ below (va_Qi (fun r' (_ : Unit) => r' = o) (fun _ t => PQ g (wV g v0 ν ++ (wZ g z0 ζ)) A t) A) ([.ref v0, .ref z0, .int p2] : List Value).toArray s (3 * cap) (61 * cap) A) (F0 m 11 ls []) := by
    intro p0  n11
    induction n11 with
    | zero => intro v4_11 v5_11 ψ_11 n_11 H locs hn ls hP hD hS hl hf; exact nomatch (show (none : Option (Int32)) = some _ from hf)
    | succ n11 ih11 =>
      have hB31 : ∀ (v5_31 : Int32) (ψ_31 : (Nat → Int32)) (n31 : Nat) (v4_31 : Int32) (v6_31 : Int32) (n_31 : Nat) (H : Heap) (locs : List Loc) (hn : n_31 ≤ cap) (ls : Array Slot), va_P g.1 vwCl (wV g v0 ν ++ (wZ g z0 ζ ++ (wP g p0 ψ_31))) H → va_D A (wV g v0 ν ++ (wZ g z0 ζ ++ (wP g p0 ψ_31))) → va_S A s.heap H locs → lv_has ls 7 [(0, .ref v0), (1, .ref z0), (2, .int p2), (3, .ref p0), (4, .int v4_31), (5, .int v5_31), (6, .int v6_31)] → fL_owner_31 cap ν ζ p2 v5_31 ψ_31 (fL_owner_11 cap ν ζ p2 n11) n31 v4_31 v6_31 n_31 = some o → W p l e (headSpec wsL_owner (rmL_owner cap)).room s m ([.ref v0, .ref z0, .int p2] : List Value).toArray below meth c H locs (3 * n_31) (61 * n_31) (MQ below (va_Qi (fun r' (_ : Unit) => r' = o) (fun _ t => PQ g (wV g v0 ν ++ (wZ g z0 ζ)) A t) A) ([.ref v0, .ref z0, .int p2] : List Value).toArray s (3 * cap) (61 * cap) A) (F0 m 31 ls []) := by
        intro v5_31 ψ_31 n31
        induction n31 with
        | zero => intro v4_31 v6_31 n_31 H locs hn ls hP hD hS hl hf; exact nomatch (show (none : Option (Int32)) = some _ from hf)
        | succ n31 ih31 =>
          intro v4_31 v6_31 n_31 H locs hn ls hP hD hS hl hf
          rw [fL_owner_31] at hf
          refine lv_iload hx hb dL_owner_31 (lv_at hl 6 rfl) ?_
          refine lv_aload_n hx hb dL_owner_33 rfl (lv_at hl 0 rfl) ?_
          refine lv_iconst (v := (4 : Int32)) hx hb dL_owner_34 (by decide) ?_
          refine lv_iload hx hb dL_owner_35 (lv_at hl 5 rfl) ?_
          refine lv_imul hx hb dL_owner_37 ?_
          refine lv_iconst (v := (2 : Int32)) hx hb dL_owner_38 (by decide) ?_
          refine lv_iadd hx hb dL_owner_39 ?_
          obtain ⟨h_1, hf⟩ := ck hf
          refine va_iald hx hb hE.1 hP 0 0 rfl rfl (vin h_1) dL_owner_40 ?_
          refine lv_icmp_gt (tgt := 67) hx hb dL_owner_41 (by decide) (fun c_2 => ?_) (fun c_2 => ?_)
          · have hf := ip c_2 hf
            refine lv_iinc (v := (v5_31 + 1)) (lv' := [(5, .int (v5_31 + 1)), (0, .ref v0), (1, .ref z0), (2, .int p2), (3, .ref p0), (4, .int v4_31), (6, .int v6_31)]) hx hb dL_owner_67 hl (k := 5) rfl rfl (by decide) rfl (fun ls hl => ?_)
            refine lv_goto (tgt := 11) hx hb dL_owner_70 (by decide) ?_
            exact ih11 v4_31 (v5_31 + 1) ψ_31 n_31 _ _ hn ls hP hD hS (lv_sub hl [1, 2, 3, 4, 5, 0] rfl) hf
          · have hf := iq c_2 hf
            refine lv_aload_n hx hb dL_owner_44 rfl (lv_at hl 3 rfl) ?_
            refine lv_iload hx hb dL_owner_45 (lv_at hl 6 rfl) ?_
            obtain ⟨h_3, hf⟩ := ck hf
            refine va_iald hx hb hE.1 hP 2 0 rfl rfl (vin h_3) dL_owner_47 ?_
            refine lv_iload_n hx hb dL_owner_48 rfl (lv_at hl 2 rfl) ?_
            refine lv_icmp_ne (tgt := 57) hx hb dL_owner_49 (by decide) (fun c_4 => ?_) (fun c_4 => ?_)
            · have hf := iq c_4 hf
              refine lv_iload hx hb dL_owner_57 (lv_at hl 4 rfl) ?_
              refine lv_istore (lv' := [(4, .int v4_31), (0, .ref v0), (1, .ref z0), (2, .int p2), (3, .ref p0), (5, .int v5_31), (6, .int v6_31)]) hx hb dL_owner_59 hl (by decide) rfl (fun ls hl => ?_)
              refine lv_iinc (v := (v6_31 + 1)) (lv' := [(6, .int (v6_31 + 1)), (4, .int v4_31), (0, .ref v0), (1, .ref z0), (2, .int p2), (3, .ref p0), (5, .int v5_31)]) hx hb dL_owner_61 hl (k := 6) rfl rfl (by decide) rfl (fun ls hl => ?_)
              refine lv_goto (tgt := 31) hx hb dL_owner_64 (by decide) ?_
              exact ih31 v4_31 (v6_31 + 1) n_31 _ _ hn ls hP hD hS (lv_sub hl [2, 3, 4, 5, 1, 6, 0] rfl) hf
            · have hf := ip c_4 hf
              refine lv_iload hx hb dL_owner_52 (lv_at hl 5 rfl) ?_
              refine lv_goto (tgt := 59) hx hb dL_owner_54 (by decide) ?_
              refine lv_istore (lv' := [(4, .int v5_31), (0, .ref v0), (1, .ref z0), (2, .int p2), (3, .ref p0), (5, .int v5_31), (6, .int v6_31)]) hx hb dL_owner_59 hl (by decide) rfl (fun ls hl => ?_)
              refine lv_iinc (v := (v6_31 + 1)) (lv' := [(6, .int (v6_31 + 1)), (4, .int v5_31), (0, .ref v0), (1, .ref z0), (2, .int p2), (3, .ref p0), (5, .int v5_31)]) hx hb dL_owner_61 hl (k := 6) rfl rfl (by decide) rfl (fun ls hl => ?_)
              refine lv_goto (tgt := 31) hx hb dL_owner_64 (by decide) ?_
              exact ih31 v5_31 (v6_31 + 1) n_31 _ _ hn ls hP hD hS (lv_sub hl [2, 3, 4, 5, 1, 6, 0] rfl) hf
      intro v4_11 v5_11 ψ_11 n_11 H locs hn ls hP hD hS hl hf
      rw [fL_owner_11] at hf
      refine lv_iload hx hb dL_owner_11 (lv_at hl 5 rfl) ?_
      refine lv_aload_n hx hb dL_owner_13 rfl (lv_at hl 0 rfl) ?_
      refine lv_bipush (v := (32 : Int32)) hx hb dL_owner_14 (by decide) ?_
      refine va_iald hx hb hE.1 hP 0 0 rfl rfl (vin (by decide)) dL_owner_16 ?_
      refine lv_icmp_ge (tgt := 73) hx hb dL_owner_17 (by decide) (fun c_5 => ?_) (fun c_5 => ?_)
      · have hf := ip c_5 hf
        refine lv_iload hx hb dL_owner_73 (lv_at hl 4 rfl) ?_
        have ho := Option.some.inj hf
        subst ho
        have hP := hP.sub (ws' := (wV g v0 ν ++ (wZ g z0 ζ))) [0, 1] rfl
        have hD := hD.sub (ws' := (wV g v0 ν ++ (wZ g z0 ζ))) [0, 1] (by decide) rfl
        refine W.widen (k := 3 * cap) (n := 61 * cap) (k3 hn) (k61 hn) ?_
        exact m_iret (v := v4_11) hx hb hr hlocks hP hD hS rfl dL_owner_75
      · have hf := iq c_5 hf
        refine lv_aload_n hx hb dL_owner_20 rfl (lv_at hl 0 rfl) ?_
        refine lv_aload_n hx hb dL_owner_21 rfl (lv_at hl 1 rfl) ?_
        refine lv_iload hx hb dL_owner_22 (lv_at hl 5 rfl) ?_
        refine lv_aload_n hx hb dL_owner_24 rfl (lv_at hl 3 rfl) ?_
        obtain ⟨r_6, e_6, hf⟩ := bo hf
        refine mcallSv (W0 := (wV g v0 ν ++ (wZ g z0 ζ ++ (wP g p0 ψ_11)))) (Wc := (wV g v0 ν ++ (wZ g z0 ζ ++ (wP g p0 ψ_11)))) (Wr := ([] : va_W)) (W1 := (wV g v0 ν ++ (wZ g z0 ζ ++ (wP g p0 r_6)))) (W2 := (wV g v0 ν ++ (wZ g z0 ζ ++ (wP g p0 r_6)))) (As := [.ref v0, .ref z0, .int v5_11, .ref p0]) (rest := []) [0, 1, 2] [] [0, 1, 2] ⟨hx, hb, hml, hown, hts⟩ hP hD hE hZ hS hA (cL_walks_ok l g  v0 z0 p0 ν ζ ψ_11 v5_11 _ e_6) (va_cwS 4 hts gL_owner_L_walks rfl rfl rfl hdL_walks.2 ⟨(Nat.le_of_ble_eq_true rfl), (Nat.le_of_ble_eq_true rfl)⟩) rfl rfl rfl (by decide) (by decide) (by decide) (by decide) rfl hl.1 rfl (Nat.le_of_ble_eq_true rfl) ⟨(k3 hn), (k61 hn)⟩ dL_owner_25 (fun H locs hP hD hS => ?_)
        refine W.cs (cells' := 3 * n_11) (slots' := 61 * n_11) (Nat.add_zero _) (Nat.add_zero _) ?_
        refine lv_iconst (v := (0 : Int32)) hx hb dL_owner_28 (by decide) ?_
        refine lv_istore (lv' := [(6, .int (0 : Int32)), (0, .ref v0), (1, .ref z0), (2, .int p2), (3, .ref p0), (4, .int v4_11), (5, .int v5_11)]) hx hb dL_owner_29 hl (by decide) rfl (fun ls hl => ?_)
        exact hB31 v5_11 r_6 FU v4_11 (0 : Int32) n_11 _ _ hn ls hP hD hS (lv_sub hl [1, 2, 3, 4, 5, 6, 0] rfl) hf
  unfold fL_owner at hf
  refine lv_bipush (v := (61 : Int32)) hx hb dL_owner_0 (by decide) ?_
  obtain ⟨h_7, hf⟩ := ck hf
  refine newaI (N' := 61) (W0 := (wV g v0 ν ++ (wZ g z0 ζ))) hx hb (hts _ naL_owner) hE hP hD hS hA (by decide) (by decide) (Nat.le_of_ble_eq_true rfl) (ka3 h_7) (ka61 h_7) dL_owner_2 (fun p0 H hP hD hS => ?_)
  have hP : va_P g.1 vwCl (wV g v0 ν ++ (wZ g z0 ζ ++ (wP g p0 (fun _ => (0 : Int32))))) H := hP
  have hD : va_D A (wV g v0 ν ++ (wZ g z0 ζ ++ (wP g p0 (fun _ => (0 : Int32))))) := hD
  refine W.widen (k := 3 * (0 + 1)) (n := 61 * (0 + 1)) (by omega) (by omega) ?_
  refine lv_astore_n (lv' := [(3, .ref p0), (0, .ref v0), (1, .ref z0), (2, .int p2)]) hx hb dL_owner_4 rfl hl (by decide) rfl (fun ls hl => ?_)
  refine lv_iconst (v := (-1 : Int32)) hx hb dL_owner_5 (by decide) ?_
  refine lv_istore (lv' := [(4, .int (-1 : Int32)), (3, .ref p0), (0, .ref v0), (1, .ref z0), (2, .int p2)]) hx hb dL_owner_6 hl (by decide) rfl (fun ls hl => ?_)
  refine lv_iconst (v := (0 : Int32)) hx hb dL_owner_8 (by decide) ?_
  refine lv_istore (lv' := [(5, .int (0 : Int32)), (4, .int (-1 : Int32)), (3, .ref p0), (0, .ref v0), (1, .ref z0), (2, .int p2)]) hx hb dL_owner_9 hl (by decide) rfl (fun ls hl => ?_)
  exact hB11 p0 FU (-1 : Int32) (0 : Int32) (fun _ => (0 : Int32)) (0 + 1) _ _ h_7 ls hP hD hS (lv_sub hl [3, 4, 5, 2, 1, 0] rfl) hf

def fL_why_161 (cap : Nat) (ν : (Nat → Int32)) (ζ : (Nat → Int64)) (p2 p3 : Int32) (v6_140 : Int32) (v8_140 : Int32) (v10_161 : Int32) (ψ_161 : (Nat → Int32)) (k140 : Bool → Int32 → (Nat → Int32) → Nat → Option (Int32)) : Nat → Bool → Int32 → Nat → Option (Int32)
  | 0, _, _, _ => none
  | n + 1, v9_161, v11_161, n_161 => (if inR (((4 : Int32) * v10_161) + (2 : Int32)) 34 then (if (ν (Int32.toNatClampNeg (((4 : Int32) * v10_161) + (2 : Int32)))) ≤ v11_161 then k140 v9_161 (v10_161 + 1) ψ_161 n_161 else (if v9_161 = true then fL_why_161 cap ν ζ p2 p3 v6_140 v8_140 v10_161 ψ_161 k140 n true (v11_161 + 1) n_161 else (if (irm p3 (2 : Int32)) = (1 : Int32) then ((fL_dir ζ v10_161 v11_161).bind fun r_5 => (if (irm r_5 (2 : Int32)) = (1 : Int32) then (if inR v11_161 61 then (if inR (v11_161 + (1 : Int32)) 61 then (if ((ψ_161 (Int32.toNatClampNeg v11_161)) + (ψ_161 (Int32.toNatClampNeg (v11_161 + (1 : Int32))))) = (v6_140 + v8_140) then fL_why_161 cap ν ζ p2 p3 v6_140 v8_140 v10_161 ψ_161 k140 n true (v11_161 + 1) n_161 else fL_why_161 cap ν ζ p2 p3 v6_140 v8_140 v10_161 ψ_161 k140 n false (v11_161 + 1) n_161) else none) else none) else fL_why_161 cap ν ζ p2 p3 v6_140 v8_140 v10_161 ψ_161 k140 n false (v11_161 + 1) n_161)) else fL_why_161 cap ν ζ p2 p3 v6_140 v8_140 v10_161 ψ_161 k140 n false (v11_161 + 1) n_161))) else none)
def fL_why_140 (cap : Nat) (ν : (Nat → Int32)) (ζ : (Nat → Int64)) (p2 p3 : Int32) (v6_140 : Int32) (v8_140 : Int32) : Nat → Bool → Int32 → (Nat → Int32) → Nat → Option (Int32)
  | 0, _, _, _, _ => none
  | n + 1, v9_140, v10_140, ψ_140, n_140 => (if (ν (Int32.toNatClampNeg (32 : Int32))) ≤ v10_140 then (if v9_140 = true then (some (5 : Int32)) else (some (0 : Int32))) else ((fL_walks ν ζ ψ_140 v10_140).bind fun r_12 => fL_why_161 cap ν ζ p2 p3 v6_140 v8_140 v10_140 r_12 (fL_why_140 cap ν ζ p2 p3 v6_140 v8_140 n) FU v9_140 (0 : Int32) n_140))
def fL_why (cap : Nat) (ν : (Nat → Int32)) (ζ : (Nat → Int64)) (p2 p3 : Int32) : Option (Int32) := (if 0 + 1 ≤ cap then ((fL_walks ν ζ (fun _ => (0 : Int32)) p2).bind fun r_14 => (if inR (((4 : Int32) * p2) + (2 : Int32)) 34 then ((fL_closed ν r_14 p2).bind fun r_16 => (if r_16 = true then (some (1 : Int32)) else (if (ν (Int32.toNatClampNeg (((4 : Int32) * p2) + (2 : Int32)))) = (60 : Int32) then (some (2 : Int32)) else (if inR (ν (Int32.toNatClampNeg (((4 : Int32) * p2) + (2 : Int32)))) 61 then ((fL_right p3).bind fun r_20 => ((fL_right p3).bind fun r_21 => ((fL_below p3).bind fun r_22 => (if ((irm (r_14 (Int32.toNatClampNeg (ν (Int32.toNatClampNeg (((4 : Int32) * p2) + (2 : Int32)))))) (24 : Int32)) + r_20) < 0 then (some (3 : Int32)) else (if (23 : Int32) < ((irm (r_14 (Int32.toNatClampNeg (ν (Int32.toNatClampNeg (((4 : Int32) * p2) + (2 : Int32)))))) (24 : Int32)) + r_20) then (some (3 : Int32)) else (if (((r_14 (Int32.toNatClampNeg (ν (Int32.toNatClampNeg (((4 : Int32) * p2) + (2 : Int32)))))) + r_21) + ((24 : Int32) * r_22)) < 0 then (some (3 : Int32)) else (if (((r_14 (Int32.toNatClampNeg (ν (Int32.toNatClampNeg (((4 : Int32) * p2) + (2 : Int32)))))) + r_21) + ((24 : Int32) * r_22)) ≤ (383 : Int32) then (if (0 + 1) + 1 ≤ cap then ((fL_owner 1 ν ζ (((r_14 (Int32.toNatClampNeg (ν (Int32.toNatClampNeg (((4 : Int32) * p2) + (2 : Int32)))))) + r_21) + ((24 : Int32) * r_22))).bind fun r_27 => (if r_27 < 0 then fL_why_140 cap ν ζ p2 p3 (r_14 (Int32.toNatClampNeg (ν (Int32.toNatClampNeg (((4 : Int32) * p2) + (2 : Int32)))))) (((r_14 (Int32.toNatClampNeg (ν (Int32.toNatClampNeg (((4 : Int32) * p2) + (2 : Int32)))))) + r_21) + ((24 : Int32) * r_22)) FU false (0 : Int32) r_14 ((0 + 1) + 1) else (if (((r_14 (Int32.toNatClampNeg (ν (Int32.toNatClampNeg (((4 : Int32) * p2) + (2 : Int32)))))) + r_21) + ((24 : Int32) * r_22)) = (r_14 (Int32.toNatClampNeg (0 : Int32))) then (if (3 : Int32) ≤ (ν (Int32.toNatClampNeg (((4 : Int32) * p2) + (2 : Int32)))) then fL_why_140 cap ν ζ p2 p3 (r_14 (Int32.toNatClampNeg (ν (Int32.toNatClampNeg (((4 : Int32) * p2) + (2 : Int32)))))) (((r_14 (Int32.toNatClampNeg (ν (Int32.toNatClampNeg (((4 : Int32) * p2) + (2 : Int32)))))) + r_21) + ((24 : Int32) * r_22)) FU false (0 : Int32) r_14 ((0 + 1) + 1) else (some (4 : Int32))) else (some (4 : Int32))))) else none) else (some (3 : Int32))))))))) else none)))) else none)) else none)
abbrev rmL_why (cap : Nat) : Room := { frames := 3, cells := 3 * cap, slots := 61 * cap, locals := 72 }
theorem hdL_why : yL_why.cls = RL ∧ yL_why.cls ≠ "java/lang/invoke/MethodHandle" ∧ yL_why.cls ≠ "java/lang/invoke/VarHandle" ∧ (parseMethodDescriptor yL_why.desc).map (fun d => d.parameters.length) = some 4 := by decide +kernel
theorem naL_why : (.arrayClass .int : Cond) ∈ wsL_why := by decide +kernel
set_option maxHeartbeats 4000000 in
set_option maxRecDepth 100000 in
theorem cL_why_ok (l : Launch) (hl0 : l.stackTraces = false) (g : Gg) (cap : Nat) (v0 z0 : Nat) (ν : (Nat → Int32)) (ζ : (Nat → Int64)) (p2 p3 : Int32) (sz : Nat) {o : Int32} (hf : fL_why cap ν ζ p2 p3 = some o) : Met l yL_why wsL_why (rmL_why cap) (va_Pc [.ref v0, .ref z0, .int p2, .int p3] (PM g (wV g v0 ν ++ (wZ g z0 ζ)) sz)) (va_Qi (fun r' (_ : Unit) => r' = o) (fun _ t => PQ g (wV g v0 ν ++ (wZ g z0 ζ)) (va_A (wV g v0 ν ++ (wZ g z0 ζ)) sz) t) (va_A (wV g v0 ν ++ (wZ g z0 ζ)) sz)) (3 * cap) (61 * cap) (va_A (wV g v0 ν ++ (wZ g z0 ζ)) sz) := by
  refine Met.ofW (cc := cL_why) (maxL := 12) (ret := (some .int)) (by decide) rfl ?_
  intro p e s m args below meth c s₁ B hml hv
  obtain ⟨rfl, rfl, hP, hD0, hE, hZ⟩ := hv
  have hx := B.exec
  have hb := B.bytes
  have hr := B.returns
  have hts := atoms_spec (ws := wsL_why) B.pre
  have hown : s.vm.findClass RL = some m.cls := findClass_of_methodNamed B.named
  have hlocks := B.notSynchronized
  have hD := hD0.self (sz := s.heap.size)
  generalize hAe : (va_A (wV g v0 ν ++ (wZ g z0 ζ)) s.heap.size) = A at hD hZ ⊢
  have hA : ∀ q : Nat, s.heap.size ≤ q → A q := fun q h => by rw [← hAe]; exact Or.inr h
  have hS : va_S A s.heap s.heap [] := va_S.rf
  have hP : va_P g.1 vwCl (wV g v0 ν ++ (wZ g z0 ζ)) s.heap := hP
  have hl := lv_entry ([.ref v0, .ref z0, .int p2, .int p3]) (n := 12) (Nat.le_of_ble_eq_true rfl)
  rw [lg_entry_eq]
  generalize (lg_sl ([.ref v0, .ref z0, .int p2, .int p3]) ++ List.replicate (12 - (lg_sl ([.ref v0, .ref z0, .int p2, .int p3])).length) Slot.unset).toArray = ls at hl ⊢
  refine W.cs (cells' := 3 * 0) (slots' := 61 * 0) rfl rfl ?_
  have hl : lv_has ls 12 [(0, .ref v0), (1, .ref z0), (2, .int p2), (3, .int p3)] := hl
  have hB140 : ∀ (p0 : Nat) (v6_140 : Int32) (v8_140 : Int32) (n140 : Nat) (v9_140 : Bool) (v10_140 : Int32) (ψ_140 : (Nat → Int32)) (n_140 : Nat) (H : Heap) (locs : List Loc) (hn : n_140 ≤ cap) (ls : Array Slot), va_P g.1 vwCl (wV g v0 ν ++ (wZ g z0 ζ ++ (wP g p0 ψ_140))) H → va_D A (wV g v0 ν ++ (wZ g z0 ζ ++ (wP g p0 ψ_140))) → va_S A s.heap H locs → lv_has ls 12 [(0, .ref v0), (1, .ref z0), (3, .int p3), (4, .ref p0), (6, .int v6_140), (8, .int v8_140), (9, .int (b2i v9_140)), (10, .int v10_140)] → fL_why_140 cap ν ζ p2 p3 v6_140 v8_140 n140 v9_140 v10_140 ψ_140 n_140 = some o → W p l e (headSpec wsL_why (rmL_why cap)).room s m ([.ref v0, .ref z0, .int p2, .int p3] : List Value).toArray below meth c H locs (3 * n_140) (61 * n_140) (MQ below (va_Qi (fun r' (_ : Unit) => r' = o) (fun _ t => PQ g (wV g v0 ν ++ (wZ g z0 ζ)) A t) A) ([.ref v0, .ref z0, .int p2, .int p3] : List Value).toArray s (3 * cap) (61 * cap) A) (F0 m 140 ls []) := by
    intro p0 v6_140 v8_140 n140
    induction n140 with
    | zero => intro v9_140 v10_140 ψ_140 n_140 H locs hn ls hP hD hS hl hf; exact nomatch (show (none : Option (Int32)) = some _ from hf)
    | succ n140 ih140 =>
      have hB161 : ∀ (v10_161 : Int32) (ψ_161 : (Nat → Int32)) (n161 : Nat) (v9_161 : Bool) (v11_161 : Int32) (n_161 : Nat) (H : Heap) (locs : List Loc) (hn : n_161 ≤ cap) (ls : Array Slot), va_P g.1 vwCl (wV g v0 ν ++ (wZ g z0 ζ ++ (wP g p0 ψ_161))) H → va_D A (wV g v0 ν ++ (wZ g z0 ζ ++ (wP g p0 ψ_161))) → va_S A s.heap H locs → lv_has ls 12 [(0, .ref v0), (1, .ref z0), (3, .int p3), (4, .ref p0), (6, .int v6_140), (8, .int v8_140), (9, .int (b2i v9_161)), (10, .int v10_161), (11, .int v11_161)] → fL_why_161 cap ν ζ p2 p3 v6_140 v8_140 v10_161 ψ_161 (fL_why_140 cap ν ζ p2 p3 v6_140 v8_140 n140) n161 v9_161 v11_161 n_161 = some o → W p l e (headSpec wsL_why (rmL_why cap)).room s m ([.ref v0, .ref z0, .int p2, .int p3] : List Value).toArray below meth c H locs (3 * n_161) (61 * n_161) (MQ below (va_Qi (fun r' (_ : Unit) => r' = o) (fun _ t => PQ g (wV g v0 ν ++ (wZ g z0 ζ)) A t) A) ([.ref v0, .ref z0, .int p2, .int p3] : List Value).toArray s (3 * cap) (61 * cap) A) (F0 m 161 ls []) := by
        intro v10_161 ψ_161 n161
        induction n161 with
        | zero => intro v9_161 v11_161 n_161 H locs hn ls hP hD hS hl hf; exact nomatch (show (none : Option (Int32)) = some _ from hf)
        | succ n161 ih161 =>
          intro v9_161 v11_161 n_161 H locs hn ls hP hD hS hl hf
          rw [fL_why_161] at hf
          refine lv_iload hx hb dL_why_161 (lv_at hl 8 rfl) ?_
          refine lv_aload_n hx hb dL_why_163 rfl (lv_at hl 0 rfl) ?_
          refine lv_iconst (v := (4 : Int32)) hx hb dL_why_164 (by decide) ?_
          refine lv_iload hx hb dL_why_165 (lv_at hl 7 rfl) ?_
          refine lv_imul hx hb dL_why_167 ?_
          refine lv_iconst (v := (2 : Int32)) hx hb dL_why_168 (by decide) ?_
          refine lv_iadd hx hb dL_why_169 ?_
          obtain ⟨h_1, hf⟩ := ck hf
          refine va_iald hx hb hE.1 hP 0 0 rfl rfl (vin h_1) dL_why_170 ?_
          refine lv_icmp_ge (tgt := 234) hx hb dL_why_171 (by decide) (fun c_2 => ?_) (fun c_2 => ?_)
          · have hf := ip c_2 hf
            refine lv_iinc (v := (v10_161 + 1)) (lv' := [(10, .int (v10_161 + 1)), (0, .ref v0), (1, .ref z0), (3, .int p3), (4, .ref p0), (6, .int v6_140), (8, .int v8_140), (9, .int (b2i v9_161)), (11, .int v11_161)]) hx hb dL_why_234 hl (k := 7) rfl rfl (by decide) rfl (fun ls hl => ?_)
            refine lv_goto (tgt := 140) hx hb dL_why_237 (by decide) ?_
            exact ih140 v9_161 (v10_161 + 1) ψ_161 n_161 _ _ hn ls hP hD hS (lv_sub hl [1, 2, 3, 4, 5, 6, 7, 0] rfl) hf
          · have hf := iq c_2 hf
            refine lv_iload hx hb dL_why_174 (lv_at hl 6 rfl) ?_
            refine lv_bne (tgt := 221) hx hb dL_why_176 (by decide) (fun c_3 => ?_) (fun c_3 => ?_)
            · have hf := ip c_3 hf
              refine lv_iconst (v := (1 : Int32)) hx hb dL_why_221 (by decide) ?_
              refine lv_goto (tgt := 226) hx hb dL_why_222 (by decide) ?_
              refine lv_istore (lv' := [(9, .int (1 : Int32)), (0, .ref v0), (1, .ref z0), (3, .int p3), (4, .ref p0), (6, .int v6_140), (8, .int v8_140), (10, .int v10_161), (11, .int v11_161)]) hx hb dL_why_226 hl (by decide) rfl (fun ls hl => ?_)
              refine lv_iinc (v := (v11_161 + 1)) (lv' := [(11, .int (v11_161 + 1)), (9, .int (1 : Int32)), (0, .ref v0), (1, .ref z0), (3, .int p3), (4, .ref p0), (6, .int v6_140), (8, .int v8_140), (10, .int v10_161)]) hx hb dL_why_228 hl (k := 8) rfl rfl (by decide) rfl (fun ls hl => ?_)
              refine lv_goto (tgt := 161) hx hb dL_why_231 (by decide) ?_
              exact ih161 true (v11_161 + 1) n_161 _ _ hn ls hP hD hS (lv_sub hl [2, 3, 4, 5, 6, 7, 1, 8, 0] rfl) hf
            · have hf := iq c_3 hf
              refine lv_iload_n hx hb dL_why_179 rfl (lv_at hl 2 rfl) ?_
              refine lv_iconst (v := (2 : Int32)) hx hb dL_why_180 (by decide) ?_
              refine lv_irm hx hb dL_why_181 (by decide) ?_
              refine lv_iconst (v := (1 : Int32)) hx hb dL_why_182 (by decide) ?_
              refine lv_icmp_ne (tgt := 225) hx hb dL_why_183 (by decide) (fun c_4 => ?_) (fun c_4 => ?_)
              · have hf := iq c_4 hf
                refine lv_iconst (v := (0 : Int32)) hx hb dL_why_225 (by decide) ?_
                refine lv_istore (lv' := [(9, .int (0 : Int32)), (0, .ref v0), (1, .ref z0), (3, .int p3), (4, .ref p0), (6, .int v6_140), (8, .int v8_140), (10, .int v10_161), (11, .int v11_161)]) hx hb dL_why_226 hl (by decide) rfl (fun ls hl => ?_)
                refine lv_iinc (v := (v11_161 + 1)) (lv' := [(11, .int (v11_161 + 1)), (9, .int (0 : Int32)), (0, .ref v0), (1, .ref z0), (3, .int p3), (4, .ref p0), (6, .int v6_140), (8, .int v8_140), (10, .int v10_161)]) hx hb dL_why_228 hl (k := 8) rfl rfl (by decide) rfl (fun ls hl => ?_)
                refine lv_goto (tgt := 161) hx hb dL_why_231 (by decide) ?_
                exact ih161 false (v11_161 + 1) n_161 _ _ hn ls hP hD hS (lv_sub hl [2, 3, 4, 5, 6, 7, 1, 8, 0] rfl) hf
              · have hf := ip c_4 hf
                refine lv_aload_n hx hb dL_why_186 rfl (lv_at hl 1 rfl) ?_
                refine lv_iload hx hb dL_why_187 (lv_at hl 7 rfl) ?_
                refine lv_iload hx hb dL_why_189 (lv_at hl 8 rfl) ?_
                obtain ⟨r_5, e_5, hf⟩ := bo hf
                refine pcallS (W0 := (wV g v0 ν ++ (wZ g z0 ζ ++ (wP g p0 ψ_161)))) (As := [.ref z0, .int v10_161, .int v11_161]) (rest := []) [1] ⟨hx, hb, hml, hown, hts⟩ hP hE hZ hS (cL_dir_ok l g z0 ζ v10_161 v11_161 e_5) (va_cwS 3 hts gL_why_L_dir rfl rfl rfl hdL_dir.2 ⟨(Nat.le_of_ble_eq_true rfl), (Nat.le_of_ble_eq_true rfl)⟩) rfl rfl hl.1 rfl (Nat.le_of_ble_eq_true rfl) ⟨(k3 hn), (k61 hn)⟩ dL_why_191 ?_
                refine lv_iconst (v := (2 : Int32)) hx hb dL_why_194 (by decide) ?_
                refine lv_irm hx hb dL_why_195 (by decide) ?_
                refine lv_iconst (v := (1 : Int32)) hx hb dL_why_196 (by decide) ?_
                refine lv_icmp_ne (tgt := 225) hx hb dL_why_197 (by decide) (fun c_6 => ?_) (fun c_6 => ?_)
                · have hf := iq c_6 hf
                  refine lv_iconst (v := (0 : Int32)) hx hb dL_why_225 (by decide) ?_
                  refine lv_istore (lv' := [(9, .int (0 : Int32)), (0, .ref v0), (1, .ref z0), (3, .int p3), (4, .ref p0), (6, .int v6_140), (8, .int v8_140), (10, .int v10_161), (11, .int v11_161)]) hx hb dL_why_226 hl (by decide) rfl (fun ls hl => ?_)
                  refine lv_iinc (v := (v11_161 + 1)) (lv' := [(11, .int (v11_161 + 1)), (9, .int (0 : Int32)), (0, .ref v0), (1, .ref z0), (3, .int p3), (4, .ref p0), (6, .int v6_140), (8, .int v8_140), (10, .int v10_161)]) hx hb dL_why_228 hl (k := 8) rfl rfl (by decide) rfl (fun ls hl => ?_)
                  refine lv_goto (tgt := 161) hx hb dL_why_231 (by decide) ?_
                  exact ih161 false (v11_161 + 1) n_161 _ _ hn ls hP hD hS (lv_sub hl [2, 3, 4, 5, 6, 7, 1, 8, 0] rfl) hf
                · have hf := ip c_6 hf
                  refine lv_aload hx hb dL_why_200 (lv_at hl 3 rfl) ?_
                  refine lv_iload hx hb dL_why_202 (lv_at hl 8 rfl) ?_
                  obtain ⟨h_7, hf⟩ := ck hf
                  refine va_iald hx hb hE.1 hP 2 0 rfl rfl (vin h_7) dL_why_204 ?_
                  refine lv_aload hx hb dL_why_205 (lv_at hl 3 rfl) ?_
                  refine lv_iload hx hb dL_why_207 (lv_at hl 8 rfl) ?_
                  refine lv_iconst (v := (1 : Int32)) hx hb dL_why_209 (by decide) ?_
                  refine lv_iadd hx hb dL_why_210 ?_
                  obtain ⟨h_8, hf⟩ := ck hf
                  refine va_iald hx hb hE.1 hP 2 0 rfl rfl (vin h_8) dL_why_211 ?_
                  refine lv_iadd hx hb dL_why_212 ?_
                  refine lv_iload hx hb dL_why_213 (lv_at hl 4 rfl) ?_
                  refine lv_iload hx hb dL_why_215 (lv_at hl 5 rfl) ?_
                  refine lv_iadd hx hb dL_why_217 ?_
                  refine lv_icmp_ne (tgt := 225) hx hb dL_why_218 (by decide) (fun c_9 => ?_) (fun c_9 => ?_)
                  · have hf := iq c_9 hf
                    refine lv_iconst (v := (0 : Int32)) hx hb dL_why_225 (by decide) ?_
                    refine lv_istore (lv' := [(9, .int (0 : Int32)), (0, .ref v0), (1, .ref z0), (3, .int p3), (4, .ref p0), (6, .int v6_140), (8, .int v8_140), (10, .int v10_161), (11, .int v11_161)]) hx hb dL_why_226 hl (by decide) rfl (fun ls hl => ?_)
                    refine lv_iinc (v := (v11_161 + 1)) (lv' := [(11, .int (v11_161 + 1)), (9, .int (0 : Int32)), (0, .ref v0), (1, .ref z0), (3, .int p3), (4, .ref p0), (6, .int v6_140), (8, .int v8_140), (10, .int v10_161)]) hx hb dL_why_228 hl (k := 8) rfl rfl (by decide) rfl (fun ls hl => ?_)
                    refine lv_goto (tgt := 161) hx hb dL_why_231 (by decide) ?_
                    exact ih161 false (v11_161 + 1) n_161 _ _ hn ls hP hD hS (lv_sub hl [2, 3, 4, 5, 6, 7, 1, 8, 0] rfl) hf
                  · have hf := ip c_9 hf
                    refine lv_iconst (v := (1 : Int32)) hx hb dL_why_221 (by decide) ?_
                    refine lv_goto (tgt := 226) hx hb dL_why_222 (by decide) ?_
                    refine lv_istore (lv' := [(9, .int (1 : Int32)), (0, .ref v0), (1, .ref z0), (3, .int p3), (4, .ref p0), (6, .int v6_140), (8, .int v8_140), (10, .int v10_161), (11, .int v11_161)]) hx hb dL_why_226 hl (by decide) rfl (fun ls hl => ?_)
                    refine lv_iinc (v := (v11_161 + 1)) (lv' := [(11, .int (v11_161 + 1)), (9, .int (1 : Int32)), (0, .ref v0), (1, .ref z0), (3, .int p3), (4, .ref p0), (6, .int v6_140), (8, .int v8_140), (10, .int v10_161)]) hx hb dL_why_228 hl (k := 8) rfl rfl (by decide) rfl (fun ls hl => ?_)
                    refine lv_goto (tgt := 161) hx hb dL_why_231 (by decide) ?_
                    exact ih161 true (v11_161 + 1) n_161 _ _ hn ls hP hD hS (lv_sub hl [2, 3, 4, 5, 6, 7, 1, 8, 0] rfl) hf
      intro v9_140 v10_140 ψ_140 n_140 H locs hn ls hP hD hS hl hf
      rw [fL_why_140] at hf
      refine lv_iload hx hb dL_why_140 (lv_at hl 7 rfl) ?_
      refine lv_aload_n hx hb dL_why_142 rfl (lv_at hl 0 rfl) ?_
      refine lv_bipush (v := (32 : Int32)) hx hb dL_why_143 (by decide) ?_
      refine va_iald hx hb hE.1 hP 0 0 rfl rfl (vin (by decide)) dL_why_145 ?_
      refine lv_icmp_ge (tgt := 240) hx hb dL_why_146 (by decide) (fun c_10 => ?_) (fun c_10 => ?_)
      · have hf := ip c_10 hf
        refine lv_iload hx hb dL_why_240 (lv_at hl 6 rfl) ?_
        refine lv_beq (tgt := 249) hx hb dL_why_242 (by decide) (fun c_11 => ?_) (fun c_11 => ?_)
        · have hf := iq c_11 hf
          refine lv_iconst (v := (0 : Int32)) hx hb dL_why_249 (by decide) ?_
          have ho := Option.some.inj hf
          subst ho
          have hP := hP.sub (ws' := (wV g v0 ν ++ (wZ g z0 ζ))) [0, 1] rfl
          have hD := hD.sub (ws' := (wV g v0 ν ++ (wZ g z0 ζ))) [0, 1] (by decide) rfl
          refine W.widen (k := 3 * cap) (n := 61 * cap) (k3 hn) (k61 hn) ?_
          exact m_iret (v := (0 : Int32)) hx hb hr hlocks hP hD hS rfl dL_why_250
        · have hf := ip c_11 hf
          refine lv_iconst (v := (5 : Int32)) hx hb dL_why_245 (by decide) ?_
          refine lv_goto (tgt := 250) hx hb dL_why_246 (by decide) ?_
          have ho := Option.some.inj hf
          subst ho
          have hP := hP.sub (ws' := (wV g v0 ν ++ (wZ g z0 ζ))) [0, 1] rfl
          have hD := hD.sub (ws' := (wV g v0 ν ++ (wZ g z0 ζ))) [0, 1] (by decide) rfl
          refine W.widen (k := 3 * cap) (n := 61 * cap) (k3 hn) (k61 hn) ?_
          exact m_iret (v := (5 : Int32)) hx hb hr hlocks hP hD hS rfl dL_why_250
      · have hf := iq c_10 hf
        refine lv_aload_n hx hb dL_why_149 rfl (lv_at hl 0 rfl) ?_
        refine lv_aload_n hx hb dL_why_150 rfl (lv_at hl 1 rfl) ?_
        refine lv_iload hx hb dL_why_151 (lv_at hl 7 rfl) ?_
        refine lv_aload hx hb dL_why_153 (lv_at hl 3 rfl) ?_
        obtain ⟨r_12, e_12, hf⟩ := bo hf
        refine mcallSv (W0 := (wV g v0 ν ++ (wZ g z0 ζ ++ (wP g p0 ψ_140)))) (Wc := (wV g v0 ν ++ (wZ g z0 ζ ++ (wP g p0 ψ_140)))) (Wr := ([] : va_W)) (W1 := (wV g v0 ν ++ (wZ g z0 ζ ++ (wP g p0 r_12)))) (W2 := (wV g v0 ν ++ (wZ g z0 ζ ++ (wP g p0 r_12)))) (As := [.ref v0, .ref z0, .int v10_140, .ref p0]) (rest := []) [0, 1, 2] [] [0, 1, 2] ⟨hx, hb, hml, hown, hts⟩ hP hD hE hZ hS hA (cL_walks_ok l g  v0 z0 p0 ν ζ ψ_140 v10_140 _ e_12) (va_cwS 4 hts gL_why_L_walks rfl rfl rfl hdL_walks.2 ⟨(Nat.le_of_ble_eq_true rfl), (Nat.le_of_ble_eq_true rfl)⟩) rfl rfl rfl (by decide) (by decide) (by decide) (by decide) rfl hl.1 rfl (Nat.le_of_ble_eq_true rfl) ⟨(k3 hn), (k61 hn)⟩ dL_why_155 (fun H locs hP hD hS => ?_)
        refine W.cs (cells' := 3 * n_140) (slots' := 61 * n_140) (Nat.add_zero _) (Nat.add_zero _) ?_
        refine lv_iconst (v := (0 : Int32)) hx hb dL_why_158 (by decide) ?_
        refine lv_istore (lv' := [(11, .int (0 : Int32)), (0, .ref v0), (1, .ref z0), (3, .int p3), (4, .ref p0), (6, .int v6_140), (8, .int v8_140), (9, .int (b2i v9_140)), (10, .int v10_140)]) hx hb dL_why_159 hl (by decide) rfl (fun ls hl => ?_)
        exact hB161 v10_140 r_12 FU v9_140 (0 : Int32) n_140 _ _ hn ls hP hD hS (lv_sub hl [1, 2, 3, 4, 5, 6, 7, 8, 0] rfl) hf
  unfold fL_why at hf
  refine lv_bipush (v := (61 : Int32)) hx hb dL_why_0 (by decide) ?_
  obtain ⟨h_13, hf⟩ := ck hf
  refine newaI (N' := 61) (W0 := (wV g v0 ν ++ (wZ g z0 ζ))) hx hb (hts _ naL_why) hE hP hD hS hA (by decide) (by decide) (Nat.le_of_ble_eq_true rfl) (ka3 h_13) (ka61 h_13) dL_why_2 (fun p0 H hP hD hS => ?_)
  have hP : va_P g.1 vwCl (wV g v0 ν ++ (wZ g z0 ζ ++ (wP g p0 (fun _ => (0 : Int32))))) H := hP
  have hD : va_D A (wV g v0 ν ++ (wZ g z0 ζ ++ (wP g p0 (fun _ => (0 : Int32))))) := hD
  refine W.widen (k := 3 * (0 + 1)) (n := 61 * (0 + 1)) (by omega) (by omega) ?_
  refine lv_astore (lv' := [(4, .ref p0), (0, .ref v0), (1, .ref z0), (2, .int p2), (3, .int p3)]) hx hb dL_why_4 hl (by decide) rfl (fun ls hl => ?_)
  refine lv_aload_n hx hb dL_why_6 rfl (lv_at hl 1 rfl) ?_
  refine lv_aload_n hx hb dL_why_7 rfl (lv_at hl 2 rfl) ?_
  refine lv_iload_n hx hb dL_why_8 rfl (lv_at hl 3 rfl) ?_
  refine lv_aload hx hb dL_why_9 (lv_at hl 0 rfl) ?_
  obtain ⟨r_14, e_14, hf⟩ := bo hf
  refine mcallSv (W0 := (wV g v0 ν ++ (wZ g z0 ζ ++ (wP g p0 (fun _ => (0 : Int32)))))) (Wc := (wV g v0 ν ++ (wZ g z0 ζ ++ (wP g p0 (fun _ => (0 : Int32)))))) (Wr := ([] : va_W)) (W1 := (wV g v0 ν ++ (wZ g z0 ζ ++ (wP g p0 r_14)))) (W2 := (wV g v0 ν ++ (wZ g z0 ζ ++ (wP g p0 r_14)))) (As := [.ref v0, .ref z0, .int p2, .ref p0]) (rest := []) [0, 1, 2] [] [0, 1, 2] ⟨hx, hb, hml, hown, hts⟩ hP hD hE hZ hS hA (cL_walks_ok l g  v0 z0 p0 ν ζ (fun _ => (0 : Int32)) p2 _ e_14) (va_cwS 4 hts gL_why_L_walks rfl rfl rfl hdL_walks.2 ⟨(Nat.le_of_ble_eq_true rfl), (Nat.le_of_ble_eq_true rfl)⟩) rfl rfl rfl (by decide) (by decide) (by decide) (by decide) rfl hl.1 rfl (Nat.le_of_ble_eq_true rfl) ⟨(k3 h_13), (k61 h_13)⟩ dL_why_11 (fun H locs hP hD hS => ?_)
  refine W.cs (cells' := 3 * (0 + 1)) (slots' := 61 * (0 + 1)) (Nat.add_zero _) (Nat.add_zero _) ?_
  refine lv_aload_n hx hb dL_why_14 rfl (lv_at hl 1 rfl) ?_
  refine lv_iconst (v := (4 : Int32)) hx hb dL_why_15 (by decide) ?_
  refine lv_iload_n hx hb dL_why_16 rfl (lv_at hl 3 rfl) ?_
  refine lv_imul hx hb dL_why_17 ?_
  refine lv_iconst (v := (2 : Int32)) hx hb dL_why_18 (by decide) ?_
  refine lv_iadd hx hb dL_why_19 ?_
  obtain ⟨h_15, hf⟩ := ck hf
  refine va_iald hx hb hE.1 hP 0 0 rfl rfl (vin h_15) dL_why_20 ?_
  refine lv_istore (lv' := [(5, .int (ν (Int32.toNatClampNeg (((4 : Int32) * p2) + (2 : Int32))))), (4, .ref p0), (0, .ref v0), (1, .ref z0), (2, .int p2), (3, .int p3)]) hx hb dL_why_21 hl (by decide) rfl (fun ls hl => ?_)
  refine lv_aload_n hx hb dL_why_23 rfl (lv_at hl 2 rfl) ?_
  refine lv_iload_n hx hb dL_why_24 rfl (lv_at hl 4 rfl) ?_
  refine lv_aload hx hb dL_why_25 (lv_at hl 1 rfl) ?_
  obtain ⟨r_16, e_16, hf⟩ := bo hf
  refine pcallS (W0 := (wV g v0 ν ++ (wZ g z0 ζ ++ (wP g p0 r_14)))) (As := [.ref v0, .int p2, .ref p0]) (rest := []) [0, 2] ⟨hx, hb, hml, hown, hts⟩ hP hE hZ hS (cL_closed_ok l g v0 p0 ν r_14 p2 e_16) (va_cwS 3 hts gL_why_L_closed rfl rfl rfl hdL_closed.2 ⟨(Nat.le_of_ble_eq_true rfl), (Nat.le_of_ble_eq_true rfl)⟩) rfl rfl hl.1 rfl (Nat.le_of_ble_eq_true rfl) ⟨(k3 h_13), (k61 h_13)⟩ dL_why_27 ?_
  refine lv_beq (tgt := 35) hx hb dL_why_30 (by decide) (fun c_17 => ?_) (fun c_17 => ?_)
  · have hf := iq c_17 hf
    refine lv_iload hx hb dL_why_35 (lv_at hl 0 rfl) ?_
    refine lv_bipush (v := (60 : Int32)) hx hb dL_why_37 (by decide) ?_
    refine lv_icmp_ne (tgt := 44) hx hb dL_why_39 (by decide) (fun c_18 => ?_) (fun c_18 => ?_)
    · have hf := iq c_18 hf
      refine lv_aload hx hb dL_why_44 (lv_at hl 1 rfl) ?_
      refine lv_iload hx hb dL_why_46 (lv_at hl 0 rfl) ?_
      obtain ⟨h_19, hf⟩ := ck hf
      refine va_iald hx hb hE.1 hP 2 0 rfl rfl (vin h_19) dL_why_48 ?_
      refine lv_istore (lv' := [(6, .int (r_14 (Int32.toNatClampNeg (ν (Int32.toNatClampNeg (((4 : Int32) * p2) + (2 : Int32))))))), (5, .int (ν (Int32.toNatClampNeg (((4 : Int32) * p2) + (2 : Int32))))), (4, .ref p0), (0, .ref v0), (1, .ref z0), (2, .int p2), (3, .int p3)]) hx hb dL_why_49 hl (by decide) rfl (fun ls hl => ?_)
      refine lv_iload hx hb dL_why_51 (lv_at hl 0 rfl) ?_
      refine lv_bipush (v := (24 : Int32)) hx hb dL_why_53 (by decide) ?_
      refine lv_irm hx hb dL_why_55 (by decide) ?_
      refine lv_iload_n hx hb dL_why_56 rfl (lv_at hl 6 rfl) ?_
      obtain ⟨r_20, e_20, hf⟩ := bo hf
      refine pcallS (W0 := (wV g v0 ν ++ (wZ g z0 ζ ++ (wP g p0 r_14)))) (As := [.int p3]) (rest := [.int (irm (r_14 (Int32.toNatClampNeg (ν (Int32.toNatClampNeg (((4 : Int32) * p2) + (2 : Int32)))))) (24 : Int32))]) [] ⟨hx, hb, hml, hown, hts⟩ hP hE hZ hS (cL_right_ok l g  p3 e_20) (va_cwS 1 hts gL_why_L_right rfl rfl rfl hdL_right.2 ⟨(Nat.le_of_ble_eq_true rfl), (Nat.le_of_ble_eq_true rfl)⟩) rfl rfl hl.1 rfl (Nat.le_of_ble_eq_true rfl) ⟨(k3 h_13), (k61 h_13)⟩ dL_why_57 ?_
      refine lv_iadd hx hb dL_why_60 ?_
      refine lv_istore (lv' := [(7, .int ((irm (r_14 (Int32.toNatClampNeg (ν (Int32.toNatClampNeg (((4 : Int32) * p2) + (2 : Int32)))))) (24 : Int32)) + r_20)), (6, .int (r_14 (Int32.toNatClampNeg (ν (Int32.toNatClampNeg (((4 : Int32) * p2) + (2 : Int32))))))), (5, .int (ν (Int32.toNatClampNeg (((4 : Int32) * p2) + (2 : Int32))))), (4, .ref p0), (0, .ref v0), (1, .ref z0), (2, .int p2), (3, .int p3)]) hx hb dL_why_61 hl (by decide) rfl (fun ls hl => ?_)
      refine lv_iload hx hb dL_why_63 (lv_at hl 1 rfl) ?_
      refine lv_iload_n hx hb dL_why_65 rfl (lv_at hl 7 rfl) ?_
      obtain ⟨r_21, e_21, hf⟩ := bo hf
      refine pcallS (W0 := (wV g v0 ν ++ (wZ g z0 ζ ++ (wP g p0 r_14)))) (As := [.int p3]) (rest := [.int (r_14 (Int32.toNatClampNeg (ν (Int32.toNatClampNeg (((4 : Int32) * p2) + (2 : Int32))))))]) [] ⟨hx, hb, hml, hown, hts⟩ hP hE hZ hS (cL_right_ok l g  p3 e_21) (va_cwS 1 hts gL_why_L_right rfl rfl rfl hdL_right.2 ⟨(Nat.le_of_ble_eq_true rfl), (Nat.le_of_ble_eq_true rfl)⟩) rfl rfl hl.1 rfl (Nat.le_of_ble_eq_true rfl) ⟨(k3 h_13), (k61 h_13)⟩ dL_why_66 ?_
      refine lv_iadd hx hb dL_why_69 ?_
      refine lv_bipush (v := (24 : Int32)) hx hb dL_why_70 (by decide) ?_
      refine lv_iload_n hx hb dL_why_72 rfl (lv_at hl 7 rfl) ?_
      obtain ⟨r_22, e_22, hf⟩ := bo hf
      refine pcallS (W0 := (wV g v0 ν ++ (wZ g z0 ζ ++ (wP g p0 r_14)))) (As := [.int p3]) (rest := [.int (24 : Int32), .int ((r_14 (Int32.toNatClampNeg (ν (Int32.toNatClampNeg (((4 : Int32) * p2) + (2 : Int32)))))) + r_21)]) [] ⟨hx, hb, hml, hown, hts⟩ hP hE hZ hS (cL_below_ok l g  p3 e_22) (va_cwS 1 hts gL_why_L_below rfl rfl rfl hdL_below.2 ⟨(Nat.le_of_ble_eq_true rfl), (Nat.le_of_ble_eq_true rfl)⟩) rfl rfl hl.1 rfl (Nat.le_of_ble_eq_true rfl) ⟨(k3 h_13), (k61 h_13)⟩ dL_why_73 ?_
      refine lv_imul hx hb dL_why_76 ?_
      refine lv_iadd hx hb dL_why_77 ?_
      refine lv_istore (lv' := [(8, .int (((r_14 (Int32.toNatClampNeg (ν (Int32.toNatClampNeg (((4 : Int32) * p2) + (2 : Int32)))))) + r_21) + ((24 : Int32) * r_22))), (7, .int ((irm (r_14 (Int32.toNatClampNeg (ν (Int32.toNatClampNeg (((4 : Int32) * p2) + (2 : Int32)))))) (24 : Int32)) + r_20)), (6, .int (r_14 (Int32.toNatClampNeg (ν (Int32.toNatClampNeg (((4 : Int32) * p2) + (2 : Int32))))))), (5, .int (ν (Int32.toNatClampNeg (((4 : Int32) * p2) + (2 : Int32))))), (4, .ref p0), (0, .ref v0), (1, .ref z0), (2, .int p2), (3, .int p3)]) hx hb dL_why_78 hl (by decide) rfl (fun ls hl => ?_)
      refine lv_iload hx hb dL_why_80 (lv_at hl 1 rfl) ?_
      refine lv_if_lt (tgt := 105) hx hb dL_why_82 (by decide) (fun c_23 => ?_) (fun c_23 => ?_)
      · have hf := ip c_23 hf
        refine lv_iconst (v := (3 : Int32)) hx hb dL_why_105 (by decide) ?_
        have ho := Option.some.inj hf
        subst ho
        have hP := hP.sub (ws' := (wV g v0 ν ++ (wZ g z0 ζ))) [0, 1] rfl
        have hD := hD.sub (ws' := (wV g v0 ν ++ (wZ g z0 ζ))) [0, 1] (by decide) rfl
        refine W.widen (k := 3 * cap) (n := 61 * cap) (k3 h_13) (k61 h_13) ?_
        exact m_iret (v := (3 : Int32)) hx hb hr hlocks hP hD hS rfl dL_why_106
      · have hf := iq c_23 hf
        refine lv_iload hx hb dL_why_85 (lv_at hl 1 rfl) ?_
        refine lv_bipush (v := (23 : Int32)) hx hb dL_why_87 (by decide) ?_
        refine lv_icmp_gt (tgt := 105) hx hb dL_why_89 (by decide) (fun c_24 => ?_) (fun c_24 => ?_)
        · have hf := ip c_24 hf
          refine lv_iconst (v := (3 : Int32)) hx hb dL_why_105 (by decide) ?_
          have ho := Option.some.inj hf
          subst ho
          have hP := hP.sub (ws' := (wV g v0 ν ++ (wZ g z0 ζ))) [0, 1] rfl
          have hD := hD.sub (ws' := (wV g v0 ν ++ (wZ g z0 ζ))) [0, 1] (by decide) rfl
          refine W.widen (k := 3 * cap) (n := 61 * cap) (k3 h_13) (k61 h_13) ?_
          exact m_iret (v := (3 : Int32)) hx hb hr hlocks hP hD hS rfl dL_why_106
        · have hf := iq c_24 hf
          refine lv_iload hx hb dL_why_92 (lv_at hl 0 rfl) ?_
          refine lv_if_lt (tgt := 105) hx hb dL_why_94 (by decide) (fun c_25 => ?_) (fun c_25 => ?_)
          · have hf := ip c_25 hf
            refine lv_iconst (v := (3 : Int32)) hx hb dL_why_105 (by decide) ?_
            have ho := Option.some.inj hf
            subst ho
            have hP := hP.sub (ws' := (wV g v0 ν ++ (wZ g z0 ζ))) [0, 1] rfl
            have hD := hD.sub (ws' := (wV g v0 ν ++ (wZ g z0 ζ))) [0, 1] (by decide) rfl
            refine W.widen (k := 3 * cap) (n := 61 * cap) (k3 h_13) (k61 h_13) ?_
            exact m_iret (v := (3 : Int32)) hx hb hr hlocks hP hD hS rfl dL_why_106
          · have hf := iq c_25 hf
            refine lv_iload hx hb dL_why_97 (lv_at hl 0 rfl) ?_
            refine lv_sipush (v := (383 : Int32)) hx hb dL_why_99 (by decide) ?_
            refine lv_icmp_le (tgt := 107) hx hb dL_why_102 (by decide) (fun c_26 => ?_) (fun c_26 => ?_)
            · have hf := ip c_26 hf
              refine lv_aload_n hx hb dL_why_107 rfl (lv_at hl 5 rfl) ?_
              refine lv_aload_n hx hb dL_why_108 rfl (lv_at hl 6 rfl) ?_
              refine lv_iload hx hb dL_why_109 (lv_at hl 0 rfl) ?_
              obtain ⟨h_27, hf⟩ := ck hf
              obtain ⟨r_27, e_27, hf⟩ := bo hf
              refine mcallSi (W0 := (wV g v0 ν ++ (wZ g z0 ζ ++ (wP g p0 r_14)))) (Wc := (wV g v0 ν ++ (wZ g z0 ζ))) (Wr := (wP g p0 r_14)) (W1 := (wV g v0 ν ++ (wZ g z0 ζ))) (W2 := (wV g v0 ν ++ (wZ g z0 ζ ++ (wP g p0 r_14)))) (As := [.ref v0, .ref z0, .int (((r_14 (Int32.toNatClampNeg (ν (Int32.toNatClampNeg (((4 : Int32) * p2) + (2 : Int32)))))) + r_21) + ((24 : Int32) * r_22))]) (rest := []) [0, 1] [2] [1, 2, 0] ⟨hx, hb, hml, hown, hts⟩ hP hD hE hZ hS hA (cL_owner_ok l hl0 g 1 v0 z0 ν ζ (((r_14 (Int32.toNatClampNeg (ν (Int32.toNatClampNeg (((4 : Int32) * p2) + (2 : Int32)))))) + r_21) + ((24 : Int32) * r_22)) _ e_27) (va_cwS 3 hts gL_why_L_owner rfl rfl rfl hdL_owner.2 ⟨(Nat.le_of_ble_eq_true rfl), (Nat.le_of_ble_eq_true rfl)⟩) rfl rfl rfl (by decide) (by decide) (by decide) (by decide) rfl hl.1 rfl (Nat.le_of_ble_eq_true rfl) ⟨(kc3 h_27), (kc61 h_27)⟩ dL_why_111 (fun H locs hP hD hS => ?_)
              refine W.widen (k := 3 * ((0 + 1) + 1)) (n := 61 * ((0 + 1) + 1)) (by omega) (by omega) ?_
              refine lv_if_lt (tgt := 134) hx hb dL_why_114 (by decide) (fun c_28 => ?_) (fun c_28 => ?_)
              · have hf := ip c_28 hf
                refine lv_iconst (v := (0 : Int32)) hx hb dL_why_134 (by decide) ?_
                refine lv_istore (lv' := [(9, .int (0 : Int32)), (8, .int (((r_14 (Int32.toNatClampNeg (ν (Int32.toNatClampNeg (((4 : Int32) * p2) + (2 : Int32)))))) + r_21) + ((24 : Int32) * r_22))), (7, .int ((irm (r_14 (Int32.toNatClampNeg (ν (Int32.toNatClampNeg (((4 : Int32) * p2) + (2 : Int32)))))) (24 : Int32)) + r_20)), (6, .int (r_14 (Int32.toNatClampNeg (ν (Int32.toNatClampNeg (((4 : Int32) * p2) + (2 : Int32))))))), (5, .int (ν (Int32.toNatClampNeg (((4 : Int32) * p2) + (2 : Int32))))), (4, .ref p0), (0, .ref v0), (1, .ref z0), (2, .int p2), (3, .int p3)]) hx hb dL_why_135 hl (by decide) rfl (fun ls hl => ?_)
                refine lv_iconst (v := (0 : Int32)) hx hb dL_why_137 (by decide) ?_
                refine lv_istore (lv' := [(10, .int (0 : Int32)), (9, .int (0 : Int32)), (8, .int (((r_14 (Int32.toNatClampNeg (ν (Int32.toNatClampNeg (((4 : Int32) * p2) + (2 : Int32)))))) + r_21) + ((24 : Int32) * r_22))), (7, .int ((irm (r_14 (Int32.toNatClampNeg (ν (Int32.toNatClampNeg (((4 : Int32) * p2) + (2 : Int32)))))) (24 : Int32)) + r_20)), (6, .int (r_14 (Int32.toNatClampNeg (ν (Int32.toNatClampNeg (((4 : Int32) * p2) + (2 : Int32))))))), (5, .int (ν (Int32.toNatClampNeg (((4 : Int32) * p2) + (2 : Int32))))), (4, .ref p0), (0, .ref v0), (1, .ref z0), (2, .int p2), (3, .int p3)]) hx hb dL_why_138 hl (by decide) rfl (fun ls hl => ?_)
                exact hB140 p0 (r_14 (Int32.toNatClampNeg (ν (Int32.toNatClampNeg (((4 : Int32) * p2) + (2 : Int32)))))) (((r_14 (Int32.toNatClampNeg (ν (Int32.toNatClampNeg (((4 : Int32) * p2) + (2 : Int32)))))) + r_21) + ((24 : Int32) * r_22)) FU false (0 : Int32) r_14 ((0 + 1) + 1) _ _ h_27 ls hP hD hS (lv_sub hl [7, 8, 10, 6, 4, 2, 1, 0] rfl) hf
              · have hf := iq c_28 hf
                refine lv_iload hx hb dL_why_117 (lv_at hl 0 rfl) ?_
                refine lv_aload hx hb dL_why_119 (lv_at hl 4 rfl) ?_
                refine lv_iconst (v := (0 : Int32)) hx hb dL_why_121 (by decide) ?_
                refine va_iald hx hb hE.1 hP 2 0 rfl rfl (vin (by decide)) dL_why_122 ?_
                refine lv_icmp_ne (tgt := 132) hx hb dL_why_123 (by decide) (fun c_29 => ?_) (fun c_29 => ?_)
                · have hf := iq c_29 hf
                  refine lv_iconst (v := (4 : Int32)) hx hb dL_why_132 (by decide) ?_
                  have ho := Option.some.inj hf
                  subst ho
                  have hP := hP.sub (ws' := (wV g v0 ν ++ (wZ g z0 ζ))) [0, 1] rfl
                  have hD := hD.sub (ws' := (wV g v0 ν ++ (wZ g z0 ζ))) [0, 1] (by decide) rfl
                  refine W.widen (k := 3 * cap) (n := 61 * cap) (k3 h_27) (k61 h_27) ?_
                  exact m_iret (v := (4 : Int32)) hx hb hr hlocks hP hD hS rfl dL_why_133
                · have hf := ip c_29 hf
                  refine lv_iload hx hb dL_why_126 (lv_at hl 3 rfl) ?_
                  refine lv_iconst (v := (3 : Int32)) hx hb dL_why_128 (by decide) ?_
                  refine lv_icmp_ge (tgt := 134) hx hb dL_why_129 (by decide) (fun c_30 => ?_) (fun c_30 => ?_)
                  · have hf := ip c_30 hf
                    refine lv_iconst (v := (0 : Int32)) hx hb dL_why_134 (by decide) ?_
                    refine lv_istore (lv' := [(9, .int (0 : Int32)), (8, .int (((r_14 (Int32.toNatClampNeg (ν (Int32.toNatClampNeg (((4 : Int32) * p2) + (2 : Int32)))))) + r_21) + ((24 : Int32) * r_22))), (7, .int ((irm (r_14 (Int32.toNatClampNeg (ν (Int32.toNatClampNeg (((4 : Int32) * p2) + (2 : Int32)))))) (24 : Int32)) + r_20)), (6, .int (r_14 (Int32.toNatClampNeg (ν (Int32.toNatClampNeg (((4 : Int32) * p2) + (2 : Int32))))))), (5, .int (ν (Int32.toNatClampNeg (((4 : Int32) * p2) + (2 : Int32))))), (4, .ref p0), (0, .ref v0), (1, .ref z0), (2, .int p2), (3, .int p3)]) hx hb dL_why_135 hl (by decide) rfl (fun ls hl => ?_)
                    refine lv_iconst (v := (0 : Int32)) hx hb dL_why_137 (by decide) ?_
                    refine lv_istore (lv' := [(10, .int (0 : Int32)), (9, .int (0 : Int32)), (8, .int (((r_14 (Int32.toNatClampNeg (ν (Int32.toNatClampNeg (((4 : Int32) * p2) + (2 : Int32)))))) + r_21) + ((24 : Int32) * r_22))), (7, .int ((irm (r_14 (Int32.toNatClampNeg (ν (Int32.toNatClampNeg (((4 : Int32) * p2) + (2 : Int32)))))) (24 : Int32)) + r_20)), (6, .int (r_14 (Int32.toNatClampNeg (ν (Int32.toNatClampNeg (((4 : Int32) * p2) + (2 : Int32))))))), (5, .int (ν (Int32.toNatClampNeg (((4 : Int32) * p2) + (2 : Int32))))), (4, .ref p0), (0, .ref v0), (1, .ref z0), (2, .int p2), (3, .int p3)]) hx hb dL_why_138 hl (by decide) rfl (fun ls hl => ?_)
                    exact hB140 p0 (r_14 (Int32.toNatClampNeg (ν (Int32.toNatClampNeg (((4 : Int32) * p2) + (2 : Int32)))))) (((r_14 (Int32.toNatClampNeg (ν (Int32.toNatClampNeg (((4 : Int32) * p2) + (2 : Int32)))))) + r_21) + ((24 : Int32) * r_22)) FU false (0 : Int32) r_14 ((0 + 1) + 1) _ _ h_27 ls hP hD hS (lv_sub hl [7, 8, 10, 6, 4, 2, 1, 0] rfl) hf
                  · have hf := iq c_30 hf
                    refine lv_iconst (v := (4 : Int32)) hx hb dL_why_132 (by decide) ?_
                    have ho := Option.some.inj hf
                    subst ho
                    have hP := hP.sub (ws' := (wV g v0 ν ++ (wZ g z0 ζ))) [0, 1] rfl
                    have hD := hD.sub (ws' := (wV g v0 ν ++ (wZ g z0 ζ))) [0, 1] (by decide) rfl
                    refine W.widen (k := 3 * cap) (n := 61 * cap) (k3 h_27) (k61 h_27) ?_
                    exact m_iret (v := (4 : Int32)) hx hb hr hlocks hP hD hS rfl dL_why_133
            · have hf := iq c_26 hf
              refine lv_iconst (v := (3 : Int32)) hx hb dL_why_105 (by decide) ?_
              have ho := Option.some.inj hf
              subst ho
              have hP := hP.sub (ws' := (wV g v0 ν ++ (wZ g z0 ζ))) [0, 1] rfl
              have hD := hD.sub (ws' := (wV g v0 ν ++ (wZ g z0 ζ))) [0, 1] (by decide) rfl
              refine W.widen (k := 3 * cap) (n := 61 * cap) (k3 h_13) (k61 h_13) ?_
              exact m_iret (v := (3 : Int32)) hx hb hr hlocks hP hD hS rfl dL_why_106
    · have hf := ip c_18 hf
      refine lv_iconst (v := (2 : Int32)) hx hb dL_why_42 (by decide) ?_
      have ho := Option.some.inj hf
      subst ho
      have hP := hP.sub (ws' := (wV g v0 ν ++ (wZ g z0 ζ))) [0, 1] rfl
      have hD := hD.sub (ws' := (wV g v0 ν ++ (wZ g z0 ζ))) [0, 1] (by decide) rfl
      refine W.widen (k := 3 * cap) (n := 61 * cap) (k3 h_13) (k61 h_13) ?_
      exact m_iret (v := (2 : Int32)) hx hb hr hlocks hP hD hS rfl dL_why_43
  · have hf := ip c_17 hf
    refine lv_iconst (v := (1 : Int32)) hx hb dL_why_33 (by decide) ?_
    have ho := Option.some.inj hf
    subst ho
    have hP := hP.sub (ws' := (wV g v0 ν ++ (wZ g z0 ζ))) [0, 1] rfl
    have hD := hD.sub (ws' := (wV g v0 ν ++ (wZ g z0 ζ))) [0, 1] (by decide) rfl
    refine W.widen (k := 3 * cap) (n := 61 * cap) (k3 h_13) (k61 h_13) ?_
    exact m_iret (v := (1 : Int32)) hx hb hr hlocks hP hD hS rfl dL_why_34

def fL_bend_78 (ν : (Nat → Int32)) (ζ : (Nat → Int64)) (ψ : (Nat → Int32)) (p2 p4 : Int32) (t0_78 : Int32) (t2_78 : Int32) (t3_78 : Int32) : Option (Int32) := ((fL_dir ζ t2_78 t3_78).bind fun r_1 => (if ((t0_78 - r_1) &&& (7 : Int32)) ≤ (4 : Int32) then (some ((t0_78 - r_1) &&& (7 : Int32))) else (some ((8 : Int32) - ((t0_78 - r_1) &&& (7 : Int32))))))
def fL_bend_44 (ν : (Nat → Int32)) (ζ : (Nat → Int64)) (ψ : (Nat → Int32)) (p2 p4 : Int32) (v5_44 : Int32) (v6_44 : Bool) : Option (Int32) := (if v6_44 = true then ((fL_dir ζ p2 (0 : Int32)).bind fun r_6 => fL_bend_78 ν ζ ψ p2 p4 r_6 p2 (v5_44 - (1 : Int32))) else ((fL_dir ζ p2 p4).bind fun r_4 => fL_bend_78 ν ζ ψ p2 p4 r_4 p2 (p4 - (1 : Int32))))
def fL_bend (ν : (Nat → Int32)) (ζ : (Nat → Int64)) (ψ : (Nat → Int32)) (p2 p4 : Int32) : Option (Int32) := (if inR (((4 : Int32) * p2) + (2 : Int32)) 34 then (if p4 = 0 then ((fL_closed ν ψ p2).bind fun r_11 => (if r_11 = true then fL_bend_44 ν ζ ψ p2 p4 (ν (Int32.toNatClampNeg (((4 : Int32) * p2) + (2 : Int32)))) true else (some (0 : Int32)))) else (if p4 = (ν (Int32.toNatClampNeg (((4 : Int32) * p2) + (2 : Int32)))) then ((fL_closed ν ψ p2).bind fun r_16 => (if r_16 = true then fL_bend_44 ν ζ ψ p2 p4 (ν (Int32.toNatClampNeg (((4 : Int32) * p2) + (2 : Int32)))) true else (some (0 : Int32)))) else fL_bend_44 ν ζ ψ p2 p4 (ν (Int32.toNatClampNeg (((4 : Int32) * p2) + (2 : Int32)))) false)) else none)
abbrev rmL_bend : Room := { frames := 1, cells := 0, slots := 0, locals := 23 }
theorem hdL_bend : yL_bend.cls = RL ∧ yL_bend.cls ≠ "java/lang/invoke/MethodHandle" ∧ yL_bend.cls ≠ "java/lang/invoke/VarHandle" ∧ (parseMethodDescriptor yL_bend.desc).map (fun d => d.parameters.length) = some 5 := by decide +kernel
set_option maxHeartbeats 4000000 in
set_option maxRecDepth 100000 in
theorem cL_bend_ok (l : Launch) (g : Gg) (v0 z0 p0 : Nat) (ν : (Nat → Int32)) (ζ : (Nat → Int64)) (ψ : (Nat → Int32)) (p2 p4 : Int32) {r : Int32} (hf : fL_bend ν ζ ψ p2 p4 = some r) : Met l yL_bend wsL_bend rmL_bend (va_Pc [.ref v0, .ref z0, .int p2, .ref p0, .int p4] (PP g (wV g v0 ν ++ (wZ g z0 ζ ++ (wP g p0 ψ))))) (vp_Si (fun r' => r' = r)) 0 0 (fun _ => False) := by
  refine Met.ofW (cc := cL_bend) (maxL := 8) (ret := (some .int)) (by decide) rfl ?_
  intro p e s m args below meth c s₁ B hml hv
  obtain ⟨rfl, hP, hE, hZ⟩ := hv
  have hx := B.exec
  have hb := B.bytes
  have hr := B.returns
  have hts := atoms_spec (ws := wsL_bend) B.pre
  have hown : s.vm.findClass RL = some m.cls := findClass_of_methodNamed B.named
  have hlocks := B.notSynchronized
  have hS : va_S (fun _ => False) s.heap s.heap [] := va_S.rf
  have hl := lv_entry ([.ref v0, .ref z0, .int p2, .ref p0, .int p4]) (n := 8) (Nat.le_of_ble_eq_true rfl)
  rw [lg_entry_eq]
  generalize (lg_sl ([.ref v0, .ref z0, .int p2, .ref p0, .int p4]) ++ List.replicate (8 - (lg_sl ([.ref v0, .ref z0, .int p2, .ref p0, .int p4])).length) Slot.unset).toArray = ls at hl ⊢
  have hl : lv_has ls 8 [(0, .ref v0), (1, .ref z0), (2, .int p2), (3, .ref p0), (4, .int p4)] := hl
  have hB78 : ∀ (t0_78 : Int32) (t2_78 : Int32) (t3_78 : Int32) (ls : Array Slot), lv_has ls 8 [] → fL_bend_78 ν ζ ψ p2 p4 t0_78 t2_78 t3_78 = some r → W p l e (headSpec wsL_bend rmL_bend).room s m ([.ref v0, .ref z0, .int p2, .ref p0, .int p4] : List Value).toArray below meth c s.heap [] 0 0 (MQ below (vp_Si (fun r' => r' = r)) ([.ref v0, .ref z0, .int p2, .ref p0, .int p4] : List Value).toArray s 0 0 (fun _ => False)) (F0 m 78 ls [.int t3_78, .int t2_78, .ref z0, .int t0_78]) := by
    intro  t0_78 t2_78 t3_78 ls hl hf
    unfold fL_bend_78 at hf
    obtain ⟨r_1, e_1, hf⟩ := bo hf
    refine pcallS (W0 := (wV g v0 ν ++ (wZ g z0 ζ ++ (wP g p0 ψ)))) (As := [.ref z0, .int t2_78, .int t3_78]) (rest := [.int t0_78]) [1] ⟨hx, hb, hml, hown, hts⟩ hP hE hZ hS (cL_dir_ok l g z0 ζ t2_78 t3_78 e_1) (va_cwS 3 hts gL_bend_L_dir rfl rfl rfl hdL_dir.2 ⟨(Nat.le_of_ble_eq_true rfl), (Nat.le_of_ble_eq_true rfl)⟩) rfl rfl hl.1 rfl (Nat.le_of_ble_eq_true rfl) ⟨(Nat.le_of_ble_eq_true rfl), (Nat.le_of_ble_eq_true rfl)⟩ dL_bend_78 ?_
    refine lv_isub hx hb dL_bend_81 ?_
    refine lv_bipush (v := (7 : Int32)) hx hb dL_bend_82 (by decide) ?_
    refine lv_iand hx hb dL_bend_84 ?_
    refine lv_istore (lv' := [(7, .int ((t0_78 - r_1) &&& (7 : Int32)))]) hx hb dL_bend_85 hl (by decide) rfl (fun ls hl => ?_)
    refine lv_iload hx hb dL_bend_87 (lv_at hl 0 rfl) ?_
    refine lv_iconst (v := (4 : Int32)) hx hb dL_bend_89 (by decide) ?_
    refine lv_icmp_le (tgt := 101) hx hb dL_bend_90 (by decide) (fun c_2 => ?_) (fun c_2 => ?_)
    · have hf := ip c_2 hf
      refine lv_iload hx hb dL_bend_101 (lv_at hl 0 rfl) ?_
      exact p_iret (v := ((t0_78 - r_1) &&& (7 : Int32))) hx hb hr hlocks (Option.some.inj hf) dL_bend_103
    · have hf := iq c_2 hf
      refine lv_bipush (v := (8 : Int32)) hx hb dL_bend_93 (by decide) ?_
      refine lv_iload hx hb dL_bend_95 (lv_at hl 0 rfl) ?_
      refine lv_isub hx hb dL_bend_97 ?_
      refine lv_goto (tgt := 103) hx hb dL_bend_98 (by decide) ?_
      exact p_iret (v := ((8 : Int32) - ((t0_78 - r_1) &&& (7 : Int32)))) hx hb hr hlocks (Option.some.inj hf) dL_bend_103
  have hB44 : ∀ (v5_44 : Int32) (v6_44 : Bool) (ls : Array Slot), lv_has ls 8 [(1, .ref z0), (2, .int p2), (4, .int p4), (5, .int v5_44), (6, .int (b2i v6_44))] → fL_bend_44 ν ζ ψ p2 p4 v5_44 v6_44 = some r → W p l e (headSpec wsL_bend rmL_bend).room s m ([.ref v0, .ref z0, .int p2, .ref p0, .int p4] : List Value).toArray below meth c s.heap [] 0 0 (MQ below (vp_Si (fun r' => r' = r)) ([.ref v0, .ref z0, .int p2, .ref p0, .int p4] : List Value).toArray s 0 0 (fun _ => False)) (F0 m 44 ls []) := by
    intro  v5_44 v6_44 ls hl hf
    unfold fL_bend_44 at hf
    refine lv_aload_n hx hb dL_bend_44 rfl (lv_at hl 0 rfl) ?_
    refine lv_iload_n hx hb dL_bend_45 rfl (lv_at hl 1 rfl) ?_
    refine lv_iload hx hb dL_bend_46 (lv_at hl 4 rfl) ?_
    refine lv_beq (tgt := 55) hx hb dL_bend_48 (by decide) (fun c_3 => ?_) (fun c_3 => ?_)
    · have hf := iq c_3 hf
      refine lv_iload hx hb dL_bend_55 (lv_at hl 2 rfl) ?_
      obtain ⟨r_4, e_4, hf⟩ := bo hf
      refine pcallS (W0 := (wV g v0 ν ++ (wZ g z0 ζ ++ (wP g p0 ψ)))) (As := [.ref z0, .int p2, .int p4]) (rest := []) [1] ⟨hx, hb, hml, hown, hts⟩ hP hE hZ hS (cL_dir_ok l g z0 ζ p2 p4 e_4) (va_cwS 3 hts gL_bend_L_dir rfl rfl rfl hdL_dir.2 ⟨(Nat.le_of_ble_eq_true rfl), (Nat.le_of_ble_eq_true rfl)⟩) rfl rfl hl.1 rfl (Nat.le_of_ble_eq_true rfl) ⟨(Nat.le_of_ble_eq_true rfl), (Nat.le_of_ble_eq_true rfl)⟩ dL_bend_57 ?_
      refine lv_aload_n hx hb dL_bend_60 rfl (lv_at hl 0 rfl) ?_
      refine lv_iload_n hx hb dL_bend_61 rfl (lv_at hl 1 rfl) ?_
      refine lv_iload hx hb dL_bend_62 (lv_at hl 4 rfl) ?_
      refine lv_beq (tgt := 74) hx hb dL_bend_64 (by decide) (fun c_5 => ?_) (fun c_5 => absurd c_5 c_3)
      refine lv_iload hx hb dL_bend_74 (lv_at hl 2 rfl) ?_
      refine lv_iconst (v := (1 : Int32)) hx hb dL_bend_76 (by decide) ?_
      refine lv_isub hx hb dL_bend_77 ?_
      exact hB78 r_4 p2 (p4 - (1 : Int32)) ls (lv_sub hl [] rfl) hf
    · have hf := ip c_3 hf
      refine lv_iconst (v := (0 : Int32)) hx hb dL_bend_51 (by decide) ?_
      refine lv_goto (tgt := 57) hx hb dL_bend_52 (by decide) ?_
      obtain ⟨r_6, e_6, hf⟩ := bo hf
      refine pcallS (W0 := (wV g v0 ν ++ (wZ g z0 ζ ++ (wP g p0 ψ)))) (As := [.ref z0, .int p2, .int (0 : Int32)]) (rest := []) [1] ⟨hx, hb, hml, hown, hts⟩ hP hE hZ hS (cL_dir_ok l g z0 ζ p2 (0 : Int32) e_6) (va_cwS 3 hts gL_bend_L_dir rfl rfl rfl hdL_dir.2 ⟨(Nat.le_of_ble_eq_true rfl), (Nat.le_of_ble_eq_true rfl)⟩) rfl rfl hl.1 rfl (Nat.le_of_ble_eq_true rfl) ⟨(Nat.le_of_ble_eq_true rfl), (Nat.le_of_ble_eq_true rfl)⟩ dL_bend_57 ?_
      refine lv_aload_n hx hb dL_bend_60 rfl (lv_at hl 0 rfl) ?_
      refine lv_iload_n hx hb dL_bend_61 rfl (lv_at hl 1 rfl) ?_
      refine lv_iload hx hb dL_bend_62 (lv_at hl 4 rfl) ?_
      refine lv_beq (tgt := 74) hx hb dL_bend_64 (by decide) (fun c_7 => absurd c_3 c_7) (fun c_7 => ?_)
      refine lv_iload hx hb dL_bend_67 (lv_at hl 3 rfl) ?_
      refine lv_iconst (v := (1 : Int32)) hx hb dL_bend_69 (by decide) ?_
      refine lv_isub hx hb dL_bend_70 ?_
      refine lv_goto (tgt := 78) hx hb dL_bend_71 (by decide) ?_
      exact hB78 r_6 p2 (v5_44 - (1 : Int32)) ls (lv_sub hl [] rfl) hf
  unfold fL_bend at hf
  refine lv_aload_n hx hb dL_bend_0 rfl (lv_at hl 0 rfl) ?_
  refine lv_iconst (v := (4 : Int32)) hx hb dL_bend_1 (by decide) ?_
  refine lv_iload_n hx hb dL_bend_2 rfl (lv_at hl 2 rfl) ?_
  refine lv_imul hx hb dL_bend_3 ?_
  refine lv_iconst (v := (2 : Int32)) hx hb dL_bend_4 (by decide) ?_
  refine lv_iadd hx hb dL_bend_5 ?_
  obtain ⟨h_8, hf⟩ := ck hf
  refine va_iald hx hb hE.1 hP 0 0 rfl rfl (vin h_8) dL_bend_6 ?_
  refine lv_istore (lv' := [(5, .int (ν (Int32.toNatClampNeg (((4 : Int32) * p2) + (2 : Int32))))), (0, .ref v0), (1, .ref z0), (2, .int p2), (3, .ref p0), (4, .int p4)]) hx hb dL_bend_7 hl (by decide) rfl (fun ls hl => ?_)
  refine lv_iload hx hb dL_bend_9 (lv_at hl 5 rfl) ?_
  refine lv_if_eq (tgt := 21) hx hb dL_bend_11 (by decide) (fun c_9 => ?_) (fun c_9 => ?_)
  · have hf := ip c_9 hf
    refine lv_iconst (v := (1 : Int32)) hx hb dL_bend_21 (by decide) ?_
    refine lv_goto (tgt := 26) hx hb dL_bend_22 (by decide) ?_
    refine lv_istore (lv' := [(6, .int (1 : Int32)), (5, .int (ν (Int32.toNatClampNeg (((4 : Int32) * p2) + (2 : Int32))))), (0, .ref v0), (1, .ref z0), (2, .int p2), (3, .ref p0), (4, .int p4)]) hx hb dL_bend_26 hl (by decide) rfl (fun ls hl => ?_)
    refine lv_iload hx hb dL_bend_28 (lv_at hl 0 rfl) ?_
    refine lv_if_eq (tgt := 44) hx hb dL_bend_30 (by decide) (fun c_10 => absurd c_10 (by decide)) (fun c_10 => ?_)
    refine lv_aload_n hx hb dL_bend_33 rfl (lv_at hl 2 rfl) ?_
    refine lv_iload_n hx hb dL_bend_34 rfl (lv_at hl 4 rfl) ?_
    refine lv_aload_n hx hb dL_bend_35 rfl (lv_at hl 5 rfl) ?_
    obtain ⟨r_11, e_11, hf⟩ := bo hf
    refine pcallS (W0 := (wV g v0 ν ++ (wZ g z0 ζ ++ (wP g p0 ψ)))) (As := [.ref v0, .int p2, .ref p0]) (rest := []) [0, 2] ⟨hx, hb, hml, hown, hts⟩ hP hE hZ hS (cL_closed_ok l g v0 p0 ν ψ p2 e_11) (va_cwS 3 hts gL_bend_L_closed rfl rfl rfl hdL_closed.2 ⟨(Nat.le_of_ble_eq_true rfl), (Nat.le_of_ble_eq_true rfl)⟩) rfl rfl hl.1 rfl (Nat.le_of_ble_eq_true rfl) ⟨(Nat.le_of_ble_eq_true rfl), (Nat.le_of_ble_eq_true rfl)⟩ dL_bend_36 ?_
    refine lv_bne (tgt := 44) hx hb dL_bend_39 (by decide) (fun c_12 => ?_) (fun c_12 => ?_)
    · have hf := ip c_12 hf
      exact hB44 (ν (Int32.toNatClampNeg (((4 : Int32) * p2) + (2 : Int32)))) true ls (lv_sub hl [3, 4, 6, 1, 0] rfl) hf
    · have hf := iq c_12 hf
      refine lv_iconst (v := (0 : Int32)) hx hb dL_bend_42 (by decide) ?_
      exact p_iret (v := (0 : Int32)) hx hb hr hlocks (Option.some.inj hf) dL_bend_43
  · have hf := iq c_9 hf
    refine lv_iload hx hb dL_bend_14 (lv_at hl 5 rfl) ?_
    refine lv_iload hx hb dL_bend_16 (lv_at hl 0 rfl) ?_
    refine lv_icmp_ne (tgt := 25) hx hb dL_bend_18 (by decide) (fun c_13 => ?_) (fun c_13 => ?_)
    · have hf := iq c_13 hf
      refine lv_iconst (v := (0 : Int32)) hx hb dL_bend_25 (by decide) ?_
      refine lv_istore (lv' := [(6, .int (0 : Int32)), (5, .int (ν (Int32.toNatClampNeg (((4 : Int32) * p2) + (2 : Int32))))), (0, .ref v0), (1, .ref z0), (2, .int p2), (3, .ref p0), (4, .int p4)]) hx hb dL_bend_26 hl (by decide) rfl (fun ls hl => ?_)
      refine lv_iload hx hb dL_bend_28 (lv_at hl 0 rfl) ?_
      refine lv_if_eq (tgt := 44) hx hb dL_bend_30 (by decide) (fun c_14 => ?_) (fun c_14 => absurd (by decide) c_14)
      exact hB44 (ν (Int32.toNatClampNeg (((4 : Int32) * p2) + (2 : Int32)))) false ls (lv_sub hl [3, 4, 6, 1, 0] rfl) hf
    · have hf := ip c_13 hf
      refine lv_iconst (v := (1 : Int32)) hx hb dL_bend_21 (by decide) ?_
      refine lv_goto (tgt := 26) hx hb dL_bend_22 (by decide) ?_
      refine lv_istore (lv' := [(6, .int (1 : Int32)), (5, .int (ν (Int32.toNatClampNeg (((4 : Int32) * p2) + (2 : Int32))))), (0, .ref v0), (1, .ref z0), (2, .int p2), (3, .ref p0), (4, .int p4)]) hx hb dL_bend_26 hl (by decide) rfl (fun ls hl => ?_)
      refine lv_iload hx hb dL_bend_28 (lv_at hl 0 rfl) ?_
      refine lv_if_eq (tgt := 44) hx hb dL_bend_30 (by decide) (fun c_15 => absurd c_15 (by decide)) (fun c_15 => ?_)
      refine lv_aload_n hx hb dL_bend_33 rfl (lv_at hl 2 rfl) ?_
      refine lv_iload_n hx hb dL_bend_34 rfl (lv_at hl 4 rfl) ?_
      refine lv_aload_n hx hb dL_bend_35 rfl (lv_at hl 5 rfl) ?_
      obtain ⟨r_16, e_16, hf⟩ := bo hf
      refine pcallS (W0 := (wV g v0 ν ++ (wZ g z0 ζ ++ (wP g p0 ψ)))) (As := [.ref v0, .int p2, .ref p0]) (rest := []) [0, 2] ⟨hx, hb, hml, hown, hts⟩ hP hE hZ hS (cL_closed_ok l g v0 p0 ν ψ p2 e_16) (va_cwS 3 hts gL_bend_L_closed rfl rfl rfl hdL_closed.2 ⟨(Nat.le_of_ble_eq_true rfl), (Nat.le_of_ble_eq_true rfl)⟩) rfl rfl hl.1 rfl (Nat.le_of_ble_eq_true rfl) ⟨(Nat.le_of_ble_eq_true rfl), (Nat.le_of_ble_eq_true rfl)⟩ dL_bend_36 ?_
      refine lv_bne (tgt := 44) hx hb dL_bend_39 (by decide) (fun c_17 => ?_) (fun c_17 => ?_)
      · have hf := ip c_17 hf
        exact hB44 (ν (Int32.toNatClampNeg (((4 : Int32) * p2) + (2 : Int32)))) true ls (lv_sub hl [3, 4, 6, 1, 0] rfl) hf
      · have hf := iq c_17 hf
        refine lv_iconst (v := (0 : Int32)) hx hb dL_bend_42 (by decide) ?_
        exact p_iret (v := (0 : Int32)) hx hb hr hlocks (Option.some.inj hf) dL_bend_43

def fL_size (ν : (Nat → Int32)) (p1 : Int32) : Option (Int32) := (if inR ((4 : Int32) * p1) 34 then (if (ν (Int32.toNatClampNeg ((4 : Int32) * p1))) ≤ (9 : Int32) then (some (2 : Int32)) else (some (3 : Int32))) else none)
abbrev rmL_size : Room := { frames := 0, cells := 0, slots := 0, locals := 0 }
theorem hdL_size : yL_size.cls = RL ∧ yL_size.cls ≠ "java/lang/invoke/MethodHandle" ∧ yL_size.cls ≠ "java/lang/invoke/VarHandle" ∧ (parseMethodDescriptor yL_size.desc).map (fun d => d.parameters.length) = some 2 := by decide +kernel
set_option maxHeartbeats 4000000 in
set_option maxRecDepth 100000 in
theorem cL_size_ok (l : Launch) (g : Gg) (v0 : Nat) (ν : (Nat → Int32)) (p1 : Int32) {r : Int32} (hf : fL_size ν p1 = some r) : Met l yL_size wsL_size rmL_size (va_Pc [.ref v0, .int p1] (PP g (wV g v0 ν))) (vp_Si (fun r' => r' = r)) 0 0 (fun _ => False) := by
  refine Met.ofW (cc := cL_size) (maxL := 2) (ret := (some .int)) (by decide) rfl ?_
  intro p e s m args below meth c s₁ B hml hv
  obtain ⟨rfl, hP, hE, hZ⟩ := hv
  have hx := B.exec
  have hb := B.bytes
  have hr := B.returns
  have hts := atoms_spec (ws := wsL_size) B.pre
  have hown : s.vm.findClass RL = some m.cls := findClass_of_methodNamed B.named
  have hlocks := B.notSynchronized
  have hS : va_S (fun _ => False) s.heap s.heap [] := va_S.rf
  have hl := lv_entry ([.ref v0, .int p1]) (n := 2) (Nat.le_of_ble_eq_true rfl)
  rw [lg_entry_eq]
  generalize (lg_sl ([.ref v0, .int p1]) ++ List.replicate (2 - (lg_sl ([.ref v0, .int p1])).length) Slot.unset).toArray = ls at hl ⊢
  have hl : lv_has ls 2 [(0, .ref v0), (1, .int p1)] := hl
  unfold fL_size at hf
  refine lv_aload_n hx hb dL_size_0 rfl (lv_at hl 0 rfl) ?_
  refine lv_iconst (v := (4 : Int32)) hx hb dL_size_1 (by decide) ?_
  refine lv_iload_n hx hb dL_size_2 rfl (lv_at hl 1 rfl) ?_
  refine lv_imul hx hb dL_size_3 ?_
  obtain ⟨h_1, hf⟩ := ck hf
  refine va_iald hx hb hE.1 hP 0 0 rfl rfl (vin h_1) dL_size_4 ?_
  refine lv_bipush (v := (9 : Int32)) hx hb dL_size_5 (by decide) ?_
  refine lv_icmp_le (tgt := 14) hx hb dL_size_7 (by decide) (fun c_2 => ?_) (fun c_2 => ?_)
  · have hf := ip c_2 hf
    refine lv_iconst (v := (2 : Int32)) hx hb dL_size_14 (by decide) ?_
    exact p_iret (v := (2 : Int32)) hx hb hr hlocks (Option.some.inj hf) dL_size_15
  · have hf := iq c_2 hf
    refine lv_iconst (v := (3 : Int32)) hx hb dL_size_10 (by decide) ?_
    refine lv_goto (tgt := 15) hx hb dL_size_11 (by decide) ?_
    exact p_iret (v := (3 : Int32)) hx hb hr hlocks (Option.some.inj hf) dL_size_15

def fL_bends_72 (ν : (Nat → Int32)) (ζ : (Nat → Int64)) (ψ : (Nat → Int32)) (p2 p4 : Int32) (v5_72 : Int32) (v6_72 : Int32) : Nat → Int32 → Int32 → Option (Int32)
  | 0, _, _ => none
  | n + 1, v7_72, v8_72 => (if (v6_72 + (1 : Int32)) < v8_72 then (some v7_72) else (if v5_72 < v8_72 then (some v7_72) else ((fL_bend ν ζ ψ p2 v8_72).bind fun r_3 => fL_bends_72 ν ζ ψ p2 p4 v5_72 v6_72 n (v7_72 + r_3) (v8_72 + 1))))
def fL_bends_46 (ν : (Nat → Int32)) (ζ : (Nat → Int64)) (ψ : (Nat → Int32)) (p2 p4 : Int32) (v5_46 : Int32) (v6_46 : Int32) : Option (Int32) := (if p4 ≤ 0 then fL_bends_72 ν ζ ψ p2 p4 v5_46 v6_46 FU (0 : Int32) p4 else ((fL_bend ν ζ ψ p2 (p4 - (1 : Int32))).bind fun r_5 => fL_bends_72 ν ζ ψ p2 p4 v5_46 v6_46 FU r_5 p4))
def fL_bends (ν : (Nat → Int32)) (ζ : (Nat → Int64)) (ψ : (Nat → Int32)) (p2 p4 : Int32) : Option (Int32) := (if inR (((4 : Int32) * p2) + (2 : Int32)) 34 then ((fL_size ν p2).bind fun r_7 => (if (ν (Int32.toNatClampNeg (((4 : Int32) * p2) + (2 : Int32)))) < ((p4 + r_7) - (1 : Int32)) then (some (-1 : Int32)) else (if ((p4 + r_7) - (1 : Int32)) = (ν (Int32.toNatClampNeg (((4 : Int32) * p2) + (2 : Int32)))) then ((fL_closed ν ψ p2).bind fun r_10 => (if r_10 = true then (some (-1 : Int32)) else fL_bends_46 ν ζ ψ p2 p4 (ν (Int32.toNatClampNeg (((4 : Int32) * p2) + (2 : Int32)))) ((p4 + r_7) - (1 : Int32)))) else fL_bends_46 ν ζ ψ p2 p4 (ν (Int32.toNatClampNeg (((4 : Int32) * p2) + (2 : Int32)))) ((p4 + r_7) - (1 : Int32))))) else none)
abbrev rmL_bends : Room := { frames := 2, cells := 0, slots := 0, locals := 50 }
theorem hdL_bends : yL_bends.cls = RL ∧ yL_bends.cls ≠ "java/lang/invoke/MethodHandle" ∧ yL_bends.cls ≠ "java/lang/invoke/VarHandle" ∧ (parseMethodDescriptor yL_bends.desc).map (fun d => d.parameters.length) = some 5 := by decide +kernel
set_option maxHeartbeats 4000000 in
set_option maxRecDepth 100000 in
theorem cL_bends_ok (l : Launch) (g : Gg) (v0 z0 p0 : Nat) (ν : (Nat → Int32)) (ζ : (Nat → Int64)) (ψ : (Nat → Int32)) (p2 p4 : Int32) {r : Int32} (hf : fL_bends ν ζ ψ p2 p4 = some r) : Met l yL_bends wsL_bends rmL_bends (va_Pc [.ref v0, .ref z0, .int p2, .ref p0, .int p4] (PP g (wV g v0 ν ++ (wZ g z0 ζ ++ (wP g p0 ψ))))) (vp_Si (fun r' => r' = r)) 0 0 (fun _ => False) := by
  refine Met.ofW (cc := cL_bends) (maxL := 9) (ret := (some .int)) (by decide) rfl ?_
  intro p e s m args below meth c s₁ B hml hv
  obtain ⟨rfl, hP, hE, hZ⟩ := hv
  have hx := B.exec
  have hb := B.bytes
  have hr := B.returns
  have hts := atoms_spec (ws := wsL_bends) B.pre
  have hown : s.vm.findClass RL = some m.cls := findClass_of_methodNamed B.named
  have hlocks := B.notSynchronized
  have hS : va_S (fun _ => False) s.heap s.heap [] := va_S.rf
  have hl := lv_entry ([.ref v0, .ref z0, .int p2, .ref p0, .int p4]) (n := 9) (Nat.le_of_ble_eq_true rfl)
  rw [lg_entry_eq]
  generalize (lg_sl ([.ref v0, .ref z0, .int p2, .ref p0, .int p4]) ++ List.replicate (9 - (lg_sl ([.ref v0, .ref z0, .int p2, .ref p0, .int p4])).length) Slot.unset).toArray = ls at hl ⊢
  have hl : lv_has ls 9 [(0, .ref v0), (1, .ref z0), (2, .int p2), (3, .ref p0), (4, .int p4)] := hl
  have hB72 : ∀ (v5_72 : Int32) (v6_72 : Int32) (n72 : Nat) (v7_72 : Int32) (v8_72 : Int32) (ls : Array Slot), lv_has ls 9 [(0, .ref v0), (1, .ref z0), (2, .int p2), (3, .ref p0), (5, .int v5_72), (6, .int v6_72), (7, .int v7_72), (8, .int v8_72)] → fL_bends_72 ν ζ ψ p2 p4 v5_72 v6_72 n72 v7_72 v8_72 = some r → W p l e (headSpec wsL_bends rmL_bends).room s m ([.ref v0, .ref z0, .int p2, .ref p0, .int p4] : List Value).toArray below meth c s.heap [] 0 0 (MQ below (vp_Si (fun r' => r' = r)) ([.ref v0, .ref z0, .int p2, .ref p0, .int p4] : List Value).toArray s 0 0 (fun _ => False)) (F0 m 72 ls []) := by
    intro v5_72 v6_72 n72
    induction n72 with
    | zero => intro v7_72 v8_72 ls hl hf; exact nomatch (show (none : Option (Int32)) = some _ from hf)
    | succ n72 ih72 =>
      intro v7_72 v8_72 ls hl hf
      rw [fL_bends_72] at hf
      refine lv_iload hx hb dL_bends_72 (lv_at hl 7 rfl) ?_
      refine lv_iload hx hb dL_bends_74 (lv_at hl 5 rfl) ?_
      refine lv_iconst (v := (1 : Int32)) hx hb dL_bends_76 (by decide) ?_
      refine lv_iadd hx hb dL_bends_77 ?_
      refine lv_icmp_gt (tgt := 108) hx hb dL_bends_78 (by decide) (fun c_1 => ?_) (fun c_1 => ?_)
      · have hf := ip c_1 hf
        refine lv_iload hx hb dL_bends_108 (lv_at hl 6 rfl) ?_
        exact p_iret (v := v7_72) hx hb hr hlocks (Option.some.inj hf) dL_bends_110
      · have hf := iq c_1 hf
        refine lv_iload hx hb dL_bends_81 (lv_at hl 7 rfl) ?_
        refine lv_iload hx hb dL_bends_83 (lv_at hl 4 rfl) ?_
        refine lv_icmp_gt (tgt := 108) hx hb dL_bends_85 (by decide) (fun c_2 => ?_) (fun c_2 => ?_)
        · have hf := ip c_2 hf
          refine lv_iload hx hb dL_bends_108 (lv_at hl 6 rfl) ?_
          exact p_iret (v := v7_72) hx hb hr hlocks (Option.some.inj hf) dL_bends_110
        · have hf := iq c_2 hf
          refine lv_iload hx hb dL_bends_88 (lv_at hl 6 rfl) ?_
          refine lv_aload_n hx hb dL_bends_90 rfl (lv_at hl 0 rfl) ?_
          refine lv_aload_n hx hb dL_bends_91 rfl (lv_at hl 1 rfl) ?_
          refine lv_iload_n hx hb dL_bends_92 rfl (lv_at hl 2 rfl) ?_
          refine lv_aload_n hx hb dL_bends_93 rfl (lv_at hl 3 rfl) ?_
          refine lv_iload hx hb dL_bends_94 (lv_at hl 7 rfl) ?_
          obtain ⟨r_3, e_3, hf⟩ := bo hf
          refine pcallS (W0 := (wV g v0 ν ++ (wZ g z0 ζ ++ (wP g p0 ψ)))) (As := [.ref v0, .ref z0, .int p2, .ref p0, .int v8_72]) (rest := [.int v7_72]) [0, 1, 2] ⟨hx, hb, hml, hown, hts⟩ hP hE hZ hS (cL_bend_ok l g v0 z0 p0 ν ζ ψ p2 v8_72 e_3) (va_cwS 5 hts gL_bends_L_bend rfl rfl rfl hdL_bend.2 ⟨(Nat.le_of_ble_eq_true rfl), (Nat.le_of_ble_eq_true rfl)⟩) rfl rfl hl.1 rfl (Nat.le_of_ble_eq_true rfl) ⟨(Nat.le_of_ble_eq_true rfl), (Nat.le_of_ble_eq_true rfl)⟩ dL_bends_96 ?_
          refine lv_iadd hx hb dL_bends_99 ?_
          refine lv_istore (lv' := [(7, .int (v7_72 + r_3)), (0, .ref v0), (1, .ref z0), (2, .int p2), (3, .ref p0), (5, .int v5_72), (6, .int v6_72), (8, .int v8_72)]) hx hb dL_bends_100 hl (by decide) rfl (fun ls hl => ?_)
          refine lv_iinc (v := (v8_72 + 1)) (lv' := [(8, .int (v8_72 + 1)), (7, .int (v7_72 + r_3)), (0, .ref v0), (1, .ref z0), (2, .int p2), (3, .ref p0), (5, .int v5_72), (6, .int v6_72)]) hx hb dL_bends_102 hl (k := 7) rfl rfl (by decide) rfl (fun ls hl => ?_)
          refine lv_goto (tgt := 72) hx hb dL_bends_105 (by decide) ?_
          exact ih72 (v7_72 + r_3) (v8_72 + 1) ls (lv_sub hl [2, 3, 4, 5, 6, 7, 1, 0] rfl) hf
  have hB46 : ∀ (v5_46 : Int32) (v6_46 : Int32) (ls : Array Slot), lv_has ls 9 [(0, .ref v0), (1, .ref z0), (2, .int p2), (3, .ref p0), (4, .int p4), (5, .int v5_46), (6, .int v6_46)] → fL_bends_46 ν ζ ψ p2 p4 v5_46 v6_46 = some r → W p l e (headSpec wsL_bends rmL_bends).room s m ([.ref v0, .ref z0, .int p2, .ref p0, .int p4] : List Value).toArray below meth c s.heap [] 0 0 (MQ below (vp_Si (fun r' => r' = r)) ([.ref v0, .ref z0, .int p2, .ref p0, .int p4] : List Value).toArray s 0 0 (fun _ => False)) (F0 m 46 ls []) := by
    intro  v5_46 v6_46 ls hl hf
    unfold fL_bends_46 at hf
    refine lv_iload hx hb dL_bends_46 (lv_at hl 4 rfl) ?_
    refine lv_if_le (tgt := 65) hx hb dL_bends_48 (by decide) (fun c_4 => ?_) (fun c_4 => ?_)
    · have hf := ip c_4 hf
      refine lv_iconst (v := (0 : Int32)) hx hb dL_bends_65 (by decide) ?_
      refine lv_istore (lv' := [(7, .int (0 : Int32)), (0, .ref v0), (1, .ref z0), (2, .int p2), (3, .ref p0), (4, .int p4), (5, .int v5_46), (6, .int v6_46)]) hx hb dL_bends_66 hl (by decide) rfl (fun ls hl => ?_)
      refine lv_iload hx hb dL_bends_68 (lv_at hl 5 rfl) ?_
      refine lv_istore (lv' := [(8, .int p4), (7, .int (0 : Int32)), (0, .ref v0), (1, .ref z0), (2, .int p2), (3, .ref p0), (4, .int p4), (5, .int v5_46), (6, .int v6_46)]) hx hb dL_bends_70 hl (by decide) rfl (fun ls hl => ?_)
      exact hB72 v5_46 v6_46 FU (0 : Int32) p4 ls (lv_sub hl [2, 3, 4, 5, 7, 8, 1, 0] rfl) hf
    · have hf := iq c_4 hf
      refine lv_aload_n hx hb dL_bends_51 rfl (lv_at hl 0 rfl) ?_
      refine lv_aload_n hx hb dL_bends_52 rfl (lv_at hl 1 rfl) ?_
      refine lv_iload_n hx hb dL_bends_53 rfl (lv_at hl 2 rfl) ?_
      refine lv_aload_n hx hb dL_bends_54 rfl (lv_at hl 3 rfl) ?_
      refine lv_iload hx hb dL_bends_55 (lv_at hl 4 rfl) ?_
      refine lv_iconst (v := (1 : Int32)) hx hb dL_bends_57 (by decide) ?_
      refine lv_isub hx hb dL_bends_58 ?_
      obtain ⟨r_5, e_5, hf⟩ := bo hf
      refine pcallS (W0 := (wV g v0 ν ++ (wZ g z0 ζ ++ (wP g p0 ψ)))) (As := [.ref v0, .ref z0, .int p2, .ref p0, .int (p4 - (1 : Int32))]) (rest := []) [0, 1, 2] ⟨hx, hb, hml, hown, hts⟩ hP hE hZ hS (cL_bend_ok l g v0 z0 p0 ν ζ ψ p2 (p4 - (1 : Int32)) e_5) (va_cwS 5 hts gL_bends_L_bend rfl rfl rfl hdL_bend.2 ⟨(Nat.le_of_ble_eq_true rfl), (Nat.le_of_ble_eq_true rfl)⟩) rfl rfl hl.1 rfl (Nat.le_of_ble_eq_true rfl) ⟨(Nat.le_of_ble_eq_true rfl), (Nat.le_of_ble_eq_true rfl)⟩ dL_bends_59 ?_
      refine lv_goto (tgt := 66) hx hb dL_bends_62 (by decide) ?_
      refine lv_istore (lv' := [(7, .int r_5), (0, .ref v0), (1, .ref z0), (2, .int p2), (3, .ref p0), (4, .int p4), (5, .int v5_46), (6, .int v6_46)]) hx hb dL_bends_66 hl (by decide) rfl (fun ls hl => ?_)
      refine lv_iload hx hb dL_bends_68 (lv_at hl 5 rfl) ?_
      refine lv_istore (lv' := [(8, .int p4), (7, .int r_5), (0, .ref v0), (1, .ref z0), (2, .int p2), (3, .ref p0), (4, .int p4), (5, .int v5_46), (6, .int v6_46)]) hx hb dL_bends_70 hl (by decide) rfl (fun ls hl => ?_)
      exact hB72 v5_46 v6_46 FU r_5 p4 ls (lv_sub hl [2, 3, 4, 5, 7, 8, 1, 0] rfl) hf
  unfold fL_bends at hf
  refine lv_aload_n hx hb dL_bends_0 rfl (lv_at hl 0 rfl) ?_
  refine lv_iconst (v := (4 : Int32)) hx hb dL_bends_1 (by decide) ?_
  refine lv_iload_n hx hb dL_bends_2 rfl (lv_at hl 2 rfl) ?_
  refine lv_imul hx hb dL_bends_3 ?_
  refine lv_iconst (v := (2 : Int32)) hx hb dL_bends_4 (by decide) ?_
  refine lv_iadd hx hb dL_bends_5 ?_
  obtain ⟨h_6, hf⟩ := ck hf
  refine va_iald hx hb hE.1 hP 0 0 rfl rfl (vin h_6) dL_bends_6 ?_
  refine lv_istore (lv' := [(5, .int (ν (Int32.toNatClampNeg (((4 : Int32) * p2) + (2 : Int32))))), (0, .ref v0), (1, .ref z0), (2, .int p2), (3, .ref p0), (4, .int p4)]) hx hb dL_bends_7 hl (by decide) rfl (fun ls hl => ?_)
  refine lv_iload hx hb dL_bends_9 (lv_at hl 5 rfl) ?_
  refine lv_aload_n hx hb dL_bends_11 rfl (lv_at hl 1 rfl) ?_
  refine lv_iload_n hx hb dL_bends_12 rfl (lv_at hl 3 rfl) ?_
  obtain ⟨r_7, e_7, hf⟩ := bo hf
  refine pcallS (W0 := (wV g v0 ν ++ (wZ g z0 ζ ++ (wP g p0 ψ)))) (As := [.ref v0, .int p2]) (rest := [.int p4]) [0] ⟨hx, hb, hml, hown, hts⟩ hP hE hZ hS (cL_size_ok l g v0 ν p2 e_7) (va_cwS 2 hts gL_bends_L_size rfl rfl rfl hdL_size.2 ⟨(Nat.le_of_ble_eq_true rfl), (Nat.le_of_ble_eq_true rfl)⟩) rfl rfl hl.1 rfl (Nat.le_of_ble_eq_true rfl) ⟨(Nat.le_of_ble_eq_true rfl), (Nat.le_of_ble_eq_true rfl)⟩ dL_bends_13 ?_
  refine lv_iadd hx hb dL_bends_16 ?_
  refine lv_iconst (v := (1 : Int32)) hx hb dL_bends_17 (by decide) ?_
  refine lv_isub hx hb dL_bends_18 ?_
  refine lv_istore (lv' := [(6, .int ((p4 + r_7) - (1 : Int32))), (5, .int (ν (Int32.toNatClampNeg (((4 : Int32) * p2) + (2 : Int32))))), (0, .ref v0), (1, .ref z0), (2, .int p2), (3, .ref p0), (4, .int p4)]) hx hb dL_bends_19 hl (by decide) rfl (fun ls hl => ?_)
  refine lv_iload hx hb dL_bends_21 (lv_at hl 0 rfl) ?_
  refine lv_iload hx hb dL_bends_23 (lv_at hl 1 rfl) ?_
  refine lv_icmp_gt (tgt := 44) hx hb dL_bends_25 (by decide) (fun c_8 => ?_) (fun c_8 => ?_)
  · have hf := ip c_8 hf
    refine lv_iconst (v := (-1 : Int32)) hx hb dL_bends_44 (by decide) ?_
    exact p_iret (v := (-1 : Int32)) hx hb hr hlocks (Option.some.inj hf) dL_bends_45
  · have hf := iq c_8 hf
    refine lv_iload hx hb dL_bends_28 (lv_at hl 0 rfl) ?_
    refine lv_iload hx hb dL_bends_30 (lv_at hl 1 rfl) ?_
    refine lv_icmp_ne (tgt := 46) hx hb dL_bends_32 (by decide) (fun c_9 => ?_) (fun c_9 => ?_)
    · have hf := iq c_9 hf
      exact hB46 (ν (Int32.toNatClampNeg (((4 : Int32) * p2) + (2 : Int32)))) ((p4 + r_7) - (1 : Int32)) ls (lv_sub hl [2, 3, 4, 5, 6, 1, 0] rfl) hf
    · have hf := ip c_9 hf
      refine lv_aload_n hx hb dL_bends_35 rfl (lv_at hl 2 rfl) ?_
      refine lv_iload_n hx hb dL_bends_36 rfl (lv_at hl 4 rfl) ?_
      refine lv_aload_n hx hb dL_bends_37 rfl (lv_at hl 5 rfl) ?_
      obtain ⟨r_10, e_10, hf⟩ := bo hf
      refine pcallS (W0 := (wV g v0 ν ++ (wZ g z0 ζ ++ (wP g p0 ψ)))) (As := [.ref v0, .int p2, .ref p0]) (rest := []) [0, 2] ⟨hx, hb, hml, hown, hts⟩ hP hE hZ hS (cL_closed_ok l g v0 p0 ν ψ p2 e_10) (va_cwS 3 hts gL_bends_L_closed rfl rfl rfl hdL_closed.2 ⟨(Nat.le_of_ble_eq_true rfl), (Nat.le_of_ble_eq_true rfl)⟩) rfl rfl hl.1 rfl (Nat.le_of_ble_eq_true rfl) ⟨(Nat.le_of_ble_eq_true rfl), (Nat.le_of_ble_eq_true rfl)⟩ dL_bends_38 ?_
      refine lv_beq (tgt := 46) hx hb dL_bends_41 (by decide) (fun c_11 => ?_) (fun c_11 => ?_)
      · have hf := iq c_11 hf
        exact hB46 (ν (Int32.toNatClampNeg (((4 : Int32) * p2) + (2 : Int32)))) ((p4 + r_7) - (1 : Int32)) ls (lv_sub hl [2, 3, 4, 5, 6, 1, 0] rfl) hf
      · have hf := ip c_11 hf
        refine lv_iconst (v := (-1 : Int32)) hx hb dL_bends_44 (by decide) ?_
        exact p_iret (v := (-1 : Int32)) hx hb hr hlocks (Option.some.inj hf) dL_bends_45

def fL_gap_30 (p0 p1 : Int32) (v3_30 : Int32) (t0_30 : Int32) : Option (Int32) := (if 0 ≤ v3_30 then (if v3_30 ≤ t0_30 then (some t0_30) else (some v3_30)) else (if (- v3_30) ≤ t0_30 then (some t0_30) else (some (- v3_30))))
def fL_gap (p0 p1 : Int32) : Option (Int32) := (if 0 ≤ ((irm p0 (24 : Int32)) - (irm p1 (24 : Int32))) then fL_gap_30 p0 p1 ((p0 / (24 : Int32)) - (p1 / (24 : Int32))) ((irm p0 (24 : Int32)) - (irm p1 (24 : Int32))) else fL_gap_30 p0 p1 ((p0 / (24 : Int32)) - (p1 / (24 : Int32))) (- ((irm p0 (24 : Int32)) - (irm p1 (24 : Int32)))))
abbrev rmL_gap : Room := { frames := 0, cells := 0, slots := 0, locals := 0 }
theorem hdL_gap : yL_gap.cls = RL ∧ yL_gap.cls ≠ "java/lang/invoke/MethodHandle" ∧ yL_gap.cls ≠ "java/lang/invoke/VarHandle" ∧ (parseMethodDescriptor yL_gap.desc).map (fun d => d.parameters.length) = some 2 := by decide +kernel
set_option maxHeartbeats 4000000 in
set_option maxRecDepth 100000 in
theorem cL_gap_ok (l : Launch) (g : Gg) (p0 p1 : Int32) {r : Int32} (hf : fL_gap p0 p1 = some r) : Met l yL_gap wsL_gap rmL_gap (va_Pc [.int p0, .int p1] (PP g ([] : va_W))) (vp_Si (fun r' => r' = r)) 0 0 (fun _ => False) := by
  refine Met.ofW (cc := cL_gap) (maxL := 4) (ret := (some .int)) (by decide) rfl ?_
  intro p e s m args below meth c s₁ B hml hv
  obtain ⟨rfl, hP, hE, hZ⟩ := hv
  have hx := B.exec
  have hb := B.bytes
  have hr := B.returns
  have hts := atoms_spec (ws := wsL_gap) B.pre
  have hown : s.vm.findClass RL = some m.cls := findClass_of_methodNamed B.named
  have hlocks := B.notSynchronized
  have hS : va_S (fun _ => False) s.heap s.heap [] := va_S.rf
  have hl := lv_entry ([.int p0, .int p1]) (n := 4) (Nat.le_of_ble_eq_true rfl)
  rw [lg_entry_eq]
  generalize (lg_sl ([.int p0, .int p1]) ++ List.replicate (4 - (lg_sl ([.int p0, .int p1])).length) Slot.unset).toArray = ls at hl ⊢
  have hl : lv_has ls 4 [(0, .int p0), (1, .int p1)] := hl
  have hB30 : ∀ (v3_30 : Int32) (t0_30 : Int32) (ls : Array Slot), lv_has ls 4 [(3, .int v3_30)] → fL_gap_30 p0 p1 v3_30 t0_30 = some r → W p l e (headSpec wsL_gap rmL_gap).room s m ([.int p0, .int p1] : List Value).toArray below meth c s.heap [] 0 0 (MQ below (vp_Si (fun r' => r' = r)) ([.int p0, .int p1] : List Value).toArray s 0 0 (fun _ => False)) (F0 m 30 ls [.int t0_30]) := by
    intro  v3_30 t0_30 ls hl hf
    unfold fL_gap_30 at hf
    refine lv_istore_n (lv' := [(2, .int t0_30), (3, .int v3_30)]) hx hb dL_gap_30 rfl hl (by decide) rfl (fun ls hl => ?_)
    refine lv_iload_n hx hb dL_gap_31 rfl (lv_at hl 1 rfl) ?_
    refine lv_if_ge (tgt := 40) hx hb dL_gap_32 (by decide) (fun c_1 => ?_) (fun c_1 => ?_)
    · have hf := ip c_1 hf
      refine lv_iload_n hx hb dL_gap_40 rfl (lv_at hl 1 rfl) ?_
      refine lv_istore_n (lv' := [(3, .int v3_30), (2, .int t0_30)]) hx hb dL_gap_41 rfl hl (by decide) rfl (fun ls hl => ?_)
      refine lv_iload_n hx hb dL_gap_42 rfl (lv_at hl 1 rfl) ?_
      refine lv_iload_n hx hb dL_gap_43 rfl (lv_at hl 0 rfl) ?_
      refine lv_icmp_ge (tgt := 51) hx hb dL_gap_44 (by decide) (fun c_2 => ?_) (fun c_2 => ?_)
      · have hf := ip c_2 hf
        refine lv_iload_n hx hb dL_gap_51 rfl (lv_at hl 1 rfl) ?_
        exact p_iret (v := t0_30) hx hb hr hlocks (Option.some.inj hf) dL_gap_52
      · have hf := iq c_2 hf
        refine lv_iload_n hx hb dL_gap_47 rfl (lv_at hl 0 rfl) ?_
        refine lv_goto (tgt := 52) hx hb dL_gap_48 (by decide) ?_
        exact p_iret (v := v3_30) hx hb hr hlocks (Option.some.inj hf) dL_gap_52
    · have hf := iq c_1 hf
      refine lv_iload_n hx hb dL_gap_35 rfl (lv_at hl 1 rfl) ?_
      refine lv_ineg hx hb dL_gap_36 ?_
      refine lv_goto (tgt := 41) hx hb dL_gap_37 (by decide) ?_
      refine lv_istore_n (lv' := [(3, .int (- v3_30)), (2, .int t0_30)]) hx hb dL_gap_41 rfl hl (by decide) rfl (fun ls hl => ?_)
      refine lv_iload_n hx hb dL_gap_42 rfl (lv_at hl 1 rfl) ?_
      refine lv_iload_n hx hb dL_gap_43 rfl (lv_at hl 0 rfl) ?_
      refine lv_icmp_ge (tgt := 51) hx hb dL_gap_44 (by decide) (fun c_3 => ?_) (fun c_3 => ?_)
      · have hf := ip c_3 hf
        refine lv_iload_n hx hb dL_gap_51 rfl (lv_at hl 1 rfl) ?_
        exact p_iret (v := t0_30) hx hb hr hlocks (Option.some.inj hf) dL_gap_52
      · have hf := iq c_3 hf
        refine lv_iload_n hx hb dL_gap_47 rfl (lv_at hl 0 rfl) ?_
        refine lv_goto (tgt := 52) hx hb dL_gap_48 (by decide) ?_
        exact p_iret (v := (- v3_30)) hx hb hr hlocks (Option.some.inj hf) dL_gap_52
  unfold fL_gap at hf
  refine lv_iload_n hx hb dL_gap_0 rfl (lv_at hl 0 rfl) ?_
  refine lv_bipush (v := (24 : Int32)) hx hb dL_gap_1 (by decide) ?_
  refine lv_irm hx hb dL_gap_3 (by decide) ?_
  refine lv_iload_n hx hb dL_gap_4 rfl (lv_at hl 1 rfl) ?_
  refine lv_bipush (v := (24 : Int32)) hx hb dL_gap_5 (by decide) ?_
  refine lv_irm hx hb dL_gap_7 (by decide) ?_
  refine lv_isub hx hb dL_gap_8 ?_
  refine lv_istore_n (lv' := [(2, .int ((irm p0 (24 : Int32)) - (irm p1 (24 : Int32)))), (0, .int p0), (1, .int p1)]) hx hb dL_gap_9 rfl hl (by decide) rfl (fun ls hl => ?_)
  refine lv_iload_n hx hb dL_gap_10 rfl (lv_at hl 1 rfl) ?_
  refine lv_bipush (v := (24 : Int32)) hx hb dL_gap_11 (by decide) ?_
  refine lv_idiv hx hb dL_gap_13 (by decide) ?_
  refine lv_iload_n hx hb dL_gap_14 rfl (lv_at hl 2 rfl) ?_
  refine lv_bipush (v := (24 : Int32)) hx hb dL_gap_15 (by decide) ?_
  refine lv_idiv hx hb dL_gap_17 (by decide) ?_
  refine lv_isub hx hb dL_gap_18 ?_
  refine lv_istore_n (lv' := [(3, .int ((p0 / (24 : Int32)) - (p1 / (24 : Int32)))), (2, .int ((irm p0 (24 : Int32)) - (irm p1 (24 : Int32)))), (0, .int p0), (1, .int p1)]) hx hb dL_gap_19 rfl hl (by decide) rfl (fun ls hl => ?_)
  refine lv_iload_n hx hb dL_gap_20 rfl (lv_at hl 1 rfl) ?_
  refine lv_if_ge (tgt := 29) hx hb dL_gap_21 (by decide) (fun c_4 => ?_) (fun c_4 => ?_)
  · have hf := ip c_4 hf
    refine lv_iload_n hx hb dL_gap_29 rfl (lv_at hl 1 rfl) ?_
    exact hB30 ((p0 / (24 : Int32)) - (p1 / (24 : Int32))) ((irm p0 (24 : Int32)) - (irm p1 (24 : Int32))) ls (lv_sub hl [0] rfl) hf
  · have hf := iq c_4 hf
    refine lv_iload_n hx hb dL_gap_24 rfl (lv_at hl 1 rfl) ?_
    refine lv_ineg hx hb dL_gap_25 ?_
    refine lv_goto (tgt := 30) hx hb dL_gap_26 (by decide) ?_
    exact hB30 ((p0 / (24 : Int32)) - (p1 / (24 : Int32))) (- ((irm p0 (24 : Int32)) - (irm p1 (24 : Int32)))) ls (lv_sub hl [0] rfl) hf

def fL_far_35 (cap : Nat) (ν : (Nat → Int32)) (ζ : (Nat → Int64)) (ψ : (Nat → Int32)) (p2 p4 p5 : Int32) (θ_22 : (Nat → Int32)) (v8_35 : Int32) (k22 : Int32 → Int32 → Nat → Option (Int32)) : Nat → Int32 → Int32 → Nat → Option (Int32)
  | 0, _, _, _ => none
  | n + 1, v7_35, v9_35, n_35 => ((fL_size ν p5).bind fun r_1 => (if r_1 ≤ v9_35 then k22 v7_35 (v8_35 + 1) n_35 else (if inR (p4 + v8_35) 61 then (if inR (((4 : Int32) * p5) + (3 : Int32)) 34 then (if inR ((ν (Int32.toNatClampNeg (((4 : Int32) * p5) + (3 : Int32)))) + v9_35) 61 then ((fL_gap (ψ (Int32.toNatClampNeg (p4 + v8_35))) (θ_22 (Int32.toNatClampNeg ((ν (Int32.toNatClampNeg (((4 : Int32) * p5) + (3 : Int32)))) + v9_35)))).bind fun r_6 => (if v7_35 ≤ r_6 then fL_far_35 cap ν ζ ψ p2 p4 p5 θ_22 v8_35 k22 n v7_35 (v9_35 + 1) n_35 else fL_far_35 cap ν ζ ψ p2 p4 p5 θ_22 v8_35 k22 n r_6 (v9_35 + 1) n_35)) else none) else none) else none)))
def fL_far_22 (cap : Nat) (ν : (Nat → Int32)) (ζ : (Nat → Int64)) (ψ : (Nat → Int32)) (p2 p4 p5 : Int32) (θ_22 : (Nat → Int32)) : Nat → Int32 → Int32 → Nat → Option (Int32)
  | 0, _, _, _ => none
  | n + 1, v7_22, v8_22, n_22 => ((fL_size ν p2).bind fun r_8 => (if r_8 ≤ v8_22 then (some v7_22) else fL_far_35 cap ν ζ ψ p2 p4 p5 θ_22 v8_22 (fL_far_22 cap ν ζ ψ p2 p4 p5 θ_22 n) FU v7_22 (0 : Int32) n_22))
def fL_far (cap : Nat) (ν : (Nat → Int32)) (ζ : (Nat → Int64)) (ψ : (Nat → Int32)) (p2 p4 p5 : Int32) : Option (Int32) := (if 0 + 1 ≤ cap then ((fL_walks ν ζ (fun _ => (0 : Int32)) p5).bind fun r_11 => fL_far_22 cap ν ζ ψ p2 p4 p5 r_11 FU (99 : Int32) (0 : Int32) (0 + 1)) else none)
abbrev rmL_far (cap : Nat) : Room := { frames := 2, cells := 3 * cap, slots := 61 * cap, locals := 46 }
theorem hdL_far : yL_far.cls = RL ∧ yL_far.cls ≠ "java/lang/invoke/MethodHandle" ∧ yL_far.cls ≠ "java/lang/invoke/VarHandle" ∧ (parseMethodDescriptor yL_far.desc).map (fun d => d.parameters.length) = some 6 := by decide +kernel
theorem naL_far : (.arrayClass .int : Cond) ∈ wsL_far := by decide +kernel
set_option maxHeartbeats 4000000 in
set_option maxRecDepth 100000 in
theorem cL_far_ok (l : Launch) (hl0 : l.stackTraces = false) (g : Gg) (cap : Nat) (v0 z0 p0 : Nat) (ν : (Nat → Int32)) (ζ : (Nat → Int64)) (ψ : (Nat → Int32)) (p2 p4 p5 : Int32) (sz : Nat) {o : Int32} (hf : fL_far cap ν ζ ψ p2 p4 p5 = some o) : Met l yL_far wsL_far (rmL_far cap) (va_Pc [.ref v0, .ref z0, .int p2, .ref p0, .int p4, .int p5] (PM g (wV g v0 ν ++ (wZ g z0 ζ ++ (wP g p0 ψ))) sz)) (va_Qi (fun r' (_ : Unit) => r' = o) (fun _ t => PQ g (wV g v0 ν ++ (wZ g z0 ζ ++ (wP g p0 ψ))) (va_A (wV g v0 ν ++ (wZ g z0 ζ ++ (wP g p0 ψ))) sz) t) (va_A (wV g v0 ν ++ (wZ g z0 ζ ++ (wP g p0 ψ))) sz)) (3 * cap) (61 * cap) (va_A (wV g v0 ν ++ (wZ g z0 ζ ++ (wP g p0 ψ))) sz) := by
  refine Met.ofW (cc := cL_far) (maxL := 11) (ret := (some .int)) (by decide) rfl ?_
  intro p e s m args below meth c s₁ B hml hv
  obtain ⟨rfl, rfl, hP, hD0, hE, hZ⟩ := hv
  have hx := B.exec
  have hb := B.bytes
  have hr := B.returns
  have hts := atoms_spec (ws := wsL_far) B.pre
  have hown : s.vm.findClass RL = some m.cls := findClass_of_methodNamed B.named
  have hlocks := B.notSynchronized
  have hD := hD0.self (sz := s.heap.size)
  generalize hAe : (va_A (wV g v0 ν ++ (wZ g z0 ζ ++ (wP g p0 ψ))) s.heap.size) = A at hD hZ ⊢
  have hA : ∀ q : Nat, s.heap.size ≤ q → A q := fun q h => by rw [← hAe]; exact Or.inr h
  have hS : va_S A s.heap s.heap [] := va_S.rf
  have hP : va_P g.1 vwCl (wV g v0 ν ++ (wZ g z0 ζ ++ (wP g p0 ψ))) s.heap := hP
  have hl := lv_entry ([.ref v0, .ref z0, .int p2, .ref p0, .int p4, .int p5]) (n := 11) (Nat.le_of_ble_eq_true rfl)
  rw [lg_entry_eq]
  generalize (lg_sl ([.ref v0, .ref z0, .int p2, .ref p0, .int p4, .int p5]) ++ List.replicate (11 - (lg_sl ([.ref v0, .ref z0, .int p2, .ref p0, .int p4, .int p5])).length) Slot.unset).toArray = ls at hl ⊢
  refine W.cs (cells' := 3 * 0) (slots' := 61 * 0) rfl rfl ?_
  have hl : lv_has ls 11 [(0, .ref v0), (1, .ref z0), (2, .int p2), (3, .ref p0), (4, .int p4), (5, .int p5)] := hl
  have hB22 : ∀ (q0 : Nat) (θ_22 : (Nat → Int32)) (n22 : Nat) (v7_22 : Int32) (v8_22 : Int32) (n_22 : Nat) (H : Heap) (locs : List Loc) (hn : n_22 ≤ cap) (ls : Array Slot), va_P g.1 vwCl (wV g v0 ν ++ (wZ g z0 ζ ++ (wP g p0 ψ ++ (wP g q0 θ_22)))) H → va_D A (wV g v0 ν ++ (wZ g z0 ζ ++ (wP g p0 ψ ++ (wP g q0 θ_22)))) → va_S A s.heap H locs → lv_has ls 11 [(0, .ref v0), (2, .int p2), (3, .ref p0), (4, .int p4), (5, .int p5), (6, .ref q0), (7, .int v7_22), (8, .int v8_22)] → fL_far_22 cap ν ζ ψ p2 p4 p5 θ_22 n22 v7_22 v8_22 n_22 = some o → W p l e (headSpec wsL_far (rmL_far cap)).room s m ([.ref v0, .ref z0, .int p2, .ref p0, .int p4, .int p5] : List Value).toArray below meth c H locs (3 * n_22) (61 * n_22) (MQ below (va_Qi (fun r' (_ : Unit) => r' = o) (fun _ t => PQ g (wV g v0 ν ++ (wZ g z0 ζ ++ (wP g p0 ψ))) A t) A) ([.ref v0, .ref z0, .int p2, .ref p0, .int p4, .int p5] : List Value).toArray s (3 * cap) (61 * cap) A) (F0 m 22 ls []) := by
    intro q0 θ_22 n22
    induction n22 with
    | zero => intro v7_22 v8_22 n_22 H locs hn ls hP hD hS hl hf; exact nomatch (show (none : Option (Int32)) = some _ from hf)
    | succ n22 ih22 =>
      have hB35 : ∀ (v8_35 : Int32) (n35 : Nat) (v7_35 : Int32) (v9_35 : Int32) (n_35 : Nat) (H : Heap) (locs : List Loc) (hn : n_35 ≤ cap) (ls : Array Slot), va_P g.1 vwCl (wV g v0 ν ++ (wZ g z0 ζ ++ (wP g p0 ψ ++ (wP g q0 θ_22)))) H → va_D A (wV g v0 ν ++ (wZ g z0 ζ ++ (wP g p0 ψ ++ (wP g q0 θ_22)))) → va_S A s.heap H locs → lv_has ls 11 [(0, .ref v0), (2, .int p2), (3, .ref p0), (4, .int p4), (5, .int p5), (6, .ref q0), (7, .int v7_35), (8, .int v8_35), (9, .int v9_35)] → fL_far_35 cap ν ζ ψ p2 p4 p5 θ_22 v8_35 (fL_far_22 cap ν ζ ψ p2 p4 p5 θ_22 n22) n35 v7_35 v9_35 n_35 = some o → W p l e (headSpec wsL_far (rmL_far cap)).room s m ([.ref v0, .ref z0, .int p2, .ref p0, .int p4, .int p5] : List Value).toArray below meth c H locs (3 * n_35) (61 * n_35) (MQ below (va_Qi (fun r' (_ : Unit) => r' = o) (fun _ t => PQ g (wV g v0 ν ++ (wZ g z0 ζ ++ (wP g p0 ψ))) A t) A) ([.ref v0, .ref z0, .int p2, .ref p0, .int p4, .int p5] : List Value).toArray s (3 * cap) (61 * cap) A) (F0 m 35 ls []) := by
        intro v8_35 n35
        induction n35 with
        | zero => intro v7_35 v9_35 n_35 H locs hn ls hP hD hS hl hf; exact nomatch (show (none : Option (Int32)) = some _ from hf)
        | succ n35 ih35 =>
          intro v7_35 v9_35 n_35 H locs hn ls hP hD hS hl hf
          rw [fL_far_35] at hf
          refine lv_iload hx hb dL_far_35 (lv_at hl 8 rfl) ?_
          refine lv_aload_n hx hb dL_far_37 rfl (lv_at hl 0 rfl) ?_
          refine lv_iload hx hb dL_far_38 (lv_at hl 4 rfl) ?_
          obtain ⟨r_1, e_1, hf⟩ := bo hf
          refine pcallS (W0 := (wV g v0 ν ++ (wZ g z0 ζ ++ (wP g p0 ψ ++ (wP g q0 θ_22))))) (As := [.ref v0, .int p5]) (rest := [.int v9_35]) [0] ⟨hx, hb, hml, hown, hts⟩ hP hE hZ hS (cL_size_ok l g v0 ν p5 e_1) (va_cwS 2 hts gL_far_L_size rfl rfl rfl hdL_size.2 ⟨(Nat.le_of_ble_eq_true rfl), (Nat.le_of_ble_eq_true rfl)⟩) rfl rfl hl.1 rfl (Nat.le_of_ble_eq_true rfl) ⟨(k3 hn), (k61 hn)⟩ dL_far_40 ?_
          refine lv_icmp_ge (tgt := 94) hx hb dL_far_43 (by decide) (fun c_2 => ?_) (fun c_2 => ?_)
          · have hf := ip c_2 hf
            refine lv_iinc (v := (v8_35 + 1)) (lv' := [(8, .int (v8_35 + 1)), (0, .ref v0), (2, .int p2), (3, .ref p0), (4, .int p4), (5, .int p5), (6, .ref q0), (7, .int v7_35), (9, .int v9_35)]) hx hb dL_far_94 hl (k := 7) rfl rfl (by decide) rfl (fun ls hl => ?_)
            refine lv_goto (tgt := 22) hx hb dL_far_97 (by decide) ?_
            exact ih22 v7_35 (v8_35 + 1) n_35 _ _ hn ls hP hD hS (lv_sub hl [1, 2, 3, 4, 5, 6, 7, 0] rfl) hf
          · have hf := iq c_2 hf
            refine lv_aload_n hx hb dL_far_46 rfl (lv_at hl 2 rfl) ?_
            refine lv_iload hx hb dL_far_47 (lv_at hl 3 rfl) ?_
            refine lv_iload hx hb dL_far_49 (lv_at hl 7 rfl) ?_
            refine lv_iadd hx hb dL_far_51 ?_
            obtain ⟨h_3, hf⟩ := ck hf
            refine va_iald hx hb hE.1 hP 2 0 rfl rfl (vin h_3) dL_far_52 ?_
            refine lv_aload hx hb dL_far_53 (lv_at hl 5 rfl) ?_
            refine lv_aload_n hx hb dL_far_55 rfl (lv_at hl 0 rfl) ?_
            refine lv_iconst (v := (4 : Int32)) hx hb dL_far_56 (by decide) ?_
            refine lv_iload hx hb dL_far_57 (lv_at hl 4 rfl) ?_
            refine lv_imul hx hb dL_far_59 ?_
            refine lv_iconst (v := (3 : Int32)) hx hb dL_far_60 (by decide) ?_
            refine lv_iadd hx hb dL_far_61 ?_
            obtain ⟨h_4, hf⟩ := ck hf
            refine va_iald hx hb hE.1 hP 0 0 rfl rfl (vin h_4) dL_far_62 ?_
            refine lv_iload hx hb dL_far_63 (lv_at hl 8 rfl) ?_
            refine lv_iadd hx hb dL_far_65 ?_
            obtain ⟨h_5, hf⟩ := ck hf
            refine va_iald hx hb hE.1 hP 3 0 rfl rfl (vin h_5) dL_far_66 ?_
            obtain ⟨r_6, e_6, hf⟩ := bo hf
            refine pcallS (W0 := (wV g v0 ν ++ (wZ g z0 ζ ++ (wP g p0 ψ ++ (wP g q0 θ_22))))) (As := [.int (ψ (Int32.toNatClampNeg (p4 + v8_35))), .int (θ_22 (Int32.toNatClampNeg ((ν (Int32.toNatClampNeg (((4 : Int32) * p5) + (3 : Int32)))) + v9_35)))]) (rest := []) [] ⟨hx, hb, hml, hown, hts⟩ hP hE hZ hS (cL_gap_ok l g  (ψ (Int32.toNatClampNeg (p4 + v8_35))) (θ_22 (Int32.toNatClampNeg ((ν (Int32.toNatClampNeg (((4 : Int32) * p5) + (3 : Int32)))) + v9_35))) e_6) (va_cwS 2 hts gL_far_L_gap rfl rfl rfl hdL_gap.2 ⟨(Nat.le_of_ble_eq_true rfl), (Nat.le_of_ble_eq_true rfl)⟩) rfl rfl hl.1 rfl (Nat.le_of_ble_eq_true rfl) ⟨(k3 hn), (k61 hn)⟩ dL_far_67 ?_
            refine lv_istore (lv' := [(10, .int r_6), (0, .ref v0), (2, .int p2), (3, .ref p0), (4, .int p4), (5, .int p5), (6, .ref q0), (7, .int v7_35), (8, .int v8_35), (9, .int v9_35)]) hx hb dL_far_70 hl (by decide) rfl (fun ls hl => ?_)
            refine lv_iload hx hb dL_far_72 (lv_at hl 0 rfl) ?_
            refine lv_iload hx hb dL_far_74 (lv_at hl 7 rfl) ?_
            refine lv_icmp_ge (tgt := 84) hx hb dL_far_76 (by decide) (fun c_7 => ?_) (fun c_7 => ?_)
            · have hf := ip c_7 hf
              refine lv_iload hx hb dL_far_84 (lv_at hl 7 rfl) ?_
              refine lv_istore (lv' := [(7, .int v7_35), (10, .int r_6), (0, .ref v0), (2, .int p2), (3, .ref p0), (4, .int p4), (5, .int p5), (6, .ref q0), (8, .int v8_35), (9, .int v9_35)]) hx hb dL_far_86 hl (by decide) rfl (fun ls hl => ?_)
              refine lv_iinc (v := (v9_35 + 1)) (lv' := [(9, .int (v9_35 + 1)), (7, .int v7_35), (10, .int r_6), (0, .ref v0), (2, .int p2), (3, .ref p0), (4, .int p4), (5, .int p5), (6, .ref q0), (8, .int v8_35)]) hx hb dL_far_88 hl (k := 9) rfl rfl (by decide) rfl (fun ls hl => ?_)
              refine lv_goto (tgt := 35) hx hb dL_far_91 (by decide) ?_
              exact ih35 v7_35 (v9_35 + 1) n_35 _ _ hn ls hP hD hS (lv_sub hl [3, 4, 5, 6, 7, 8, 1, 9, 0] rfl) hf
            · have hf := iq c_7 hf
              refine lv_iload hx hb dL_far_79 (lv_at hl 0 rfl) ?_
              refine lv_goto (tgt := 86) hx hb dL_far_81 (by decide) ?_
              refine lv_istore (lv' := [(7, .int r_6), (10, .int r_6), (0, .ref v0), (2, .int p2), (3, .ref p0), (4, .int p4), (5, .int p5), (6, .ref q0), (8, .int v8_35), (9, .int v9_35)]) hx hb dL_far_86 hl (by decide) rfl (fun ls hl => ?_)
              refine lv_iinc (v := (v9_35 + 1)) (lv' := [(9, .int (v9_35 + 1)), (7, .int r_6), (10, .int r_6), (0, .ref v0), (2, .int p2), (3, .ref p0), (4, .int p4), (5, .int p5), (6, .ref q0), (8, .int v8_35)]) hx hb dL_far_88 hl (k := 9) rfl rfl (by decide) rfl (fun ls hl => ?_)
              refine lv_goto (tgt := 35) hx hb dL_far_91 (by decide) ?_
              exact ih35 r_6 (v9_35 + 1) n_35 _ _ hn ls hP hD hS (lv_sub hl [3, 4, 5, 6, 7, 8, 1, 9, 0] rfl) hf
      intro v7_22 v8_22 n_22 H locs hn ls hP hD hS hl hf
      rw [fL_far_22] at hf
      refine lv_iload hx hb dL_far_22 (lv_at hl 7 rfl) ?_
      refine lv_aload_n hx hb dL_far_24 rfl (lv_at hl 0 rfl) ?_
      refine lv_iload_n hx hb dL_far_25 rfl (lv_at hl 1 rfl) ?_
      obtain ⟨r_8, e_8, hf⟩ := bo hf
      refine pcallS (W0 := (wV g v0 ν ++ (wZ g z0 ζ ++ (wP g p0 ψ ++ (wP g q0 θ_22))))) (As := [.ref v0, .int p2]) (rest := [.int v8_22]) [0] ⟨hx, hb, hml, hown, hts⟩ hP hE hZ hS (cL_size_ok l g v0 ν p2 e_8) (va_cwS 2 hts gL_far_L_size rfl rfl rfl hdL_size.2 ⟨(Nat.le_of_ble_eq_true rfl), (Nat.le_of_ble_eq_true rfl)⟩) rfl rfl hl.1 rfl (Nat.le_of_ble_eq_true rfl) ⟨(k3 hn), (k61 hn)⟩ dL_far_26 ?_
      refine lv_icmp_ge (tgt := 100) hx hb dL_far_29 (by decide) (fun c_9 => ?_) (fun c_9 => ?_)
      · have hf := ip c_9 hf
        refine lv_iload hx hb dL_far_100 (lv_at hl 6 rfl) ?_
        have ho := Option.some.inj hf
        subst ho
        have hP := hP.sub (ws' := (wV g v0 ν ++ (wZ g z0 ζ ++ (wP g p0 ψ)))) [0, 1, 2] rfl
        have hD := hD.sub (ws' := (wV g v0 ν ++ (wZ g z0 ζ ++ (wP g p0 ψ)))) [0, 1, 2] (by decide) rfl
        refine W.widen (k := 3 * cap) (n := 61 * cap) (k3 hn) (k61 hn) ?_
        exact m_iret (v := v7_22) hx hb hr hlocks hP hD hS rfl dL_far_102
      · have hf := iq c_9 hf
        refine lv_iconst (v := (0 : Int32)) hx hb dL_far_32 (by decide) ?_
        refine lv_istore (lv' := [(9, .int (0 : Int32)), (0, .ref v0), (2, .int p2), (3, .ref p0), (4, .int p4), (5, .int p5), (6, .ref q0), (7, .int v7_22), (8, .int v8_22)]) hx hb dL_far_33 hl (by decide) rfl (fun ls hl => ?_)
        exact hB35 v8_22 FU v7_22 (0 : Int32) n_22 _ _ hn ls hP hD hS (lv_sub hl [1, 2, 3, 4, 5, 6, 7, 8, 0] rfl) hf
  unfold fL_far at hf
  refine lv_bipush (v := (61 : Int32)) hx hb dL_far_0 (by decide) ?_
  obtain ⟨h_10, hf⟩ := ck hf
  refine newaI (N' := 61) (W0 := (wV g v0 ν ++ (wZ g z0 ζ ++ (wP g p0 ψ)))) hx hb (hts _ naL_far) hE hP hD hS hA (by decide) (by decide) (Nat.le_of_ble_eq_true rfl) (ka3 h_10) (ka61 h_10) dL_far_2 (fun q0 H hP hD hS => ?_)
  have hP : va_P g.1 vwCl (wV g v0 ν ++ (wZ g z0 ζ ++ (wP g p0 ψ ++ (wP g q0 (fun _ => (0 : Int32)))))) H := hP
  have hD : va_D A (wV g v0 ν ++ (wZ g z0 ζ ++ (wP g p0 ψ ++ (wP g q0 (fun _ => (0 : Int32)))))) := hD
  refine W.widen (k := 3 * (0 + 1)) (n := 61 * (0 + 1)) (by omega) (by omega) ?_
  refine lv_astore (lv' := [(6, .ref q0), (0, .ref v0), (1, .ref z0), (2, .int p2), (3, .ref p0), (4, .int p4), (5, .int p5)]) hx hb dL_far_4 hl (by decide) rfl (fun ls hl => ?_)
  refine lv_aload_n hx hb dL_far_6 rfl (lv_at hl 1 rfl) ?_
  refine lv_aload_n hx hb dL_far_7 rfl (lv_at hl 2 rfl) ?_
  refine lv_iload hx hb dL_far_8 (lv_at hl 6 rfl) ?_
  refine lv_aload hx hb dL_far_10 (lv_at hl 0 rfl) ?_
  obtain ⟨r_11, e_11, hf⟩ := bo hf
  refine mcallSv (W0 := (wV g v0 ν ++ (wZ g z0 ζ ++ (wP g p0 ψ ++ (wP g q0 (fun _ => (0 : Int32))))))) (Wc := (wV g v0 ν ++ (wZ g z0 ζ ++ (wP g q0 (fun _ => (0 : Int32)))))) (Wr := (wP g p0 ψ)) (W1 := (wV g v0 ν ++ (wZ g z0 ζ ++ (wP g q0 r_11)))) (W2 := (wV g v0 ν ++ (wZ g z0 ζ ++ (wP g p0 ψ ++ (wP g q0 r_11))))) (As := [.ref v0, .ref z0, .int p5, .ref q0]) (rest := []) [0, 1, 3] [2] [1, 2, 0, 3] ⟨hx, hb, hml, hown, hts⟩ hP hD hE hZ hS hA (cL_walks_ok l g  v0 z0 q0 ν ζ (fun _ => (0 : Int32)) p5 _ e_11) (va_cwS 4 hts gL_far_L_walks rfl rfl rfl hdL_walks.2 ⟨(Nat.le_of_ble_eq_true rfl), (Nat.le_of_ble_eq_true rfl)⟩) rfl rfl rfl (by decide) (by decide) (by decide) (by decide) rfl hl.1 rfl (Nat.le_of_ble_eq_true rfl) ⟨(k3 h_10), (k61 h_10)⟩ dL_far_12 (fun H locs hP hD hS => ?_)
  refine W.cs (cells' := 3 * (0 + 1)) (slots' := 61 * (0 + 1)) (Nat.add_zero _) (Nat.add_zero _) ?_
  refine lv_bipush (v := (99 : Int32)) hx hb dL_far_15 (by decide) ?_
  refine lv_istore (lv' := [(7, .int (99 : Int32)), (6, .ref q0), (0, .ref v0), (1, .ref z0), (2, .int p2), (3, .ref p0), (4, .int p4), (5, .int p5)]) hx hb dL_far_17 hl (by decide) rfl (fun ls hl => ?_)
  refine lv_iconst (v := (0 : Int32)) hx hb dL_far_19 (by decide) ?_
  refine lv_istore (lv' := [(8, .int (0 : Int32)), (7, .int (99 : Int32)), (6, .ref q0), (0, .ref v0), (1, .ref z0), (2, .int p2), (3, .ref p0), (4, .int p4), (5, .int p5)]) hx hb dL_far_20 hl (by decide) rfl (fun ls hl => ?_)
  exact hB22 q0 r_11 FU (99 : Int32) (0 : Int32) (0 + 1) _ _ h_10 ls hP hD hS (lv_sub hl [3, 5, 6, 7, 8, 2, 1, 0] rfl) hf

def fL_free_49 (cap : Nat) (ν : (Nat → Int32)) (ζ : (Nat → Int64)) (ψ : (Nat → Int32)) (p2 p4 : Int32) (k7 : Int32 → Int32 → Nat → Option (Int32)) (v5_49 : Int32) (v6_49 : Int32) (t0_49 : Int32) (n_49 : Nat) : Option (Int32) := (if v5_49 ≤ t0_49 then k7 v5_49 (v6_49 + 1) n_49 else k7 t0_49 (v6_49 + 1) n_49)
def fL_free_7 (cap : Nat) (ν : (Nat → Int32)) (ζ : (Nat → Int64)) (ψ : (Nat → Int32)) (p2 p4 : Int32) : Nat → Int32 → Int32 → Nat → Option (Int32)
  | 0, _, _, _ => none
  | n + 1, v5_7, v6_7, n_7 => (if (ν (Int32.toNatClampNeg (32 : Int32))) ≤ v6_7 then (some v5_7) else (if v6_7 = p2 then fL_free_49 cap ν ζ ψ p2 p4 (fL_free_7 cap ν ζ ψ p2 p4 n) v5_7 v6_7 (99 : Int32) n_7 else (if inR (((4 : Int32) * v6_7) + (3 : Int32)) 34 then (if 0 ≤ (ν (Int32.toNatClampNeg (((4 : Int32) * v6_7) + (3 : Int32)))) then (if n_7 + 1 ≤ cap then ((fL_far 1 ν ζ ψ p2 p4 v6_7).bind fun r_6 => fL_free_49 cap ν ζ ψ p2 p4 (fL_free_7 cap ν ζ ψ p2 p4 n) v5_7 v6_7 r_6 (n_7 + 1)) else none) else fL_free_49 cap ν ζ ψ p2 p4 (fL_free_7 cap ν ζ ψ p2 p4 n) v5_7 v6_7 (99 : Int32) n_7) else none)))
def fL_free (cap : Nat) (ν : (Nat → Int32)) (ζ : (Nat → Int64)) (ψ : (Nat → Int32)) (p2 p4 : Int32) : Option (Int32) := fL_free_7 cap ν ζ ψ p2 p4 FU (99 : Int32) (0 : Int32) 0
abbrev rmL_free (cap : Nat) : Room := { frames := 3, cells := 3 * cap, slots := 61 * cap, locals := 76 }
theorem hdL_free : yL_free.cls = RL ∧ yL_free.cls ≠ "java/lang/invoke/MethodHandle" ∧ yL_free.cls ≠ "java/lang/invoke/VarHandle" ∧ (parseMethodDescriptor yL_free.desc).map (fun d => d.parameters.length) = some 5 := by decide +kernel
set_option maxHeartbeats 4000000 in
set_option maxRecDepth 100000 in
theorem cL_free_ok (l : Launch) (hl0 : l.stackTraces = false) (g : Gg) (cap : Nat) (v0 z0 p0 : Nat) (ν : (Nat → Int32)) (ζ : (Nat → Int64)) (ψ : (Nat → Int32)) (p2 p4 : Int32) (sz : Nat) {o : Int32} (hf : fL_free cap ν ζ ψ p2 p4 = some o) : Met l yL_free wsL_free (rmL_free cap) (va_Pc [.ref v0, .ref z0, .int p2, .ref p0, .int p4] (PM g (wV g v0 ν ++ (wZ g z0 ζ ++ (wP g p0 ψ))) sz)) (va_Qi (fun r' (_ : Unit) => r' = o) (fun _ t => PQ g (wV g v0 ν ++ (wZ g z0 ζ ++ (wP g p0 ψ))) (va_A (wV g v0 ν ++ (wZ g z0 ζ ++ (wP g p0 ψ))) sz) t) (va_A (wV g v0 ν ++ (wZ g z0 ζ ++ (wP g p0 ψ))) sz)) (3 * cap) (61 * cap) (va_A (wV g v0 ν ++ (wZ g z0 ζ ++ (wP g p0 ψ))) sz) := by
  refine Met.ofW (cc := cL_free) (maxL := 8) (ret := (some .int)) (by decide) rfl ?_
  intro p e s m args below meth c s₁ B hml hv
  obtain ⟨rfl, rfl, hP, hD0, hE, hZ⟩ := hv
  have hx := B.exec
  have hb := B.bytes
  have hr := B.returns
  have hts := atoms_spec (ws := wsL_free) B.pre
  have hown : s.vm.findClass RL = some m.cls := findClass_of_methodNamed B.named
  have hlocks := B.notSynchronized
  have hD := hD0.self (sz := s.heap.size)
  generalize hAe : (va_A (wV g v0 ν ++ (wZ g z0 ζ ++ (wP g p0 ψ))) s.heap.size) = A at hD hZ ⊢
  have hA : ∀ q : Nat, s.heap.size ≤ q → A q := fun q h => by rw [← hAe]; exact Or.inr h
  have hS : va_S A s.heap s.heap [] := va_S.rf
  have hP : va_P g.1 vwCl (wV g v0 ν ++ (wZ g z0 ζ ++ (wP g p0 ψ))) s.heap := hP
  have hl := lv_entry ([.ref v0, .ref z0, .int p2, .ref p0, .int p4]) (n := 8) (Nat.le_of_ble_eq_true rfl)
  rw [lg_entry_eq]
  generalize (lg_sl ([.ref v0, .ref z0, .int p2, .ref p0, .int p4]) ++ List.replicate (8 - (lg_sl ([.ref v0, .ref z0, .int p2, .ref p0, .int p4])).length) Slot.unset).toArray = ls at hl ⊢
  refine W.cs (cells' := 3 * 0) (slots' := 61 * 0) rfl rfl ?_
  have hl : lv_has ls 8 [(0, .ref v0), (1, .ref z0), (2, .int p2), (3, .ref p0), (4, .int p4)] := hl
  have hB7 : ∀ (n7 : Nat) (v5_7 : Int32) (v6_7 : Int32) (n_7 : Nat) (H : Heap) (locs : List Loc) (hn : n_7 ≤ cap) (ls : Array Slot), va_P g.1 vwCl (wV g v0 ν ++ (wZ g z0 ζ ++ (wP g p0 ψ))) H → va_D A (wV g v0 ν ++ (wZ g z0 ζ ++ (wP g p0 ψ))) → va_S A s.heap H locs → lv_has ls 8 [(0, .ref v0), (1, .ref z0), (2, .int p2), (3, .ref p0), (4, .int p4), (5, .int v5_7), (6, .int v6_7)] → fL_free_7 cap ν ζ ψ p2 p4 n7 v5_7 v6_7 n_7 = some o → W p l e (headSpec wsL_free (rmL_free cap)).room s m ([.ref v0, .ref z0, .int p2, .ref p0, .int p4] : List Value).toArray below meth c H locs (3 * n_7) (61 * n_7) (MQ below (va_Qi (fun r' (_ : Unit) => r' = o) (fun _ t => PQ g (wV g v0 ν ++ (wZ g z0 ζ ++ (wP g p0 ψ))) A t) A) ([.ref v0, .ref z0, .int p2, .ref p0, .int p4] : List Value).toArray s (3 * cap) (61 * cap) A) (F0 m 7 ls []) := by
    intro  n7
    induction n7 with
    | zero => intro v5_7 v6_7 n_7 H locs hn ls hP hD hS hl hf; exact nomatch (show (none : Option (Int32)) = some _ from hf)
    | succ n7 ih7 =>
      have hB49 : ∀ (v5_49 : Int32) (v6_49 : Int32) (t0_49 : Int32) (n_49 : Nat) (H : Heap) (locs : List Loc) (hn : n_49 ≤ cap) (ls : Array Slot), va_P g.1 vwCl (wV g v0 ν ++ (wZ g z0 ζ ++ (wP g p0 ψ))) H → va_D A (wV g v0 ν ++ (wZ g z0 ζ ++ (wP g p0 ψ))) → va_S A s.heap H locs → lv_has ls 8 [(0, .ref v0), (1, .ref z0), (2, .int p2), (3, .ref p0), (4, .int p4), (5, .int v5_49), (6, .int v6_49)] → fL_free_49 cap ν ζ ψ p2 p4 (fL_free_7 cap ν ζ ψ p2 p4 n7) v5_49 v6_49 t0_49 n_49 = some o → W p l e (headSpec wsL_free (rmL_free cap)).room s m ([.ref v0, .ref z0, .int p2, .ref p0, .int p4] : List Value).toArray below meth c H locs (3 * n_49) (61 * n_49) (MQ below (va_Qi (fun r' (_ : Unit) => r' = o) (fun _ t => PQ g (wV g v0 ν ++ (wZ g z0 ζ ++ (wP g p0 ψ))) A t) A) ([.ref v0, .ref z0, .int p2, .ref p0, .int p4] : List Value).toArray s (3 * cap) (61 * cap) A) (F0 m 49 ls [.int t0_49]) := by
        intro  v5_49 v6_49 t0_49 n_49 H locs hn ls hP hD hS hl hf
        unfold fL_free_49 at hf
        refine lv_istore (lv' := [(7, .int t0_49), (0, .ref v0), (1, .ref z0), (2, .int p2), (3, .ref p0), (4, .int p4), (5, .int v5_49), (6, .int v6_49)]) hx hb dL_free_49 hl (by decide) rfl (fun ls hl => ?_)
        refine lv_iload hx hb dL_free_51 (lv_at hl 0 rfl) ?_
        refine lv_iload hx hb dL_free_53 (lv_at hl 6 rfl) ?_
        refine lv_icmp_ge (tgt := 63) hx hb dL_free_55 (by decide) (fun c_1 => ?_) (fun c_1 => ?_)
        · have hf := ip c_1 hf
          refine lv_iload hx hb dL_free_63 (lv_at hl 6 rfl) ?_
          refine lv_istore (lv' := [(5, .int v5_49), (7, .int t0_49), (0, .ref v0), (1, .ref z0), (2, .int p2), (3, .ref p0), (4, .int p4), (6, .int v6_49)]) hx hb dL_free_65 hl (by decide) rfl (fun ls hl => ?_)
          refine lv_iinc (v := (v6_49 + 1)) (lv' := [(6, .int (v6_49 + 1)), (5, .int v5_49), (7, .int t0_49), (0, .ref v0), (1, .ref z0), (2, .int p2), (3, .ref p0), (4, .int p4)]) hx hb dL_free_67 hl (k := 7) rfl rfl (by decide) rfl (fun ls hl => ?_)
          refine lv_goto (tgt := 7) hx hb dL_free_70 (by decide) ?_
          exact ih7 v5_49 (v6_49 + 1) n_49 _ _ hn ls hP hD hS (lv_sub hl [3, 4, 5, 6, 7, 1, 0] rfl) hf
        · have hf := iq c_1 hf
          refine lv_iload hx hb dL_free_58 (lv_at hl 0 rfl) ?_
          refine lv_goto (tgt := 65) hx hb dL_free_60 (by decide) ?_
          refine lv_istore (lv' := [(5, .int t0_49), (7, .int t0_49), (0, .ref v0), (1, .ref z0), (2, .int p2), (3, .ref p0), (4, .int p4), (6, .int v6_49)]) hx hb dL_free_65 hl (by decide) rfl (fun ls hl => ?_)
          refine lv_iinc (v := (v6_49 + 1)) (lv' := [(6, .int (v6_49 + 1)), (5, .int t0_49), (7, .int t0_49), (0, .ref v0), (1, .ref z0), (2, .int p2), (3, .ref p0), (4, .int p4)]) hx hb dL_free_67 hl (k := 7) rfl rfl (by decide) rfl (fun ls hl => ?_)
          refine lv_goto (tgt := 7) hx hb dL_free_70 (by decide) ?_
          exact ih7 t0_49 (v6_49 + 1) n_49 _ _ hn ls hP hD hS (lv_sub hl [3, 4, 5, 6, 7, 1, 0] rfl) hf
      intro v5_7 v6_7 n_7 H locs hn ls hP hD hS hl hf
      rw [fL_free_7] at hf
      refine lv_iload hx hb dL_free_7 (lv_at hl 6 rfl) ?_
      refine lv_aload_n hx hb dL_free_9 rfl (lv_at hl 0 rfl) ?_
      refine lv_bipush (v := (32 : Int32)) hx hb dL_free_10 (by decide) ?_
      refine va_iald hx hb hE.1 hP 0 0 rfl rfl (vin (by decide)) dL_free_12 ?_
      refine lv_icmp_ge (tgt := 73) hx hb dL_free_13 (by decide) (fun c_2 => ?_) (fun c_2 => ?_)
      · have hf := ip c_2 hf
        refine lv_iload hx hb dL_free_73 (lv_at hl 5 rfl) ?_
        have ho := Option.some.inj hf
        subst ho
        refine W.widen (k := 3 * cap) (n := 61 * cap) (k3 hn) (k61 hn) ?_
        exact m_iret (v := v5_7) hx hb hr hlocks hP hD hS rfl dL_free_75
      · have hf := iq c_2 hf
        refine lv_iload hx hb dL_free_16 (lv_at hl 6 rfl) ?_
        refine lv_iload_n hx hb dL_free_18 rfl (lv_at hl 2 rfl) ?_
        refine lv_icmp_eq (tgt := 33) hx hb dL_free_19 (by decide) (fun c_3 => ?_) (fun c_3 => ?_)
        · have hf := ip c_3 hf
          refine lv_bipush (v := (99 : Int32)) hx hb dL_free_33 (by decide) ?_
          refine lv_goto (tgt := 49) hx hb dL_free_35 (by decide) ?_
          exact hB49 v5_7 v6_7 (99 : Int32) n_7 _ _ hn ls hP hD hS (lv_sub hl [0, 1, 2, 3, 4, 5, 6] rfl) hf
        · have hf := iq c_3 hf
          refine lv_aload_n hx hb dL_free_22 rfl (lv_at hl 0 rfl) ?_
          refine lv_iconst (v := (4 : Int32)) hx hb dL_free_23 (by decide) ?_
          refine lv_iload hx hb dL_free_24 (lv_at hl 6 rfl) ?_
          refine lv_imul hx hb dL_free_26 ?_
          refine lv_iconst (v := (3 : Int32)) hx hb dL_free_27 (by decide) ?_
          refine lv_iadd hx hb dL_free_28 ?_
          obtain ⟨h_4, hf⟩ := ck hf
          refine va_iald hx hb hE.1 hP 0 0 rfl rfl (vin h_4) dL_free_29 ?_
          refine lv_if_ge (tgt := 38) hx hb dL_free_30 (by decide) (fun c_5 => ?_) (fun c_5 => ?_)
          · have hf := ip c_5 hf
            refine lv_aload_n hx hb dL_free_38 rfl (lv_at hl 0 rfl) ?_
            refine lv_aload_n hx hb dL_free_39 rfl (lv_at hl 1 rfl) ?_
            refine lv_iload_n hx hb dL_free_40 rfl (lv_at hl 2 rfl) ?_
            refine lv_aload_n hx hb dL_free_41 rfl (lv_at hl 3 rfl) ?_
            refine lv_iload hx hb dL_free_42 (lv_at hl 4 rfl) ?_
            refine lv_iload hx hb dL_free_44 (lv_at hl 6 rfl) ?_
            obtain ⟨h_6, hf⟩ := ck hf
            obtain ⟨r_6, e_6, hf⟩ := bo hf
            refine mcallSi (W0 := (wV g v0 ν ++ (wZ g z0 ζ ++ (wP g p0 ψ)))) (Wc := (wV g v0 ν ++ (wZ g z0 ζ ++ (wP g p0 ψ)))) (Wr := ([] : va_W)) (W1 := (wV g v0 ν ++ (wZ g z0 ζ ++ (wP g p0 ψ)))) (W2 := (wV g v0 ν ++ (wZ g z0 ζ ++ (wP g p0 ψ)))) (As := [.ref v0, .ref z0, .int p2, .ref p0, .int p4, .int v6_7]) (rest := []) [0, 1, 2] [] [0, 1, 2] ⟨hx, hb, hml, hown, hts⟩ hP hD hE hZ hS hA (cL_far_ok l hl0 g 1 v0 z0 p0 ν ζ ψ p2 p4 v6_7 _ e_6) (va_cwS 6 hts gL_free_L_far rfl rfl rfl hdL_far.2 ⟨(Nat.le_of_ble_eq_true rfl), (Nat.le_of_ble_eq_true rfl)⟩) rfl rfl rfl (by decide) (by decide) (by decide) (by decide) rfl hl.1 rfl (Nat.le_of_ble_eq_true rfl) ⟨(kc3 h_6), (kc61 h_6)⟩ dL_free_46 (fun H locs hP hD hS => ?_)
            refine W.widen (k := 3 * (n_7 + 1)) (n := 61 * (n_7 + 1)) (by omega) (by omega) ?_
            exact hB49 v5_7 v6_7 r_6 (n_7 + 1) _ _ h_6 ls hP hD hS (lv_sub hl [0, 1, 2, 3, 4, 5, 6] rfl) hf
          · have hf := iq c_5 hf
            refine lv_bipush (v := (99 : Int32)) hx hb dL_free_33 (by decide) ?_
            refine lv_goto (tgt := 49) hx hb dL_free_35 (by decide) ?_
            exact hB49 v5_7 v6_7 (99 : Int32) n_7 _ _ hn ls hP hD hS (lv_sub hl [0, 1, 2, 3, 4, 5, 6] rfl) hf
  unfold fL_free at hf
  refine lv_bipush (v := (99 : Int32)) hx hb dL_free_0 (by decide) ?_
  refine lv_istore (lv' := [(5, .int (99 : Int32)), (0, .ref v0), (1, .ref z0), (2, .int p2), (3, .ref p0), (4, .int p4)]) hx hb dL_free_2 hl (by decide) rfl (fun ls hl => ?_)
  refine lv_iconst (v := (0 : Int32)) hx hb dL_free_4 (by decide) ?_
  refine lv_istore (lv' := [(6, .int (0 : Int32)), (5, .int (99 : Int32)), (0, .ref v0), (1, .ref z0), (2, .int p2), (3, .ref p0), (4, .int p4)]) hx hb dL_free_5 hl (by decide) rfl (fun ls hl => ?_)
  exact hB7 FU (99 : Int32) (0 : Int32) 0 _ _ (Nat.zero_le _) ls hP hD hS (lv_sub hl [2, 3, 4, 5, 6, 1, 0] rfl) hf
