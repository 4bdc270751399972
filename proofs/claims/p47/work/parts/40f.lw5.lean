def fL_begins_105 (cap : Nat) (p3 p4 : Int32) (v5_105 : Bool) (v6_105 : Int32) (σ_105 : Sh) (η_105 : Hi) (ν_105 : (Nat → Int32)) (ζ_105 : (Nat → Int64)) (n_105 : Nat) : Option (Bool × Sh × Hi × (Nat → Int32) × (Nat → Int64)) := (if n_105 + 1 ≤ cap then ((fL_told σ_105 η_105 (0 : Int32) p3 p4).bind fun r_1 => (if v5_105 = true then (if r_1.1 = v6_105 then (some (true, r_1.2.1, r_1.2.2, ν_105, ζ_105)) else (some (false, r_1.2.1, r_1.2.2, ν_105, ζ_105))) else (if r_1.1 = (-13 : Int32) then (some (true, r_1.2.1, r_1.2.2, ν_105, ζ_105)) else (some (false, r_1.2.1, r_1.2.2, ν_105, ζ_105))))) else none)
def fL_begins_24 (cap : Nat) (p3 p4 : Int32) (t0_24 : Bool) (σ_24 : Sh) (η_24 : Hi) (ν_24 : (Nat → Int32)) (ζ_24 : (Nat → Int64)) (n_24 : Nat) : Option (Bool × Sh × Hi × (Nat → Int32) × (Nat → Int64)) := (if t0_24 = true then (if inR ((4 : Int32) * (ν_24 (Int32.toNatClampNeg (32 : Int32)))) 34 then (if inR (((4 : Int32) * (ν_24 (Int32.toNatClampNeg (32 : Int32)))) + (1 : Int32)) 34 then (if inR (((4 : Int32) * (ν_24 (Int32.toNatClampNeg (32 : Int32)))) + (2 : Int32)) 34 then (if inR (((4 : Int32) * (ν_24 (Int32.toNatClampNeg (32 : Int32)))) + (3 : Int32)) 34 then (if inR ((3 : Int32) * (ν_24 (Int32.toNatClampNeg (32 : Int32)))) 24 then (if inR (((3 : Int32) * (ν_24 (Int32.toNatClampNeg (32 : Int32)))) + (1 : Int32)) 24 then (if inR (((3 : Int32) * (ν_24 (Int32.toNatClampNeg (32 : Int32)))) + (2 : Int32)) 24 then fL_begins_105 cap p3 p4 t0_24 (ν_24 (Int32.toNatClampNeg (32 : Int32))) σ_24 η_24 (upd (upd (upd (upd (upd ν_24 (Int32.toNatClampNeg ((4 : Int32) * (ν_24 (Int32.toNatClampNeg (32 : Int32))))) p3) (Int32.toNatClampNeg (((4 : Int32) * (ν_24 (Int32.toNatClampNeg (32 : Int32)))) + (1 : Int32))) p4) (Int32.toNatClampNeg (((4 : Int32) * (ν_24 (Int32.toNatClampNeg (32 : Int32)))) + (2 : Int32))) (0 : Int32)) (Int32.toNatClampNeg (((4 : Int32) * (ν_24 (Int32.toNatClampNeg (32 : Int32)))) + (3 : Int32))) (-1 : Int32)) (Int32.toNatClampNeg (32 : Int32)) (((upd (upd (upd (upd ν_24 (Int32.toNatClampNeg ((4 : Int32) * (ν_24 (Int32.toNatClampNeg (32 : Int32))))) p3) (Int32.toNatClampNeg (((4 : Int32) * (ν_24 (Int32.toNatClampNeg (32 : Int32)))) + (1 : Int32))) p4) (Int32.toNatClampNeg (((4 : Int32) * (ν_24 (Int32.toNatClampNeg (32 : Int32)))) + (2 : Int32))) (0 : Int32)) (Int32.toNatClampNeg (((4 : Int32) * (ν_24 (Int32.toNatClampNeg (32 : Int32)))) + (3 : Int32))) (-1 : Int32)) (Int32.toNatClampNeg (32 : Int32))) + (1 : Int32))) (vp_updL (vp_updL (vp_updL ζ_24 (Int32.toNatClampNeg ((3 : Int32) * (ν_24 (Int32.toNatClampNeg (32 : Int32))))) (0 : Int64)) (Int32.toNatClampNeg (((3 : Int32) * (ν_24 (Int32.toNatClampNeg (32 : Int32)))) + (1 : Int32))) (0 : Int64)) (Int32.toNatClampNeg (((3 : Int32) * (ν_24 (Int32.toNatClampNeg (32 : Int32)))) + (2 : Int32))) (0 : Int64)) n_24 else none) else none) else none) else none) else none) else none) else none) else fL_begins_105 cap p3 p4 t0_24 (ν_24 (Int32.toNatClampNeg (32 : Int32))) σ_24 η_24 ν_24 ζ_24 n_24)
def fL_begins (cap : Nat) (σ : Sh) (η : Hi) (ν : (Nat → Int32)) (ζ : (Nat → Int64)) (p3 p4 : Int32) : Option (Bool × Sh × Hi × (Nat → Int32) × (Nat → Int64)) := (if (8 : Int32) ≤ (ν (Int32.toNatClampNeg (32 : Int32))) then fL_begins_24 cap p3 p4 false σ η ν ζ 0 else (if 0 + 1 ≤ cap then ((fL_owner 1 ν ζ p4).bind fun r_14 => (if 0 ≤ r_14 then fL_begins_24 cap p3 p4 false σ η ν ζ (0 + 1) else fL_begins_24 cap p3 p4 true σ η ν ζ (0 + 1))) else none))
abbrev rmL_begins (cap : Nat) : Room := { frames := 9, cells := 3 * cap, slots := 61 * cap, locals := 173 }
theorem hdL_begins : yL_begins.cls = RL ∧ yL_begins.cls ≠ "java/lang/invoke/MethodHandle" ∧ yL_begins.cls ≠ "java/lang/invoke/VarHandle" ∧ (parseMethodDescriptor yL_begins.desc).map (fun d => d.parameters.length) = some 5 := by decide +kernel
set_option maxHeartbeats 4000000 in
set_option maxRecDepth 100000 in
theorem cL_begins_ok (l : Launch) (hl0 : l.stackTraces = false) (g : Gg) (cap : Nat) (c0 h k0 x0 d0 a1 a2 a3 a4 k1 v0 z0 : Nat) (γ : Nat → Nat → Nat) (σ : Sh) (η : Hi) (ν : (Nat → Int32)) (ζ : (Nat → Int64)) (p3 p4 : Int32) (sz : Nat) {o : Bool × Sh × Hi × (Nat → Int32) × (Nat → Int64)} (hf : fL_begins cap σ η ν ζ p3 p4 = some o) : Met l yL_begins wsL_begins (rmL_begins cap) (va_Pc [.ref c0, .ref v0, .ref z0, .int p3, .int p4] (PM g (wC c0 h k0 x0 d0 ++ (wS g h a1 a2 a3 a4 σ ++ (wH g k0 k1 γ η ++ (wV g v0 ν ++ (wZ g z0 ζ))))) sz)) (va_Qi (fun r' (_ : Unit) => r' = b2i o.1) (fun _ t => PQ g (wC c0 h k0 x0 d0 ++ (wS g h a1 a2 a3 a4 o.2.1 ++ (wH g k0 k1 γ o.2.2.1 ++ (wV g v0 o.2.2.2.1 ++ (wZ g z0 o.2.2.2.2))))) (va_A (wC c0 h k0 x0 d0 ++ (wS g h a1 a2 a3 a4 σ ++ (wH g k0 k1 γ η ++ (wV g v0 ν ++ (wZ g z0 ζ))))) sz) t) (va_A (wC c0 h k0 x0 d0 ++ (wS g h a1 a2 a3 a4 σ ++ (wH g k0 k1 γ η ++ (wV g v0 ν ++ (wZ g z0 ζ))))) sz)) (3 * cap) (61 * cap) (va_A (wC c0 h k0 x0 d0 ++ (wS g h a1 a2 a3 a4 σ ++ (wH g k0 k1 γ η ++ (wV g v0 ν ++ (wZ g z0 ζ))))) sz) := by
  refine Met.ofW (cc := cL_begins) (maxL := 7) (ret := (some .boolean)) (by decide) rfl ?_
  intro p e s m args below meth c s₁ B hml hv
  obtain ⟨rfl, rfl, hP, hD0, hE, hZ⟩ := hv
  have hx := B.exec
  have hb := B.bytes
  have hr := B.returns
  have hts := atoms_spec (ws := wsL_begins) B.pre
  have hown : s.vm.findClass RL = some m.cls := findClass_of_methodNamed B.named
  have hlocks := B.notSynchronized
  have hD := hD0.self (sz := s.heap.size)
  generalize hAe : (va_A (wC c0 h k0 x0 d0 ++ (wS g h a1 a2 a3 a4 σ ++ (wH g k0 k1 γ η ++ (wV g v0 ν ++ (wZ g z0 ζ))))) s.heap.size) = A at hD hZ ⊢
  have hA : ∀ q : Nat, s.heap.size ≤ q → A q := fun q h => by rw [← hAe]; exact Or.inr h
  have hS : va_S A s.heap s.heap [] := va_S.rf
  have hP : va_P g.1 vwCl (wC c0 h k0 x0 d0 ++ (wS g h a1 a2 a3 a4 σ ++ (wH g k0 k1 γ η ++ (wV g v0 ν ++ (wZ g z0 ζ))))) s.heap := hP
  have hl := lv_entry ([.ref c0, .ref v0, .ref z0, .int p3, .int p4]) (n := 7) (Nat.le_of_ble_eq_true rfl)
  rw [lg_entry_eq]
  generalize (lg_sl ([.ref c0, .ref v0, .ref z0, .int p3, .int p4]) ++ List.replicate (7 - (lg_sl ([.ref c0, .ref v0, .ref z0, .int p3, .int p4])).length) Slot.unset).toArray = ls at hl ⊢
  refine W.cs (cells' := 3 * 0) (slots' := 61 * 0) rfl rfl ?_
  have hl : lv_has ls 7 [(0, .ref c0), (1, .ref v0), (2, .ref z0), (3, .int p3), (4, .int p4)] := hl
  have hB105 : ∀ (v5_105 : Bool) (v6_105 : Int32) (σ_105 : Sh) (η_105 : Hi) (ν_105 : (Nat → Int32)) (ζ_105 : (Nat → Int64)) (n_105 : Nat) (H : Heap) (locs : List Loc) (hn : n_105 ≤ cap) (ls : Array Slot), va_P g.1 vwCl (wC c0 h k0 x0 d0 ++ (wS g h a1 a2 a3 a4 σ_105 ++ (wH g k0 k1 γ η_105 ++ (wV g v0 ν_105 ++ (wZ g z0 ζ_105))))) H → va_D A (wC c0 h k0 x0 d0 ++ (wS g h a1 a2 a3 a4 σ_105 ++ (wH g k0 k1 γ η_105 ++ (wV g v0 ν_105 ++ (wZ g z0 ζ_105))))) → va_S A s.heap H locs → lv_has ls 7 [(0, .ref c0), (3, .int p3), (4, .int p4), (5, .int (b2i v5_105)), (6, .int v6_105)] → fL_begins_105 cap p3 p4 v5_105 v6_105 σ_105 η_105 ν_105 ζ_105 n_105 = some o → W p l e (headSpec wsL_begins (rmL_begins cap)).room s m ([.ref c0, .ref v0, .ref z0, .int p3, .int p4] : List Value).toArray below meth c H locs (3 * n_105) (61 * n_105) (MQ below (va_Qi (fun r' (_ : Unit) => r' = b2i o.1) (fun _ t => PQ g (wC c0 h k0 x0 d0 ++ (wS g h a1 a2 a3 a4 o.2.1 ++ (wH g k0 k1 γ o.2.2.1 ++ (wV g v0 o.2.2.2.1 ++ (wZ g z0 o.2.2.2.2))))) A t) A) ([.ref c0, .ref v0, .ref z0, .int p3, .int p4] : List Value).toArray s (3 * cap) (61 * cap) A) (F0 m 105 ls []) := by
    intro  v5_105 v6_105 σ_105 η_105 ν_105 ζ_105 n_105 H locs hn ls hP hD hS hl hf
    unfold fL_begins_105 at hf
    refine lv_aload_n hx hb dL_begins_105 rfl (lv_at hl 0 rfl) ?_
    refine lv_iconst (v := (0 : Int32)) hx hb dL_begins_106 (by decide) ?_
    refine lv_iload_n hx hb dL_begins_107 rfl (lv_at hl 1 rfl) ?_
    refine lv_iload hx hb dL_begins_108 (lv_at hl 2 rfl) ?_
    obtain ⟨h_1, hf⟩ := ck hf
    obtain ⟨r_1, e_1, hf⟩ := bo hf
    refine lcallS (W0 := (wC c0 h k0 x0 d0 ++ (wS g h a1 a2 a3 a4 σ_105 ++ (wH g k0 k1 γ η_105 ++ (wV g v0 ν_105 ++ (wZ g z0 ζ_105)))))) (Wc := (wC c0 h k0 x0 d0 ++ (wS g h a1 a2 a3 a4 σ_105 ++ (wH g k0 k1 γ η_105)))) (Wr := (wV g v0 ν_105 ++ (wZ g z0 ζ_105))) (W1 := (wC c0 h k0 x0 d0 ++ (wS g h a1 a2 a3 a4 r_1.2.1 ++ (wH g k0 k1 γ r_1.2.2)))) (W2 := (wC c0 h k0 x0 d0 ++ (wS g h a1 a2 a3 a4 r_1.2.1 ++ (wH g k0 k1 γ r_1.2.2 ++ (wV g v0 ν_105 ++ (wZ g z0 ζ_105)))))) (As := [.ref c0, .int (0 : Int32), .int p3, .int p4]) (rest := []) [0, 1, 2, 3, 4, 5, 6, 7, 8, 9, 10, 11, 12, 13, 14, 15, 16, 17, 18, 19, 20, 21, 22, 23, 24, 25, 26, 27, 28, 29, 30, 31, 32, 33, 34, 35, 36, 37] [38, 39] [2, 3, 4, 5, 6, 7, 8, 9, 10, 11, 12, 13, 14, 15, 16, 17, 18, 19, 20, 21, 22, 23, 24, 25, 26, 27, 28, 29, 30, 31, 32, 33, 34, 35, 36, 37, 38, 39, 0, 1] ⟨hx, hb, hml, hown, hts⟩ hP hD hE hZ hS hA (cL_told_ok l hl0 g c0 h k0 x0 d0 a1 a2 a3 a4 k1 γ σ_105 η_105 (0 : Int32) p3 p4 _ e_1) (vx_cwSW 4 hts gL_begins_L_told rfl rfl rfl hdL_told.2 ⟨(Nat.le_of_ble_eq_true rfl), (Nat.le_of_ble_eq_true rfl)⟩) rfl rfl rfl (by decide) (by decide) (by decide) (by decide) rfl hl.1 rfl (Nat.le_of_ble_eq_true rfl) ⟨(kt3 h_1), (kt61 h_1)⟩ dL_begins_110 (fun H locs hP hD hS => ?_)
    refine W.widen (k := 3 * (n_105 + 1)) (n := 61 * (n_105 + 1)) (by omega) (by omega) ?_
    refine lv_iload hx hb dL_begins_113 (lv_at hl 3 rfl) ?_
    refine lv_beq (tgt := 123) hx hb dL_begins_115 (by decide) (fun c_2 => ?_) (fun c_2 => ?_)
    · have hf := iq c_2 hf
      refine lv_bipush (v := (-13 : Int32)) hx hb dL_begins_123 (by decide) ?_
      refine lv_icmp_ne (tgt := 132) hx hb dL_begins_125 (by decide) (fun c_3 => ?_) (fun c_3 => ?_)
      · have hf := iq c_3 hf
        refine lv_iconst (v := (0 : Int32)) hx hb dL_begins_132 (by decide) ?_
        have ho := Option.some.inj hf
        subst ho
        refine W.widen (k := 3 * cap) (n := 61 * cap) (k3 h_1) (k61 h_1) ?_
        exact m_zret (v := false) hx hb hr hlocks hP hD hS rfl dL_begins_133
      · have hf := ip c_3 hf
        refine lv_iconst (v := (1 : Int32)) hx hb dL_begins_128 (by decide) ?_
        refine lv_goto (tgt := 133) hx hb dL_begins_129 (by decide) ?_
        have ho := Option.some.inj hf
        subst ho
        refine W.widen (k := 3 * cap) (n := 61 * cap) (k3 h_1) (k61 h_1) ?_
        exact m_zret (v := true) hx hb hr hlocks hP hD hS rfl dL_begins_133
    · have hf := ip c_2 hf
      refine lv_iload hx hb dL_begins_118 (lv_at hl 4 rfl) ?_
      refine lv_goto (tgt := 125) hx hb dL_begins_120 (by decide) ?_
      refine lv_icmp_ne (tgt := 132) hx hb dL_begins_125 (by decide) (fun c_4 => ?_) (fun c_4 => ?_)
      · have hf := iq c_4 hf
        refine lv_iconst (v := (0 : Int32)) hx hb dL_begins_132 (by decide) ?_
        have ho := Option.some.inj hf
        subst ho
        refine W.widen (k := 3 * cap) (n := 61 * cap) (k3 h_1) (k61 h_1) ?_
        exact m_zret (v := false) hx hb hr hlocks hP hD hS rfl dL_begins_133
      · have hf := ip c_4 hf
        refine lv_iconst (v := (1 : Int32)) hx hb dL_begins_128 (by decide) ?_
        refine lv_goto (tgt := 133) hx hb dL_begins_129 (by decide) ?_
        have ho := Option.some.inj hf
        subst ho
        refine W.widen (k := 3 * cap) (n := 61 * cap) (k3 h_1) (k61 h_1) ?_
        exact m_zret (v := true) hx hb hr hlocks hP hD hS rfl dL_begins_133
  have hB24 : ∀ (t0_24 : Bool) (σ_24 : Sh) (η_24 : Hi) (ν_24 : (Nat → Int32)) (ζ_24 : (Nat → Int64)) (n_24 : Nat) (H : Heap) (locs : List Loc) (hn : n_24 ≤ cap) (ls : Array Slot), va_P g.1 vwCl (wC c0 h k0 x0 d0 ++ (wS g h a1 a2 a3 a4 σ_24 ++ (wH g k0 k1 γ η_24 ++ (wV g v0 ν_24 ++ (wZ g z0 ζ_24))))) H → va_D A (wC c0 h k0 x0 d0 ++ (wS g h a1 a2 a3 a4 σ_24 ++ (wH g k0 k1 γ η_24 ++ (wV g v0 ν_24 ++ (wZ g z0 ζ_24))))) → va_S A s.heap H locs → lv_has ls 7 [(0, .ref c0), (1, .ref v0), (2, .ref z0), (3, .int p3), (4, .int p4)] → fL_begins_24 cap p3 p4 t0_24 σ_24 η_24 ν_24 ζ_24 n_24 = some o → W p l e (headSpec wsL_begins (rmL_begins cap)).room s m ([.ref c0, .ref v0, .ref z0, .int p3, .int p4] : List Value).toArray below meth c H locs (3 * n_24) (61 * n_24) (MQ below (va_Qi (fun r' (_ : Unit) => r' = b2i o.1) (fun _ t => PQ g (wC c0 h k0 x0 d0 ++ (wS g h a1 a2 a3 a4 o.2.1 ++ (wH g k0 k1 γ o.2.2.1 ++ (wV g v0 o.2.2.2.1 ++ (wZ g z0 o.2.2.2.2))))) A t) A) ([.ref c0, .ref v0, .ref z0, .int p3, .int p4] : List Value).toArray s (3 * cap) (61 * cap) A) (F0 m 24 ls [.int (b2i t0_24)]) := by
    intro  t0_24 σ_24 η_24 ν_24 ζ_24 n_24 H locs hn ls hP hD hS hl hf
    unfold fL_begins_24 at hf
    refine lv_istore (lv' := [(5, .int (b2i t0_24)), (0, .ref c0), (1, .ref v0), (2, .ref z0), (3, .int p3), (4, .int p4)]) hx hb dL_begins_24 hl (by decide) rfl (fun ls hl => ?_)
    refine lv_aload_n hx hb dL_begins_26 rfl (lv_at hl 2 rfl) ?_
    refine lv_bipush (v := (32 : Int32)) hx hb dL_begins_27 (by decide) ?_
    refine va_iald hx hb hE.1 hP 38 0 rfl rfl (vin (by decide)) dL_begins_29 ?_
    refine lv_istore (lv' := [(6, .int (ν_24 (Int32.toNatClampNeg (32 : Int32)))), (5, .int (b2i t0_24)), (0, .ref c0), (1, .ref v0), (2, .ref z0), (3, .int p3), (4, .int p4)]) hx hb dL_begins_30 hl (by decide) rfl (fun ls hl => ?_)
    refine lv_iload hx hb dL_begins_32 (lv_at hl 1 rfl) ?_
    refine lv_beq (tgt := 105) hx hb dL_begins_34 (by decide) (fun c_5 => ?_) (fun c_5 => ?_)
    · have hf := iq c_5 hf
      exact hB105 t0_24 (ν_24 (Int32.toNatClampNeg (32 : Int32))) σ_24 η_24 ν_24 ζ_24 n_24 _ _ hn ls hP hD hS (lv_sub hl [2, 5, 6, 1, 0] rfl) hf
    · have hf := ip c_5 hf
      refine lv_aload_n hx hb dL_begins_37 rfl (lv_at hl 3 rfl) ?_
      refine lv_iconst (v := (4 : Int32)) hx hb dL_begins_38 (by decide) ?_
      refine lv_iload hx hb dL_begins_39 (lv_at hl 0 rfl) ?_
      refine lv_imul hx hb dL_begins_41 ?_
      refine lv_iload_n hx hb dL_begins_42 rfl (lv_at hl 5 rfl) ?_
      obtain ⟨h_6, hf⟩ := ck hf
      refine va_iast hx hb hE.1 hP hD hS 38 0 rfl rfl (vin h_6) dL_begins_43 (fun H locs hP hD hS => ?_)
      have hP : va_P g.1 vwCl (wC c0 h k0 x0 d0 ++ (wS g h a1 a2 a3 a4 σ_24 ++ (wH g k0 k1 γ η_24 ++ (wV g v0 (upd ν_24 (Int32.toNatClampNeg ((4 : Int32) * (ν_24 (Int32.toNatClampNeg (32 : Int32))))) p3) ++ (wZ g z0 ζ_24))))) H := hP
      have hD : va_D A (wC c0 h k0 x0 d0 ++ (wS g h a1 a2 a3 a4 σ_24 ++ (wH g k0 k1 γ η_24 ++ (wV g v0 (upd ν_24 (Int32.toNatClampNeg ((4 : Int32) * (ν_24 (Int32.toNatClampNeg (32 : Int32))))) p3) ++ (wZ g z0 ζ_24))))) := hD
      refine lv_aload_n hx hb dL_begins_44 rfl (lv_at hl 3 rfl) ?_
      refine lv_iconst (v := (4 : Int32)) hx hb dL_begins_45 (by decide) ?_
      refine lv_iload hx hb dL_begins_46 (lv_at hl 0 rfl) ?_
      refine lv_imul hx hb dL_begins_48 ?_
      refine lv_iconst (v := (1 : Int32)) hx hb dL_begins_49 (by decide) ?_
      refine lv_iadd hx hb dL_begins_50 ?_
      refine lv_iload hx hb dL_begins_51 (lv_at hl 6 rfl) ?_
      obtain ⟨h_7, hf⟩ := ck hf
      refine va_iast hx hb hE.1 hP hD hS 38 0 rfl rfl (vin h_7) dL_begins_53 (fun H locs hP hD hS => ?_)
      have hP : va_P g.1 vwCl (wC c0 h k0 x0 d0 ++ (wS g h a1 a2 a3 a4 σ_24 ++ (wH g k0 k1 γ η_24 ++ (wV g v0 (upd (upd ν_24 (Int32.toNatClampNeg ((4 : Int32) * (ν_24 (Int32.toNatClampNeg (32 : Int32))))) p3) (Int32.toNatClampNeg (((4 : Int32) * (ν_24 (Int32.toNatClampNeg (32 : Int32)))) + (1 : Int32))) p4) ++ (wZ g z0 ζ_24))))) H := hP
      have hD : va_D A (wC c0 h k0 x0 d0 ++ (wS g h a1 a2 a3 a4 σ_24 ++ (wH g k0 k1 γ η_24 ++ (wV g v0 (upd (upd ν_24 (Int32.toNatClampNeg ((4 : Int32) * (ν_24 (Int32.toNatClampNeg (32 : Int32))))) p3) (Int32.toNatClampNeg (((4 : Int32) * (ν_24 (Int32.toNatClampNeg (32 : Int32)))) + (1 : Int32))) p4) ++ (wZ g z0 ζ_24))))) := hD
      refine lv_aload_n hx hb dL_begins_54 rfl (lv_at hl 3 rfl) ?_
      refine lv_iconst (v := (4 : Int32)) hx hb dL_begins_55 (by decide) ?_
      refine lv_iload hx hb dL_begins_56 (lv_at hl 0 rfl) ?_
      refine lv_imul hx hb dL_begins_58 ?_
      refine lv_iconst (v := (2 : Int32)) hx hb dL_begins_59 (by decide) ?_
      refine lv_iadd hx hb dL_begins_60 ?_
      refine lv_iconst (v := (0 : Int32)) hx hb dL_begins_61 (by decide) ?_
      obtain ⟨h_8, hf⟩ := ck hf
      refine va_iast hx hb hE.1 hP hD hS 38 0 rfl rfl (vin h_8) dL_begins_62 (fun H locs hP hD hS => ?_)
      have hP : va_P g.1 vwCl (wC c0 h k0 x0 d0 ++ (wS g h a1 a2 a3 a4 σ_24 ++ (wH g k0 k1 γ η_24 ++ (wV g v0 (upd (upd (upd ν_24 (Int32.toNatClampNeg ((4 : Int32) * (ν_24 (Int32.toNatClampNeg (32 : Int32))))) p3) (Int32.toNatClampNeg (((4 : Int32) * (ν_24 (Int32.toNatClampNeg (32 : Int32)))) + (1 : Int32))) p4) (Int32.toNatClampNeg (((4 : Int32) * (ν_24 (Int32.toNatClampNeg (32 : Int32)))) + (2 : Int32))) (0 : Int32)) ++ (wZ g z0 ζ_24))))) H := hP
      have hD : va_D A (wC c0 h k0 x0 d0 ++ (wS g h a1 a2 a3 a4 σ_24 ++ (wH g k0 k1 γ η_24 ++ (wV g v0 (upd (upd (upd ν_24 (Int32.toNatClampNeg ((4 : Int32) * (ν_24 (Int32.toNatClampNeg (32 : Int32))))) p3) (Int32.toNatClampNeg (((4 : Int32) * (ν_24 (Int32.toNatClampNeg (32 : Int32)))) + (1 : Int32))) p4) (Int32.toNatClampNeg (((4 : Int32) * (ν_24 (Int32.toNatClampNeg (32 : Int32)))) + (2 : Int32))) (0 : Int32)) ++ (wZ g z0 ζ_24))))) := hD
      refine lv_aload_n hx hb dL_begins_63 rfl (lv_at hl 3 rfl) ?_
      refine lv_iconst (v := (4 : Int32)) hx hb dL_begins_64 (by decide) ?_
      refine lv_iload hx hb dL_begins_65 (lv_at hl 0 rfl) ?_
      refine lv_imul hx hb dL_begins_67 ?_
      refine lv_iconst (v := (3 : Int32)) hx hb dL_begins_68 (by decide) ?_
      refine lv_iadd hx hb dL_begins_69 ?_
      refine lv_iconst (v := (-1 : Int32)) hx hb dL_begins_70 (by decide) ?_
      obtain ⟨h_9, hf⟩ := ck hf
      refine va_iast hx hb hE.1 hP hD hS 38 0 rfl rfl (vin h_9) dL_begins_71 (fun H locs hP hD hS => ?_)
      have hP : va_P g.1 vwCl (wC c0 h k0 x0 d0 ++ (wS g h a1 a2 a3 a4 σ_24 ++ (wH g k0 k1 γ η_24 ++ (wV g v0 (upd (upd (upd (upd ν_24 (Int32.toNatClampNeg ((4 : Int32) * (ν_24 (Int32.toNatClampNeg (32 : Int32))))) p3) (Int32.toNatClampNeg (((4 : Int32) * (ν_24 (Int32.toNatClampNeg (32 : Int32)))) + (1 : Int32))) p4) (Int32.toNatClampNeg (((4 : Int32) * (ν_24 (Int32.toNatClampNeg (32 : Int32)))) + (2 : Int32))) (0 : Int32)) (Int32.toNatClampNeg (((4 : Int32) * (ν_24 (Int32.toNatClampNeg (32 : Int32)))) + (3 : Int32))) (-1 : Int32)) ++ (wZ g z0 ζ_24))))) H := hP
      have hD : va_D A (wC c0 h k0 x0 d0 ++ (wS g h a1 a2 a3 a4 σ_24 ++ (wH g k0 k1 γ η_24 ++ (wV g v0 (upd (upd (upd (upd ν_24 (Int32.toNatClampNeg ((4 : Int32) * (ν_24 (Int32.toNatClampNeg (32 : Int32))))) p3) (Int32.toNatClampNeg (((4 : Int32) * (ν_24 (Int32.toNatClampNeg (32 : Int32)))) + (1 : Int32))) p4) (Int32.toNatClampNeg (((4 : Int32) * (ν_24 (Int32.toNatClampNeg (32 : Int32)))) + (2 : Int32))) (0 : Int32)) (Int32.toNatClampNeg (((4 : Int32) * (ν_24 (Int32.toNatClampNeg (32 : Int32)))) + (3 : Int32))) (-1 : Int32)) ++ (wZ g z0 ζ_24))))) := hD
      refine lv_aload_n hx hb dL_begins_72 rfl (lv_at hl 4 rfl) ?_
      refine lv_iconst (v := (3 : Int32)) hx hb dL_begins_73 (by decide) ?_
      refine lv_iload hx hb dL_begins_74 (lv_at hl 0 rfl) ?_
      refine lv_imul hx hb dL_begins_76 ?_
      refine lv_lconst (v := 0) hx hb dL_begins_77 (by decide) ?_
      obtain ⟨h_10, hf⟩ := ck hf
      refine va_last hx hb hE.1 hP hD hS 39 2 rfl rfl (vin h_10) dL_begins_78 (fun H locs hP hD hS => ?_)
      have hP : va_P g.1 vwCl (wC c0 h k0 x0 d0 ++ (wS g h a1 a2 a3 a4 σ_24 ++ (wH g k0 k1 γ η_24 ++ (wV g v0 (upd (upd (upd (upd ν_24 (Int32.toNatClampNeg ((4 : Int32) * (ν_24 (Int32.toNatClampNeg (32 : Int32))))) p3) (Int32.toNatClampNeg (((4 : Int32) * (ν_24 (Int32.toNatClampNeg (32 : Int32)))) + (1 : Int32))) p4) (Int32.toNatClampNeg (((4 : Int32) * (ν_24 (Int32.toNatClampNeg (32 : Int32)))) + (2 : Int32))) (0 : Int32)) (Int32.toNatClampNeg (((4 : Int32) * (ν_24 (Int32.toNatClampNeg (32 : Int32)))) + (3 : Int32))) (-1 : Int32)) ++ (wZ g z0 (vp_updL ζ_24 (Int32.toNatClampNeg ((3 : Int32) * (ν_24 (Int32.toNatClampNeg (32 : Int32))))) (0 : Int64))))))) H := hP
      have hD : va_D A (wC c0 h k0 x0 d0 ++ (wS g h a1 a2 a3 a4 σ_24 ++ (wH g k0 k1 γ η_24 ++ (wV g v0 (upd (upd (upd (upd ν_24 (Int32.toNatClampNeg ((4 : Int32) * (ν_24 (Int32.toNatClampNeg (32 : Int32))))) p3) (Int32.toNatClampNeg (((4 : Int32) * (ν_24 (Int32.toNatClampNeg (32 : Int32)))) + (1 : Int32))) p4) (Int32.toNatClampNeg (((4 : Int32) * (ν_24 (Int32.toNatClampNeg (32 : Int32)))) + (2 : Int32))) (0 : Int32)) (Int32.toNatClampNeg (((4 : Int32) * (ν_24 (Int32.toNatClampNeg (32 : Int32)))) + (3 : Int32))) (-1 : Int32)) ++ (wZ g z0 (vp_updL ζ_24 (Int32.toNatClampNeg ((3 : Int32) * (ν_24 (Int32.toNatClampNeg (32 : Int32))))) (0 : Int64))))))) := hD
      refine lv_aload_n hx hb dL_begins_79 rfl (lv_at hl 4 rfl) ?_
      refine lv_iconst (v := (3 : Int32)) hx hb dL_begins_80 (by decide) ?_
      refine lv_iload hx hb dL_begins_81 (lv_at hl 0 rfl) ?_
      refine lv_imul hx hb dL_begins_83 ?_
      refine lv_iconst (v := (1 : Int32)) hx hb dL_begins_84 (by decide) ?_
      refine lv_iadd hx hb dL_begins_85 ?_
      refine lv_lconst (v := 0) hx hb dL_begins_86 (by decide) ?_
      obtain ⟨h_11, hf⟩ := ck hf
      refine va_last hx hb hE.1 hP hD hS 39 2 rfl rfl (vin h_11) dL_begins_87 (fun H locs hP hD hS => ?_)
      have hP : va_P g.1 vwCl (wC c0 h k0 x0 d0 ++ (wS g h a1 a2 a3 a4 σ_24 ++ (wH g k0 k1 γ η_24 ++ (wV g v0 (upd (upd (upd (upd ν_24 (Int32.toNatClampNeg ((4 : Int32) * (ν_24 (Int32.toNatClampNeg (32 : Int32))))) p3) (Int32.toNatClampNeg (((4 : Int32) * (ν_24 (Int32.toNatClampNeg (32 : Int32)))) + (1 : Int32))) p4) (Int32.toNatClampNeg (((4 : Int32) * (ν_24 (Int32.toNatClampNeg (32 : Int32)))) + (2 : Int32))) (0 : Int32)) (Int32.toNatClampNeg (((4 : Int32) * (ν_24 (Int32.toNatClampNeg (32 : Int32)))) + (3 : Int32))) (-1 : Int32)) ++ (wZ g z0 (vp_updL (vp_updL ζ_24 (Int32.toNatClampNeg ((3 : Int32) * (ν_24 (Int32.toNatClampNeg (32 : Int32))))) (0 : Int64)) (Int32.toNatClampNeg (((3 : Int32) * (ν_24 (Int32.toNatClampNeg (32 : Int32)))) + (1 : Int32))) (0 : Int64))))))) H := hP
      have hD : va_D A (wC c0 h k0 x0 d0 ++ (wS g h a1 a2 a3 a4 σ_24 ++ (wH g k0 k1 γ η_24 ++ (wV g v0 (upd (upd (upd (upd ν_24 (Int32.toNatClampNeg ((4 : Int32) * (ν_24 (Int32.toNatClampNeg (32 : Int32))))) p3) (Int32.toNatClampNeg (((4 : Int32) * (ν_24 (Int32.toNatClampNeg (32 : Int32)))) + (1 : Int32))) p4) (Int32.toNatClampNeg (((4 : Int32) * (ν_24 (Int32.toNatClampNeg (32 : Int32)))) + (2 : Int32))) (0 : Int32)) (Int32.toNatClampNeg (((4 : Int32) * (ν_24 (Int32.toNatClampNeg (32 : Int32)))) + (3 : Int32))) (-1 : Int32)) ++ (wZ g z0 (vp_updL (vp_updL ζ_24 (Int32.toNatClampNeg ((3 : Int32) * (ν_24 (Int32.toNatClampNeg (32 : Int32))))) (0 : Int64)) (Int32.toNatClampNeg (((3 : Int32) * (ν_24 (Int32.toNatClampNeg (32 : Int32)))) + (1 : Int32))) (0 : Int64))))))) := hD
      refine lv_aload_n hx hb dL_begins_88 rfl (lv_at hl 4 rfl) ?_
      refine lv_iconst (v := (3 : Int32)) hx hb dL_begins_89 (by decide) ?_
      refine lv_iload hx hb dL_begins_90 (lv_at hl 0 rfl) ?_
      refine lv_imul hx hb dL_begins_92 ?_
      refine lv_iconst (v := (2 : Int32)) hx hb dL_begins_93 (by decide) ?_
      refine lv_iadd hx hb dL_begins_94 ?_
      refine lv_lconst (v := 0) hx hb dL_begins_95 (by decide) ?_
      obtain ⟨h_12, hf⟩ := ck hf
      refine va_last hx hb hE.1 hP hD hS 39 2 rfl rfl (vin h_12) dL_begins_96 (fun H locs hP hD hS => ?_)
      have hP : va_P g.1 vwCl (wC c0 h k0 x0 d0 ++ (wS g h a1 a2 a3 a4 σ_24 ++ (wH g k0 k1 γ η_24 ++ (wV g v0 (upd (upd (upd (upd ν_24 (Int32.toNatClampNeg ((4 : Int32) * (ν_24 (Int32.toNatClampNeg (32 : Int32))))) p3) (Int32.toNatClampNeg (((4 : Int32) * (ν_24 (Int32.toNatClampNeg (32 : Int32)))) + (1 : Int32))) p4) (Int32.toNatClampNeg (((4 : Int32) * (ν_24 (Int32.toNatClampNeg (32 : Int32)))) + (2 : Int32))) (0 : Int32)) (Int32.toNatClampNeg (((4 : Int32) * (ν_24 (Int32.toNatClampNeg (32 : Int32)))) + (3 : Int32))) (-1 : Int32)) ++ (wZ g z0 (vp_updL (vp_updL (vp_updL ζ_24 (Int32.toNatClampNeg ((3 : Int32) * (ν_24 (Int32.toNatClampNeg (32 : Int32))))) (0 : Int64)) (Int32.toNatClampNeg (((3 : Int32) * (ν_24 (Int32.toNatClampNeg (32 : Int32)))) + (1 : Int32))) (0 : Int64)) (Int32.toNatClampNeg (((3 : Int32) * (ν_24 (Int32.toNatClampNeg (32 : Int32)))) + (2 : Int32))) (0 : Int64))))))) H := hP
      have hD : va_D A (wC c0 h k0 x0 d0 ++ (wS g h a1 a2 a3 a4 σ_24 ++ (wH g k0 k1 γ η_24 ++ (wV g v0 (upd (upd (upd (upd ν_24 (Int32.toNatClampNeg ((4 : Int32) * (ν_24 (Int32.toNatClampNeg (32 : Int32))))) p3) (Int32.toNatClampNeg (((4 : Int32) * (ν_24 (Int32.toNatClampNeg (32 : Int32)))) + (1 : Int32))) p4) (Int32.toNatClampNeg (((4 : Int32) * (ν_24 (Int32.toNatClampNeg (32 : Int32)))) + (2 : Int32))) (0 : Int32)) (Int32.toNatClampNeg (((4 : Int32) * (ν_24 (Int32.toNatClampNeg (32 : Int32)))) + (3 : Int32))) (-1 : Int32)) ++ (wZ g z0 (vp_updL (vp_updL (vp_updL ζ_24 (Int32.toNatClampNeg ((3 : Int32) * (ν_24 (Int32.toNatClampNeg (32 : Int32))))) (0 : Int64)) (Int32.toNatClampNeg (((3 : Int32) * (ν_24 (Int32.toNatClampNeg (32 : Int32)))) + (1 : Int32))) (0 : Int64)) (Int32.toNatClampNeg (((3 : Int32) * (ν_24 (Int32.toNatClampNeg (32 : Int32)))) + (2 : Int32))) (0 : Int64))))))) := hD
      refine lv_aload_n hx hb dL_begins_97 rfl (lv_at hl 3 rfl) ?_
      refine lv_bipush (v := (32 : Int32)) hx hb dL_begins_98 (by decide) ?_
      refine lv_dup2_11 hx hb dL_begins_100 rfl rfl ?_
      refine va_iald hx hb hE.1 hP 38 0 rfl rfl (vin (by decide)) dL_begins_101 ?_
      refine lv_iconst (v := (1 : Int32)) hx hb dL_begins_102 (by decide) ?_
      refine lv_iadd hx hb dL_begins_103 ?_
      refine va_iast hx hb hE.1 hP hD hS 38 0 rfl rfl (vin (by decide)) dL_begins_104 (fun H locs hP hD hS => ?_)
      have hP : va_P g.1 vwCl (wC c0 h k0 x0 d0 ++ (wS g h a1 a2 a3 a4 σ_24 ++ (wH g k0 k1 γ η_24 ++ (wV g v0 (upd (upd (upd (upd (upd ν_24 (Int32.toNatClampNeg ((4 : Int32) * (ν_24 (Int32.toNatClampNeg (32 : Int32))))) p3) (Int32.toNatClampNeg (((4 : Int32) * (ν_24 (Int32.toNatClampNeg (32 : Int32)))) + (1 : Int32))) p4) (Int32.toNatClampNeg (((4 : Int32) * (ν_24 (Int32.toNatClampNeg (32 : Int32)))) + (2 : Int32))) (0 : Int32)) (Int32.toNatClampNeg (((4 : Int32) * (ν_24 (Int32.toNatClampNeg (32 : Int32)))) + (3 : Int32))) (-1 : Int32)) (Int32.toNatClampNeg (32 : Int32)) (((upd (upd (upd (upd ν_24 (Int32.toNatClampNeg ((4 : Int32) * (ν_24 (Int32.toNatClampNeg (32 : Int32))))) p3) (Int32.toNatClampNeg (((4 : Int32) * (ν_24 (Int32.toNatClampNeg (32 : Int32)))) + (1 : Int32))) p4) (Int32.toNatClampNeg (((4 : Int32) * (ν_24 (Int32.toNatClampNeg (32 : Int32)))) + (2 : Int32))) (0 : Int32)) (Int32.toNatClampNeg (((4 : Int32) * (ν_24 (Int32.toNatClampNeg (32 : Int32)))) + (3 : Int32))) (-1 : Int32)) (Int32.toNatClampNeg (32 : Int32))) + (1 : Int32))) ++ (wZ g z0 (vp_updL (vp_updL (vp_updL ζ_24 (Int32.toNatClampNeg ((3 : Int32) * (ν_24 (Int32.toNatClampNeg (32 : Int32))))) (0 : Int64)) (Int32.toNatClampNeg (((3 : Int32) * (ν_24 (Int32.toNatClampNeg (32 : Int32)))) + (1 : Int32))) (0 : Int64)) (Int32.toNatClampNeg (((3 : Int32) * (ν_24 (Int32.toNatClampNeg (32 : Int32)))) + (2 : Int32))) (0 : Int64))))))) H := hP
      have hD : va_D A (wC c0 h k0 x0 d0 ++ (wS g h a1 a2 a3 a4 σ_24 ++ (wH g k0 k1 γ η_24 ++ (wV g v0 (upd (upd (upd (upd (upd ν_24 (Int32.toNatClampNeg ((4 : Int32) * (ν_24 (Int32.toNatClampNeg (32 : Int32))))) p3) (Int32.toNatClampNeg (((4 : Int32) * (ν_24 (Int32.toNatClampNeg (32 : Int32)))) + (1 : Int32))) p4) (Int32.toNatClampNeg (((4 : Int32) * (ν_24 (Int32.toNatClampNeg (32 : Int32)))) + (2 : Int32))) (0 : Int32)) (Int32.toNatClampNeg (((4 : Int32) * (ν_24 (Int32.toNatClampNeg (32 : Int32)))) + (3 : Int32))) (-1 : Int32)) (Int32.toNatClampNeg (32 : Int32)) (((upd (upd (upd (upd ν_24 (Int32.toNatClampNeg ((4 : Int32) * (ν_24 (Int32.toNatClampNeg (32 : Int32))))) p3) (Int32.toNatClampNeg (((4 : Int32) * (ν_24 (Int32.toNatClampNeg (32 : Int32)))) + (1 : Int32))) p4) (Int32.toNatClampNeg (((4 : Int32) * (ν_24 (Int32.toNatClampNeg (32 : Int32)))) + (2 : Int32))) (0 : Int32)) (Int32.toNatClampNeg (((4 : Int32) * (ν_24 (Int32.toNatClampNeg (32 : Int32)))) + (3 : Int32))) (-1 : Int32)) (Int32.toNatClampNeg (32 : Int32))) + (1 : Int32))) ++ (wZ g z0 (vp_updL (vp_updL (vp_updL ζ_24 (Int32.toNatClampNeg ((3 : Int32) * (ν_24 (Int32.toNatClampNeg (32 : Int32))))) (0 : Int64)) (Int32.toNatClampNeg (((3 : Int32) * (ν_24 (Int32.toNatClampNeg (32 : Int32)))) + (1 : Int32))) (0 : Int64)) (Int32.toNatClampNeg (((3 : Int32) * (ν_24 (Int32.toNatClampNeg (32 : Int32)))) + (2 : Int32))) (0 : Int64))))))) := hD
      exact hB105 t0_24 (ν_24 (Int32.toNatClampNeg (32 : Int32))) σ_24 η_24 (upd (upd (upd (upd (upd ν_24 (Int32.toNatClampNeg ((4 : Int32) * (ν_24 (Int32.toNatClampNeg (32 : Int32))))) p3) (Int32.toNatClampNeg (((4 : Int32) * (ν_24 (Int32.toNatClampNeg (32 : Int32)))) + (1 : Int32))) p4) (Int32.toNatClampNeg (((4 : Int32) * (ν_24 (Int32.toNatClampNeg (32 : Int32)))) + (2 : Int32))) (0 : Int32)) (Int32.toNatClampNeg (((4 : Int32) * (ν_24 (Int32.toNatClampNeg (32 : Int32)))) + (3 : Int32))) (-1 : Int32)) (Int32.toNatClampNeg (32 : Int32)) (((upd (upd (upd (upd ν_24 (Int32.toNatClampNeg ((4 : Int32) * (ν_24 (Int32.toNatClampNeg (32 : Int32))))) p3) (Int32.toNatClampNeg (((4 : Int32) * (ν_24 (Int32.toNatClampNeg (32 : Int32)))) + (1 : Int32))) p4) (Int32.toNatClampNeg (((4 : Int32) * (ν_24 (Int32.toNatClampNeg (32 : Int32)))) + (2 : Int32))) (0 : Int32)) (Int32.toNatClampNeg (((4 : Int32) * (ν_24 (Int32.toNatClampNeg (32 : Int32)))) + (3 : Int32))) (-1 : Int32)) (Int32.toNatClampNeg (32 : Int32))) + (1 : Int32))) (vp_updL (vp_updL (vp_updL ζ_24 (Int32.toNatClampNeg ((3 : Int32) * (ν_24 (Int32.toNatClampNeg (32 : Int32))))) (0 : Int64)) (Int32.toNatClampNeg (((3 : Int32) * (ν_24 (Int32.toNatClampNeg (32 : Int32)))) + (1 : Int32))) (0 : Int64)) (Int32.toNatClampNeg (((3 : Int32) * (ν_24 (Int32.toNatClampNeg (32 : Int32)))) + (2 : Int32))) (0 : Int64)) n_24 _ _ hn ls hP hD hS (lv_sub hl [2, 5, 6, 1, 0] rfl) hf
  unfold fL_begins at hf
  refine lv_aload_n hx hb dL_begins_0 rfl (lv_at hl 1 rfl) ?_
  refine lv_bipush (v := (32 : Int32)) hx hb dL_begins_1 (by decide) ?_
  refine va_iald hx hb hE.1 hP 38 0 rfl rfl (vin (by decide)) dL_begins_3 ?_
  refine lv_bipush (v := (8 : Int32)) hx hb dL_begins_4 (by decide) ?_
  refine lv_icmp_ge (tgt := 23) hx hb dL_begins_6 (by decide) (fun c_13 => ?_) (fun c_13 => ?_)
  · have hf := ip c_13 hf
    refine lv_iconst (v := (0 : Int32)) hx hb dL_begins_23 (by decide) ?_
    exact hB24 false σ η ν ζ 0 _ _ (Nat.zero_le _) ls hP hD hS (lv_sub hl [0, 1, 2, 3, 4] rfl) hf
  · have hf := iq c_13 hf
    refine lv_aload_n hx hb dL_begins_9 rfl (lv_at hl 1 rfl) ?_
    refine lv_aload_n hx hb dL_begins_10 rfl (lv_at hl 2 rfl) ?_
    refine lv_iload hx hb dL_begins_11 (lv_at hl 4 rfl) ?_
    obtain ⟨h_14, hf⟩ := ck hf
    obtain ⟨r_14, e_14, hf⟩ := bo hf
    refine mcallSi (W0 := (wC c0 h k0 x0 d0 ++ (wS g h a1 a2 a3 a4 σ ++ (wH g k0 k1 γ η ++ (wV g v0 ν ++ (wZ g z0 ζ)))))) (Wc := (wV g v0 ν ++ (wZ g z0 ζ))) (Wr := (wC c0 h k0 x0 d0 ++ (wS g h a1 a2 a3 a4 σ ++ (wH g k0 k1 γ η)))) (W1 := (wV g v0 ν ++ (wZ g z0 ζ))) (W2 := (wC c0 h k0 x0 d0 ++ (wS g h a1 a2 a3 a4 σ ++ (wH g k0 k1 γ η ++ (wV g v0 ν ++ (wZ g z0 ζ)))))) (As := [.ref v0, .ref z0, .int p4]) (rest := []) [38, 39] [0, 1, 2, 3, 4, 5, 6, 7, 8, 9, 10, 11, 12, 13, 14, 15, 16, 17, 18, 19, 20, 21, 22, 23, 24, 25, 26, 27, 28, 29, 30, 31, 32, 33, 34, 35, 36, 37] [0, 1, 2, 3, 4, 5, 6, 7, 8, 9, 10, 11, 12, 13, 14, 15, 16, 17, 18, 19, 20, 21, 22, 23, 24, 25, 26, 27, 28, 29, 30, 31, 32, 33, 34, 35, 36, 37, 38, 39] ⟨hx, hb, hml, hown, hts⟩ hP hD hE hZ hS hA (cL_owner_ok l hl0 g 1 v0 z0 ν ζ p4 _ e_14) (va_cwS 3 hts gL_begins_L_owner rfl rfl rfl hdL_owner.2 ⟨(Nat.le_of_ble_eq_true rfl), (Nat.le_of_ble_eq_true rfl)⟩) rfl rfl rfl (by decide) (by decide) (by decide) (by decide) rfl hl.1 rfl (Nat.le_of_ble_eq_true rfl) ⟨(kc3 h_14), (kc61 h_14)⟩ dL_begins_13 (fun H locs hP hD hS => ?_)
    refine W.widen (k := 3 * (0 + 1)) (n := 61 * (0 + 1)) (by omega) (by omega) ?_
    refine lv_if_ge (tgt := 23) hx hb dL_begins_16 (by decide) (fun c_15 => ?_) (fun c_15 => ?_)
    · have hf := ip c_15 hf
      refine lv_iconst (v := (0 : Int32)) hx hb dL_begins_23 (by decide) ?_
      exact hB24 false σ η ν ζ (0 + 1) _ _ h_14 ls hP hD hS (lv_sub hl [0, 1, 2, 3, 4] rfl) hf
    · have hf := iq c_15 hf
      refine lv_iconst (v := (1 : Int32)) hx hb dL_begins_19 (by decide) ?_
      refine lv_goto (tgt := 24) hx hb dL_begins_20 (by decide) ?_
      exact hB24 true σ η ν ζ (0 + 1) _ _ h_14 ls hP hD hS (lv_sub hl [0, 1, 2, 3, 4] rfl) hf

def fL_steps (cap : Nat) (σ : Sh) (η : Hi) (ν : (Nat → Int32)) (ζ : (Nat → Int64)) (p3 p4 : Int32) : Option (Bool × Sh × Hi × (Nat → Int32) × (Nat → Int64)) := (if 0 + 1 ≤ cap then (if (0 + 1) + 2 ≤ cap then ((fL_why 2 ν ζ p3 p4).bind fun r_2 => (if r_2 ≤ 0 then (if inR (((4 : Int32) * p3) + (2 : Int32)) 34 then (if inR (((3 : Int32) * p3) + ((ν (Int32.toNatClampNeg (((4 : Int32) * p3) + (2 : Int32)))) / (20 : Int32))) 24 then ((fL_walks (upd ν (Int32.toNatClampNeg (((4 : Int32) * p3) + (2 : Int32))) ((ν (Int32.toNatClampNeg (((4 : Int32) * p3) + (2 : Int32)))) + (1 : Int32))) (vp_updL ζ (Int32.toNatClampNeg (((3 : Int32) * p3) + ((ν (Int32.toNatClampNeg (((4 : Int32) * p3) + (2 : Int32)))) / (20 : Int32)))) ((ζ (Int32.toNatClampNeg (((3 : Int32) * p3) + ((ν (Int32.toNatClampNeg (((4 : Int32) * p3) + (2 : Int32)))) / (20 : Int32))))) ||| ((Int32.toInt64 p4) <<< ((Int32.toInt64 ((3 : Int32) * (irm (ν (Int32.toNatClampNeg (((4 : Int32) * p3) + (2 : Int32)))) (20 : Int32)))) &&& 63)))) (fun _ => (0 : Int32)) p3).bind fun r_6 => (if ((0 + 1) + 2) + 1 ≤ cap then ((fL_told σ η (1 : Int32) p3 p4).bind fun r_7 => ((fL_closed (upd ν (Int32.toNatClampNeg (((4 : Int32) * p3) + (2 : Int32))) ((ν (Int32.toNatClampNeg (((4 : Int32) * p3) + (2 : Int32)))) + (1 : Int32))) r_6 p3).bind fun r_8 => (if r_8 = true then (if r_7.1 = (1 : Int32) then (some (true, r_7.2.1, r_7.2.2, (upd ν (Int32.toNatClampNeg (((4 : Int32) * p3) + (2 : Int32))) ((ν (Int32.toNatClampNeg (((4 : Int32) * p3) + (2 : Int32)))) + (1 : Int32))), (vp_updL ζ (Int32.toNatClampNeg (((3 : Int32) * p3) + ((ν (Int32.toNatClampNeg (((4 : Int32) * p3) + (2 : Int32)))) / (20 : Int32)))) ((ζ (Int32.toNatClampNeg (((3 : Int32) * p3) + ((ν (Int32.toNatClampNeg (((4 : Int32) * p3) + (2 : Int32)))) / (20 : Int32))))) ||| ((Int32.toInt64 p4) <<< ((Int32.toInt64 ((3 : Int32) * (irm (ν (Int32.toNatClampNeg (((4 : Int32) * p3) + (2 : Int32)))) (20 : Int32)))) &&& 63)))))) else (some (false, r_7.2.1, r_7.2.2, (upd ν (Int32.toNatClampNeg (((4 : Int32) * p3) + (2 : Int32))) ((ν (Int32.toNatClampNeg (((4 : Int32) * p3) + (2 : Int32)))) + (1 : Int32))), (vp_updL ζ (Int32.toNatClampNeg (((3 : Int32) * p3) + ((ν (Int32.toNatClampNeg (((4 : Int32) * p3) + (2 : Int32)))) / (20 : Int32)))) ((ζ (Int32.toNatClampNeg (((3 : Int32) * p3) + ((ν (Int32.toNatClampNeg (((4 : Int32) * p3) + (2 : Int32)))) / (20 : Int32))))) ||| ((Int32.toInt64 p4) <<< ((Int32.toInt64 ((3 : Int32) * (irm (ν (Int32.toNatClampNeg (((4 : Int32) * p3) + (2 : Int32)))) (20 : Int32)))) &&& 63))))))) else (if r_7.1 = (0 : Int32) then (some (true, r_7.2.1, r_7.2.2, (upd ν (Int32.toNatClampNeg (((4 : Int32) * p3) + (2 : Int32))) ((ν (Int32.toNatClampNeg (((4 : Int32) * p3) + (2 : Int32)))) + (1 : Int32))), (vp_updL ζ (Int32.toNatClampNeg (((3 : Int32) * p3) + ((ν (Int32.toNatClampNeg (((4 : Int32) * p3) + (2 : Int32)))) / (20 : Int32)))) ((ζ (Int32.toNatClampNeg (((3 : Int32) * p3) + ((ν (Int32.toNatClampNeg (((4 : Int32) * p3) + (2 : Int32)))) / (20 : Int32))))) ||| ((Int32.toInt64 p4) <<< ((Int32.toInt64 ((3 : Int32) * (irm (ν (Int32.toNatClampNeg (((4 : Int32) * p3) + (2 : Int32)))) (20 : Int32)))) &&& 63)))))) else (some (false, r_7.2.1, r_7.2.2, (upd ν (Int32.toNatClampNeg (((4 : Int32) * p3) + (2 : Int32))) ((ν (Int32.toNatClampNeg (((4 : Int32) * p3) + (2 : Int32)))) + (1 : Int32))), (vp_updL ζ (Int32.toNatClampNeg (((3 : Int32) * p3) + ((ν (Int32.toNatClampNeg (((4 : Int32) * p3) + (2 : Int32)))) / (20 : Int32)))) ((ζ (Int32.toNatClampNeg (((3 : Int32) * p3) + ((ν (Int32.toNatClampNeg (((4 : Int32) * p3) + (2 : Int32)))) / (20 : Int32))))) ||| ((Int32.toInt64 p4) <<< ((Int32.toInt64 ((3 : Int32) * (irm (ν (Int32.toNatClampNeg (((4 : Int32) * p3) + (2 : Int32)))) (20 : Int32)))) &&& 63)))))))))) else none)) else none) else none) else (if ((0 + 1) + 2) + 1 ≤ cap then ((fL_told σ η (1 : Int32) p3 p4).bind fun r_12 => (if r_12.1 = (-13 : Int32) then (some (true, r_12.2.1, r_12.2.2, ν, ζ)) else (some (false, r_12.2.1, r_12.2.2, ν, ζ)))) else none))) else none) else none)
abbrev rmL_steps (cap : Nat) : Room := { frames := 9, cells := 3 * cap, slots := 61 * cap, locals := 173 }
theorem hdL_steps : yL_steps.cls = RL ∧ yL_steps.cls ≠ "java/lang/invoke/MethodHandle" ∧ yL_steps.cls ≠ "java/lang/invoke/VarHandle" ∧ (parseMethodDescriptor yL_steps.desc).map (fun d => d.parameters.length) = some 5 := by decide +kernel
theorem naL_steps : (.arrayClass .int : Cond) ∈ wsL_steps := by decide +kernel
set_option maxHeartbeats 4000000 in
set_option maxRecDepth 100000 in
theorem cL_steps_ok (l : Launch) (hl0 : l.stackTraces = false) (g : Gg) (cap : Nat) (c0 h k0 x0 d0 a1 a2 a3 a4 k1 v0 z0 : Nat) (γ : Nat → Nat → Nat) (σ : Sh) (η : Hi) (ν : (Nat → Int32)) (ζ : (Nat → Int64)) (p3 p4 : Int32) (sz : Nat) {o : Bool × Sh × Hi × (Nat → Int32) × (Nat → Int64)} (hf : fL_steps cap σ η ν ζ p3 p4 = some o) : Met l yL_steps wsL_steps (rmL_steps cap) (va_Pc [.ref c0, .ref v0, .ref z0, .int p3, .int p4] (PM g (wC c0 h k0 x0 d0 ++ (wS g h a1 a2 a3 a4 σ ++ (wH g k0 k1 γ η ++ (wV g v0 ν ++ (wZ g z0 ζ))))) sz)) (va_Qi (fun r' (_ : Unit) => r' = b2i o.1) (fun _ t => PQ g (wC c0 h k0 x0 d0 ++ (wS g h a1 a2 a3 a4 o.2.1 ++ (wH g k0 k1 γ o.2.2.1 ++ (wV g v0 o.2.2.2.1 ++ (wZ g z0 o.2.2.2.2))))) (va_A (wC c0 h k0 x0 d0 ++ (wS g h a1 a2 a3 a4 σ ++ (wH g k0 k1 γ η ++ (wV g v0 ν ++ (wZ g z0 ζ))))) sz) t) (va_A (wC c0 h k0 x0 d0 ++ (wS g h a1 a2 a3 a4 σ ++ (wH g k0 k1 γ η ++ (wV g v0 ν ++ (wZ g z0 ζ))))) sz)) (3 * cap) (61 * cap) (va_A (wC c0 h k0 x0 d0 ++ (wS g h a1 a2 a3 a4 σ ++ (wH g k0 k1 γ η ++ (wV g v0 ν ++ (wZ g z0 ζ))))) sz) := by
  refine Met.ofW (cc := cL_steps) (maxL := 7) (ret := (some .boolean)) (by decide) rfl ?_
  intro p e s m args below meth c s₁ B hml hv
  obtain ⟨rfl, rfl, hP, hD0, hE, hZ⟩ := hv
  have hx := B.exec
  have hb := B.bytes
  have hr := B.returns
  have hts := atoms_spec (ws := wsL_steps) B.pre
  have hown : s.vm.findClass RL = some m.cls := findClass_of_methodNamed B.named
  have hlocks := B.notSynchronized
  have hD := hD0.self (sz := s.heap.size)
  generalize hAe : (va_A (wC c0 h k0 x0 d0 ++ (wS g h a1 a2 a3 a4 σ ++ (wH g k0 k1 γ η ++ (wV g v0 ν ++ (wZ g z0 ζ))))) s.heap.size) = A at hD hZ ⊢
  have hA : ∀ q : Nat, s.heap.size ≤ q → A q := fun q h => by rw [← hAe]; exact Or.inr h
  have hS : va_S A s.heap s.heap [] := va_S.rf
  have hP : va_P g.1 vwCl (wC c0 h k0 x0 d0 ++ (wS g h a1 a2 a3 a4 σ ++ (wH g k0 k1 γ η ++ (wV g v0 ν ++ (wZ g z0 ζ))))) s.heap := hP
  have hl := lv_entry ([.ref c0, .ref v0, .ref z0, .int p3, .int p4]) (n := 7) (Nat.le_of_ble_eq_true rfl)
  rw [lg_entry_eq]
  generalize (lg_sl ([.ref c0, .ref v0, .ref z0, .int p3, .int p4]) ++ List.replicate (7 - (lg_sl ([.ref c0, .ref v0, .ref z0, .int p3, .int p4])).length) Slot.unset).toArray = ls at hl ⊢
  refine W.cs (cells' := 3 * 0) (slots' := 61 * 0) rfl rfl ?_
  have hl : lv_has ls 7 [(0, .ref c0), (1, .ref v0), (2, .ref z0), (3, .int p3), (4, .int p4)] := hl
  unfold fL_steps at hf
  refine lv_bipush (v := (61 : Int32)) hx hb dL_steps_0 (by decide) ?_
  obtain ⟨h_1, hf⟩ := ck hf
  refine newaI (N' := 61) (W0 := (wC c0 h k0 x0 d0 ++ (wS g h a1 a2 a3 a4 σ ++ (wH g k0 k1 γ η ++ (wV g v0 ν ++ (wZ g z0 ζ)))))) hx hb (hts _ naL_steps) hE hP hD hS hA (by decide) (by decide) (Nat.le_of_ble_eq_true rfl) (ka3 h_1) (ka61 h_1) dL_steps_2 (fun p0 H hP hD hS => ?_)
  have hP : va_P g.1 vwCl (wC c0 h k0 x0 d0 ++ (wS g h a1 a2 a3 a4 σ ++ (wH g k0 k1 γ η ++ (wV g v0 ν ++ (wZ g z0 ζ ++ (wP g p0 (fun _ => (0 : Int32)))))))) H := hP
  have hD : va_D A (wC c0 h k0 x0 d0 ++ (wS g h a1 a2 a3 a4 σ ++ (wH g k0 k1 γ η ++ (wV g v0 ν ++ (wZ g z0 ζ ++ (wP g p0 (fun _ => (0 : Int32)))))))) := hD
  refine W.widen (k := 3 * (0 + 1)) (n := 61 * (0 + 1)) (by omega) (by omega) ?_
  refine lv_astore (lv' := [(5, .ref p0), (0, .ref c0), (1, .ref v0), (2, .ref z0), (3, .int p3), (4, .int p4)]) hx hb dL_steps_4 hl (by decide) rfl (fun ls hl => ?_)
  refine lv_aload_n hx hb dL_steps_6 rfl (lv_at hl 2 rfl) ?_
  refine lv_aload_n hx hb dL_steps_7 rfl (lv_at hl 3 rfl) ?_
  refine lv_iload_n hx hb dL_steps_8 rfl (lv_at hl 4 rfl) ?_
  refine lv_iload hx hb dL_steps_9 (lv_at hl 5 rfl) ?_
  obtain ⟨h_2, hf⟩ := ck hf
  obtain ⟨r_2, e_2, hf⟩ := bo hf
  refine mcallSi (W0 := (wC c0 h k0 x0 d0 ++ (wS g h a1 a2 a3 a4 σ ++ (wH g k0 k1 γ η ++ (wV g v0 ν ++ (wZ g z0 ζ ++ (wP g p0 (fun _ => (0 : Int32))))))))) (Wc := (wV g v0 ν ++ (wZ g z0 ζ))) (Wr := (wC c0 h k0 x0 d0 ++ (wS g h a1 a2 a3 a4 σ ++ (wH g k0 k1 γ η ++ (wP g p0 (fun _ => (0 : Int32))))))) (W1 := (wV g v0 ν ++ (wZ g z0 ζ))) (W2 := (wC c0 h k0 x0 d0 ++ (wS g h a1 a2 a3 a4 σ ++ (wH g k0 k1 γ η ++ (wV g v0 ν ++ (wZ g z0 ζ ++ (wP g p0 (fun _ => (0 : Int32))))))))) (As := [.ref v0, .ref z0, .int p3, .int p4]) (rest := []) [38, 39] [0, 1, 2, 3, 4, 5, 6, 7, 8, 9, 10, 11, 12, 13, 14, 15, 16, 17, 18, 19, 20, 21, 22, 23, 24, 25, 26, 27, 28, 29, 30, 31, 32, 33, 34, 35, 36, 37, 40] [0, 1, 2, 3, 4, 5, 6, 7, 8, 9, 10, 11, 12, 13, 14, 15, 16, 17, 18, 19, 20, 21, 22, 23, 24, 25, 26, 27, 28, 29, 30, 31, 32, 33, 34, 35, 36, 37, 39, 40, 38] ⟨hx, hb, hml, hown, hts⟩ hP hD hE hZ hS hA (cL_why_ok l hl0 g 2 v0 z0 ν ζ p3 p4 _ e_2) (va_cwS 4 hts gL_steps_L_why rfl rfl rfl hdL_why.2 ⟨(Nat.le_of_ble_eq_true rfl), (Nat.le_of_ble_eq_true rfl)⟩) rfl rfl rfl (by decide) (by decide) (by decide) (by decide) rfl hl.1 rfl (Nat.le_of_ble_eq_true rfl) ⟨(kc3 h_2), (kc61 h_2)⟩ dL_steps_11 (fun H locs hP hD hS => ?_)
  refine W.widen (k := 3 * ((0 + 1) + 2)) (n := 61 * ((0 + 1) + 2)) (by omega) (by omega) ?_
  refine lv_if_le (tgt := 36) hx hb dL_steps_14 (by decide) (fun c_3 => ?_) (fun c_3 => ?_)
  · have hf := ip c_3 hf
    refine lv_aload_n hx hb dL_steps_36 rfl (lv_at hl 2 rfl) ?_
    refine lv_iconst (v := (4 : Int32)) hx hb dL_steps_37 (by decide) ?_
    refine lv_iload_n hx hb dL_steps_38 rfl (lv_at hl 4 rfl) ?_
    refine lv_imul hx hb dL_steps_39 ?_
    refine lv_iconst (v := (2 : Int32)) hx hb dL_steps_40 (by decide) ?_
    refine lv_iadd hx hb dL_steps_41 ?_
    obtain ⟨h_4, hf⟩ := ck hf
    refine va_iald hx hb hE.1 hP 38 0 rfl rfl (vin h_4) dL_steps_42 ?_
    refine lv_istore (lv' := [(6, .int (ν (Int32.toNatClampNeg (((4 : Int32) * p3) + (2 : Int32))))), (5, .ref p0), (0, .ref c0), (1, .ref v0), (2, .ref z0), (3, .int p3), (4, .int p4)]) hx hb dL_steps_43 hl (by decide) rfl (fun ls hl => ?_)
    refine lv_aload_n hx hb dL_steps_45 rfl (lv_at hl 4 rfl) ?_
    refine lv_iconst (v := (3 : Int32)) hx hb dL_steps_46 (by decide) ?_
    refine lv_iload_n hx hb dL_steps_47 rfl (lv_at hl 5 rfl) ?_
    refine lv_imul hx hb dL_steps_48 ?_
    refine lv_iload hx hb dL_steps_49 (lv_at hl 0 rfl) ?_
    refine lv_bipush (v := (20 : Int32)) hx hb dL_steps_51 (by decide) ?_
    refine lv_idiv hx hb dL_steps_53 (by decide) ?_
    refine lv_iadd hx hb dL_steps_54 ?_
    refine lv_dup2_11 hx hb dL_steps_55 rfl rfl ?_
    obtain ⟨h_5, hf⟩ := ck hf
    refine va_lald hx hb hE.1 hP 39 2 rfl rfl (vin h_5) dL_steps_56 ?_
    refine lv_iload hx hb dL_steps_57 (lv_at hl 6 rfl) ?_
    refine lv_i2l hx hb dL_steps_59 rfl ?_
    refine lv_iconst (v := (3 : Int32)) hx hb dL_steps_60 (by decide) ?_
    refine lv_iload hx hb dL_steps_61 (lv_at hl 0 rfl) ?_
    refine lv_bipush (v := (20 : Int32)) hx hb dL_steps_63 (by decide) ?_
    refine lv_irm hx hb dL_steps_65 (by decide) ?_
    refine lv_imul hx hb dL_steps_66 ?_
    refine lv_lshl hx hb dL_steps_67 rfl ?_
    refine lv_lor hx hb dL_steps_68 ?_
    refine va_last hx hb hE.1 hP hD hS 39 2 rfl rfl (vin h_5) dL_steps_69 (fun H locs hP hD hS => ?_)
    have hP : va_P g.1 vwCl (wC c0 h k0 x0 d0 ++ (wS g h a1 a2 a3 a4 σ ++ (wH g k0 k1 γ η ++ (wV g v0 ν ++ (wZ g z0 (vp_updL ζ (Int32.toNatClampNeg (((3 : Int32) * p3) + ((ν (Int32.toNatClampNeg (((4 : Int32) * p3) + (2 : Int32)))) / (20 : Int32)))) ((ζ (Int32.toNatClampNeg (((3 : Int32) * p3) + ((ν (Int32.toNatClampNeg (((4 : Int32) * p3) + (2 : Int32)))) / (20 : Int32))))) ||| ((Int32.toInt64 p4) <<< ((Int32.toInt64 ((3 : Int32) * (irm (ν (Int32.toNatClampNeg (((4 : Int32) * p3) + (2 : Int32)))) (20 : Int32)))) &&& 63)))) ++ (wP g p0 (fun _ => (0 : Int32)))))))) H := hP
    have hD : va_D A (wC c0 h k0 x0 d0 ++ (wS g h a1 a2 a3 a4 σ ++ (wH g k0 k1 γ η ++ (wV g v0 ν ++ (wZ g z0 (vp_updL ζ (Int32.toNatClampNeg (((3 : Int32) * p3) + ((ν (Int32.toNatClampNeg (((4 : Int32) * p3) + (2 : Int32)))) / (20 : Int32)))) ((ζ (Int32.toNatClampNeg (((3 : Int32) * p3) + ((ν (Int32.toNatClampNeg (((4 : Int32) * p3) + (2 : Int32)))) / (20 : Int32))))) ||| ((Int32.toInt64 p4) <<< ((Int32.toInt64 ((3 : Int32) * (irm (ν (Int32.toNatClampNeg (((4 : Int32) * p3) + (2 : Int32)))) (20 : Int32)))) &&& 63)))) ++ (wP g p0 (fun _ => (0 : Int32)))))))) := hD
    refine lv_aload_n hx hb dL_steps_70 rfl (lv_at hl 3 rfl) ?_
    refine lv_iconst (v := (4 : Int32)) hx hb dL_steps_71 (by decide) ?_
    refine lv_iload_n hx hb dL_steps_72 rfl (lv_at hl 5 rfl) ?_
    refine lv_imul hx hb dL_steps_73 ?_
    refine lv_iconst (v := (2 : Int32)) hx hb dL_steps_74 (by decide) ?_
    refine lv_iadd hx hb dL_steps_75 ?_
    refine lv_dup2_11 hx hb dL_steps_76 rfl rfl ?_
    refine va_iald hx hb hE.1 hP 38 0 rfl rfl (vin h_4) dL_steps_77 ?_
    refine lv_iconst (v := (1 : Int32)) hx hb dL_steps_78 (by decide) ?_
    refine lv_iadd hx hb dL_steps_79 ?_
    refine va_iast hx hb hE.1 hP hD hS 38 0 rfl rfl (vin h_4) dL_steps_80 (fun H locs hP hD hS => ?_)
    have hP : va_P g.1 vwCl (wC c0 h k0 x0 d0 ++ (wS g h a1 a2 a3 a4 σ ++ (wH g k0 k1 γ η ++ (wV g v0 (upd ν (Int32.toNatClampNeg (((4 : Int32) * p3) + (2 : Int32))) ((ν (Int32.toNatClampNeg (((4 : Int32) * p3) + (2 : Int32)))) + (1 : Int32))) ++ (wZ g z0 (vp_updL ζ (Int32.toNatClampNeg (((3 : Int32) * p3) + ((ν (Int32.toNatClampNeg (((4 : Int32) * p3) + (2 : Int32)))) / (20 : Int32)))) ((ζ (Int32.toNatClampNeg (((3 : Int32) * p3) + ((ν (Int32.toNatClampNeg (((4 : Int32) * p3) + (2 : Int32)))) / (20 : Int32))))) ||| ((Int32.toInt64 p4) <<< ((Int32.toInt64 ((3 : Int32) * (irm (ν (Int32.toNatClampNeg (((4 : Int32) * p3) + (2 : Int32)))) (20 : Int32)))) &&& 63)))) ++ (wP g p0 (fun _ => (0 : Int32)))))))) H := hP
    have hD : va_D A (wC c0 h k0 x0 d0 ++ (wS g h a1 a2 a3 a4 σ ++ (wH g k0 k1 γ η ++ (wV g v0 (upd ν (Int32.toNatClampNeg (((4 : Int32) * p3) + (2 : Int32))) ((ν (Int32.toNatClampNeg (((4 : Int32) * p3) + (2 : Int32)))) + (1 : Int32))) ++ (wZ g z0 (vp_updL ζ (Int32.toNatClampNeg (((3 : Int32) * p3) + ((ν (Int32.toNatClampNeg (((4 : Int32) * p3) + (2 : Int32)))) / (20 : Int32)))) ((ζ (Int32.toNatClampNeg (((3 : Int32) * p3) + ((ν (Int32.toNatClampNeg (((4 : Int32) * p3) + (2 : Int32)))) / (20 : Int32))))) ||| ((Int32.toInt64 p4) <<< ((Int32.toInt64 ((3 : Int32) * (irm (ν (Int32.toNatClampNeg (((4 : Int32) * p3) + (2 : Int32)))) (20 : Int32)))) &&& 63)))) ++ (wP g p0 (fun _ => (0 : Int32)))))))) := hD
    refine lv_aload_n hx hb dL_steps_81 rfl (lv_at hl 3 rfl) ?_
    refine lv_aload_n hx hb dL_steps_82 rfl (lv_at hl 4 rfl) ?_
    refine lv_iload_n hx hb dL_steps_83 rfl (lv_at hl 5 rfl) ?_
    refine lv_aload hx hb dL_steps_84 (lv_at hl 1 rfl) ?_
    obtain ⟨r_6, e_6, hf⟩ := bo hf
    refine mcallSv (W0 := (wC c0 h k0 x0 d0 ++ (wS g h a1 a2 a3 a4 σ ++ (wH g k0 k1 γ η ++ (wV g v0 (upd ν (Int32.toNatClampNeg (((4 : Int32) * p3) + (2 : Int32))) ((ν (Int32.toNatClampNeg (((4 : Int32) * p3) + (2 : Int32)))) + (1 : Int32))) ++ (wZ g z0 (vp_updL ζ (Int32.toNatClampNeg (((3 : Int32) * p3) + ((ν (Int32.toNatClampNeg (((4 : Int32) * p3) + (2 : Int32)))) / (20 : Int32)))) ((ζ (Int32.toNatClampNeg (((3 : Int32) * p3) + ((ν (Int32.toNatClampNeg (((4 : Int32) * p3) + (2 : Int32)))) / (20 : Int32))))) ||| ((Int32.toInt64 p4) <<< ((Int32.toInt64 ((3 : Int32) * (irm (ν (Int32.toNatClampNeg (((4 : Int32) * p3) + (2 : Int32)))) (20 : Int32)))) &&& 63)))) ++ (wP g p0 (fun _ => (0 : Int32))))))))) (Wc := (wV g v0 (upd ν (Int32.toNatClampNeg (((4 : Int32) * p3) + (2 : Int32))) ((ν (Int32.toNatClampNeg (((4 : Int32) * p3) + (2 : Int32)))) + (1 : Int32))) ++ (wZ g z0 (vp_updL ζ (Int32.toNatClampNeg (((3 : Int32) * p3) + ((ν (Int32.toNatClampNeg (((4 : Int32) * p3) + (2 : Int32)))) / (20 : Int32)))) ((ζ (Int32.toNatClampNeg (((3 : Int32) * p3) + ((ν (Int32.toNatClampNeg (((4 : Int32) * p3) + (2 : Int32)))) / (20 : Int32))))) ||| ((Int32.toInt64 p4) <<< ((Int32.toInt64 ((3 : Int32) * (irm (ν (Int32.toNatClampNeg (((4 : Int32) * p3) + (2 : Int32)))) (20 : Int32)))) &&& 63)))) ++ (wP g p0 (fun _ => (0 : Int32)))))) (Wr := (wC c0 h k0 x0 d0 ++ (wS g h a1 a2 a3 a4 σ ++ (wH g k0 k1 γ η)))) (W1 := (wV g v0 (upd ν (Int32.toNatClampNeg (((4 : Int32) * p3) + (2 : Int32))) ((ν (Int32.toNatClampNeg (((4 : Int32) * p3) + (2 : Int32)))) + (1 : Int32))) ++ (wZ g z0 (vp_updL ζ (Int32.toNatClampNeg (((3 : Int32) * p3) + ((ν (Int32.toNatClampNeg (((4 : Int32) * p3) + (2 : Int32)))) / (20 : Int32)))) ((ζ (Int32.toNatClampNeg (((3 : Int32) * p3) + ((ν (Int32.toNatClampNeg (((4 : Int32) * p3) + (2 : Int32)))) / (20 : Int32))))) ||| ((Int32.toInt64 p4) <<< ((Int32.toInt64 ((3 : Int32) * (irm (ν (Int32.toNatClampNeg (((4 : Int32) * p3) + (2 : Int32)))) (20 : Int32)))) &&& 63)))) ++ (wP g p0 r_6)))) (W2 := (wC c0 h k0 x0 d0 ++ (wS g h a1 a2 a3 a4 σ ++ (wH g k0 k1 γ η ++ (wV g v0 (upd ν (Int32.toNatClampNeg (((4 : Int32) * p3) + (2 : Int32))) ((ν (Int32.toNatClampNeg (((4 : Int32) * p3) + (2 : Int32)))) + (1 : Int32))) ++ (wZ g z0 (vp_updL ζ (Int32.toNatClampNeg (((3 : Int32) * p3) + ((ν (Int32.toNatClampNeg (((4 : Int32) * p3) + (2 : Int32)))) / (20 : Int32)))) ((ζ (Int32.toNatClampNeg (((3 : Int32) * p3) + ((ν (Int32.toNatClampNeg (((4 : Int32) * p3) + (2 : Int32)))) / (20 : Int32))))) ||| ((Int32.toInt64 p4) <<< ((Int32.toInt64 ((3 : Int32) * (irm (ν (Int32.toNatClampNeg (((4 : Int32) * p3) + (2 : Int32)))) (20 : Int32)))) &&& 63)))) ++ (wP g p0 r_6))))))) (As := [.ref v0, .ref z0, .int p3, .ref p0]) (rest := []) [38, 39, 40] [0, 1, 2, 3, 4, 5, 6, 7, 8, 9, 10, 11, 12, 13, 14, 15, 16, 17, 18, 19, 20, 21, 22, 23, 24, 25, 26, 27, 28, 29, 30, 31, 32, 33, 34, 35, 36, 37] [0, 1, 2, 3, 4, 5, 6, 7, 8, 9, 10, 11, 12, 13, 14, 15, 16, 17, 18, 19, 20, 21, 22, 23, 24, 25, 26, 27, 28, 29, 30, 31, 32, 33, 34, 35, 36, 37, 38, 39, 40] ⟨hx, hb, hml, hown, hts⟩ hP hD hE hZ hS hA (cL_walks_ok l g  v0 z0 p0 (upd ν (Int32.toNatClampNeg (((4 : Int32) * p3) + (2 : Int32))) ((ν (Int32.toNatClampNeg (((4 : Int32) * p3) + (2 : Int32)))) + (1 : Int32))) (vp_updL ζ (Int32.toNatClampNeg (((3 : Int32) * p3) + ((ν (Int32.toNatClampNeg (((4 : Int32) * p3) + (2 : Int32)))) / (20 : Int32)))) ((ζ (Int32.toNatClampNeg (((3 : Int32) * p3) + ((ν (Int32.toNatClampNeg (((4 : Int32) * p3) + (2 : Int32)))) / (20 : Int32))))) ||| ((Int32.toInt64 p4) <<< ((Int32.toInt64 ((3 : Int32) * (irm (ν (Int32.toNatClampNeg (((4 : Int32) * p3) + (2 : Int32)))) (20 : Int32)))) &&& 63)))) (fun _ => (0 : Int32)) p3 _ e_6) (va_cwS 4 hts gL_steps_L_walks rfl rfl rfl hdL_walks.2 ⟨(Nat.le_of_ble_eq_true rfl), (Nat.le_of_ble_eq_true rfl)⟩) rfl rfl rfl (by decide) (by decide) (by decide) (by decide) rfl hl.1 rfl (Nat.le_of_ble_eq_true rfl) ⟨(k3 h_2), (k61 h_2)⟩ dL_steps_86 (fun H locs hP hD hS => ?_)
    refine W.cs (cells' := 3 * ((0 + 1) + 2)) (slots' := 61 * ((0 + 1) + 2)) (Nat.add_zero _) (Nat.add_zero _) ?_
    refine lv_aload_n hx hb dL_steps_89 rfl (lv_at hl 2 rfl) ?_
    refine lv_iconst (v := (1 : Int32)) hx hb dL_steps_90 (by decide) ?_
    refine lv_iload_n hx hb dL_steps_91 rfl (lv_at hl 5 rfl) ?_
    refine lv_iload hx hb dL_steps_92 (lv_at hl 6 rfl) ?_
    obtain ⟨h_7, hf⟩ := ck hf
    obtain ⟨r_7, e_7, hf⟩ := bo hf
    refine lcallS (W0 := (wC c0 h k0 x0 d0 ++ (wS g h a1 a2 a3 a4 σ ++ (wH g k0 k1 γ η ++ (wV g v0 (upd ν (Int32.toNatClampNeg (((4 : Int32) * p3) + (2 : Int32))) ((ν (Int32.toNatClampNeg (((4 : Int32) * p3) + (2 : Int32)))) + (1 : Int32))) ++ (wZ g z0 (vp_updL ζ (Int32.toNatClampNeg (((3 : Int32) * p3) + ((ν (Int32.toNatClampNeg (((4 : Int32) * p3) + (2 : Int32)))) / (20 : Int32)))) ((ζ (Int32.toNatClampNeg (((3 : Int32) * p3) + ((ν (Int32.toNatClampNeg (((4 : Int32) * p3) + (2 : Int32)))) / (20 : Int32))))) ||| ((Int32.toInt64 p4) <<< ((Int32.toInt64 ((3 : Int32) * (irm (ν (Int32.toNatClampNeg (((4 : Int32) * p3) + (2 : Int32)))) (20 : Int32)))) &&& 63)))) ++ (wP g p0 r_6))))))) (Wc := (wC c0 h k0 x0 d0 ++ (wS g h a1 a2 a3 a4 σ ++ (wH g k0 k1 γ η)))) (Wr := (wV g v0 (upd ν (Int32.toNatClampNeg (((4 : Int32) * p3) + (2 : Int32))) ((ν (Int32.toNatClampNeg (((4 : Int32) * p3) + (2 : Int32)))) + (1 : Int32))) ++ (wZ g z0 (vp_updL ζ (Int32.toNatClampNeg (((3 : Int32) * p3) + ((ν (Int32.toNatClampNeg (((4 : Int32) * p3) + (2 : Int32)))) / (20 : Int32)))) ((ζ (Int32.toNatClampNeg (((3 : Int32) * p3) + ((ν (Int32.toNatClampNeg (((4 : Int32) * p3) + (2 : Int32)))) / (20 : Int32))))) ||| ((Int32.toInt64 p4) <<< ((Int32.toInt64 ((3 : Int32) * (irm (ν (Int32.toNatClampNeg (((4 : Int32) * p3) + (2 : Int32)))) (20 : Int32)))) &&& 63)))) ++ (wP g p0 r_6)))) (W1 := (wC c0 h k0 x0 d0 ++ (wS g h a1 a2 a3 a4 r_7.2.1 ++ (wH g k0 k1 γ r_7.2.2)))) (W2 := (wC c0 h k0 x0 d0 ++ (wS g h a1 a2 a3 a4 r_7.2.1 ++ (wH g k0 k1 γ r_7.2.2 ++ (wV g v0 (upd ν (Int32.toNatClampNeg (((4 : Int32) * p3) + (2 : Int32))) ((ν (Int32.toNatClampNeg (((4 : Int32) * p3) + (2 : Int32)))) + (1 : Int32))) ++ (wZ g z0 (vp_updL ζ (Int32.toNatClampNeg (((3 : Int32) * p3) + ((ν (Int32.toNatClampNeg (((4 : Int32) * p3) + (2 : Int32)))) / (20 : Int32)))) ((ζ (Int32.toNatClampNeg (((3 : Int32) * p3) + ((ν (Int32.toNatClampNeg (((4 : Int32) * p3) + (2 : Int32)))) / (20 : Int32))))) ||| ((Int32.toInt64 p4) <<< ((Int32.toInt64 ((3 : Int32) * (irm (ν (Int32.toNatClampNeg (((4 : Int32) * p3) + (2 : Int32)))) (20 : Int32)))) &&& 63)))) ++ (wP g p0 r_6))))))) (As := [.ref c0, .int (1 : Int32), .int p3, .int p4]) (rest := []) [0, 1, 2, 3, 4, 5, 6, 7, 8, 9, 10, 11, 12, 13, 14, 15, 16, 17, 18, 19, 20, 21, 22, 23, 24, 25, 26, 27, 28, 29, 30, 31, 32, 33, 34, 35, 36, 37] [38, 39, 40] [3, 4, 5, 6, 7, 8, 9, 10, 11, 12, 13, 14, 15, 16, 17, 18, 19, 20, 21, 22, 23, 24, 25, 26, 27, 28, 29, 30, 31, 32, 33, 34, 35, 36, 37, 38, 39, 40, 0, 1, 2] ⟨hx, hb, hml, hown, hts⟩ hP hD hE hZ hS hA (cL_told_ok l hl0 g c0 h k0 x0 d0 a1 a2 a3 a4 k1 γ σ η (1 : Int32) p3 p4 _ e_7) (vx_cwSW 4 hts gL_steps_L_told rfl rfl rfl hdL_told.2 ⟨(Nat.le_of_ble_eq_true rfl), (Nat.le_of_ble_eq_true rfl)⟩) rfl rfl rfl (by decide) (by decide) (by decide) (by decide) rfl hl.1 rfl (Nat.le_of_ble_eq_true rfl) ⟨(kt3 h_7), (kt61 h_7)⟩ dL_steps_94 (fun H locs hP hD hS => ?_)
    refine W.widen (k := 3 * (((0 + 1) + 2) + 1)) (n := 61 * (((0 + 1) + 2) + 1)) (by omega) (by omega) ?_
    refine lv_aload_n hx hb dL_steps_97 rfl (lv_at hl 3 rfl) ?_
    refine lv_iload_n hx hb dL_steps_98 rfl (lv_at hl 5 rfl) ?_
    refine lv_aload hx hb dL_steps_99 (lv_at hl 1 rfl) ?_
    obtain ⟨r_8, e_8, hf⟩ := bo hf
    refine pcallS (W0 := (wC c0 h k0 x0 d0 ++ (wS g h a1 a2 a3 a4 r_7.2.1 ++ (wH g k0 k1 γ r_7.2.2 ++ (wV g v0 (upd ν (Int32.toNatClampNeg (((4 : Int32) * p3) + (2 : Int32))) ((ν (Int32.toNatClampNeg (((4 : Int32) * p3) + (2 : Int32)))) + (1 : Int32))) ++ (wZ g z0 (vp_updL ζ (Int32.toNatClampNeg (((3 : Int32) * p3) + ((ν (Int32.toNatClampNeg (((4 : Int32) * p3) + (2 : Int32)))) / (20 : Int32)))) ((ζ (Int32.toNatClampNeg (((3 : Int32) * p3) + ((ν (Int32.toNatClampNeg (((4 : Int32) * p3) + (2 : Int32)))) / (20 : Int32))))) ||| ((Int32.toInt64 p4) <<< ((Int32.toInt64 ((3 : Int32) * (irm (ν (Int32.toNatClampNeg (((4 : Int32) * p3) + (2 : Int32)))) (20 : Int32)))) &&& 63)))) ++ (wP g p0 r_6))))))) (As := [.ref v0, .int p3, .ref p0]) (rest := [.int r_7.1]) [38, 40] ⟨hx, hb, hml, hown, hts⟩ hP hE hZ hS (cL_closed_ok l g v0 p0 (upd ν (Int32.toNatClampNeg (((4 : Int32) * p3) + (2 : Int32))) ((ν (Int32.toNatClampNeg (((4 : Int32) * p3) + (2 : Int32)))) + (1 : Int32))) r_6 p3 e_8) (va_cwS 3 hts gL_steps_L_closed rfl rfl rfl hdL_closed.2 ⟨(Nat.le_of_ble_eq_true rfl), (Nat.le_of_ble_eq_true rfl)⟩) rfl rfl hl.1 rfl (Nat.le_of_ble_eq_true rfl) ⟨(k3 h_7), (k61 h_7)⟩ dL_steps_101 ?_
    refine lv_beq (tgt := 111) hx hb dL_steps_104 (by decide) (fun c_9 => ?_) (fun c_9 => ?_)
    · have hf := iq c_9 hf
      refine lv_iconst (v := (0 : Int32)) hx hb dL_steps_111 (by decide) ?_
      refine lv_icmp_ne (tgt := 119) hx hb dL_steps_112 (by decide) (fun c_10 => ?_) (fun c_10 => ?_)
      · have hf := iq c_10 hf
        refine lv_iconst (v := (0 : Int32)) hx hb dL_steps_119 (by decide) ?_
        have ho := Option.some.inj hf
        subst ho
        have hP := hP.sub (ws' := (wC c0 h k0 x0 d0 ++ (wS g h a1 a2 a3 a4 r_7.2.1 ++ (wH g k0 k1 γ r_7.2.2 ++ (wV g v0 (upd ν (Int32.toNatClampNeg (((4 : Int32) * p3) + (2 : Int32))) ((ν (Int32.toNatClampNeg (((4 : Int32) * p3) + (2 : Int32)))) + (1 : Int32))) ++ (wZ g z0 (vp_updL ζ (Int32.toNatClampNeg (((3 : Int32) * p3) + ((ν (Int32.toNatClampNeg (((4 : Int32) * p3) + (2 : Int32)))) / (20 : Int32)))) ((ζ (Int32.toNatClampNeg (((3 : Int32) * p3) + ((ν (Int32.toNatClampNeg (((4 : Int32) * p3) + (2 : Int32)))) / (20 : Int32))))) ||| ((Int32.toInt64 p4) <<< ((Int32.toInt64 ((3 : Int32) * (irm (ν (Int32.toNatClampNeg (((4 : Int32) * p3) + (2 : Int32)))) (20 : Int32)))) &&& 63)))))))))) [0, 1, 2, 3, 4, 5, 6, 7, 8, 9, 10, 11, 12, 13, 14, 15, 16, 17, 18, 19, 20, 21, 22, 23, 24, 25, 26, 27, 28, 29, 30, 31, 32, 33, 34, 35, 36, 37, 38, 39] rfl
        have hD := hD.sub (ws' := (wC c0 h k0 x0 d0 ++ (wS g h a1 a2 a3 a4 r_7.2.1 ++ (wH g k0 k1 γ r_7.2.2 ++ (wV g v0 (upd ν (Int32.toNatClampNeg (((4 : Int32) * p3) + (2 : Int32))) ((ν (Int32.toNatClampNeg (((4 : Int32) * p3) + (2 : Int32)))) + (1 : Int32))) ++ (wZ g z0 (vp_updL ζ (Int32.toNatClampNeg (((3 : Int32) * p3) + ((ν (Int32.toNatClampNeg (((4 : Int32) * p3) + (2 : Int32)))) / (20 : Int32)))) ((ζ (Int32.toNatClampNeg (((3 : Int32) * p3) + ((ν (Int32.toNatClampNeg (((4 : Int32) * p3) + (2 : Int32)))) / (20 : Int32))))) ||| ((Int32.toInt64 p4) <<< ((Int32.toInt64 ((3 : Int32) * (irm (ν (Int32.toNatClampNeg (((4 : Int32) * p3) + (2 : Int32)))) (20 : Int32)))) &&& 63)))))))))) [0, 1, 2, 3, 4, 5, 6, 7, 8, 9, 10, 11, 12, 13, 14, 15, 16, 17, 18, 19, 20, 21, 22, 23, 24, 25, 26, 27, 28, 29, 30, 31, 32, 33, 34, 35, 36, 37, 38, 39] (by decide) rfl
        refine W.widen (k := 3 * cap) (n := 61 * cap) (k3 h_7) (k61 h_7) ?_
        exact m_zret (v := false) hx hb hr hlocks hP hD hS rfl dL_steps_120
      · have hf := ip c_10 hf
        refine lv_iconst (v := (1 : Int32)) hx hb dL_steps_115 (by decide) ?_
        refine lv_goto (tgt := 120) hx hb dL_steps_116 (by decide) ?_
        have ho := Option.some.inj hf
        subst ho
        have hP := hP.sub (ws' := (wC c0 h k0 x0 d0 ++ (wS g h a1 a2 a3 a4 r_7.2.1 ++ (wH g k0 k1 γ r_7.2.2 ++ (wV g v0 (upd ν (Int32.toNatClampNeg (((4 : Int32) * p3) + (2 : Int32))) ((ν (Int32.toNatClampNeg (((4 : Int32) * p3) + (2 : Int32)))) + (1 : Int32))) ++ (wZ g z0 (vp_updL ζ (Int32.toNatClampNeg (((3 : Int32) * p3) + ((ν (Int32.toNatClampNeg (((4 : Int32) * p3) + (2 : Int32)))) / (20 : Int32)))) ((ζ (Int32.toNatClampNeg (((3 : Int32) * p3) + ((ν (Int32.toNatClampNeg (((4 : Int32) * p3) + (2 : Int32)))) / (20 : Int32))))) ||| ((Int32.toInt64 p4) <<< ((Int32.toInt64 ((3 : Int32) * (irm (ν (Int32.toNatClampNeg (((4 : Int32) * p3) + (2 : Int32)))) (20 : Int32)))) &&& 63)))))))))) [0, 1, 2, 3, 4, 5, 6, 7, 8, 9, 10, 11, 12, 13, 14, 15, 16, 17, 18, 19, 20, 21, 22, 23, 24, 25, 26, 27, 28, 29, 30, 31, 32, 33, 34, 35, 36, 37, 38, 39] rfl
        have hD := hD.sub (ws' := (wC c0 h k0 x0 d0 ++ (wS g h a1 a2 a3 a4 r_7.2.1 ++ (wH g k0 k1 γ r_7.2.2 ++ (wV g v0 (upd ν (Int32.toNatClampNeg (((4 : Int32) * p3) + (2 : Int32))) ((ν (Int32.toNatClampNeg (((4 : Int32) * p3) + (2 : Int32)))) + (1 : Int32))) ++ (wZ g z0 (vp_updL ζ (Int32.toNatClampNeg (((3 : Int32) * p3) + ((ν (Int32.toNatClampNeg (((4 : Int32) * p3) + (2 : Int32)))) / (20 : Int32)))) ((ζ (Int32.toNatClampNeg (((3 : Int32) * p3) + ((ν (Int32.toNatClampNeg (((4 : Int32) * p3) + (2 : Int32)))) / (20 : Int32))))) ||| ((Int32.toInt64 p4) <<< ((Int32.toInt64 ((3 : Int32) * (irm (ν (Int32.toNatClampNeg (((4 : Int32) * p3) + (2 : Int32)))) (20 : Int32)))) &&& 63)))))))))) [0, 1, 2, 3, 4, 5, 6, 7, 8, 9, 10, 11, 12, 13, 14, 15, 16, 17, 18, 19, 20, 21, 22, 23, 24, 25, 26, 27, 28, 29, 30, 31, 32, 33, 34, 35, 36, 37, 38, 39] (by decide) rfl
        refine W.widen (k := 3 * cap) (n := 61 * cap) (k3 h_7) (k61 h_7) ?_
        exact m_zret (v := true) hx hb hr hlocks hP hD hS rfl dL_steps_120
    · have hf := ip c_9 hf
      refine lv_iconst (v := (1 : Int32)) hx hb dL_steps_107 (by decide) ?_
      refine lv_goto (tgt := 112) hx hb dL_steps_108 (by decide) ?_
      refine lv_icmp_ne (tgt := 119) hx hb dL_steps_112 (by decide) (fun c_11 => ?_) (fun c_11 => ?_)
      · have hf := iq c_11 hf
        refine lv_iconst (v := (0 : Int32)) hx hb dL_steps_119 (by decide) ?_
        have ho := Option.some.inj hf
        subst ho
        have hP := hP.sub (ws' := (wC c0 h k0 x0 d0 ++ (wS g h a1 a2 a3 a4 r_7.2.1 ++ (wH g k0 k1 γ r_7.2.2 ++ (wV g v0 (upd ν (Int32.toNatClampNeg (((4 : Int32) * p3) + (2 : Int32))) ((ν (Int32.toNatClampNeg (((4 : Int32) * p3) + (2 : Int32)))) + (1 : Int32))) ++ (wZ g z0 (vp_updL ζ (Int32.toNatClampNeg (((3 : Int32) * p3) + ((ν (Int32.toNatClampNeg (((4 : Int32) * p3) + (2 : Int32)))) / (20 : Int32)))) ((ζ (Int32.toNatClampNeg (((3 : Int32) * p3) + ((ν (Int32.toNatClampNeg (((4 : Int32) * p3) + (2 : Int32)))) / (20 : Int32))))) ||| ((Int32.toInt64 p4) <<< ((Int32.toInt64 ((3 : Int32) * (irm (ν (Int32.toNatClampNeg (((4 : Int32) * p3) + (2 : Int32)))) (20 : Int32)))) &&& 63)))))))))) [0, 1, 2, 3, 4, 5, 6, 7, 8, 9, 10, 11, 12, 13, 14, 15, 16, 17, 18, 19, 20, 21, 22, 23, 24, 25, 26, 27, 28, 29, 30, 31, 32, 33, 34, 35, 36, 37, 38, 39] rfl
        have hD := hD.sub (ws' := (wC c0 h k0 x0 d0 ++ (wS g h a1 a2 a3 a4 r_7.2.1 ++ (wH g k0 k1 γ r_7.2.2 ++ (wV g v0 (upd ν (Int32.toNatClampNeg (((4 : Int32) * p3) + (2 : Int32))) ((ν (Int32.toNatClampNeg (((4 : Int32) * p3) + (2 : Int32)))) + (1 : Int32))) ++ (wZ g z0 (vp_updL ζ (Int32.toNatClampNeg (((3 : Int32) * p3) + ((ν (Int32.toNatClampNeg (((4 : Int32) * p3) + (2 : Int32)))) / (20 : Int32)))) ((ζ (Int32.toNatClampNeg (((3 : Int32) * p3) + ((ν (Int32.toNatClampNeg (((4 : Int32) * p3) + (2 : Int32)))) / (20 : Int32))))) ||| ((Int32.toInt64 p4) <<< ((Int32.toInt64 ((3 : Int32) * (irm (ν (Int32.toNatClampNeg (((4 : Int32) * p3) + (2 : Int32)))) (20 : Int32)))) &&& 63)))))))))) [0, 1, 2, 3, 4, 5, 6, 7, 8, 9, 10, 11, 12, 13, 14, 15, 16, 17, 18, 19, 20, 21, 22, 23, 24, 25, 26, 27, 28, 29, 30, 31, 32, 33, 34, 35, 36, 37, 38, 39] (by decide) rfl
        refine W.widen (k := 3 * cap) (n := 61 * cap) (k3 h_7) (k61 h_7) ?_
        exact m_zret (v := false) hx hb hr hlocks hP hD hS rfl dL_steps_120
      · have hf := ip c_11 hf
        refine lv_iconst (v := (1 : Int32)) hx hb dL_steps_115 (by decide) ?_
        refine lv_goto (tgt := 120) hx hb dL_steps_116 (by decide) ?_
        have ho := Option.some.inj hf
        subst ho
        have hP := hP.sub (ws' := (wC c0 h k0 x0 d0 ++ (wS g h a1 a2 a3 a4 r_7.2.1 ++ (wH g k0 k1 γ r_7.2.2 ++ (wV g v0 (upd ν (Int32.toNatClampNeg (((4 : Int32) * p3) + (2 : Int32))) ((ν (Int32.toNatClampNeg (((4 : Int32) * p3) + (2 : Int32)))) + (1 : Int32))) ++ (wZ g z0 (vp_updL ζ (Int32.toNatClampNeg (((3 : Int32) * p3) + ((ν (Int32.toNatClampNeg (((4 : Int32) * p3) + (2 : Int32)))) / (20 : Int32)))) ((ζ (Int32.toNatClampNeg (((3 : Int32) * p3) + ((ν (Int32.toNatClampNeg (((4 : Int32) * p3) + (2 : Int32)))) / (20 : Int32))))) ||| ((Int32.toInt64 p4) <<< ((Int32.toInt64 ((3 : Int32) * (irm (ν (Int32.toNatClampNeg (((4 : Int32) * p3) + (2 : Int32)))) (20 : Int32)))) &&& 63)))))))))) [0, 1, 2, 3, 4, 5, 6, 7, 8, 9, 10, 11, 12, 13, 14, 15, 16, 17, 18, 19, 20, 21, 22, 23, 24, 25, 26, 27, 28, 29, 30, 31, 32, 33, 34, 35, 36, 37, 38, 39] rfl
        have hD := hD.sub (ws' := (wC c0 h k0 x0 d0 ++ (wS g h a1 a2 a3 a4 r_7.2.1 ++ (wH g k0 k1 γ r_7.2.2 ++ (wV g v0 (upd ν (Int32.toNatClampNeg (((4 : Int32) * p3) + (2 : Int32))) ((ν (Int32.toNatClampNeg (((4 : Int32) * p3) + (2 : Int32)))) + (1 : Int32))) ++ (wZ g z0 (vp_updL ζ (Int32.toNatClampNeg (((3 : Int32) * p3) + ((ν (Int32.toNatClampNeg (((4 : Int32) * p3) + (2 : Int32)))) / (20 : Int32)))) ((ζ (Int32.toNatClampNeg (((3 : Int32) * p3) + ((ν (Int32.toNatClampNeg (((4 : Int32) * p3) + (2 : Int32)))) / (20 : Int32))))) ||| ((Int32.toInt64 p4) <<< ((Int32.toInt64 ((3 : Int32) * (irm (ν (Int32.toNatClampNeg (((4 : Int32) * p3) + (2 : Int32)))) (20 : Int32)))) &&& 63)))))))))) [0, 1, 2, 3, 4, 5, 6, 7, 8, 9, 10, 11, 12, 13, 14, 15, 16, 17, 18, 19, 20, 21, 22, 23, 24, 25, 26, 27, 28, 29, 30, 31, 32, 33, 34, 35, 36, 37, 38, 39] (by decide) rfl
        refine W.widen (k := 3 * cap) (n := 61 * cap) (k3 h_7) (k61 h_7) ?_
        exact m_zret (v := true) hx hb hr hlocks hP hD hS rfl dL_steps_120
  · have hf := iq c_3 hf
    refine lv_aload_n hx hb dL_steps_17 rfl (lv_at hl 1 rfl) ?_
    refine lv_iconst (v := (1 : Int32)) hx hb dL_steps_18 (by decide) ?_
    refine lv_iload_n hx hb dL_steps_19 rfl (lv_at hl 4 rfl) ?_
    refine lv_iload hx hb dL_steps_20 (lv_at hl 5 rfl) ?_
    obtain ⟨h_12, hf⟩ := ck hf
    obtain ⟨r_12, e_12, hf⟩ := bo hf
    refine lcallS (W0 := (wC c0 h k0 x0 d0 ++ (wS g h a1 a2 a3 a4 σ ++ (wH g k0 k1 γ η ++ (wV g v0 ν ++ (wZ g z0 ζ ++ (wP g p0 (fun _ => (0 : Int32))))))))) (Wc := (wC c0 h k0 x0 d0 ++ (wS g h a1 a2 a3 a4 σ ++ (wH g k0 k1 γ η)))) (Wr := (wV g v0 ν ++ (wZ g z0 ζ ++ (wP g p0 (fun _ => (0 : Int32)))))) (W1 := (wC c0 h k0 x0 d0 ++ (wS g h a1 a2 a3 a4 r_12.2.1 ++ (wH g k0 k1 γ r_12.2.2)))) (W2 := (wC c0 h k0 x0 d0 ++ (wS g h a1 a2 a3 a4 r_12.2.1 ++ (wH g k0 k1 γ r_12.2.2 ++ (wV g v0 ν ++ (wZ g z0 ζ ++ (wP g p0 (fun _ => (0 : Int32))))))))) (As := [.ref c0, .int (1 : Int32), .int p3, .int p4]) (rest := []) [0, 1, 2, 3, 4, 5, 6, 7, 8, 9, 10, 11, 12, 13, 14, 15, 16, 17, 18, 19, 20, 21, 22, 23, 24, 25, 26, 27, 28, 29, 30, 31, 32, 33, 34, 35, 36, 37] [38, 39, 40] [3, 4, 5, 6, 7, 8, 9, 10, 11, 12, 13, 14, 15, 16, 17, 18, 19, 20, 21, 22, 23, 24, 25, 26, 27, 28, 29, 30, 31, 32, 33, 34, 35, 36, 37, 38, 39, 40, 0, 1, 2] ⟨hx, hb, hml, hown, hts⟩ hP hD hE hZ hS hA (cL_told_ok l hl0 g c0 h k0 x0 d0 a1 a2 a3 a4 k1 γ σ η (1 : Int32) p3 p4 _ e_12) (vx_cwSW 4 hts gL_steps_L_told rfl rfl rfl hdL_told.2 ⟨(Nat.le_of_ble_eq_true rfl), (Nat.le_of_ble_eq_true rfl)⟩) rfl rfl rfl (by decide) (by decide) (by decide) (by decide) rfl hl.1 rfl (Nat.le_of_ble_eq_true rfl) ⟨(kt3 h_12), (kt61 h_12)⟩ dL_steps_22 (fun H locs hP hD hS => ?_)
    refine W.widen (k := 3 * (((0 + 1) + 2) + 1)) (n := 61 * (((0 + 1) + 2) + 1)) (by omega) (by omega) ?_
    refine lv_bipush (v := (-13 : Int32)) hx hb dL_steps_25 (by decide) ?_
    refine lv_icmp_ne (tgt := 34) hx hb dL_steps_27 (by decide) (fun c_13 => ?_) (fun c_13 => ?_)
    · have hf := iq c_13 hf
      refine lv_iconst (v := (0 : Int32)) hx hb dL_steps_34 (by decide) ?_
      have ho := Option.some.inj hf
      subst ho
      have hP := hP.sub (ws' := (wC c0 h k0 x0 d0 ++ (wS g h a1 a2 a3 a4 r_12.2.1 ++ (wH g k0 k1 γ r_12.2.2 ++ (wV g v0 ν ++ (wZ g z0 ζ)))))) [0, 1, 2, 3, 4, 5, 6, 7, 8, 9, 10, 11, 12, 13, 14, 15, 16, 17, 18, 19, 20, 21, 22, 23, 24, 25, 26, 27, 28, 29, 30, 31, 32, 33, 34, 35, 36, 37, 38, 39] rfl
      have hD := hD.sub (ws' := (wC c0 h k0 x0 d0 ++ (wS g h a1 a2 a3 a4 r_12.2.1 ++ (wH g k0 k1 γ r_12.2.2 ++ (wV g v0 ν ++ (wZ g z0 ζ)))))) [0, 1, 2, 3, 4, 5, 6, 7, 8, 9, 10, 11, 12, 13, 14, 15, 16, 17, 18, 19, 20, 21, 22, 23, 24, 25, 26, 27, 28, 29, 30, 31, 32, 33, 34, 35, 36, 37, 38, 39] (by decide) rfl
      refine W.widen (k := 3 * cap) (n := 61 * cap) (k3 h_12) (k61 h_12) ?_
      exact m_zret (v := false) hx hb hr hlocks hP hD hS rfl dL_steps_35
    · have hf := ip c_13 hf
      refine lv_iconst (v := (1 : Int32)) hx hb dL_steps_30 (by decide) ?_
      refine lv_goto (tgt := 35) hx hb dL_steps_31 (by decide) ?_
      have ho := Option.some.inj hf
      subst ho
      have hP := hP.sub (ws' := (wC c0 h k0 x0 d0 ++ (wS g h a1 a2 a3 a4 r_12.2.1 ++ (wH g k0 k1 γ r_12.2.2 ++ (wV g v0 ν ++ (wZ g z0 ζ)))))) [0, 1, 2, 3, 4, 5, 6, 7, 8, 9, 10, 11, 12, 13, 14, 15, 16, 17, 18, 19, 20, 21, 22, 23, 24, 25, 26, 27, 28, 29, 30, 31, 32, 33, 34, 35, 36, 37, 38, 39] rfl
      have hD := hD.sub (ws' := (wC c0 h k0 x0 d0 ++ (wS g h a1 a2 a3 a4 r_12.2.1 ++ (wH g k0 k1 γ r_12.2.2 ++ (wV g v0 ν ++ (wZ g z0 ζ)))))) [0, 1, 2, 3, 4, 5, 6, 7, 8, 9, 10, 11, 12, 13, 14, 15, 16, 17, 18, 19, 20, 21, 22, 23, 24, 25, 26, 27, 28, 29, 30, 31, 32, 33, 34, 35, 36, 37, 38, 39] (by decide) rfl
      refine W.widen (k := 3 * cap) (n := 61 * cap) (k3 h_12) (k61 h_12) ?_
      exact m_zret (v := true) hx hb hr hlocks hP hD hS rfl dL_steps_35

def fL_rings_148 (cap : Nat) (p3 : Int32) (v4_77 : Int32) (v5_77 : Int32) (v6_77 : Bool) (v7_77 : Int32) (k77 : Bool → Int32 → Sh → Hi → (Nat → Int32) → (Nat → Int64) → Nat → Option (Bool × Sh × Hi × (Nat → Int32) × (Nat → Int64))) (v8_148 : Bool) (v9_148 : Int32) (σ_148 : Sh) (η_148 : Hi) (ν_148 : (Nat → Int32)) (ζ_148 : (Nat → Int64)) (n_148 : Nat) : Option (Bool × Sh × Hi × (Nat → Int32) × (Nat → Int64)) := (if v8_148 = true then (if v6_77 = true then (if n_148 + 4 ≤ cap then ((fL_steps 4 σ_148 η_148 ν_148 ζ_148 v7_77 (((2 : Int32) * v9_148) + (1 : Int32))).bind fun r_3 => (if r_3.1 = true then k77 true (v9_148 + 1) r_3.2.1 r_3.2.2.1 r_3.2.2.2.1 r_3.2.2.2.2 (n_148 + 4) else k77 false (v9_148 + 1) r_3.2.1 r_3.2.2.1 r_3.2.2.2.1 r_3.2.2.2.2 (n_148 + 4))) else none) else k77 true (v9_148 + 1) σ_148 η_148 ν_148 ζ_148 n_148) else k77 false (v9_148 + 1) σ_148 η_148 ν_148 ζ_148 n_148)
def fL_rings_116 (cap : Nat) (p3 : Int32) (v4_77 : Int32) (v5_77 : Int32) (v6_77 : Bool) (v7_77 : Int32) (v9_116 : Int32) (v10_116 : Int32) (k77 : Bool → Int32 → Sh → Hi → (Nat → Int32) → (Nat → Int64) → Nat → Option (Bool × Sh × Hi × (Nat → Int32) × (Nat → Int64))) : Nat → Bool → Int32 → Sh → Hi → (Nat → Int32) → (Nat → Int64) → Nat → Option (Bool × Sh × Hi × (Nat → Int32) × (Nat → Int64))
  | 0, _, _, _, _, _, _, _ => none
  | n + 1, v8_116, v11_116, σ_116, η_116, ν_116, ζ_116, n_116 => (if v10_116 ≤ v11_116 then fL_rings_148 cap p3 v4_77 v5_77 v6_77 v7_77 k77 v8_116 v9_116 σ_116 η_116 ν_116 ζ_116 n_116 else (if v8_116 = true then (if n_116 + 4 ≤ cap then ((fL_steps 4 σ_116 η_116 ν_116 ζ_116 v7_77 ((2 : Int32) * v9_116)).bind fun r_7 => fL_rings_116 cap p3 v4_77 v5_77 v6_77 v7_77 v9_116 v10_116 k77 n r_7.1 (v11_116 + 1) r_7.2.1 r_7.2.2.1 r_7.2.2.2.1 r_7.2.2.2.2 (n_116 + 4)) else none) else fL_rings_148 cap p3 v4_77 v5_77 v6_77 v7_77 k77 v8_116 v9_116 σ_116 η_116 ν_116 ζ_116 n_116))
def fL_rings_77 (cap : Nat) (p3 : Int32) (v4_77 : Int32) (v5_77 : Int32) (v6_77 : Bool) (v7_77 : Int32) : Nat → Bool → Int32 → Sh → Hi → (Nat → Int32) → (Nat → Int64) → Nat → Option (Bool × Sh × Hi × (Nat → Int32) × (Nat → Int64))
  | 0, _, _, _, _, _, _, _ => none
  | n + 1, v8_77, v9_77, σ_77, η_77, ν_77, ζ_77, n_77 => (if (4 : Int32) ≤ v9_77 then (some (v8_77, σ_77, η_77, ν_77, ζ_77)) else (if v8_77 = true then (if (ν_77 (Int32.toNatClampNeg (32 : Int32))) ≤ v7_77 then (some (v8_77, σ_77, η_77, ν_77, ζ_77)) else (if (irm v9_77 (2 : Int32)) = 0 then fL_rings_116 cap p3 v4_77 v5_77 v6_77 v7_77 v9_77 v4_77 (fL_rings_77 cap p3 v4_77 v5_77 v6_77 v7_77 n) FU v8_77 (0 : Int32) σ_77 η_77 ν_77 ζ_77 n_77 else fL_rings_116 cap p3 v4_77 v5_77 v6_77 v7_77 v9_77 v5_77 (fL_rings_77 cap p3 v4_77 v5_77 v6_77 v7_77 n) FU v8_77 (0 : Int32) σ_77 η_77 ν_77 ζ_77 n_77)) else (some (v8_77, σ_77, η_77, ν_77, ζ_77))))
def fL_rings_41 (cap : Nat) (p3 : Int32) (v4_41 : Int32) (v5_41 : Int32) (t0_41 : Bool) (σ_41 : Sh) (η_41 : Hi) (ν_41 : (Nat → Int32)) (ζ_41 : (Nat → Int64)) (n_41 : Nat) : Option (Bool × Sh × Hi × (Nat → Int32) × (Nat → Int64)) := ((fL_low (p3 >>> ((3 : Int32) &&& 31)) (30 : Int32)).bind fun r_12 => ((fL_low (p3 >>> ((2 : Int32) &&& 31)) (384 : Int32)).bind fun r_13 => (if n_41 + 2 ≤ cap then ((fL_begins 2 σ_41 η_41 ν_41 ζ_41 r_12 r_13).bind fun r_14 => fL_rings_77 cap p3 v4_41 v5_41 t0_41 (ν_41 (Int32.toNatClampNeg (32 : Int32))) FU r_14.1 (0 : Int32) r_14.2.1 r_14.2.2.1 r_14.2.2.2.1 r_14.2.2.2.2 (n_41 + 2)) else none)))
def fL_rings (cap : Nat) (σ : Sh) (η : Hi) (ν : (Nat → Int32)) (ζ : (Nat → Int64)) (p3 : Int32) : Option (Bool × Sh × Hi × (Nat → Int32) × (Nat → Int64)) := ((fL_low (p3 >>> ((4 : Int32) &&& 31)) (9 : Int32)).bind fun r_15 => ((fL_low (p3 >>> ((9 : Int32) &&& 31)) (6 : Int32)).bind fun r_16 => ((fL_low (p3 >>> ((13 : Int32) &&& 31)) (2 : Int32)).bind fun r_17 => (if r_17 = 0 then fL_rings_41 cap p3 ((1 : Int32) + r_15) ((1 : Int32) + r_16) true σ η ν ζ 0 else fL_rings_41 cap p3 ((1 : Int32) + r_15) ((1 : Int32) + r_16) false σ η ν ζ 0))))
abbrev rmL_rings (cap : Nat) : Room := { frames := 10, cells := 3 * cap, slots := 61 * cap, locals := 199 }
theorem hdL_rings : yL_rings.cls = RL ∧ yL_rings.cls ≠ "java/lang/invoke/MethodHandle" ∧ yL_rings.cls ≠ "java/lang/invoke/VarHandle" ∧ (parseMethodDescriptor yL_rings.desc).map (fun d => d.parameters.length) = some 4 := by decide +kernel
set_option maxHeartbeats 4000000 in
set_option maxRecDepth 100000 in
theorem cL_rings_ok (l : Launch) (hl0 : l.stackTraces = false) (g : Gg) (cap : Nat) (c0 h k0 x0 d0 a1 a2 a3 a4 k1 v0 z0 : Nat) (γ : Nat → Nat → Nat) (σ : Sh) (η : Hi) (ν : (Nat → Int32)) (ζ : (Nat → Int64)) (p3 : Int32) (sz : Nat) {o : Bool × Sh × Hi × (Nat → Int32) × (Nat → Int64)} (hf : fL_rings cap σ η ν ζ p3 = some o) : Met l yL_rings wsL_rings (rmL_rings cap) (va_Pc [.ref c0, .ref v0, .ref z0, .int p3] (PM g (wC c0 h k0 x0 d0 ++ (wS g h a1 a2 a3 a4 σ ++ (wH g k0 k1 γ η ++ (wV g v0 ν ++ (wZ g z0 ζ))))) sz)) (va_Qi (fun r' (_ : Unit) => r' = b2i o.1) (fun _ t => PQ g (wC c0 h k0 x0 d0 ++ (wS g h a1 a2 a3 a4 o.2.1 ++ (wH g k0 k1 γ o.2.2.1 ++ (wV g v0 o.2.2.2.1 ++ (wZ g z0 o.2.2.2.2))))) (va_A (wC c0 h k0 x0 d0 ++ (wS g h a1 a2 a3 a4 σ ++ (wH g k0 k1 γ η ++ (wV g v0 ν ++ (wZ g z0 ζ))))) sz) t) (va_A (wC c0 h k0 x0 d0 ++ (wS g h a1 a2 a3 a4 σ ++ (wH g k0 k1 γ η ++ (wV g v0 ν ++ (wZ g z0 ζ))))) sz)) (3 * cap) (61 * cap) (va_A (wC c0 h k0 x0 d0 ++ (wS g h a1 a2 a3 a4 σ ++ (wH g k0 k1 γ η ++ (wV g v0 ν ++ (wZ g z0 ζ))))) sz) := by
  refine Met.ofW (cc := cL_rings) (maxL := 12) (ret := (some .boolean)) (by decide) rfl ?_
  intro p e s m args below meth c s₁ B hml hv
  obtain ⟨rfl, rfl, hP, hD0, hE, hZ⟩ := hv
  have hx := B.exec
  have hb := B.bytes
  have hr := B.returns
  have hts := atoms_spec (ws := wsL_rings) B.pre
  have hown : s.vm.findClass RL = some m.cls := findClass_of_methodNamed B.named
  have hlocks := B.notSynchronized
  have hD := hD0.self (sz := s.heap.size)
  generalize hAe : (va_A (wC c0 h k0 x0 d0 ++ (wS g h a1 a2 a3 a4 σ ++ (wH g k0 k1 γ η ++ (wV g v0 ν ++ (wZ g z0 ζ))))) s.heap.size) = A at hD hZ ⊢
  have hA : ∀ q : Nat, s.heap.size ≤ q → A q := fun q h => by rw [← hAe]; exact Or.inr h
  have hS : va_S A s.heap s.heap [] := va_S.rf
  have hP : va_P g.1 vwCl (wC c0 h k0 x0 d0 ++ (wS g h a1 a2 a3 a4 σ ++ (wH g k0 k1 γ η ++ (wV g v0 ν ++ (wZ g z0 ζ))))) s.heap := hP
  have hl := lv_entry ([.ref c0, .ref v0, .ref z0, .int p3]) (n := 12) (Nat.le_of_ble_eq_true rfl)
  rw [lg_entry_eq]
  generalize (lg_sl ([.ref c0, .ref v0, .ref z0, .int p3]) ++ List.replicate (12 - (lg_sl ([.ref c0, .ref v0, .ref z0, .int p3])).length) Slot.unset).toArray = ls at hl ⊢
  refine W.cs (cells' := 3 * 0) (slots' := 61 * 0) rfl rfl ?_
  have hl : lv_has ls 12 [(0, .ref c0), (1, .ref v0), (2, .ref z0), (3, .int p3)] := hl
  have hB77 : ∀ (v4_77 : Int32) (v5_77 : Int32) (v6_77 : Bool) (v7_77 : Int32) (n77 : Nat) (v8_77 : Bool) (v9_77 : Int32) (σ_77 : Sh) (η_77 : Hi) (ν_77 : (Nat → Int32)) (ζ_77 : (Nat → Int64)) (n_77 : Nat) (H : Heap) (locs : List Loc) (hn : n_77 ≤ cap) (ls : Array Slot), va_P g.1 vwCl (wC c0 h k0 x0 d0 ++ (wS g h a1 a2 a3 a4 σ_77 ++ (wH g k0 k1 γ η_77 ++ (wV g v0 ν_77 ++ (wZ g z0 ζ_77))))) H → va_D A (wC c0 h k0 x0 d0 ++ (wS g h a1 a2 a3 a4 σ_77 ++ (wH g k0 k1 γ η_77 ++ (wV g v0 ν_77 ++ (wZ g z0 ζ_77))))) → va_S A s.heap H locs → lv_has ls 12 [(0, .ref c0), (1, .ref v0), (2, .ref z0), (4, .int v4_77), (5, .int v5_77), (6, .int (b2i v6_77)), (7, .int v7_77), (8, .int (b2i v8_77)), (9, .int v9_77)] → fL_rings_77 cap p3 v4_77 v5_77 v6_77 v7_77 n77 v8_77 v9_77 σ_77 η_77 ν_77 ζ_77 n_77 = some o → W p l e (headSpec wsL_rings (rmL_rings cap)).room s m ([.ref c0, .ref v0, .ref z0, .int p3] : List Value).toArray below meth c H locs (3 * n_77) (61 * n_77) (MQ below (va_Qi (fun r' (_ : Unit) => r' = b2i o.1) (fun _ t => PQ g (wC c0 h k0 x0 d0 ++ (wS g h a1 a2 a3 a4 o.2.1 ++ (wH g k0 k1 γ o.2.2.1 ++ (wV g v0 o.2.2.2.1 ++ (wZ g z0 o.2.2.2.2))))) A t) A) ([.ref c0, .ref v0, .ref z0, .int p3] : List Value).toArray s (3 * cap) (61 * cap) A) (F0 m 77 ls []) := by
    intro v4_77 v5_77 v6_77 v7_77 n77
    induction n77 with
    | zero => intro v8_77 v9_77 σ_77 η_77 ν_77 ζ_77 n_77 H locs hn ls hP hD hS hl hf; exact nomatch (show (none : Option (Bool × Sh × Hi × (Nat → Int32) × (Nat → Int64))) = some _ from hf)
    | succ n77 ih77 =>
      have hB148 : ∀ (v8_148 : Bool) (v9_148 : Int32) (σ_148 : Sh) (η_148 : Hi) (ν_148 : (Nat → Int32)) (ζ_148 : (Nat → Int64)) (n_148 : Nat) (H : Heap) (locs : List Loc) (hn : n_148 ≤ cap) (ls : Array Slot), va_P g.1 vwCl (wC c0 h k0 x0 d0 ++ (wS g h a1 a2 a3 a4 σ_148 ++ (wH g k0 k1 γ η_148 ++ (wV g v0 ν_148 ++ (wZ g z0 ζ_148))))) H → va_D A (wC c0 h k0 x0 d0 ++ (wS g h a1 a2 a3 a4 σ_148 ++ (wH g k0 k1 γ η_148 ++ (wV g v0 ν_148 ++ (wZ g z0 ζ_148))))) → va_S A s.heap H locs → lv_has ls 12 [(0, .ref c0), (1, .ref v0), (2, .ref z0), (4, .int v4_77), (5, .int v5_77), (6, .int (b2i v6_77)), (7, .int v7_77), (8, .int (b2i v8_148)), (9, .int v9_148)] → fL_rings_148 cap p3 v4_77 v5_77 v6_77 v7_77 (fL_rings_77 cap p3 v4_77 v5_77 v6_77 v7_77 n77) v8_148 v9_148 σ_148 η_148 ν_148 ζ_148 n_148 = some o → W p l e (headSpec wsL_rings (rmL_rings cap)).room s m ([.ref c0, .ref v0, .ref z0, .int p3] : List Value).toArray below meth c H locs (3 * n_148) (61 * n_148) (MQ below (va_Qi (fun r' (_ : Unit) => r' = b2i o.1) (fun _ t => PQ g (wC c0 h k0 x0 d0 ++ (wS g h a1 a2 a3 a4 o.2.1 ++ (wH g k0 k1 γ o.2.2.1 ++ (wV g v0 o.2.2.2.1 ++ (wZ g z0 o.2.2.2.2))))) A t) A) ([.ref c0, .ref v0, .ref z0, .int p3] : List Value).toArray s (3 * cap) (61 * cap) A) (F0 m 148 ls []) := by
        intro  v8_148 v9_148 σ_148 η_148 ν_148 ζ_148 n_148 H locs hn ls hP hD hS hl hf
        unfold fL_rings_148 at hf
        refine lv_iload hx hb dL_rings_148 (lv_at hl 7 rfl) ?_
        refine lv_beq (tgt := 179) hx hb dL_rings_150 (by decide) (fun c_1 => ?_) (fun c_1 => ?_)
        · have hf := iq c_1 hf
          refine lv_iconst (v := (0 : Int32)) hx hb dL_rings_179 (by decide) ?_
          refine lv_istore (lv' := [(8, .int (0 : Int32)), (0, .ref c0), (1, .ref v0), (2, .ref z0), (4, .int v4_77), (5, .int v5_77), (6, .int (b2i v6_77)), (7, .int v7_77), (9, .int v9_148)]) hx hb dL_rings_180 hl (by decide) rfl (fun ls hl => ?_)
          refine lv_iinc (v := (v9_148 + 1)) (lv' := [(9, .int (v9_148 + 1)), (8, .int (0 : Int32)), (0, .ref c0), (1, .ref v0), (2, .ref z0), (4, .int v4_77), (5, .int v5_77), (6, .int (b2i v6_77)), (7, .int v7_77)]) hx hb dL_rings_182 hl (k := 8) rfl rfl (by decide) rfl (fun ls hl => ?_)
          refine lv_goto (tgt := 77) hx hb dL_rings_185 (by decide) ?_
          exact ih77 false (v9_148 + 1) σ_148 η_148 ν_148 ζ_148 n_148 _ _ hn ls hP hD hS (lv_sub hl [2, 3, 4, 5, 6, 7, 8, 1, 0] rfl) hf
        · have hf := ip c_1 hf
          refine lv_iload hx hb dL_rings_153 (lv_at hl 5 rfl) ?_
          refine lv_beq (tgt := 175) hx hb dL_rings_155 (by decide) (fun c_2 => ?_) (fun c_2 => ?_)
          · have hf := iq c_2 hf
            refine lv_iconst (v := (1 : Int32)) hx hb dL_rings_175 (by decide) ?_
            refine lv_goto (tgt := 180) hx hb dL_rings_176 (by decide) ?_
            refine lv_istore (lv' := [(8, .int (1 : Int32)), (0, .ref c0), (1, .ref v0), (2, .ref z0), (4, .int v4_77), (5, .int v5_77), (6, .int (b2i v6_77)), (7, .int v7_77), (9, .int v9_148)]) hx hb dL_rings_180 hl (by decide) rfl (fun ls hl => ?_)
            refine lv_iinc (v := (v9_148 + 1)) (lv' := [(9, .int (v9_148 + 1)), (8, .int (1 : Int32)), (0, .ref c0), (1, .ref v0), (2, .ref z0), (4, .int v4_77), (5, .int v5_77), (6, .int (b2i v6_77)), (7, .int v7_77)]) hx hb dL_rings_182 hl (k := 8) rfl rfl (by decide) rfl (fun ls hl => ?_)
            refine lv_goto (tgt := 77) hx hb dL_rings_185 (by decide) ?_
            exact ih77 true (v9_148 + 1) σ_148 η_148 ν_148 ζ_148 n_148 _ _ hn ls hP hD hS (lv_sub hl [2, 3, 4, 5, 6, 7, 8, 1, 0] rfl) hf
          · have hf := ip c_2 hf
            refine lv_aload_n hx hb dL_rings_158 rfl (lv_at hl 0 rfl) ?_
            refine lv_aload_n hx hb dL_rings_159 rfl (lv_at hl 1 rfl) ?_
            refine lv_aload_n hx hb dL_rings_160 rfl (lv_at hl 2 rfl) ?_
            refine lv_iload hx hb dL_rings_161 (lv_at hl 6 rfl) ?_
            refine lv_iconst (v := (2 : Int32)) hx hb dL_rings_163 (by decide) ?_
            refine lv_iload hx hb dL_rings_164 (lv_at hl 8 rfl) ?_
            refine lv_imul hx hb dL_rings_166 ?_
            refine lv_iconst (v := (1 : Int32)) hx hb dL_rings_167 (by decide) ?_
            refine lv_iadd hx hb dL_rings_168 ?_
            obtain ⟨h_3, hf⟩ := ck hf
            obtain ⟨r_3, e_3, hf⟩ := bo hf
            refine mcallSi (W0 := (wC c0 h k0 x0 d0 ++ (wS g h a1 a2 a3 a4 σ_148 ++ (wH g k0 k1 γ η_148 ++ (wV g v0 ν_148 ++ (wZ g z0 ζ_148)))))) (Wc := (wC c0 h k0 x0 d0 ++ (wS g h a1 a2 a3 a4 σ_148 ++ (wH g k0 k1 γ η_148 ++ (wV g v0 ν_148 ++ (wZ g z0 ζ_148)))))) (Wr := ([] : va_W)) (W1 := (wC c0 h k0 x0 d0 ++ (wS g h a1 a2 a3 a4 r_3.2.1 ++ (wH g k0 k1 γ r_3.2.2.1 ++ (wV g v0 r_3.2.2.2.1 ++ (wZ g z0 r_3.2.2.2.2)))))) (W2 := (wC c0 h k0 x0 d0 ++ (wS g h a1 a2 a3 a4 r_3.2.1 ++ (wH g k0 k1 γ r_3.2.2.1 ++ (wV g v0 r_3.2.2.2.1 ++ (wZ g z0 r_3.2.2.2.2)))))) (As := [.ref c0, .ref v0, .ref z0, .int v7_77, .int (((2 : Int32) * v9_148) + (1 : Int32))]) (rest := []) [0, 1, 2, 3, 4, 5, 6, 7, 8, 9, 10, 11, 12, 13, 14, 15, 16, 17, 18, 19, 20, 21, 22, 23, 24, 25, 26, 27, 28, 29, 30, 31, 32, 33, 34, 35, 36, 37, 38, 39] [] [0, 1, 2, 3, 4, 5, 6, 7, 8, 9, 10, 11, 12, 13, 14, 15, 16, 17, 18, 19, 20, 21, 22, 23, 24, 25, 26, 27, 28, 29, 30, 31, 32, 33, 34, 35, 36, 37, 38, 39] ⟨hx, hb, hml, hown, hts⟩ hP hD hE hZ hS hA (cL_steps_ok l hl0 g 4 c0 h k0 x0 d0 a1 a2 a3 a4 k1 v0 z0 γ σ_148 η_148 ν_148 ζ_148 v7_77 (((2 : Int32) * v9_148) + (1 : Int32)) _ e_3) (va_cwS 5 hts gL_rings_L_steps rfl rfl rfl hdL_steps.2 ⟨(Nat.le_of_ble_eq_true rfl), (Nat.le_of_ble_eq_true rfl)⟩) rfl rfl rfl (by decide) (by decide) (by decide) (by decide) rfl hl.1 rfl (Nat.le_of_ble_eq_true rfl) ⟨(kc3 h_3), (kc61 h_3)⟩ dL_rings_169 (fun H locs hP hD hS => ?_)
            refine W.widen (k := 3 * (n_148 + 4)) (n := 61 * (n_148 + 4)) (by omega) (by omega) ?_
            refine lv_beq (tgt := 179) hx hb dL_rings_172 (by decide) (fun c_4 => ?_) (fun c_4 => ?_)
            · have hf := iq c_4 hf
              refine lv_iconst (v := (0 : Int32)) hx hb dL_rings_179 (by decide) ?_
              refine lv_istore (lv' := [(8, .int (0 : Int32)), (0, .ref c0), (1, .ref v0), (2, .ref z0), (4, .int v4_77), (5, .int v5_77), (6, .int (b2i v6_77)), (7, .int v7_77), (9, .int v9_148)]) hx hb dL_rings_180 hl (by decide) rfl (fun ls hl => ?_)
              refine lv_iinc (v := (v9_148 + 1)) (lv' := [(9, .int (v9_148 + 1)), (8, .int (0 : Int32)), (0, .ref c0), (1, .ref v0), (2, .ref z0), (4, .int v4_77), (5, .int v5_77), (6, .int (b2i v6_77)), (7, .int v7_77)]) hx hb dL_rings_182 hl (k := 8) rfl rfl (by decide) rfl (fun ls hl => ?_)
              refine lv_goto (tgt := 77) hx hb dL_rings_185 (by decide) ?_
              exact ih77 false (v9_148 + 1) r_3.2.1 r_3.2.2.1 r_3.2.2.2.1 r_3.2.2.2.2 (n_148 + 4) _ _ h_3 ls hP hD hS (lv_sub hl [2, 3, 4, 5, 6, 7, 8, 1, 0] rfl) hf
            · have hf := ip c_4 hf
              refine lv_iconst (v := (1 : Int32)) hx hb dL_rings_175 (by decide) ?_
              refine lv_goto (tgt := 180) hx hb dL_rings_176 (by decide) ?_
              refine lv_istore (lv' := [(8, .int (1 : Int32)), (0, .ref c0), (1, .ref v0), (2, .ref z0), (4, .int v4_77), (5, .int v5_77), (6, .int (b2i v6_77)), (7, .int v7_77), (9, .int v9_148)]) hx hb dL_rings_180 hl (by decide) rfl (fun ls hl => ?_)
              refine lv_iinc (v := (v9_148 + 1)) (lv' := [(9, .int (v9_148 + 1)), (8, .int (1 : Int32)), (0, .ref c0), (1, .ref v0), (2, .ref z0), (4, .int v4_77), (5, .int v5_77), (6, .int (b2i v6_77)), (7, .int v7_77)]) hx hb dL_rings_182 hl (k := 8) rfl rfl (by decide) rfl (fun ls hl => ?_)
              refine lv_goto (tgt := 77) hx hb dL_rings_185 (by decide) ?_
              exact ih77 true (v9_148 + 1) r_3.2.1 r_3.2.2.1 r_3.2.2.2.1 r_3.2.2.2.2 (n_148 + 4) _ _ h_3 ls hP hD hS (lv_sub hl [2, 3, 4, 5, 6, 7, 8, 1, 0] rfl) hf
      have hB116 : ∀ (v9_116 : Int32) (v10_116 : Int32) (n116 : Nat) (v8_116 : Bool) (v11_116 : Int32) (σ_116 : Sh) (η_116 : Hi) (ν_116 : (Nat → Int32)) (ζ_116 : (Nat → Int64)) (n_116 : Nat) (H : Heap) (locs : List Loc) (hn : n_116 ≤ cap) (ls : Array Slot), va_P g.1 vwCl (wC c0 h k0 x0 d0 ++ (wS g h a1 a2 a3 a4 σ_116 ++ (wH g k0 k1 γ η_116 ++ (wV g v0 ν_116 ++ (wZ g z0 ζ_116))))) H → va_D A (wC c0 h k0 x0 d0 ++ (wS g h a1 a2 a3 a4 σ_116 ++ (wH g k0 k1 γ η_116 ++ (wV g v0 ν_116 ++ (wZ g z0 ζ_116))))) → va_S A s.heap H locs → lv_has ls 12 [(0, .ref c0), (1, .ref v0), (2, .ref z0), (4, .int v4_77), (5, .int v5_77), (6, .int (b2i v6_77)), (7, .int v7_77), (8, .int (b2i v8_116)), (9, .int v9_116), (10, .int v10_116), (11, .int v11_116)] → fL_rings_116 cap p3 v4_77 v5_77 v6_77 v7_77 v9_116 v10_116 (fL_rings_77 cap p3 v4_77 v5_77 v6_77 v7_77 n77) n116 v8_116 v11_116 σ_116 η_116 ν_116 ζ_116 n_116 = some o → W p l e (headSpec wsL_rings (rmL_rings cap)).room s m ([.ref c0, .ref v0, .ref z0, .int p3] : List Value).toArray below meth c H locs (3 * n_116) (61 * n_116) (MQ below (va_Qi (fun r' (_ : Unit) => r' = b2i o.1) (fun _ t => PQ g (wC c0 h k0 x0 d0 ++ (wS g h a1 a2 a3 a4 o.2.1 ++ (wH g k0 k1 γ o.2.2.1 ++ (wV g v0 o.2.2.2.1 ++ (wZ g z0 o.2.2.2.2))))) A t) A) ([.ref c0, .ref v0, .ref z0, .int p3] : List Value).toArray s (3 * cap) (61 * cap) A) (F0 m 116 ls []) := by
        intro v9_116 v10_116 n116
        induction n116 with
        | zero => intro v8_116 v11_116 σ_116 η_116 ν_116 ζ_116 n_116 H locs hn ls hP hD hS hl hf; exact nomatch (show (none : Option (Bool × Sh × Hi × (Nat → Int32) × (Nat → Int64))) = some _ from hf)
        | succ n116 ih116 =>
          intro v8_116 v11_116 σ_116 η_116 ν_116 ζ_116 n_116 H locs hn ls hP hD hS hl hf
          rw [fL_rings_116] at hf
          refine lv_iload hx hb dL_rings_116 (lv_at hl 10 rfl) ?_
          refine lv_iload hx hb dL_rings_118 (lv_at hl 9 rfl) ?_
          refine lv_icmp_ge (tgt := 148) hx hb dL_rings_120 (by decide) (fun c_5 => ?_) (fun c_5 => ?_)
          · have hf := ip c_5 hf
            exact hB148 v8_116 v9_116 σ_116 η_116 ν_116 ζ_116 n_116 _ _ hn ls hP hD hS (lv_sub hl [0, 1, 2, 3, 4, 5, 6, 7, 8] rfl) hf
          · have hf := iq c_5 hf
            refine lv_iload hx hb dL_rings_123 (lv_at hl 7 rfl) ?_
            refine lv_beq (tgt := 148) hx hb dL_rings_125 (by decide) (fun c_6 => ?_) (fun c_6 => ?_)
            · have hf := iq c_6 hf
              exact hB148 v8_116 v9_116 σ_116 η_116 ν_116 ζ_116 n_116 _ _ hn ls hP hD hS (lv_sub hl [0, 1, 2, 3, 4, 5, 6, 7, 8] rfl) hf
            · have hf := ip c_6 hf
              refine lv_aload_n hx hb dL_rings_128 rfl (lv_at hl 0 rfl) ?_
              refine lv_aload_n hx hb dL_rings_129 rfl (lv_at hl 1 rfl) ?_
              refine lv_aload_n hx hb dL_rings_130 rfl (lv_at hl 2 rfl) ?_
              refine lv_iload hx hb dL_rings_131 (lv_at hl 6 rfl) ?_
              refine lv_iconst (v := (2 : Int32)) hx hb dL_rings_133 (by decide) ?_
              refine lv_iload hx hb dL_rings_134 (lv_at hl 8 rfl) ?_
              refine lv_imul hx hb dL_rings_136 ?_
              obtain ⟨h_7, hf⟩ := ck hf
              obtain ⟨r_7, e_7, hf⟩ := bo hf
              refine mcallSi (W0 := (wC c0 h k0 x0 d0 ++ (wS g h a1 a2 a3 a4 σ_116 ++ (wH g k0 k1 γ η_116 ++ (wV g v0 ν_116 ++ (wZ g z0 ζ_116)))))) (Wc := (wC c0 h k0 x0 d0 ++ (wS g h a1 a2 a3 a4 σ_116 ++ (wH g k0 k1 γ η_116 ++ (wV g v0 ν_116 ++ (wZ g z0 ζ_116)))))) (Wr := ([] : va_W)) (W1 := (wC c0 h k0 x0 d0 ++ (wS g h a1 a2 a3 a4 r_7.2.1 ++ (wH g k0 k1 γ r_7.2.2.1 ++ (wV g v0 r_7.2.2.2.1 ++ (wZ g z0 r_7.2.2.2.2)))))) (W2 := (wC c0 h k0 x0 d0 ++ (wS g h a1 a2 a3 a4 r_7.2.1 ++ (wH g k0 k1 γ r_7.2.2.1 ++ (wV g v0 r_7.2.2.2.1 ++ (wZ g z0 r_7.2.2.2.2)))))) (As := [.ref c0, .ref v0, .ref z0, .int v7_77, .int ((2 : Int32) * v9_116)]) (rest := []) [0, 1, 2, 3, 4, 5, 6, 7, 8, 9, 10, 11, 12, 13, 14, 15, 16, 17, 18, 19, 20, 21, 22, 23, 24, 25, 26, 27, 28, 29, 30, 31, 32, 33, 34, 35, 36, 37, 38, 39] [] [0, 1, 2, 3, 4, 5, 6, 7, 8, 9, 10, 11, 12, 13, 14, 15, 16, 17, 18, 19, 20, 21, 22, 23, 24, 25, 26, 27, 28, 29, 30, 31, 32, 33, 34, 35, 36, 37, 38, 39] ⟨hx, hb, hml, hown, hts⟩ hP hD hE hZ hS hA (cL_steps_ok l hl0 g 4 c0 h k0 x0 d0 a1 a2 a3 a4 k1 v0 z0 γ σ_116 η_116 ν_116 ζ_116 v7_77 ((2 : Int32) * v9_116) _ e_7) (va_cwS 5 hts gL_rings_L_steps rfl rfl rfl hdL_steps.2 ⟨(Nat.le_of_ble_eq_true rfl), (Nat.le_of_ble_eq_true rfl)⟩) rfl rfl rfl (by decide) (by decide) (by decide) (by decide) rfl hl.1 rfl (Nat.le_of_ble_eq_true rfl) ⟨(kc3 h_7), (kc61 h_7)⟩ dL_rings_137 (fun H locs hP hD hS => ?_)
              refine W.widen (k := 3 * (n_116 + 4)) (n := 61 * (n_116 + 4)) (by omega) (by omega) ?_
              refine lv_istore (lv' := [(8, .int (b2i r_7.1)), (0, .ref c0), (1, .ref v0), (2, .ref z0), (4, .int v4_77), (5, .int v5_77), (6, .int (b2i v6_77)), (7, .int v7_77), (9, .int v9_116), (10, .int v10_116), (11, .int v11_116)]) hx hb dL_rings_140 hl (by decide) rfl (fun ls hl => ?_)
              refine lv_iinc (v := (v11_116 + 1)) (lv' := [(11, .int (v11_116 + 1)), (8, .int (b2i r_7.1)), (0, .ref c0), (1, .ref v0), (2, .ref z0), (4, .int v4_77), (5, .int v5_77), (6, .int (b2i v6_77)), (7, .int v7_77), (9, .int v9_116), (10, .int v10_116)]) hx hb dL_rings_142 hl (k := 10) rfl rfl (by decide) rfl (fun ls hl => ?_)
              refine lv_goto (tgt := 116) hx hb dL_rings_145 (by decide) ?_
              exact ih116 r_7.1 (v11_116 + 1) r_7.2.1 r_7.2.2.1 r_7.2.2.2.1 r_7.2.2.2.2 (n_116 + 4) _ _ h_7 ls hP hD hS (lv_sub hl [2, 3, 4, 5, 6, 7, 8, 1, 9, 10, 0] rfl) hf
      intro v8_77 v9_77 σ_77 η_77 ν_77 ζ_77 n_77 H locs hn ls hP hD hS hl hf
      rw [fL_rings_77] at hf
      refine lv_iload hx hb dL_rings_77 (lv_at hl 8 rfl) ?_
      refine lv_iconst (v := (4 : Int32)) hx hb dL_rings_79 (by decide) ?_
      refine lv_icmp_ge (tgt := 188) hx hb dL_rings_80 (by decide) (fun c_8 => ?_) (fun c_8 => ?_)
      · have hf := ip c_8 hf
        refine lv_iload hx hb dL_rings_188 (lv_at hl 7 rfl) ?_
        have ho := Option.some.inj hf
        subst ho
        refine W.widen (k := 3 * cap) (n := 61 * cap) (k3 hn) (k61 hn) ?_
        exact m_zret (v := v8_77) hx hb hr hlocks hP hD hS rfl dL_rings_190
      · have hf := iq c_8 hf
        refine lv_iload hx hb dL_rings_83 (lv_at hl 7 rfl) ?_
        refine lv_beq (tgt := 188) hx hb dL_rings_85 (by decide) (fun c_9 => ?_) (fun c_9 => ?_)
        · have hf := iq c_9 hf
          refine lv_iload hx hb dL_rings_188 (lv_at hl 7 rfl) ?_
          have ho := Option.some.inj hf
          subst ho
          refine W.widen (k := 3 * cap) (n := 61 * cap) (k3 hn) (k61 hn) ?_
          exact m_zret (v := v8_77) hx hb hr hlocks hP hD hS rfl dL_rings_190
        · have hf := ip c_9 hf
          refine lv_iload hx hb dL_rings_88 (lv_at hl 6 rfl) ?_
          refine lv_aload_n hx hb dL_rings_90 rfl (lv_at hl 1 rfl) ?_
          refine lv_bipush (v := (32 : Int32)) hx hb dL_rings_91 (by decide) ?_
          refine va_iald hx hb hE.1 hP 38 0 rfl rfl (vin (by decide)) dL_rings_93 ?_
          refine lv_icmp_ge (tgt := 188) hx hb dL_rings_94 (by decide) (fun c_10 => ?_) (fun c_10 => ?_)
          · have hf := ip c_10 hf
            refine lv_iload hx hb dL_rings_188 (lv_at hl 7 rfl) ?_
            have ho := Option.some.inj hf
            subst ho
            refine W.widen (k := 3 * cap) (n := 61 * cap) (k3 hn) (k61 hn) ?_
            exact m_zret (v := v8_77) hx hb hr hlocks hP hD hS rfl dL_rings_190
          · have hf := iq c_10 hf
            refine lv_iload hx hb dL_rings_97 (lv_at hl 8 rfl) ?_
            refine lv_iconst (v := (2 : Int32)) hx hb dL_rings_99 (by decide) ?_
            refine lv_irm hx hb dL_rings_100 (by decide) ?_
            refine lv_if_ne (tgt := 109) hx hb dL_rings_101 (by decide) (fun c_11 => ?_) (fun c_11 => ?_)
            · have hf := iq c_11 hf
              refine lv_iload hx hb dL_rings_109 (lv_at hl 4 rfl) ?_
              refine lv_istore (lv' := [(10, .int v5_77), (0, .ref c0), (1, .ref v0), (2, .ref z0), (4, .int v4_77), (5, .int v5_77), (6, .int (b2i v6_77)), (7, .int v7_77), (8, .int (b2i v8_77)), (9, .int v9_77)]) hx hb dL_rings_111 hl (by decide) rfl (fun ls hl => ?_)
              refine lv_iconst (v := (0 : Int32)) hx hb dL_rings_113 (by decide) ?_
              refine lv_istore (lv' := [(11, .int (0 : Int32)), (10, .int v5_77), (0, .ref c0), (1, .ref v0), (2, .ref z0), (4, .int v4_77), (5, .int v5_77), (6, .int (b2i v6_77)), (7, .int v7_77), (8, .int (b2i v8_77)), (9, .int v9_77)]) hx hb dL_rings_114 hl (by decide) rfl (fun ls hl => ?_)
              exact hB116 v9_77 v5_77 FU v8_77 (0 : Int32) σ_77 η_77 ν_77 ζ_77 n_77 _ _ hn ls hP hD hS (lv_sub hl [2, 3, 4, 5, 6, 7, 8, 9, 10, 1, 0] rfl) hf
            · have hf := ip c_11 hf
              refine lv_iload hx hb dL_rings_104 (lv_at hl 3 rfl) ?_
              refine lv_goto (tgt := 111) hx hb dL_rings_106 (by decide) ?_
              refine lv_istore (lv' := [(10, .int v4_77), (0, .ref c0), (1, .ref v0), (2, .ref z0), (4, .int v4_77), (5, .int v5_77), (6, .int (b2i v6_77)), (7, .int v7_77), (8, .int (b2i v8_77)), (9, .int v9_77)]) hx hb dL_rings_111 hl (by decide) rfl (fun ls hl => ?_)
              refine lv_iconst (v := (0 : Int32)) hx hb dL_rings_113 (by decide) ?_
              refine lv_istore (lv' := [(11, .int (0 : Int32)), (10, .int v4_77), (0, .ref c0), (1, .ref v0), (2, .ref z0), (4, .int v4_77), (5, .int v5_77), (6, .int (b2i v6_77)), (7, .int v7_77), (8, .int (b2i v8_77)), (9, .int v9_77)]) hx hb dL_rings_114 hl (by decide) rfl (fun ls hl => ?_)
              exact hB116 v9_77 v4_77 FU v8_77 (0 : Int32) σ_77 η_77 ν_77 ζ_77 n_77 _ _ hn ls hP hD hS (lv_sub hl [2, 3, 4, 5, 6, 7, 8, 9, 10, 1, 0] rfl) hf
  have hB41 : ∀ (v4_41 : Int32) (v5_41 : Int32) (t0_41 : Bool) (σ_41 : Sh) (η_41 : Hi) (ν_41 : (Nat → Int32)) (ζ_41 : (Nat → Int64)) (n_41 : Nat) (H : Heap) (locs : List Loc) (hn : n_41 ≤ cap) (ls : Array Slot), va_P g.1 vwCl (wC c0 h k0 x0 d0 ++ (wS g h a1 a2 a3 a4 σ_41 ++ (wH g k0 k1 γ η_41 ++ (wV g v0 ν_41 ++ (wZ g z0 ζ_41))))) H → va_D A (wC c0 h k0 x0 d0 ++ (wS g h a1 a2 a3 a4 σ_41 ++ (wH g k0 k1 γ η_41 ++ (wV g v0 ν_41 ++ (wZ g z0 ζ_41))))) → va_S A s.heap H locs → lv_has ls 12 [(0, .ref c0), (1, .ref v0), (2, .ref z0), (3, .int p3), (4, .int v4_41), (5, .int v5_41)] → fL_rings_41 cap p3 v4_41 v5_41 t0_41 σ_41 η_41 ν_41 ζ_41 n_41 = some o → W p l e (headSpec wsL_rings (rmL_rings cap)).room s m ([.ref c0, .ref v0, .ref z0, .int p3] : List Value).toArray below meth c H locs (3 * n_41) (61 * n_41) (MQ below (va_Qi (fun r' (_ : Unit) => r' = b2i o.1) (fun _ t => PQ g (wC c0 h k0 x0 d0 ++ (wS g h a1 a2 a3 a4 o.2.1 ++ (wH g k0 k1 γ o.2.2.1 ++ (wV g v0 o.2.2.2.1 ++ (wZ g z0 o.2.2.2.2))))) A t) A) ([.ref c0, .ref v0, .ref z0, .int p3] : List Value).toArray s (3 * cap) (61 * cap) A) (F0 m 41 ls [.int (b2i t0_41)]) := by
    intro  v4_41 v5_41 t0_41 σ_41 η_41 ν_41 ζ_41 n_41 H locs hn ls hP hD hS hl hf
    unfold fL_rings_41 at hf
    refine lv_istore (lv' := [(6, .int (b2i t0_41)), (0, .ref c0), (1, .ref v0), (2, .ref z0), (3, .int p3), (4, .int v4_41), (5, .int v5_41)]) hx hb dL_rings_41 hl (by decide) rfl (fun ls hl => ?_)
    refine lv_aload_n hx hb dL_rings_43 rfl (lv_at hl 2 rfl) ?_
    refine lv_bipush (v := (32 : Int32)) hx hb dL_rings_44 (by decide) ?_
    refine va_iald hx hb hE.1 hP 38 0 rfl rfl (vin (by decide)) dL_rings_46 ?_
    refine lv_istore (lv' := [(7, .int (ν_41 (Int32.toNatClampNeg (32 : Int32)))), (6, .int (b2i t0_41)), (0, .ref c0), (1, .ref v0), (2, .ref z0), (3, .int p3), (4, .int v4_41), (5, .int v5_41)]) hx hb dL_rings_47 hl (by decide) rfl (fun ls hl => ?_)
    refine lv_aload_n hx hb dL_rings_49 rfl (lv_at hl 2 rfl) ?_
    refine lv_aload_n hx hb dL_rings_50 rfl (lv_at hl 3 rfl) ?_
    refine lv_aload_n hx hb dL_rings_51 rfl (lv_at hl 4 rfl) ?_
    refine lv_iload_n hx hb dL_rings_52 rfl (lv_at hl 5 rfl) ?_
    refine lv_iconst (v := (3 : Int32)) hx hb dL_rings_53 (by decide) ?_
    refine lv_ishr hx hb dL_rings_54 ?_
    refine lv_bipush (v := (30 : Int32)) hx hb dL_rings_55 (by decide) ?_
    obtain ⟨r_12, e_12, hf⟩ := bo hf
    refine pcallS (W0 := (wC c0 h k0 x0 d0 ++ (wS g h a1 a2 a3 a4 σ_41 ++ (wH g k0 k1 γ η_41 ++ (wV g v0 ν_41 ++ (wZ g z0 ζ_41)))))) (As := [.int (p3 >>> ((3 : Int32) &&& 31)), .int (30 : Int32)]) (rest := [.ref z0, .ref v0, .ref c0]) [] ⟨hx, hb, hml, hown, hts⟩ hP hE hZ hS (cL_low_ok l g  (p3 >>> ((3 : Int32) &&& 31)) (30 : Int32) e_12) (va_cwS 2 hts gL_rings_L_low rfl rfl rfl hdL_low.2 ⟨(Nat.le_of_ble_eq_true rfl), (Nat.le_of_ble_eq_true rfl)⟩) rfl rfl hl.1 rfl (Nat.le_of_ble_eq_true rfl) ⟨(k3 hn), (k61 hn)⟩ dL_rings_57 ?_
    refine lv_iload_n hx hb dL_rings_60 rfl (lv_at hl 5 rfl) ?_
    refine lv_iconst (v := (2 : Int32)) hx hb dL_rings_61 (by decide) ?_
    refine lv_ishr hx hb dL_rings_62 ?_
    refine lv_sipush (v := (384 : Int32)) hx hb dL_rings_63 (by decide) ?_
    obtain ⟨r_13, e_13, hf⟩ := bo hf
    refine pcallS (W0 := (wC c0 h k0 x0 d0 ++ (wS g h a1 a2 a3 a4 σ_41 ++ (wH g k0 k1 γ η_41 ++ (wV g v0 ν_41 ++ (wZ g z0 ζ_41)))))) (As := [.int (p3 >>> ((2 : Int32) &&& 31)), .int (384 : Int32)]) (rest := [.int r_12, .ref z0, .ref v0, .ref c0]) [] ⟨hx, hb, hml, hown, hts⟩ hP hE hZ hS (cL_low_ok l g  (p3 >>> ((2 : Int32) &&& 31)) (384 : Int32) e_13) (va_cwS 2 hts gL_rings_L_low rfl rfl rfl hdL_low.2 ⟨(Nat.le_of_ble_eq_true rfl), (Nat.le_of_ble_eq_true rfl)⟩) rfl rfl hl.1 rfl (Nat.le_of_ble_eq_true rfl) ⟨(k3 hn), (k61 hn)⟩ dL_rings_66 ?_
    obtain ⟨h_14, hf⟩ := ck hf
    obtain ⟨r_14, e_14, hf⟩ := bo hf
    refine mcallSi (W0 := (wC c0 h k0 x0 d0 ++ (wS g h a1 a2 a3 a4 σ_41 ++ (wH g k0 k1 γ η_41 ++ (wV g v0 ν_41 ++ (wZ g z0 ζ_41)))))) (Wc := (wC c0 h k0 x0 d0 ++ (wS g h a1 a2 a3 a4 σ_41 ++ (wH g k0 k1 γ η_41 ++ (wV g v0 ν_41 ++ (wZ g z0 ζ_41)))))) (Wr := ([] : va_W)) (W1 := (wC c0 h k0 x0 d0 ++ (wS g h a1 a2 a3 a4 r_14.2.1 ++ (wH g k0 k1 γ r_14.2.2.1 ++ (wV g v0 r_14.2.2.2.1 ++ (wZ g z0 r_14.2.2.2.2)))))) (W2 := (wC c0 h k0 x0 d0 ++ (wS g h a1 a2 a3 a4 r_14.2.1 ++ (wH g k0 k1 γ r_14.2.2.1 ++ (wV g v0 r_14.2.2.2.1 ++ (wZ g z0 r_14.2.2.2.2)))))) (As := [.ref c0, .ref v0, .ref z0, .int r_12, .int r_13]) (rest := []) [0, 1, 2, 3, 4, 5, 6, 7, 8, 9, 10, 11, 12, 13, 14, 15, 16, 17, 18, 19, 20, 21, 22, 23, 24, 25, 26, 27, 28, 29, 30, 31, 32, 33, 34, 35, 36, 37, 38, 39] [] [0, 1, 2, 3, 4, 5, 6, 7, 8, 9, 10, 11, 12, 13, 14, 15, 16, 17, 18, 19, 20, 21, 22, 23, 24, 25, 26, 27, 28, 29, 30, 31, 32, 33, 34, 35, 36, 37, 38, 39] ⟨hx, hb, hml, hown, hts⟩ hP hD hE hZ hS hA (cL_begins_ok l hl0 g 2 c0 h k0 x0 d0 a1 a2 a3 a4 k1 v0 z0 γ σ_41 η_41 ν_41 ζ_41 r_12 r_13 _ e_14) (va_cwS 5 hts gL_rings_L_begins rfl rfl rfl hdL_begins.2 ⟨(Nat.le_of_ble_eq_true rfl), (Nat.le_of_ble_eq_true rfl)⟩) rfl rfl rfl (by decide) (by decide) (by decide) (by decide) rfl hl.1 rfl (Nat.le_of_ble_eq_true rfl) ⟨(kc3 h_14), (kc61 h_14)⟩ dL_rings_69 (fun H locs hP hD hS => ?_)
    refine W.widen (k := 3 * (n_41 + 2)) (n := 61 * (n_41 + 2)) (by omega) (by omega) ?_
    refine lv_istore (lv' := [(8, .int (b2i r_14.1)), (7, .int (ν_41 (Int32.toNatClampNeg (32 : Int32)))), (6, .int (b2i t0_41)), (0, .ref c0), (1, .ref v0), (2, .ref z0), (3, .int p3), (4, .int v4_41), (5, .int v5_41)]) hx hb dL_rings_72 hl (by decide) rfl (fun ls hl => ?_)
    refine lv_iconst (v := (0 : Int32)) hx hb dL_rings_74 (by decide) ?_
    refine lv_istore (lv' := [(9, .int (0 : Int32)), (8, .int (b2i r_14.1)), (7, .int (ν_41 (Int32.toNatClampNeg (32 : Int32)))), (6, .int (b2i t0_41)), (0, .ref c0), (1, .ref v0), (2, .ref z0), (3, .int p3), (4, .int v4_41), (5, .int v5_41)]) hx hb dL_rings_75 hl (by decide) rfl (fun ls hl => ?_)
    exact hB77 v4_41 v5_41 t0_41 (ν_41 (Int32.toNatClampNeg (32 : Int32))) FU r_14.1 (0 : Int32) r_14.2.1 r_14.2.2.1 r_14.2.2.2.1 r_14.2.2.2.2 (n_41 + 2) _ _ h_14 ls hP hD hS (lv_sub hl [4, 5, 6, 8, 9, 3, 2, 1, 0] rfl) hf
  unfold fL_rings at hf
  refine lv_iconst (v := (1 : Int32)) hx hb dL_rings_0 (by decide) ?_
  refine lv_iload_n hx hb dL_rings_1 rfl (lv_at hl 3 rfl) ?_
  refine lv_iconst (v := (4 : Int32)) hx hb dL_rings_2 (by decide) ?_
  refine lv_ishr hx hb dL_rings_3 ?_
  refine lv_bipush (v := (9 : Int32)) hx hb dL_rings_4 (by decide) ?_
  obtain ⟨r_15, e_15, hf⟩ := bo hf
  refine pcallS (W0 := (wC c0 h k0 x0 d0 ++ (wS g h a1 a2 a3 a4 σ ++ (wH g k0 k1 γ η ++ (wV g v0 ν ++ (wZ g z0 ζ)))))) (As := [.int (p3 >>> ((4 : Int32) &&& 31)), .int (9 : Int32)]) (rest := [.int (1 : Int32)]) [] ⟨hx, hb, hml, hown, hts⟩ hP hE hZ hS (cL_low_ok l g  (p3 >>> ((4 : Int32) &&& 31)) (9 : Int32) e_15) (va_cwS 2 hts gL_rings_L_low rfl rfl rfl hdL_low.2 ⟨(Nat.le_of_ble_eq_true rfl), (Nat.le_of_ble_eq_true rfl)⟩) rfl rfl hl.1 rfl (Nat.le_of_ble_eq_true rfl) ⟨(k3 (Nat.zero_le _)), (k61 (Nat.zero_le _))⟩ dL_rings_6 ?_
  refine lv_iadd hx hb dL_rings_9 ?_
  refine lv_istore (lv' := [(4, .int ((1 : Int32) + r_15)), (0, .ref c0), (1, .ref v0), (2, .ref z0), (3, .int p3)]) hx hb dL_rings_10 hl (by decide) rfl (fun ls hl => ?_)
  refine lv_iconst (v := (1 : Int32)) hx hb dL_rings_12 (by decide) ?_
  refine lv_iload_n hx hb dL_rings_13 rfl (lv_at hl 4 rfl) ?_
  refine lv_bipush (v := (9 : Int32)) hx hb dL_rings_14 (by decide) ?_
  refine lv_ishr hx hb dL_rings_16 ?_
  refine lv_bipush (v := (6 : Int32)) hx hb dL_rings_17 (by decide) ?_
  obtain ⟨r_16, e_16, hf⟩ := bo hf
  refine pcallS (W0 := (wC c0 h k0 x0 d0 ++ (wS g h a1 a2 a3 a4 σ ++ (wH g k0 k1 γ η ++ (wV g v0 ν ++ (wZ g z0 ζ)))))) (As := [.int (p3 >>> ((9 : Int32) &&& 31)), .int (6 : Int32)]) (rest := [.int (1 : Int32)]) [] ⟨hx, hb, hml, hown, hts⟩ hP hE hZ hS (cL_low_ok l g  (p3 >>> ((9 : Int32) &&& 31)) (6 : Int32) e_16) (va_cwS 2 hts gL_rings_L_low rfl rfl rfl hdL_low.2 ⟨(Nat.le_of_ble_eq_true rfl), (Nat.le_of_ble_eq_true rfl)⟩) rfl rfl hl.1 rfl (Nat.le_of_ble_eq_true rfl) ⟨(k3 (Nat.zero_le _)), (k61 (Nat.zero_le _))⟩ dL_rings_19 ?_
  refine lv_iadd hx hb dL_rings_22 ?_
  refine lv_istore (lv' := [(5, .int ((1 : Int32) + r_16)), (4, .int ((1 : Int32) + r_15)), (0, .ref c0), (1, .ref v0), (2, .ref z0), (3, .int p3)]) hx hb dL_rings_23 hl (by decide) rfl (fun ls hl => ?_)
  refine lv_iload_n hx hb dL_rings_25 rfl (lv_at hl 5 rfl) ?_
  refine lv_bipush (v := (13 : Int32)) hx hb dL_rings_26 (by decide) ?_
  refine lv_ishr hx hb dL_rings_28 ?_
  refine lv_iconst (v := (2 : Int32)) hx hb dL_rings_29 (by decide) ?_
  obtain ⟨r_17, e_17, hf⟩ := bo hf
  refine pcallS (W0 := (wC c0 h k0 x0 d0 ++ (wS g h a1 a2 a3 a4 σ ++ (wH g k0 k1 γ η ++ (wV g v0 ν ++ (wZ g z0 ζ)))))) (As := [.int (p3 >>> ((13 : Int32) &&& 31)), .int (2 : Int32)]) (rest := []) [] ⟨hx, hb, hml, hown, hts⟩ hP hE hZ hS (cL_low_ok l g  (p3 >>> ((13 : Int32) &&& 31)) (2 : Int32) e_17) (va_cwS 2 hts gL_rings_L_low rfl rfl rfl hdL_low.2 ⟨(Nat.le_of_ble_eq_true rfl), (Nat.le_of_ble_eq_true rfl)⟩) rfl rfl hl.1 rfl (Nat.le_of_ble_eq_true rfl) ⟨(k3 (Nat.zero_le _)), (k61 (Nat.zero_le _))⟩ dL_rings_30 ?_
  refine lv_if_ne (tgt := 40) hx hb dL_rings_33 (by decide) (fun c_18 => ?_) (fun c_18 => ?_)
  · have hf := iq c_18 hf
    refine lv_iconst (v := (0 : Int32)) hx hb dL_rings_40 (by decide) ?_
    exact hB41 ((1 : Int32) + r_15) ((1 : Int32) + r_16) false σ η ν ζ 0 _ _ (Nat.zero_le _) ls hP hD hS (lv_sub hl [2, 3, 4, 5, 1, 0] rfl) hf
  · have hf := ip c_18 hf
    refine lv_iconst (v := (1 : Int32)) hx hb dL_rings_36 (by decide) ?_
    refine lv_goto (tgt := 41) hx hb dL_rings_37 (by decide) ?_
    exact hB41 ((1 : Int32) + r_15) ((1 : Int32) + r_16) true σ η ν ζ 0 _ _ (Nat.zero_le _) ls hP hD hS (lv_sub hl [2, 3, 4, 5, 1, 0] rfl) hf

def fL_wipes_11 (p2 : Int32) (v3_11 : Int32) (k2 : Int32 → (Nat → Int32) → (Nat → Int64) → Option ((Nat → Int32) × (Nat → Int64))) : Nat → Int32 → (Nat → Int32) → (Nat → Int64) → Option ((Nat → Int32) × (Nat → Int64))
  | 0, _, _, _ => none
  | n + 1, v4_11, ν_11, ζ_11 => (if (4 : Int32) ≤ v4_11 then k2 (v3_11 + 1) ν_11 ζ_11 else (if inR ((((4 : Int32) * v3_11) + (4 : Int32)) + v4_11) 34 then (if inR (((4 : Int32) * v3_11) + v4_11) 34 then (if inR ((((3 : Int32) * v3_11) + (3 : Int32)) + (irm v4_11 (3 : Int32))) 24 then (if inR (((3 : Int32) * v3_11) + (irm v4_11 (3 : Int32))) 24 then fL_wipes_11 p2 v3_11 k2 n (v4_11 + 1) (upd ν_11 (Int32.toNatClampNeg (((4 : Int32) * v3_11) + v4_11)) (ν_11 (Int32.toNatClampNeg ((((4 : Int32) * v3_11) + (4 : Int32)) + v4_11)))) (vp_updL ζ_11 (Int32.toNatClampNeg (((3 : Int32) * v3_11) + (irm v4_11 (3 : Int32)))) (ζ_11 (Int32.toNatClampNeg ((((3 : Int32) * v3_11) + (3 : Int32)) + (irm v4_11 (3 : Int32)))))) else none) else none) else none) else none))
def fL_wipes_2 (p2 : Int32) : Nat → Int32 → (Nat → Int32) → (Nat → Int64) → Option ((Nat → Int32) × (Nat → Int64))
  | 0, _, _, _ => none
  | n + 1, v3_2, ν_2, ζ_2 => (if (7 : Int32) ≤ v3_2 then (some ((upd ν_2 (Int32.toNatClampNeg (32 : Int32)) ((ν_2 (Int32.toNatClampNeg (32 : Int32))) - (1 : Int32))), ζ_2)) else fL_wipes_11 p2 v3_2 (fL_wipes_2 p2 n) FU (0 : Int32) ν_2 ζ_2)
def fL_wipes (ν : (Nat → Int32)) (ζ : (Nat → Int64)) (p2 : Int32) : Option ((Nat → Int32) × (Nat → Int64)) := fL_wipes_2 p2 FU p2 ν ζ
abbrev rmL_wipes : Room := { frames := 0, cells := 0, slots := 0, locals := 0 }
theorem hdL_wipes : yL_wipes.cls = RL ∧ yL_wipes.cls ≠ "java/lang/invoke/MethodHandle" ∧ yL_wipes.cls ≠ "java/lang/invoke/VarHandle" ∧ (parseMethodDescriptor yL_wipes.desc).map (fun d => d.parameters.length) = some 3 := by decide +kernel
set_option maxHeartbeats 4000000 in
set_option maxRecDepth 100000 in
theorem cL_wipes_ok (l : Launch) (g : Gg) (v0 z0 : Nat) (ν : (Nat → Int32)) (ζ : (Nat → Int64)) (p2 : Int32) (sz : Nat) {o : (Nat → Int32) × (Nat → Int64)} (hf : fL_wipes ν ζ p2 = some o) : Met l yL_wipes wsL_wipes rmL_wipes (va_Pc [.ref v0, .ref z0, .int p2] (PM g (wV g v0 ν ++ (wZ g z0 ζ)) sz)) (va_Qv (fun _ : Unit => True) (fun _ t => PQ g (wV g v0 o.1 ++ (wZ g z0 o.2)) (va_A (wV g v0 ν ++ (wZ g z0 ζ)) sz) t) (va_A (wV g v0 ν ++ (wZ g z0 ζ)) sz)) 0 0 (va_A (wV g v0 ν ++ (wZ g z0 ζ)) sz) := by
  refine Met.ofW (cc := cL_wipes) (maxL := 5) (ret := none) (by decide) rfl ?_
  intro p e s m args below meth c s₁ B hml hv
  obtain ⟨rfl, rfl, hP, hD0, hE, hZ⟩ := hv
  have hx := B.exec
  have hb := B.bytes
  have hr := B.returns
  have hts := atoms_spec (ws := wsL_wipes) B.pre
  have hown : s.vm.findClass RL = some m.cls := findClass_of_methodNamed B.named
  have hlocks := B.notSynchronized
  have hD := hD0.self (sz := s.heap.size)
  generalize hAe : (va_A (wV g v0 ν ++ (wZ g z0 ζ)) s.heap.size) = A at hD hZ ⊢
  have hA : ∀ q : Nat, s.heap.size ≤ q → A q := fun q h => by rw [← hAe]; exact Or.inr h
  have hS : va_S A s.heap s.heap [] := va_S.rf
  have hP : va_P g.1 vwCl (wV g v0 ν ++ (wZ g z0 ζ)) s.heap := hP
  have hl := lv_entry ([.ref v0, .ref z0, .int p2]) (n := 5) (Nat.le_of_ble_eq_true rfl)
  rw [lg_entry_eq]
  generalize (lg_sl ([.ref v0, .ref z0, .int p2]) ++ List.replicate (5 - (lg_sl ([.ref v0, .ref z0, .int p2])).length) Slot.unset).toArray = ls at hl ⊢
  have hl : lv_has ls 5 [(0, .ref v0), (1, .ref z0), (2, .int p2)] := hl
  have hB2 : ∀ (n2 : Nat) (v3_2 : Int32) (ν_2 : (Nat → Int32)) (ζ_2 : (Nat → Int64)) (H : Heap) (locs : List Loc) (ls : Array Slot), va_P g.1 vwCl (wV g v0 ν_2 ++ (wZ g z0 ζ_2)) H → va_D A (wV g v0 ν_2 ++ (wZ g z0 ζ_2)) → va_S A s.heap H locs → lv_has ls 5 [(0, .ref v0), (1, .ref z0), (3, .int v3_2)] → fL_wipes_2 p2 n2 v3_2 ν_2 ζ_2 = some o → W p l e (headSpec wsL_wipes rmL_wipes).room s m ([.ref v0, .ref z0, .int p2] : List Value).toArray below meth c H locs 0 0 (MQ below (va_Qv (fun _ : Unit => True) (fun _ t => PQ g (wV g v0 o.1 ++ (wZ g z0 o.2)) A t) A) ([.ref v0, .ref z0, .int p2] : List Value).toArray s 0 0 A) (F0 m 2 ls []) := by
    intro  n2
    induction n2 with
    | zero => intro v3_2 ν_2 ζ_2 H locs ls hP hD hS hl hf; exact nomatch (show (none : Option ((Nat → Int32) × (Nat → Int64))) = some _ from hf)
    | succ n2 ih2 =>
      have hB11 : ∀ (v3_11 : Int32) (n11 : Nat) (v4_11 : Int32) (ν_11 : (Nat → Int32)) (ζ_11 : (Nat → Int64)) (H : Heap) (locs : List Loc) (ls : Array Slot), va_P g.1 vwCl (wV g v0 ν_11 ++ (wZ g z0 ζ_11)) H → va_D A (wV g v0 ν_11 ++ (wZ g z0 ζ_11)) → va_S A s.heap H locs → lv_has ls 5 [(0, .ref v0), (1, .ref z0), (3, .int v3_11), (4, .int v4_11)] → fL_wipes_11 p2 v3_11 (fL_wipes_2 p2 n2) n11 v4_11 ν_11 ζ_11 = some o → W p l e (headSpec wsL_wipes rmL_wipes).room s m ([.ref v0, .ref z0, .int p2] : List Value).toArray below meth c H locs 0 0 (MQ below (va_Qv (fun _ : Unit => True) (fun _ t => PQ g (wV g v0 o.1 ++ (wZ g z0 o.2)) A t) A) ([.ref v0, .ref z0, .int p2] : List Value).toArray s 0 0 A) (F0 m 11 ls []) := by
        intro v3_11 n11
        induction n11 with
        | zero => intro v4_11 ν_11 ζ_11 H locs ls hP hD hS hl hf; exact nomatch (show (none : Option ((Nat → Int32) × (Nat → Int64))) = some _ from hf)
        | succ n11 ih11 =>
          intro v4_11 ν_11 ζ_11 H locs ls hP hD hS hl hf
          rw [fL_wipes_11] at hf
          refine lv_iload hx hb dL_wipes_11 (lv_at hl 3 rfl) ?_
          refine lv_iconst (v := (4 : Int32)) hx hb dL_wipes_13 (by decide) ?_
          refine lv_icmp_ge (tgt := 63) hx hb dL_wipes_14 (by decide) (fun c_1 => ?_) (fun c_1 => ?_)
          · have hf := ip c_1 hf
            refine lv_iinc (v := (v3_11 + 1)) (lv' := [(3, .int (v3_11 + 1)), (0, .ref v0), (1, .ref z0), (4, .int v4_11)]) hx hb dL_wipes_63 hl (k := 2) rfl rfl (by decide) rfl (fun ls hl => ?_)
            refine lv_goto (tgt := 2) hx hb dL_wipes_66 (by decide) ?_
            exact ih2 (v3_11 + 1) ν_11 ζ_11 _ _ ls hP hD hS (lv_sub hl [1, 2, 0] rfl) hf
          · have hf := iq c_1 hf
            refine lv_aload_n hx hb dL_wipes_17 rfl (lv_at hl 0 rfl) ?_
            refine lv_iconst (v := (4 : Int32)) hx hb dL_wipes_18 (by decide) ?_
            refine lv_iload_n hx hb dL_wipes_19 rfl (lv_at hl 2 rfl) ?_
            refine lv_imul hx hb dL_wipes_20 ?_
            refine lv_iload hx hb dL_wipes_21 (lv_at hl 3 rfl) ?_
            refine lv_iadd hx hb dL_wipes_23 ?_
            refine lv_aload_n hx hb dL_wipes_24 rfl (lv_at hl 0 rfl) ?_
            refine lv_iconst (v := (4 : Int32)) hx hb dL_wipes_25 (by decide) ?_
            refine lv_iload_n hx hb dL_wipes_26 rfl (lv_at hl 2 rfl) ?_
            refine lv_imul hx hb dL_wipes_27 ?_
            refine lv_iconst (v := (4 : Int32)) hx hb dL_wipes_28 (by decide) ?_
            refine lv_iadd hx hb dL_wipes_29 ?_
            refine lv_iload hx hb dL_wipes_30 (lv_at hl 3 rfl) ?_
            refine lv_iadd hx hb dL_wipes_32 ?_
            obtain ⟨h_2, hf⟩ := ck hf
            refine va_iald hx hb hE.1 hP 0 0 rfl rfl (vin h_2) dL_wipes_33 ?_
            obtain ⟨h_3, hf⟩ := ck hf
            refine va_iast hx hb hE.1 hP hD hS 0 0 rfl rfl (vin h_3) dL_wipes_34 (fun H locs hP hD hS => ?_)
            have hP : va_P g.1 vwCl (wV g v0 (upd ν_11 (Int32.toNatClampNeg (((4 : Int32) * v3_11) + v4_11)) (ν_11 (Int32.toNatClampNeg ((((4 : Int32) * v3_11) + (4 : Int32)) + v4_11)))) ++ (wZ g z0 ζ_11)) H := hP
            have hD : va_D A (wV g v0 (upd ν_11 (Int32.toNatClampNeg (((4 : Int32) * v3_11) + v4_11)) (ν_11 (Int32.toNatClampNeg ((((4 : Int32) * v3_11) + (4 : Int32)) + v4_11)))) ++ (wZ g z0 ζ_11)) := hD
            refine lv_aload_n hx hb dL_wipes_35 rfl (lv_at hl 1 rfl) ?_
            refine lv_iconst (v := (3 : Int32)) hx hb dL_wipes_36 (by decide) ?_
            refine lv_iload_n hx hb dL_wipes_37 rfl (lv_at hl 2 rfl) ?_
            refine lv_imul hx hb dL_wipes_38 ?_
            refine lv_iload hx hb dL_wipes_39 (lv_at hl 3 rfl) ?_
            refine lv_iconst (v := (3 : Int32)) hx hb dL_wipes_41 (by decide) ?_
            refine lv_irm hx hb dL_wipes_42 (by decide) ?_
            refine lv_iadd hx hb dL_wipes_43 ?_
            refine lv_aload_n hx hb dL_wipes_44 rfl (lv_at hl 1 rfl) ?_
            refine lv_iconst (v := (3 : Int32)) hx hb dL_wipes_45 (by decide) ?_
            refine lv_iload_n hx hb dL_wipes_46 rfl (lv_at hl 2 rfl) ?_
            refine lv_imul hx hb dL_wipes_47 ?_
            refine lv_iconst (v := (3 : Int32)) hx hb dL_wipes_48 (by decide) ?_
            refine lv_iadd hx hb dL_wipes_49 ?_
            refine lv_iload hx hb dL_wipes_50 (lv_at hl 3 rfl) ?_
            refine lv_iconst (v := (3 : Int32)) hx hb dL_wipes_52 (by decide) ?_
            refine lv_irm hx hb dL_wipes_53 (by decide) ?_
            refine lv_iadd hx hb dL_wipes_54 ?_
            obtain ⟨h_4, hf⟩ := ck hf
            refine va_lald hx hb hE.1 hP 1 2 rfl rfl (vin h_4) dL_wipes_55 ?_
            obtain ⟨h_5, hf⟩ := ck hf
            refine va_last hx hb hE.1 hP hD hS 1 2 rfl rfl (vin h_5) dL_wipes_56 (fun H locs hP hD hS => ?_)
            have hP : va_P g.1 vwCl (wV g v0 (upd ν_11 (Int32.toNatClampNeg (((4 : Int32) * v3_11) + v4_11)) (ν_11 (Int32.toNatClampNeg ((((4 : Int32) * v3_11) + (4 : Int32)) + v4_11)))) ++ (wZ g z0 (vp_updL ζ_11 (Int32.toNatClampNeg (((3 : Int32) * v3_11) + (irm v4_11 (3 : Int32)))) (ζ_11 (Int32.toNatClampNeg ((((3 : Int32) * v3_11) + (3 : Int32)) + (irm v4_11 (3 : Int32)))))))) H := hP
            have hD : va_D A (wV g v0 (upd ν_11 (Int32.toNatClampNeg (((4 : Int32) * v3_11) + v4_11)) (ν_11 (Int32.toNatClampNeg ((((4 : Int32) * v3_11) + (4 : Int32)) + v4_11)))) ++ (wZ g z0 (vp_updL ζ_11 (Int32.toNatClampNeg (((3 : Int32) * v3_11) + (irm v4_11 (3 : Int32)))) (ζ_11 (Int32.toNatClampNeg ((((3 : Int32) * v3_11) + (3 : Int32)) + (irm v4_11 (3 : Int32)))))))) := hD
            refine lv_iinc (v := (v4_11 + 1)) (lv' := [(4, .int (v4_11 + 1)), (0, .ref v0), (1, .ref z0), (3, .int v3_11)]) hx hb dL_wipes_57 hl (k := 3) rfl rfl (by decide) rfl (fun ls hl => ?_)
            refine lv_goto (tgt := 11) hx hb dL_wipes_60 (by decide) ?_
            exact ih11 (v4_11 + 1) (upd ν_11 (Int32.toNatClampNeg (((4 : Int32) * v3_11) + v4_11)) (ν_11 (Int32.toNatClampNeg ((((4 : Int32) * v3_11) + (4 : Int32)) + v4_11)))) (vp_updL ζ_11 (Int32.toNatClampNeg (((3 : Int32) * v3_11) + (irm v4_11 (3 : Int32)))) (ζ_11 (Int32.toNatClampNeg ((((3 : Int32) * v3_11) + (3 : Int32)) + (irm v4_11 (3 : Int32)))))) _ _ ls hP hD hS (lv_sub hl [1, 2, 3, 0] rfl) hf
      intro v3_2 ν_2 ζ_2 H locs ls hP hD hS hl hf
      rw [fL_wipes_2] at hf
      refine lv_iload_n hx hb dL_wipes_2 rfl (lv_at hl 2 rfl) ?_
      refine lv_bipush (v := (7 : Int32)) hx hb dL_wipes_3 (by decide) ?_
      refine lv_icmp_ge (tgt := 69) hx hb dL_wipes_5 (by decide) (fun c_6 => ?_) (fun c_6 => ?_)
      · have hf := ip c_6 hf
        refine lv_aload_n hx hb dL_wipes_69 rfl (lv_at hl 0 rfl) ?_
        refine lv_bipush (v := (32 : Int32)) hx hb dL_wipes_70 (by decide) ?_
        refine lv_dup2_11 hx hb dL_wipes_72 rfl rfl ?_
        refine va_iald hx hb hE.1 hP 0 0 rfl rfl (vin (by decide)) dL_wipes_73 ?_
        refine lv_iconst (v := (1 : Int32)) hx hb dL_wipes_74 (by decide) ?_
        refine lv_isub hx hb dL_wipes_75 ?_
        refine va_iast hx hb hE.1 hP hD hS 0 0 rfl rfl (vin (by decide)) dL_wipes_76 (fun H locs hP hD hS => ?_)
        have hP : va_P g.1 vwCl (wV g v0 (upd ν_2 (Int32.toNatClampNeg (32 : Int32)) ((ν_2 (Int32.toNatClampNeg (32 : Int32))) - (1 : Int32))) ++ (wZ g z0 ζ_2)) H := hP
        have hD : va_D A (wV g v0 (upd ν_2 (Int32.toNatClampNeg (32 : Int32)) ((ν_2 (Int32.toNatClampNeg (32 : Int32))) - (1 : Int32))) ++ (wZ g z0 ζ_2)) := hD
        have ho := Option.some.inj hf
        subst ho
        exact m_vret hx hb hr hlocks hP hD hS dL_wipes_77
      · have hf := iq c_6 hf
        refine lv_iconst (v := (0 : Int32)) hx hb dL_wipes_8 (by decide) ?_
        refine lv_istore (lv' := [(4, .int (0 : Int32)), (0, .ref v0), (1, .ref z0), (3, .int v3_2)]) hx hb dL_wipes_9 hl (by decide) rfl (fun ls hl => ?_)
        exact hB11 v3_2 FU (0 : Int32) ν_2 ζ_2 _ _ ls hP hD hS (lv_sub hl [1, 2, 3, 0] rfl) hf
  unfold fL_wipes at hf
  refine lv_iload_n hx hb dL_wipes_0 rfl (lv_at hl 2 rfl) ?_
  refine lv_istore_n (lv' := [(3, .int p2), (0, .ref v0), (1, .ref z0), (2, .int p2)]) hx hb dL_wipes_1 rfl hl (by decide) rfl (fun ls hl => ?_)
  exact hB2 FU p2 ν ζ _ _ ls hP hD hS (lv_sub hl [1, 2, 0] rfl) hf
