def fL_labels_190 (cap : Nat) (ζ : (Nat → Int64)) (p3 p4 p5 : Int32) (v8_190 : Int32) (t1_190 : Int32) (t2_190 : Int32) (σ_190 : Sh) (η_190 : Hi) (ν_190 : (Nat → Int32)) (ψ_190 : (Nat → Int32)) (n_190 : Nat) : Option (Bool × Sh × Hi × (Nat → Int32)) := (if inR t1_190 34 then (if n_190 + 1 ≤ cap then ((fL_told σ_190 η_190 (4 : Int32) p3 (0 : Int32)).bind fun r_2 => (if 0 ≤ v8_190 then (if r_2.1 = v8_190 then (some (true, r_2.2.1, r_2.2.2, (upd ν_190 (Int32.toNatClampNeg t1_190) t2_190))) else (some (false, r_2.2.1, r_2.2.2, (upd ν_190 (Int32.toNatClampNeg t1_190) t2_190)))) else (if r_2.1 = (-13 : Int32) then (some (true, r_2.2.1, r_2.2.2, (upd ν_190 (Int32.toNatClampNeg t1_190) t2_190))) else (some (false, r_2.2.1, r_2.2.2, (upd ν_190 (Int32.toNatClampNeg t1_190) t2_190)))))) else none) else none)
def fL_labels_84 (cap : Nat) (ζ : (Nat → Int64)) (p3 p4 p5 : Int32) (v8_84 : Int32) (v9_84 : Bool) (t1_84 : Int32) (t2_84 : Int32) (σ_84 : Sh) (η_84 : Hi) (ν_84 : (Nat → Int32)) (ψ_84 : (Nat → Int32)) (n_84 : Nat) : Option (Bool × Sh × Hi × (Nat → Int32)) := (if inR t1_84 34 then (if n_84 + 1 ≤ cap then ((fL_told σ_84 η_84 (2 : Int32) p3 v8_84).bind fun r_7 => (if v9_84 = true then ((fL_bends (upd ν_84 (Int32.toNatClampNeg t1_84) t2_84) ζ ψ_84 p3 v8_84).bind fun r_10 => (if r_7.1 = r_10 then (some (true, r_7.2.1, r_7.2.2, (upd ν_84 (Int32.toNatClampNeg t1_84) t2_84))) else (some (false, r_7.2.1, r_7.2.2, (upd ν_84 (Int32.toNatClampNeg t1_84) t2_84))))) else (if r_7.1 = (-13 : Int32) then (some (true, r_7.2.1, r_7.2.2, (upd ν_84 (Int32.toNatClampNeg t1_84) t2_84))) else (some (false, r_7.2.1, r_7.2.2, (upd ν_84 (Int32.toNatClampNeg t1_84) t2_84)))))) else none) else none)
def fL_labels (cap : Nat) (σ : Sh) (η : Hi) (ν : (Nat → Int32)) (ζ : (Nat → Int64)) (p3 p4 p5 : Int32) : Option (Bool × Sh × Hi × (Nat → Int32)) := (if 0 + 1 ≤ cap then ((fL_walks ν ζ (fun _ => (0 : Int32)) p3).bind fun r_13 => (if inR (((4 : Int32) * p3) + (3 : Int32)) 34 then (if p4 = 0 then (if inR (((4 : Int32) * p3) + (2 : Int32)) 34 then ((fL_low (p5 >>> ((5 : Int32) &&& 31)) ((ν (Int32.toNatClampNeg (((4 : Int32) * p3) + (2 : Int32)))) + (1 : Int32))).bind fun r_24 => (if (0 + 1) + (uA ν p3 r_24) ≤ cap then ((fL_against (uA ν p3 r_24) ν ζ r_13 p3 r_24).bind fun r_25 => (if r_25 = 0 then fL_labels_84 cap ζ p3 p4 p5 r_24 true (((4 : Int32) * p3) + (3 : Int32)) r_24 σ η ν r_13 ((0 + 1) + (uA ν p3 r_24)) else fL_labels_84 cap ζ p3 p4 p5 r_24 false (((4 : Int32) * p3) + (3 : Int32)) (ν (Int32.toNatClampNeg (((4 : Int32) * p3) + (3 : Int32)))) σ η ν r_13 ((0 + 1) + (uA ν p3 r_24)))) else none)) else none) else (if p4 = (1 : Int32) then (if (0 + 1) + 1 ≤ cap then ((fL_told σ η (3 : Int32) p3 (0 : Int32)).bind fun r_19 => (if 0 ≤ (ν (Int32.toNatClampNeg (((4 : Int32) * p3) + (3 : Int32)))) then (if r_19.1 = (ν (Int32.toNatClampNeg (((4 : Int32) * p3) + (3 : Int32)))) then (some (true, r_19.2.1, r_19.2.2, (upd ν (Int32.toNatClampNeg (((4 : Int32) * p3) + (3 : Int32))) (-1 : Int32)))) else (some (false, r_19.2.1, r_19.2.2, (upd ν (Int32.toNatClampNeg (((4 : Int32) * p3) + (3 : Int32))) (-1 : Int32))))) else (if r_19.1 = (-13 : Int32) then (some (true, r_19.2.1, r_19.2.2, (upd ν (Int32.toNatClampNeg (((4 : Int32) * p3) + (3 : Int32))) (-1 : Int32)))) else (some (false, r_19.2.1, r_19.2.2, (upd ν (Int32.toNatClampNeg (((4 : Int32) * p3) + (3 : Int32))) (-1 : Int32))))))) else none) else (if (0 + 1) + (uB ν p3) ≤ cap then ((fL_best (uB ν p3) ν ζ p3).bind fun r_17 => (if 0 ≤ r_17 then fL_labels_190 cap ζ p3 p4 p5 r_17 (((4 : Int32) * p3) + (3 : Int32)) r_17 σ η ν r_13 ((0 + 1) + (uB ν p3)) else fL_labels_190 cap ζ p3 p4 p5 r_17 (((4 : Int32) * p3) + (3 : Int32)) (ν (Int32.toNatClampNeg (((4 : Int32) * p3) + (3 : Int32)))) σ η ν r_13 ((0 + 1) + (uB ν p3)))) else none))) else none)) else none)
abbrev rmL_labels (cap : Nat) : Room := { frames := 9, cells := 3 * cap, slots := 61 * cap, locals := 173 }
theorem hdL_labels : yL_labels.cls = RL ∧ yL_labels.cls ≠ "java/lang/invoke/MethodHandle" ∧ yL_labels.cls ≠ "java/lang/invoke/VarHandle" ∧ (parseMethodDescriptor yL_labels.desc).map (fun d => d.parameters.length) = some 6 := by decide +kernel
theorem naL_labels : (.arrayClass .int : Cond) ∈ wsL_labels := by decide +kernel
set_option maxHeartbeats 4000000 in
set_option maxRecDepth 100000 in
theorem cL_labels_ok (l : Launch) (hl0 : l.stackTraces = false) (g : Gg) (cap : Nat) (c0 h k0 x0 d0 a1 a2 a3 a4 k1 v0 z0 : Nat) (γ : Nat → Nat → Nat) (σ : Sh) (η : Hi) (ν : (Nat → Int32)) (ζ : (Nat → Int64)) (p3 p4 p5 : Int32) (sz : Nat) {o : Bool × Sh × Hi × (Nat → Int32)} (hf : fL_labels cap σ η ν ζ p3 p4 p5 = some o) : Met l yL_labels wsL_labels (rmL_labels cap) (va_Pc [.ref c0, .ref v0, .ref z0, .int p3, .int p4, .int p5] (PM g (wC c0 h k0 x0 d0 ++ (wS g h a1 a2 a3 a4 σ ++ (wH g k0 k1 γ η ++ (wV g v0 ν ++ (wZ g z0 ζ))))) sz)) (va_Qi (fun r' (_ : Unit) => r' = b2i o.1) (fun _ t => PQ g (wC c0 h k0 x0 d0 ++ (wS g h a1 a2 a3 a4 o.2.1 ++ (wH g k0 k1 γ o.2.2.1 ++ (wV g v0 o.2.2.2 ++ (wZ g z0 ζ))))) (va_A (wC c0 h k0 x0 d0 ++ (wS g h a1 a2 a3 a4 σ ++ (wH g k0 k1 γ η ++ (wV g v0 ν ++ (wZ g z0 ζ))))) sz) t) (va_A (wC c0 h k0 x0 d0 ++ (wS g h a1 a2 a3 a4 σ ++ (wH g k0 k1 γ η ++ (wV g v0 ν ++ (wZ g z0 ζ))))) sz)) (3 * cap) (61 * cap) (va_A (wC c0 h k0 x0 d0 ++ (wS g h a1 a2 a3 a4 σ ++ (wH g k0 k1 γ η ++ (wV g v0 ν ++ (wZ g z0 ζ))))) sz) := by
  refine Met.ofW (cc := cL_labels) (maxL := 10) (ret := (some .boolean)) (by decide) rfl ?_
  intro p e s m args below meth c s₁ B hml hv
  obtain ⟨rfl, rfl, hP, hD0, hE, hZ⟩ := hv
  have hx := B.exec
  have hb := B.bytes
  have hr := B.returns
  have hts := atoms_spec (ws := wsL_labels) B.pre
  have hown : s.vm.findClass RL = some m.cls := findClass_of_methodNamed B.named
  have hlocks := B.notSynchronized
  have hD := hD0.self (sz := s.heap.size)
  generalize hAe : (va_A (wC c0 h k0 x0 d0 ++ (wS g h a1 a2 a3 a4 σ ++ (wH g k0 k1 γ η ++ (wV g v0 ν ++ (wZ g z0 ζ))))) s.heap.size) = A at hD hZ ⊢
  have hA : ∀ q : Nat, s.heap.size ≤ q → A q := fun q h => by rw [← hAe]; exact Or.inr h
  have hS : va_S A s.heap s.heap [] := va_S.rf
  have hP : va_P g.1 vwCl (wC c0 h k0 x0 d0 ++ (wS g h a1 a2 a3 a4 σ ++ (wH g k0 k1 γ η ++ (wV g v0 ν ++ (wZ g z0 ζ))))) s.heap := hP
  have hl := lv_entry ([.ref c0, .ref v0, .ref z0, .int p3, .int p4, .int p5]) (n := 10) (Nat.le_of_ble_eq_true rfl)
  rw [lg_entry_eq]
  generalize (lg_sl ([.ref c0, .ref v0, .ref z0, .int p3, .int p4, .int p5]) ++ List.replicate (10 - (lg_sl ([.ref c0, .ref v0, .ref z0, .int p3, .int p4, .int p5])).length) Slot.unset).toArray = ls at hl ⊢
  refine W.cs (cells' := 3 * 0) (slots' := 61 * 0) rfl rfl ?_
  have hl : lv_has ls 10 [(0, .ref c0), (1, .ref v0), (2, .ref z0), (3, .int p3), (4, .int p4), (5, .int p5)] := hl
  have hB190 : ∀ (p0 : Nat) (v8_190 : Int32) (t1_190 : Int32) (t2_190 : Int32) (σ_190 : Sh) (η_190 : Hi) (ν_190 : (Nat → Int32)) (ψ_190 : (Nat → Int32)) (n_190 : Nat) (H : Heap) (locs : List Loc) (hn : n_190 ≤ cap) (ls : Array Slot), va_P g.1 vwCl (wC c0 h k0 x0 d0 ++ (wS g h a1 a2 a3 a4 σ_190 ++ (wH g k0 k1 γ η_190 ++ (wV g v0 ν_190 ++ (wZ g z0 ζ ++ (wP g p0 ψ_190)))))) H → va_D A (wC c0 h k0 x0 d0 ++ (wS g h a1 a2 a3 a4 σ_190 ++ (wH g k0 k1 γ η_190 ++ (wV g v0 ν_190 ++ (wZ g z0 ζ ++ (wP g p0 ψ_190)))))) → va_S A s.heap H locs → lv_has ls 10 [(0, .ref c0), (3, .int p3), (8, .int v8_190)] → fL_labels_190 cap ζ p3 p4 p5 v8_190 t1_190 t2_190 σ_190 η_190 ν_190 ψ_190 n_190 = some o → W p l e (headSpec wsL_labels (rmL_labels cap)).room s m ([.ref c0, .ref v0, .ref z0, .int p3, .int p4, .int p5] : List Value).toArray below meth c H locs (3 * n_190) (61 * n_190) (MQ below (va_Qi (fun r' (_ : Unit) => r' = b2i o.1) (fun _ t => PQ g (wC c0 h k0 x0 d0 ++ (wS g h a1 a2 a3 a4 o.2.1 ++ (wH g k0 k1 γ o.2.2.1 ++ (wV g v0 o.2.2.2 ++ (wZ g z0 ζ))))) A t) A) ([.ref c0, .ref v0, .ref z0, .int p3, .int p4, .int p5] : List Value).toArray s (3 * cap) (61 * cap) A) (F0 m 190 ls [.int t2_190, .int t1_190, .ref v0]) := by
    intro p0  v8_190 t1_190 t2_190 σ_190 η_190 ν_190 ψ_190 n_190 H locs hn ls hP hD hS hl hf
    unfold fL_labels_190 at hf
    obtain ⟨h_1, hf⟩ := ck hf
    refine va_iast hx hb hE.1 hP hD hS 38 0 rfl rfl (vin h_1) dL_labels_190 (fun H locs hP hD hS => ?_)
    have hP : va_P g.1 vwCl (wC c0 h k0 x0 d0 ++ (wS g h a1 a2 a3 a4 σ_190 ++ (wH g k0 k1 γ η_190 ++ (wV g v0 (upd ν_190 (Int32.toNatClampNeg t1_190) t2_190) ++ (wZ g z0 ζ ++ (wP g p0 ψ_190)))))) H := hP
    have hD : va_D A (wC c0 h k0 x0 d0 ++ (wS g h a1 a2 a3 a4 σ_190 ++ (wH g k0 k1 γ η_190 ++ (wV g v0 (upd ν_190 (Int32.toNatClampNeg t1_190) t2_190) ++ (wZ g z0 ζ ++ (wP g p0 ψ_190)))))) := hD
    refine lv_aload_n hx hb dL_labels_191 rfl (lv_at hl 0 rfl) ?_
    refine lv_iconst (v := (4 : Int32)) hx hb dL_labels_192 (by decide) ?_
    refine lv_iload_n hx hb dL_labels_193 rfl (lv_at hl 1 rfl) ?_
    refine lv_iconst (v := (0 : Int32)) hx hb dL_labels_194 (by decide) ?_
    obtain ⟨h_2, hf⟩ := ck hf
    obtain ⟨r_2, e_2, hf⟩ := bo hf
    refine lcallS (W0 := (wC c0 h k0 x0 d0 ++ (wS g h a1 a2 a3 a4 σ_190 ++ (wH g k0 k1 γ η_190 ++ (wV g v0 (upd ν_190 (Int32.toNatClampNeg t1_190) t2_190) ++ (wZ g z0 ζ ++ (wP g p0 ψ_190))))))) (Wc := (wC c0 h k0 x0 d0 ++ (wS g h a1 a2 a3 a4 σ_190 ++ (wH g k0 k1 γ η_190)))) (Wr := (wV g v0 (upd ν_190 (Int32.toNatClampNeg t1_190) t2_190) ++ (wZ g z0 ζ ++ (wP g p0 ψ_190)))) (W1 := (wC c0 h k0 x0 d0 ++ (wS g h a1 a2 a3 a4 r_2.2.1 ++ (wH g k0 k1 γ r_2.2.2)))) (W2 := (wC c0 h k0 x0 d0 ++ (wS g h a1 a2 a3 a4 r_2.2.1 ++ (wH g k0 k1 γ r_2.2.2 ++ (wV g v0 (upd ν_190 (Int32.toNatClampNeg t1_190) t2_190) ++ (wZ g z0 ζ ++ (wP g p0 ψ_190))))))) (As := [.ref c0, .int (4 : Int32), .int p3, .int (0 : Int32)]) (rest := []) [0, 1, 2, 3, 4, 5, 6, 7, 8, 9, 10, 11, 12, 13, 14, 15, 16, 17, 18, 19, 20, 21, 22, 23, 24, 25, 26, 27, 28, 29, 30, 31, 32, 33, 34, 35, 36, 37] [38, 39, 40] [3, 4, 5, 6, 7, 8, 9, 10, 11, 12, 13, 14, 15, 16, 17, 18, 19, 20, 21, 22, 23, 24, 25, 26, 27, 28, 29, 30, 31, 32, 33, 34, 35, 36, 37, 38, 39, 40, 0, 1, 2] ⟨hx, hb, hml, hown, hts⟩ hP hD hE hZ hS hA (cL_told_ok l hl0 g c0 h k0 x0 d0 a1 a2 a3 a4 k1 γ σ_190 η_190 (4 : Int32) p3 (0 : Int32) _ e_2) (vx_cwSW 4 hts gL_labels_L_told rfl rfl rfl hdL_told.2 ⟨(Nat.le_of_ble_eq_true rfl), (Nat.le_of_ble_eq_true rfl)⟩) rfl rfl rfl (by decide) (by decide) (by decide) (by decide) rfl hl.1 rfl (Nat.le_of_ble_eq_true rfl) ⟨(kt3 h_2), (kt61 h_2)⟩ dL_labels_195 (fun H locs hP hD hS => ?_)
    refine W.widen (k := 3 * (n_190 + 1)) (n := 61 * (n_190 + 1)) (by omega) (by omega) ?_
    refine lv_iload hx hb dL_labels_198 (lv_at hl 2 rfl) ?_
    refine lv_if_ge (tgt := 208) hx hb dL_labels_200 (by decide) (fun c_3 => ?_) (fun c_3 => ?_)
    · have hf := ip c_3 hf
      refine lv_iload hx hb dL_labels_208 (lv_at hl 2 rfl) ?_
      refine lv_icmp_ne (tgt := 217) hx hb dL_labels_210 (by decide) (fun c_4 => ?_) (fun c_4 => ?_)
      · have hf := iq c_4 hf
        refine lv_iconst (v := (0 : Int32)) hx hb dL_labels_217 (by decide) ?_
        have ho := Option.some.inj hf
        subst ho
        have hP := hP.sub (ws' := (wC c0 h k0 x0 d0 ++ (wS g h a1 a2 a3 a4 r_2.2.1 ++ (wH g k0 k1 γ r_2.2.2 ++ (wV g v0 (upd ν_190 (Int32.toNatClampNeg t1_190) t2_190) ++ (wZ g z0 ζ)))))) [0, 1, 2, 3, 4, 5, 6, 7, 8, 9, 10, 11, 12, 13, 14, 15, 16, 17, 18, 19, 20, 21, 22, 23, 24, 25, 26, 27, 28, 29, 30, 31, 32, 33, 34, 35, 36, 37, 38, 39] rfl
        have hD := hD.sub (ws' := (wC c0 h k0 x0 d0 ++ (wS g h a1 a2 a3 a4 r_2.2.1 ++ (wH g k0 k1 γ r_2.2.2 ++ (wV g v0 (upd ν_190 (Int32.toNatClampNeg t1_190) t2_190) ++ (wZ g z0 ζ)))))) [0, 1, 2, 3, 4, 5, 6, 7, 8, 9, 10, 11, 12, 13, 14, 15, 16, 17, 18, 19, 20, 21, 22, 23, 24, 25, 26, 27, 28, 29, 30, 31, 32, 33, 34, 35, 36, 37, 38, 39] (by decide) rfl
        refine W.widen (k := 3 * cap) (n := 61 * cap) (k3 h_2) (k61 h_2) ?_
        exact m_zret (v := false) hx hb hr hlocks hP hD hS rfl dL_labels_218
      · have hf := ip c_4 hf
        refine lv_iconst (v := (1 : Int32)) hx hb dL_labels_213 (by decide) ?_
        refine lv_goto (tgt := 218) hx hb dL_labels_214 (by decide) ?_
        have ho := Option.some.inj hf
        subst ho
        have hP := hP.sub (ws' := (wC c0 h k0 x0 d0 ++ (wS g h a1 a2 a3 a4 r_2.2.1 ++ (wH g k0 k1 γ r_2.2.2 ++ (wV g v0 (upd ν_190 (Int32.toNatClampNeg t1_190) t2_190) ++ (wZ g z0 ζ)))))) [0, 1, 2, 3, 4, 5, 6, 7, 8, 9, 10, 11, 12, 13, 14, 15, 16, 17, 18, 19, 20, 21, 22, 23, 24, 25, 26, 27, 28, 29, 30, 31, 32, 33, 34, 35, 36, 37, 38, 39] rfl
        have hD := hD.sub (ws' := (wC c0 h k0 x0 d0 ++ (wS g h a1 a2 a3 a4 r_2.2.1 ++ (wH g k0 k1 γ r_2.2.2 ++ (wV g v0 (upd ν_190 (Int32.toNatClampNeg t1_190) t2_190) ++ (wZ g z0 ζ)))))) [0, 1, 2, 3, 4, 5, 6, 7, 8, 9, 10, 11, 12, 13, 14, 15, 16, 17, 18, 19, 20, 21, 22, 23, 24, 25, 26, 27, 28, 29, 30, 31, 32, 33, 34, 35, 36, 37, 38, 39] (by decide) rfl
        refine W.widen (k := 3 * cap) (n := 61 * cap) (k3 h_2) (k61 h_2) ?_
        exact m_zret (v := true) hx hb hr hlocks hP hD hS rfl dL_labels_218
    · have hf := iq c_3 hf
      refine lv_bipush (v := (-13 : Int32)) hx hb dL_labels_203 (by decide) ?_
      refine lv_goto (tgt := 210) hx hb dL_labels_205 (by decide) ?_
      refine lv_icmp_ne (tgt := 217) hx hb dL_labels_210 (by decide) (fun c_5 => ?_) (fun c_5 => ?_)
      · have hf := iq c_5 hf
        refine lv_iconst (v := (0 : Int32)) hx hb dL_labels_217 (by decide) ?_
        have ho := Option.some.inj hf
        subst ho
        have hP := hP.sub (ws' := (wC c0 h k0 x0 d0 ++ (wS g h a1 a2 a3 a4 r_2.2.1 ++ (wH g k0 k1 γ r_2.2.2 ++ (wV g v0 (upd ν_190 (Int32.toNatClampNeg t1_190) t2_190) ++ (wZ g z0 ζ)))))) [0, 1, 2, 3, 4, 5, 6, 7, 8, 9, 10, 11, 12, 13, 14, 15, 16, 17, 18, 19, 20, 21, 22, 23, 24, 25, 26, 27, 28, 29, 30, 31, 32, 33, 34, 35, 36, 37, 38, 39] rfl
        have hD := hD.sub (ws' := (wC c0 h k0 x0 d0 ++ (wS g h a1 a2 a3 a4 r_2.2.1 ++ (wH g k0 k1 γ r_2.2.2 ++ (wV g v0 (upd ν_190 (Int32.toNatClampNeg t1_190) t2_190) ++ (wZ g z0 ζ)))))) [0, 1, 2, 3, 4, 5, 6, 7, 8, 9, 10, 11, 12, 13, 14, 15, 16, 17, 18, 19, 20, 21, 22, 23, 24, 25, 26, 27, 28, 29, 30, 31, 32, 33, 34, 35, 36, 37, 38, 39] (by decide) rfl
        refine W.widen (k := 3 * cap) (n := 61 * cap) (k3 h_2) (k61 h_2) ?_
        exact m_zret (v := false) hx hb hr hlocks hP hD hS rfl dL_labels_218
      · have hf := ip c_5 hf
        refine lv_iconst (v := (1 : Int32)) hx hb dL_labels_213 (by decide) ?_
        refine lv_goto (tgt := 218) hx hb dL_labels_214 (by decide) ?_
        have ho := Option.some.inj hf
        subst ho
        have hP := hP.sub (ws' := (wC c0 h k0 x0 d0 ++ (wS g h a1 a2 a3 a4 r_2.2.1 ++ (wH g k0 k1 γ r_2.2.2 ++ (wV g v0 (upd ν_190 (Int32.toNatClampNeg t1_190) t2_190) ++ (wZ g z0 ζ)))))) [0, 1, 2, 3, 4, 5, 6, 7, 8, 9, 10, 11, 12, 13, 14, 15, 16, 17, 18, 19, 20, 21, 22, 23, 24, 25, 26, 27, 28, 29, 30, 31, 32, 33, 34, 35, 36, 37, 38, 39] rfl
        have hD := hD.sub (ws' := (wC c0 h k0 x0 d0 ++ (wS g h a1 a2 a3 a4 r_2.2.1 ++ (wH g k0 k1 γ r_2.2.2 ++ (wV g v0 (upd ν_190 (Int32.toNatClampNeg t1_190) t2_190) ++ (wZ g z0 ζ)))))) [0, 1, 2, 3, 4, 5, 6, 7, 8, 9, 10, 11, 12, 13, 14, 15, 16, 17, 18, 19, 20, 21, 22, 23, 24, 25, 26, 27, 28, 29, 30, 31, 32, 33, 34, 35, 36, 37, 38, 39] (by decide) rfl
        refine W.widen (k := 3 * cap) (n := 61 * cap) (k3 h_2) (k61 h_2) ?_
        exact m_zret (v := true) hx hb hr hlocks hP hD hS rfl dL_labels_218
  have hB84 : ∀ (p0 : Nat) (v8_84 : Int32) (v9_84 : Bool) (t1_84 : Int32) (t2_84 : Int32) (σ_84 : Sh) (η_84 : Hi) (ν_84 : (Nat → Int32)) (ψ_84 : (Nat → Int32)) (n_84 : Nat) (H : Heap) (locs : List Loc) (hn : n_84 ≤ cap) (ls : Array Slot), va_P g.1 vwCl (wC c0 h k0 x0 d0 ++ (wS g h a1 a2 a3 a4 σ_84 ++ (wH g k0 k1 γ η_84 ++ (wV g v0 ν_84 ++ (wZ g z0 ζ ++ (wP g p0 ψ_84)))))) H → va_D A (wC c0 h k0 x0 d0 ++ (wS g h a1 a2 a3 a4 σ_84 ++ (wH g k0 k1 γ η_84 ++ (wV g v0 ν_84 ++ (wZ g z0 ζ ++ (wP g p0 ψ_84)))))) → va_S A s.heap H locs → lv_has ls 10 [(0, .ref c0), (1, .ref v0), (2, .ref z0), (3, .int p3), (6, .ref p0), (8, .int v8_84), (9, .int (b2i v9_84))] → fL_labels_84 cap ζ p3 p4 p5 v8_84 v9_84 t1_84 t2_84 σ_84 η_84 ν_84 ψ_84 n_84 = some o → W p l e (headSpec wsL_labels (rmL_labels cap)).room s m ([.ref c0, .ref v0, .ref z0, .int p3, .int p4, .int p5] : List Value).toArray below meth c H locs (3 * n_84) (61 * n_84) (MQ below (va_Qi (fun r' (_ : Unit) => r' = b2i o.1) (fun _ t => PQ g (wC c0 h k0 x0 d0 ++ (wS g h a1 a2 a3 a4 o.2.1 ++ (wH g k0 k1 γ o.2.2.1 ++ (wV g v0 o.2.2.2 ++ (wZ g z0 ζ))))) A t) A) ([.ref c0, .ref v0, .ref z0, .int p3, .int p4, .int p5] : List Value).toArray s (3 * cap) (61 * cap) A) (F0 m 84 ls [.int t2_84, .int t1_84, .ref v0]) := by
    intro p0  v8_84 v9_84 t1_84 t2_84 σ_84 η_84 ν_84 ψ_84 n_84 H locs hn ls hP hD hS hl hf
    unfold fL_labels_84 at hf
    obtain ⟨h_6, hf⟩ := ck hf
    refine va_iast hx hb hE.1 hP hD hS 38 0 rfl rfl (vin h_6) dL_labels_84 (fun H locs hP hD hS => ?_)
    have hP : va_P g.1 vwCl (wC c0 h k0 x0 d0 ++ (wS g h a1 a2 a3 a4 σ_84 ++ (wH g k0 k1 γ η_84 ++ (wV g v0 (upd ν_84 (Int32.toNatClampNeg t1_84) t2_84) ++ (wZ g z0 ζ ++ (wP g p0 ψ_84)))))) H := hP
    have hD : va_D A (wC c0 h k0 x0 d0 ++ (wS g h a1 a2 a3 a4 σ_84 ++ (wH g k0 k1 γ η_84 ++ (wV g v0 (upd ν_84 (Int32.toNatClampNeg t1_84) t2_84) ++ (wZ g z0 ζ ++ (wP g p0 ψ_84)))))) := hD
    refine lv_aload_n hx hb dL_labels_85 rfl (lv_at hl 0 rfl) ?_
    refine lv_iconst (v := (2 : Int32)) hx hb dL_labels_86 (by decide) ?_
    refine lv_iload_n hx hb dL_labels_87 rfl (lv_at hl 3 rfl) ?_
    refine lv_iload hx hb dL_labels_88 (lv_at hl 5 rfl) ?_
    obtain ⟨h_7, hf⟩ := ck hf
    obtain ⟨r_7, e_7, hf⟩ := bo hf
    refine lcallS (W0 := (wC c0 h k0 x0 d0 ++ (wS g h a1 a2 a3 a4 σ_84 ++ (wH g k0 k1 γ η_84 ++ (wV g v0 (upd ν_84 (Int32.toNatClampNeg t1_84) t2_84) ++ (wZ g z0 ζ ++ (wP g p0 ψ_84))))))) (Wc := (wC c0 h k0 x0 d0 ++ (wS g h a1 a2 a3 a4 σ_84 ++ (wH g k0 k1 γ η_84)))) (Wr := (wV g v0 (upd ν_84 (Int32.toNatClampNeg t1_84) t2_84) ++ (wZ g z0 ζ ++ (wP g p0 ψ_84)))) (W1 := (wC c0 h k0 x0 d0 ++ (wS g h a1 a2 a3 a4 r_7.2.1 ++ (wH g k0 k1 γ r_7.2.2)))) (W2 := (wC c0 h k0 x0 d0 ++ (wS g h a1 a2 a3 a4 r_7.2.1 ++ (wH g k0 k1 γ r_7.2.2 ++ (wV g v0 (upd ν_84 (Int32.toNatClampNeg t1_84) t2_84) ++ (wZ g z0 ζ ++ (wP g p0 ψ_84))))))) (As := [.ref c0, .int (2 : Int32), .int p3, .int v8_84]) (rest := []) [0, 1, 2, 3, 4, 5, 6, 7, 8, 9, 10, 11, 12, 13, 14, 15, 16, 17, 18, 19, 20, 21, 22, 23, 24, 25, 26, 27, 28, 29, 30, 31, 32, 33, 34, 35, 36, 37] [38, 39, 40] [3, 4, 5, 6, 7, 8, 9, 10, 11, 12, 13, 14, 15, 16, 17, 18, 19, 20, 21, 22, 23, 24, 25, 26, 27, 28, 29, 30, 31, 32, 33, 34, 35, 36, 37, 38, 39, 40, 0, 1, 2] ⟨hx, hb, hml, hown, hts⟩ hP hD hE hZ hS hA (cL_told_ok l hl0 g c0 h k0 x0 d0 a1 a2 a3 a4 k1 γ σ_84 η_84 (2 : Int32) p3 v8_84 _ e_7) (vx_cwSW 4 hts gL_labels_L_told rfl rfl rfl hdL_told.2 ⟨(Nat.le_of_ble_eq_true rfl), (Nat.le_of_ble_eq_true rfl)⟩) rfl rfl rfl (by decide) (by decide) (by decide) (by decide) rfl hl.1 rfl (Nat.le_of_ble_eq_true rfl) ⟨(kt3 h_7), (kt61 h_7)⟩ dL_labels_90 (fun H locs hP hD hS => ?_)
    refine W.widen (k := 3 * (n_84 + 1)) (n := 61 * (n_84 + 1)) (by omega) (by omega) ?_
    refine lv_iload hx hb dL_labels_93 (lv_at hl 6 rfl) ?_
    refine lv_beq (tgt := 111) hx hb dL_labels_95 (by decide) (fun c_8 => ?_) (fun c_8 => ?_)
    · have hf := iq c_8 hf
      refine lv_bipush (v := (-13 : Int32)) hx hb dL_labels_111 (by decide) ?_
      refine lv_icmp_ne (tgt := 120) hx hb dL_labels_113 (by decide) (fun c_9 => ?_) (fun c_9 => ?_)
      · have hf := iq c_9 hf
        refine lv_iconst (v := (0 : Int32)) hx hb dL_labels_120 (by decide) ?_
        have ho := Option.some.inj hf
        subst ho
        have hP := hP.sub (ws' := (wC c0 h k0 x0 d0 ++ (wS g h a1 a2 a3 a4 r_7.2.1 ++ (wH g k0 k1 γ r_7.2.2 ++ (wV g v0 (upd ν_84 (Int32.toNatClampNeg t1_84) t2_84) ++ (wZ g z0 ζ)))))) [0, 1, 2, 3, 4, 5, 6, 7, 8, 9, 10, 11, 12, 13, 14, 15, 16, 17, 18, 19, 20, 21, 22, 23, 24, 25, 26, 27, 28, 29, 30, 31, 32, 33, 34, 35, 36, 37, 38, 39] rfl
        have hD := hD.sub (ws' := (wC c0 h k0 x0 d0 ++ (wS g h a1 a2 a3 a4 r_7.2.1 ++ (wH g k0 k1 γ r_7.2.2 ++ (wV g v0 (upd ν_84 (Int32.toNatClampNeg t1_84) t2_84) ++ (wZ g z0 ζ)))))) [0, 1, 2, 3, 4, 5, 6, 7, 8, 9, 10, 11, 12, 13, 14, 15, 16, 17, 18, 19, 20, 21, 22, 23, 24, 25, 26, 27, 28, 29, 30, 31, 32, 33, 34, 35, 36, 37, 38, 39] (by decide) rfl
        refine W.widen (k := 3 * cap) (n := 61 * cap) (k3 h_7) (k61 h_7) ?_
        exact m_zret (v := false) hx hb hr hlocks hP hD hS rfl dL_labels_121
      · have hf := ip c_9 hf
        refine lv_iconst (v := (1 : Int32)) hx hb dL_labels_116 (by decide) ?_
        refine lv_goto (tgt := 121) hx hb dL_labels_117 (by decide) ?_
        have ho := Option.some.inj hf
        subst ho
        have hP := hP.sub (ws' := (wC c0 h k0 x0 d0 ++ (wS g h a1 a2 a3 a4 r_7.2.1 ++ (wH g k0 k1 γ r_7.2.2 ++ (wV g v0 (upd ν_84 (Int32.toNatClampNeg t1_84) t2_84) ++ (wZ g z0 ζ)))))) [0, 1, 2, 3, 4, 5, 6, 7, 8, 9, 10, 11, 12, 13, 14, 15, 16, 17, 18, 19, 20, 21, 22, 23, 24, 25, 26, 27, 28, 29, 30, 31, 32, 33, 34, 35, 36, 37, 38, 39] rfl
        have hD := hD.sub (ws' := (wC c0 h k0 x0 d0 ++ (wS g h a1 a2 a3 a4 r_7.2.1 ++ (wH g k0 k1 γ r_7.2.2 ++ (wV g v0 (upd ν_84 (Int32.toNatClampNeg t1_84) t2_84) ++ (wZ g z0 ζ)))))) [0, 1, 2, 3, 4, 5, 6, 7, 8, 9, 10, 11, 12, 13, 14, 15, 16, 17, 18, 19, 20, 21, 22, 23, 24, 25, 26, 27, 28, 29, 30, 31, 32, 33, 34, 35, 36, 37, 38, 39] (by decide) rfl
        refine W.widen (k := 3 * cap) (n := 61 * cap) (k3 h_7) (k61 h_7) ?_
        exact m_zret (v := true) hx hb hr hlocks hP hD hS rfl dL_labels_121
    · have hf := ip c_8 hf
      refine lv_aload_n hx hb dL_labels_98 rfl (lv_at hl 1 rfl) ?_
      refine lv_aload_n hx hb dL_labels_99 rfl (lv_at hl 2 rfl) ?_
      refine lv_iload_n hx hb dL_labels_100 rfl (lv_at hl 3 rfl) ?_
      refine lv_aload hx hb dL_labels_101 (lv_at hl 4 rfl) ?_
      refine lv_iload hx hb dL_labels_103 (lv_at hl 5 rfl) ?_
      obtain ⟨r_10, e_10, hf⟩ := bo hf
      refine pcallS (W0 := (wC c0 h k0 x0 d0 ++ (wS g h a1 a2 a3 a4 r_7.2.1 ++ (wH g k0 k1 γ r_7.2.2 ++ (wV g v0 (upd ν_84 (Int32.toNatClampNeg t1_84) t2_84) ++ (wZ g z0 ζ ++ (wP g p0 ψ_84))))))) (As := [.ref v0, .ref z0, .int p3, .ref p0, .int v8_84]) (rest := [.int r_7.1]) [38, 39, 40] ⟨hx, hb, hml, hown, hts⟩ hP hE hZ hS (cL_bends_ok l g v0 z0 p0 (upd ν_84 (Int32.toNatClampNeg t1_84) t2_84) ζ ψ_84 p3 v8_84 e_10) (va_cwS 5 hts gL_labels_L_bends rfl rfl rfl hdL_bends.2 ⟨(Nat.le_of_ble_eq_true rfl), (Nat.le_of_ble_eq_true rfl)⟩) rfl rfl hl.1 rfl (Nat.le_of_ble_eq_true rfl) ⟨(k3 h_7), (k61 h_7)⟩ dL_labels_105 ?_
      refine lv_goto (tgt := 113) hx hb dL_labels_108 (by decide) ?_
      refine lv_icmp_ne (tgt := 120) hx hb dL_labels_113 (by decide) (fun c_11 => ?_) (fun c_11 => ?_)
      · have hf := iq c_11 hf
        refine lv_iconst (v := (0 : Int32)) hx hb dL_labels_120 (by decide) ?_
        have ho := Option.some.inj hf
        subst ho
        have hP := hP.sub (ws' := (wC c0 h k0 x0 d0 ++ (wS g h a1 a2 a3 a4 r_7.2.1 ++ (wH g k0 k1 γ r_7.2.2 ++ (wV g v0 (upd ν_84 (Int32.toNatClampNeg t1_84) t2_84) ++ (wZ g z0 ζ)))))) [0, 1, 2, 3, 4, 5, 6, 7, 8, 9, 10, 11, 12, 13, 14, 15, 16, 17, 18, 19, 20, 21, 22, 23, 24, 25, 26, 27, 28, 29, 30, 31, 32, 33, 34, 35, 36, 37, 38, 39] rfl
        have hD := hD.sub (ws' := (wC c0 h k0 x0 d0 ++ (wS g h a1 a2 a3 a4 r_7.2.1 ++ (wH g k0 k1 γ r_7.2.2 ++ (wV g v0 (upd ν_84 (Int32.toNatClampNeg t1_84) t2_84) ++ (wZ g z0 ζ)))))) [0, 1, 2, 3, 4, 5, 6, 7, 8, 9, 10, 11, 12, 13, 14, 15, 16, 17, 18, 19, 20, 21, 22, 23, 24, 25, 26, 27, 28, 29, 30, 31, 32, 33, 34, 35, 36, 37, 38, 39] (by decide) rfl
        refine W.widen (k := 3 * cap) (n := 61 * cap) (k3 h_7) (k61 h_7) ?_
        exact m_zret (v := false) hx hb hr hlocks hP hD hS rfl dL_labels_121
      · have hf := ip c_11 hf
        refine lv_iconst (v := (1 : Int32)) hx hb dL_labels_116 (by decide) ?_
        refine lv_goto (tgt := 121) hx hb dL_labels_117 (by decide) ?_
        have ho := Option.some.inj hf
        subst ho
        have hP := hP.sub (ws' := (wC c0 h k0 x0 d0 ++ (wS g h a1 a2 a3 a4 r_7.2.1 ++ (wH g k0 k1 γ r_7.2.2 ++ (wV g v0 (upd ν_84 (Int32.toNatClampNeg t1_84) t2_84) ++ (wZ g z0 ζ)))))) [0, 1, 2, 3, 4, 5, 6, 7, 8, 9, 10, 11, 12, 13, 14, 15, 16, 17, 18, 19, 20, 21, 22, 23, 24, 25, 26, 27, 28, 29, 30, 31, 32, 33, 34, 35, 36, 37, 38, 39] rfl
        have hD := hD.sub (ws' := (wC c0 h k0 x0 d0 ++ (wS g h a1 a2 a3 a4 r_7.2.1 ++ (wH g k0 k1 γ r_7.2.2 ++ (wV g v0 (upd ν_84 (Int32.toNatClampNeg t1_84) t2_84) ++ (wZ g z0 ζ)))))) [0, 1, 2, 3, 4, 5, 6, 7, 8, 9, 10, 11, 12, 13, 14, 15, 16, 17, 18, 19, 20, 21, 22, 23, 24, 25, 26, 27, 28, 29, 30, 31, 32, 33, 34, 35, 36, 37, 38, 39] (by decide) rfl
        refine W.widen (k := 3 * cap) (n := 61 * cap) (k3 h_7) (k61 h_7) ?_
        exact m_zret (v := true) hx hb hr hlocks hP hD hS rfl dL_labels_121
  unfold fL_labels at hf
  refine lv_bipush (v := (61 : Int32)) hx hb dL_labels_0 (by decide) ?_
  obtain ⟨h_12, hf⟩ := ck hf
  refine newaI (N' := 61) (W0 := (wC c0 h k0 x0 d0 ++ (wS g h a1 a2 a3 a4 σ ++ (wH g k0 k1 γ η ++ (wV g v0 ν ++ (wZ g z0 ζ)))))) hx hb (hts _ naL_labels) hE hP hD hS hA (by decide) (by decide) (Nat.le_of_ble_eq_true rfl) (ka3 h_12) (ka61 h_12) dL_labels_2 (fun p0 H hP hD hS => ?_)
  have hP : va_P g.1 vwCl (wC c0 h k0 x0 d0 ++ (wS g h a1 a2 a3 a4 σ ++ (wH g k0 k1 γ η ++ (wV g v0 ν ++ (wZ g z0 ζ ++ (wP g p0 (fun _ => (0 : Int32)))))))) H := hP
  have hD : va_D A (wC c0 h k0 x0 d0 ++ (wS g h a1 a2 a3 a4 σ ++ (wH g k0 k1 γ η ++ (wV g v0 ν ++ (wZ g z0 ζ ++ (wP g p0 (fun _ => (0 : Int32)))))))) := hD
  refine W.widen (k := 3 * (0 + 1)) (n := 61 * (0 + 1)) (by omega) (by omega) ?_
  refine lv_astore (lv' := [(6, .ref p0), (0, .ref c0), (1, .ref v0), (2, .ref z0), (3, .int p3), (4, .int p4), (5, .int p5)]) hx hb dL_labels_4 hl (by decide) rfl (fun ls hl => ?_)
  refine lv_aload_n hx hb dL_labels_6 rfl (lv_at hl 2 rfl) ?_
  refine lv_aload_n hx hb dL_labels_7 rfl (lv_at hl 3 rfl) ?_
  refine lv_iload_n hx hb dL_labels_8 rfl (lv_at hl 4 rfl) ?_
  refine lv_aload hx hb dL_labels_9 (lv_at hl 0 rfl) ?_
  obtain ⟨r_13, e_13, hf⟩ := bo hf
  refine mcallSv (W0 := (wC c0 h k0 x0 d0 ++ (wS g h a1 a2 a3 a4 σ ++ (wH g k0 k1 γ η ++ (wV g v0 ν ++ (wZ g z0 ζ ++ (wP g p0 (fun _ => (0 : Int32))))))))) (Wc := (wV g v0 ν ++ (wZ g z0 ζ ++ (wP g p0 (fun _ => (0 : Int32)))))) (Wr := (wC c0 h k0 x0 d0 ++ (wS g h a1 a2 a3 a4 σ ++ (wH g k0 k1 γ η)))) (W1 := (wV g v0 ν ++ (wZ g z0 ζ ++ (wP g p0 r_13)))) (W2 := (wC c0 h k0 x0 d0 ++ (wS g h a1 a2 a3 a4 σ ++ (wH g k0 k1 γ η ++ (wV g v0 ν ++ (wZ g z0 ζ ++ (wP g p0 r_13))))))) (As := [.ref v0, .ref z0, .int p3, .ref p0]) (rest := []) [38, 39, 40] [0, 1, 2, 3, 4, 5, 6, 7, 8, 9, 10, 11, 12, 13, 14, 15, 16, 17, 18, 19, 20, 21, 22, 23, 24, 25, 26, 27, 28, 29, 30, 31, 32, 33, 34, 35, 36, 37] [0, 1, 2, 3, 4, 5, 6, 7, 8, 9, 10, 11, 12, 13, 14, 15, 16, 17, 18, 19, 20, 21, 22, 23, 24, 25, 26, 27, 28, 29, 30, 31, 32, 33, 34, 35, 36, 37, 38, 39, 40] ⟨hx, hb, hml, hown, hts⟩ hP hD hE hZ hS hA (cL_walks_ok l g  v0 z0 p0 ν ζ (fun _ => (0 : Int32)) p3 _ e_13) (va_cwS 4 hts gL_labels_L_walks rfl rfl rfl hdL_walks.2 ⟨(Nat.le_of_ble_eq_true rfl), (Nat.le_of_ble_eq_true rfl)⟩) rfl rfl rfl (by decide) (by decide) (by decide) (by decide) rfl hl.1 rfl (Nat.le_of_ble_eq_true rfl) ⟨(k3 h_12), (k61 h_12)⟩ dL_labels_11 (fun H locs hP hD hS => ?_)
  refine W.cs (cells' := 3 * (0 + 1)) (slots' := 61 * (0 + 1)) (Nat.add_zero _) (Nat.add_zero _) ?_
  refine lv_aload_n hx hb dL_labels_14 rfl (lv_at hl 2 rfl) ?_
  refine lv_iconst (v := (4 : Int32)) hx hb dL_labels_15 (by decide) ?_
  refine lv_iload_n hx hb dL_labels_16 rfl (lv_at hl 4 rfl) ?_
  refine lv_imul hx hb dL_labels_17 ?_
  refine lv_iconst (v := (3 : Int32)) hx hb dL_labels_18 (by decide) ?_
  refine lv_iadd hx hb dL_labels_19 ?_
  obtain ⟨h_14, hf⟩ := ck hf
  refine va_iald hx hb hE.1 hP 38 0 rfl rfl (vin h_14) dL_labels_20 ?_
  refine lv_istore (lv' := [(7, .int (ν (Int32.toNatClampNeg (((4 : Int32) * p3) + (3 : Int32))))), (6, .ref p0), (0, .ref c0), (1, .ref v0), (2, .ref z0), (3, .int p3), (4, .int p4), (5, .int p5)]) hx hb dL_labels_21 hl (by decide) rfl (fun ls hl => ?_)
  refine lv_iload hx hb dL_labels_23 (lv_at hl 6 rfl) ?_
  refine lv_if_ne (tgt := 122) hx hb dL_labels_25 (by decide) (fun c_15 => ?_) (fun c_15 => ?_)
  · have hf := iq c_15 hf
    refine lv_iload hx hb dL_labels_122 (lv_at hl 6 rfl) ?_
    refine lv_iconst (v := (1 : Int32)) hx hb dL_labels_124 (by decide) ?_
    refine lv_icmp_ne (tgt := 164) hx hb dL_labels_125 (by decide) (fun c_16 => ?_) (fun c_16 => ?_)
    · have hf := iq c_16 hf
      refine lv_aload_n hx hb dL_labels_164 rfl (lv_at hl 3 rfl) ?_
      refine lv_aload_n hx hb dL_labels_165 rfl (lv_at hl 4 rfl) ?_
      refine lv_iload_n hx hb dL_labels_166 rfl (lv_at hl 5 rfl) ?_
      obtain ⟨h_17, hf⟩ := ck hf
      obtain ⟨r_17, e_17, hf⟩ := bo hf
      refine mcallSi (W0 := (wC c0 h k0 x0 d0 ++ (wS g h a1 a2 a3 a4 σ ++ (wH g k0 k1 γ η ++ (wV g v0 ν ++ (wZ g z0 ζ ++ (wP g p0 r_13))))))) (Wc := (wV g v0 ν ++ (wZ g z0 ζ))) (Wr := (wC c0 h k0 x0 d0 ++ (wS g h a1 a2 a3 a4 σ ++ (wH g k0 k1 γ η ++ (wP g p0 r_13))))) (W1 := (wV g v0 ν ++ (wZ g z0 ζ))) (W2 := (wC c0 h k0 x0 d0 ++ (wS g h a1 a2 a3 a4 σ ++ (wH g k0 k1 γ η ++ (wV g v0 ν ++ (wZ g z0 ζ ++ (wP g p0 r_13))))))) (As := [.ref v0, .ref z0, .int p3]) (rest := []) [38, 39] [0, 1, 2, 3, 4, 5, 6, 7, 8, 9, 10, 11, 12, 13, 14, 15, 16, 17, 18, 19, 20, 21, 22, 23, 24, 25, 26, 27, 28, 29, 30, 31, 32, 33, 34, 35, 36, 37, 40] [0, 1, 2, 3, 4, 5, 6, 7, 8, 9, 10, 11, 12, 13, 14, 15, 16, 17, 18, 19, 20, 21, 22, 23, 24, 25, 26, 27, 28, 29, 30, 31, 32, 33, 34, 35, 36, 37, 39, 40, 38] ⟨hx, hb, hml, hown, hts⟩ hP hD hE hZ hS hA (cL_best_ok l hl0 g (uB ν p3) v0 z0 ν ζ p3 _ e_17) (va_cwS 3 hts gL_labels_L_best rfl rfl rfl hdL_best.2 ⟨(Nat.le_of_ble_eq_true rfl), (Nat.le_of_ble_eq_true rfl)⟩) rfl rfl rfl (by decide) (by decide) (by decide) (by decide) rfl hl.1 rfl (Nat.le_of_ble_eq_true rfl) ⟨(kc3 h_17), (kc61 h_17)⟩ dL_labels_167 (fun H locs hP hD hS => ?_)
      refine W.widen (k := 3 * ((0 + 1) + (uB ν p3))) (n := 61 * ((0 + 1) + (uB ν p3))) (by omega) (by omega) ?_
      refine lv_istore (lv' := [(8, .int r_17), (7, .int (ν (Int32.toNatClampNeg (((4 : Int32) * p3) + (3 : Int32))))), (6, .ref p0), (0, .ref c0), (1, .ref v0), (2, .ref z0), (3, .int p3), (4, .int p4), (5, .int p5)]) hx hb dL_labels_170 hl (by decide) rfl (fun ls hl => ?_)
      refine lv_aload_n hx hb dL_labels_172 rfl (lv_at hl 4 rfl) ?_
      refine lv_iconst (v := (4 : Int32)) hx hb dL_labels_173 (by decide) ?_
      refine lv_iload_n hx hb dL_labels_174 rfl (lv_at hl 6 rfl) ?_
      refine lv_imul hx hb dL_labels_175 ?_
      refine lv_iconst (v := (3 : Int32)) hx hb dL_labels_176 (by decide) ?_
      refine lv_iadd hx hb dL_labels_177 ?_
      refine lv_iload hx hb dL_labels_178 (lv_at hl 0 rfl) ?_
      refine lv_if_ge (tgt := 188) hx hb dL_labels_180 (by decide) (fun c_18 => ?_) (fun c_18 => ?_)
      · have hf := ip c_18 hf
        refine lv_iload hx hb dL_labels_188 (lv_at hl 0 rfl) ?_
        exact hB190 p0 r_17 (((4 : Int32) * p3) + (3 : Int32)) r_17 σ η ν r_13 ((0 + 1) + (uB ν p3)) _ _ h_17 ls hP hD hS (lv_sub hl [3, 6, 0] rfl) hf
      · have hf := iq c_18 hf
        refine lv_iload hx hb dL_labels_183 (lv_at hl 1 rfl) ?_
        refine lv_goto (tgt := 190) hx hb dL_labels_185 (by decide) ?_
        exact hB190 p0 r_17 (((4 : Int32) * p3) + (3 : Int32)) (ν (Int32.toNatClampNeg (((4 : Int32) * p3) + (3 : Int32)))) σ η ν r_13 ((0 + 1) + (uB ν p3)) _ _ h_17 ls hP hD hS (lv_sub hl [3, 6, 0] rfl) hf
    · have hf := ip c_16 hf
      refine lv_aload_n hx hb dL_labels_128 rfl (lv_at hl 3 rfl) ?_
      refine lv_iconst (v := (4 : Int32)) hx hb dL_labels_129 (by decide) ?_
      refine lv_iload_n hx hb dL_labels_130 rfl (lv_at hl 5 rfl) ?_
      refine lv_imul hx hb dL_labels_131 ?_
      refine lv_iconst (v := (3 : Int32)) hx hb dL_labels_132 (by decide) ?_
      refine lv_iadd hx hb dL_labels_133 ?_
      refine lv_iconst (v := (-1 : Int32)) hx hb dL_labels_134 (by decide) ?_
      refine va_iast hx hb hE.1 hP hD hS 38 0 rfl rfl (vin h_14) dL_labels_135 (fun H locs hP hD hS => ?_)
      have hP : va_P g.1 vwCl (wC c0 h k0 x0 d0 ++ (wS g h a1 a2 a3 a4 σ ++ (wH g k0 k1 γ η ++ (wV g v0 (upd ν (Int32.toNatClampNeg (((4 : Int32) * p3) + (3 : Int32))) (-1 : Int32)) ++ (wZ g z0 ζ ++ (wP g p0 r_13)))))) H := hP
      have hD : va_D A (wC c0 h k0 x0 d0 ++ (wS g h a1 a2 a3 a4 σ ++ (wH g k0 k1 γ η ++ (wV g v0 (upd ν (Int32.toNatClampNeg (((4 : Int32) * p3) + (3 : Int32))) (-1 : Int32)) ++ (wZ g z0 ζ ++ (wP g p0 r_13)))))) := hD
      refine lv_aload_n hx hb dL_labels_136 rfl (lv_at hl 2 rfl) ?_
      refine lv_iconst (v := (3 : Int32)) hx hb dL_labels_137 (by decide) ?_
      refine lv_iload_n hx hb dL_labels_138 rfl (lv_at hl 5 rfl) ?_
      refine lv_iconst (v := (0 : Int32)) hx hb dL_labels_139 (by decide) ?_
      obtain ⟨h_19, hf⟩ := ck hf
      obtain ⟨r_19, e_19, hf⟩ := bo hf
      refine lcallS (W0 := (wC c0 h k0 x0 d0 ++ (wS g h a1 a2 a3 a4 σ ++ (wH g k0 k1 γ η ++ (wV g v0 (upd ν (Int32.toNatClampNeg (((4 : Int32) * p3) + (3 : Int32))) (-1 : Int32)) ++ (wZ g z0 ζ ++ (wP g p0 r_13))))))) (Wc := (wC c0 h k0 x0 d0 ++ (wS g h a1 a2 a3 a4 σ ++ (wH g k0 k1 γ η)))) (Wr := (wV g v0 (upd ν (Int32.toNatClampNeg (((4 : Int32) * p3) + (3 : Int32))) (-1 : Int32)) ++ (wZ g z0 ζ ++ (wP g p0 r_13)))) (W1 := (wC c0 h k0 x0 d0 ++ (wS g h a1 a2 a3 a4 r_19.2.1 ++ (wH g k0 k1 γ r_19.2.2)))) (W2 := (wC c0 h k0 x0 d0 ++ (wS g h a1 a2 a3 a4 r_19.2.1 ++ (wH g k0 k1 γ r_19.2.2 ++ (wV g v0 (upd ν (Int32.toNatClampNeg (((4 : Int32) * p3) + (3 : Int32))) (-1 : Int32)) ++ (wZ g z0 ζ ++ (wP g p0 r_13))))))) (As := [.ref c0, .int (3 : Int32), .int p3, .int (0 : Int32)]) (rest := []) [0, 1, 2, 3, 4, 5, 6, 7, 8, 9, 10, 11, 12, 13, 14, 15, 16, 17, 18, 19, 20, 21, 22, 23, 24, 25, 26, 27, 28, 29, 30, 31, 32, 33, 34, 35, 36, 37] [38, 39, 40] [3, 4, 5, 6, 7, 8, 9, 10, 11, 12, 13, 14, 15, 16, 17, 18, 19, 20, 21, 22, 23, 24, 25, 26, 27, 28, 29, 30, 31, 32, 33, 34, 35, 36, 37, 38, 39, 40, 0, 1, 2] ⟨hx, hb, hml, hown, hts⟩ hP hD hE hZ hS hA (cL_told_ok l hl0 g c0 h k0 x0 d0 a1 a2 a3 a4 k1 γ σ η (3 : Int32) p3 (0 : Int32) _ e_19) (vx_cwSW 4 hts gL_labels_L_told rfl rfl rfl hdL_told.2 ⟨(Nat.le_of_ble_eq_true rfl), (Nat.le_of_ble_eq_true rfl)⟩) rfl rfl rfl (by decide) (by decide) (by decide) (by decide) rfl hl.1 rfl (Nat.le_of_ble_eq_true rfl) ⟨(kt3 h_19), (kt61 h_19)⟩ dL_labels_140 (fun H locs hP hD hS => ?_)
      refine W.widen (k := 3 * ((0 + 1) + 1)) (n := 61 * ((0 + 1) + 1)) (by omega) (by omega) ?_
      refine lv_iload hx hb dL_labels_143 (lv_at hl 0 rfl) ?_
      refine lv_if_ge (tgt := 153) hx hb dL_labels_145 (by decide) (fun c_20 => ?_) (fun c_20 => ?_)
      · have hf := ip c_20 hf
        refine lv_iload hx hb dL_labels_153 (lv_at hl 0 rfl) ?_
        refine lv_icmp_ne (tgt := 162) hx hb dL_labels_155 (by decide) (fun c_21 => ?_) (fun c_21 => ?_)
        · have hf := iq c_21 hf
          refine lv_iconst (v := (0 : Int32)) hx hb dL_labels_162 (by decide) ?_
          have ho := Option.some.inj hf
          subst ho
          have hP := hP.sub (ws' := (wC c0 h k0 x0 d0 ++ (wS g h a1 a2 a3 a4 r_19.2.1 ++ (wH g k0 k1 γ r_19.2.2 ++ (wV g v0 (upd ν (Int32.toNatClampNeg (((4 : Int32) * p3) + (3 : Int32))) (-1 : Int32)) ++ (wZ g z0 ζ)))))) [0, 1, 2, 3, 4, 5, 6, 7, 8, 9, 10, 11, 12, 13, 14, 15, 16, 17, 18, 19, 20, 21, 22, 23, 24, 25, 26, 27, 28, 29, 30, 31, 32, 33, 34, 35, 36, 37, 38, 39] rfl
          have hD := hD.sub (ws' := (wC c0 h k0 x0 d0 ++ (wS g h a1 a2 a3 a4 r_19.2.1 ++ (wH g k0 k1 γ r_19.2.2 ++ (wV g v0 (upd ν (Int32.toNatClampNeg (((4 : Int32) * p3) + (3 : Int32))) (-1 : Int32)) ++ (wZ g z0 ζ)))))) [0, 1, 2, 3, 4, 5, 6, 7, 8, 9, 10, 11, 12, 13, 14, 15, 16, 17, 18, 19, 20, 21, 22, 23, 24, 25, 26, 27, 28, 29, 30, 31, 32, 33, 34, 35, 36, 37, 38, 39] (by decide) rfl
          refine W.widen (k := 3 * cap) (n := 61 * cap) (k3 h_19) (k61 h_19) ?_
          exact m_zret (v := false) hx hb hr hlocks hP hD hS rfl dL_labels_163
        · have hf := ip c_21 hf
          refine lv_iconst (v := (1 : Int32)) hx hb dL_labels_158 (by decide) ?_
          refine lv_goto (tgt := 163) hx hb dL_labels_159 (by decide) ?_
          have ho := Option.some.inj hf
          subst ho
          have hP := hP.sub (ws' := (wC c0 h k0 x0 d0 ++ (wS g h a1 a2 a3 a4 r_19.2.1 ++ (wH g k0 k1 γ r_19.2.2 ++ (wV g v0 (upd ν (Int32.toNatClampNeg (((4 : Int32) * p3) + (3 : Int32))) (-1 : Int32)) ++ (wZ g z0 ζ)))))) [0, 1, 2, 3, 4, 5, 6, 7, 8, 9, 10, 11, 12, 13, 14, 15, 16, 17, 18, 19, 20, 21, 22, 23, 24, 25, 26, 27, 28, 29, 30, 31, 32, 33, 34, 35, 36, 37, 38, 39] rfl
          have hD := hD.sub (ws' := (wC c0 h k0 x0 d0 ++ (wS g h a1 a2 a3 a4 r_19.2.1 ++ (wH g k0 k1 γ r_19.2.2 ++ (wV g v0 (upd ν (Int32.toNatClampNeg (((4 : Int32) * p3) + (3 : Int32))) (-1 : Int32)) ++ (wZ g z0 ζ)))))) [0, 1, 2, 3, 4, 5, 6, 7, 8, 9, 10, 11, 12, 13, 14, 15, 16, 17, 18, 19, 20, 21, 22, 23, 24, 25, 26, 27, 28, 29, 30, 31, 32, 33, 34, 35, 36, 37, 38, 39] (by decide) rfl
          refine W.widen (k := 3 * cap) (n := 61 * cap) (k3 h_19) (k61 h_19) ?_
          exact m_zret (v := true) hx hb hr hlocks hP hD hS rfl dL_labels_163
      · have hf := iq c_20 hf
        refine lv_bipush (v := (-13 : Int32)) hx hb dL_labels_148 (by decide) ?_
        refine lv_goto (tgt := 155) hx hb dL_labels_150 (by decide) ?_
        refine lv_icmp_ne (tgt := 162) hx hb dL_labels_155 (by decide) (fun c_22 => ?_) (fun c_22 => ?_)
        · have hf := iq c_22 hf
          refine lv_iconst (v := (0 : Int32)) hx hb dL_labels_162 (by decide) ?_
          have ho := Option.some.inj hf
          subst ho
          have hP := hP.sub (ws' := (wC c0 h k0 x0 d0 ++ (wS g h a1 a2 a3 a4 r_19.2.1 ++ (wH g k0 k1 γ r_19.2.2 ++ (wV g v0 (upd ν (Int32.toNatClampNeg (((4 : Int32) * p3) + (3 : Int32))) (-1 : Int32)) ++ (wZ g z0 ζ)))))) [0, 1, 2, 3, 4, 5, 6, 7, 8, 9, 10, 11, 12, 13, 14, 15, 16, 17, 18, 19, 20, 21, 22, 23, 24, 25, 26, 27, 28, 29, 30, 31, 32, 33, 34, 35, 36, 37, 38, 39] rfl
          have hD := hD.sub (ws' := (wC c0 h k0 x0 d0 ++ (wS g h a1 a2 a3 a4 r_19.2.1 ++ (wH g k0 k1 γ r_19.2.2 ++ (wV g v0 (upd ν (Int32.toNatClampNeg (((4 : Int32) * p3) + (3 : Int32))) (-1 : Int32)) ++ (wZ g z0 ζ)))))) [0, 1, 2, 3, 4, 5, 6, 7, 8, 9, 10, 11, 12, 13, 14, 15, 16, 17, 18, 19, 20, 21, 22, 23, 24, 25, 26, 27, 28, 29, 30, 31, 32, 33, 34, 35, 36, 37, 38, 39] (by decide) rfl
          refine W.widen (k := 3 * cap) (n := 61 * cap) (k3 h_19) (k61 h_19) ?_
          exact m_zret (v := false) hx hb hr hlocks hP hD hS rfl dL_labels_163
        · have hf := ip c_22 hf
          refine lv_iconst (v := (1 : Int32)) hx hb dL_labels_158 (by decide) ?_
          refine lv_goto (tgt := 163) hx hb dL_labels_159 (by decide) ?_
          have ho := Option.some.inj hf
          subst ho
          have hP := hP.sub (ws' := (wC c0 h k0 x0 d0 ++ (wS g h a1 a2 a3 a4 r_19.2.1 ++ (wH g k0 k1 γ r_19.2.2 ++ (wV g v0 (upd ν (Int32.toNatClampNeg (((4 : Int32) * p3) + (3 : Int32))) (-1 : Int32)) ++ (wZ g z0 ζ)))))) [0, 1, 2, 3, 4, 5, 6, 7, 8, 9, 10, 11, 12, 13, 14, 15, 16, 17, 18, 19, 20, 21, 22, 23, 24, 25, 26, 27, 28, 29, 30, 31, 32, 33, 34, 35, 36, 37, 38, 39] rfl
          have hD := hD.sub (ws' := (wC c0 h k0 x0 d0 ++ (wS g h a1 a2 a3 a4 r_19.2.1 ++ (wH g k0 k1 γ r_19.2.2 ++ (wV g v0 (upd ν (Int32.toNatClampNeg (((4 : Int32) * p3) + (3 : Int32))) (-1 : Int32)) ++ (wZ g z0 ζ)))))) [0, 1, 2, 3, 4, 5, 6, 7, 8, 9, 10, 11, 12, 13, 14, 15, 16, 17, 18, 19, 20, 21, 22, 23, 24, 25, 26, 27, 28, 29, 30, 31, 32, 33, 34, 35, 36, 37, 38, 39] (by decide) rfl
          refine W.widen (k := 3 * cap) (n := 61 * cap) (k3 h_19) (k61 h_19) ?_
          exact m_zret (v := true) hx hb hr hlocks hP hD hS rfl dL_labels_163
  · have hf := ip c_15 hf
    refine lv_iload hx hb dL_labels_28 (lv_at hl 7 rfl) ?_
    refine lv_iconst (v := (5 : Int32)) hx hb dL_labels_30 (by decide) ?_
    refine lv_ishr hx hb dL_labels_31 ?_
    refine lv_aload_n hx hb dL_labels_32 rfl (lv_at hl 3 rfl) ?_
    refine lv_iconst (v := (4 : Int32)) hx hb dL_labels_33 (by decide) ?_
    refine lv_iload_n hx hb dL_labels_34 rfl (lv_at hl 5 rfl) ?_
    refine lv_imul hx hb dL_labels_35 ?_
    refine lv_iconst (v := (2 : Int32)) hx hb dL_labels_36 (by decide) ?_
    refine lv_iadd hx hb dL_labels_37 ?_
    obtain ⟨h_23, hf⟩ := ck hf
    refine va_iald hx hb hE.1 hP 38 0 rfl rfl (vin h_23) dL_labels_38 ?_
    refine lv_iconst (v := (1 : Int32)) hx hb dL_labels_39 (by decide) ?_
    refine lv_iadd hx hb dL_labels_40 ?_
    obtain ⟨r_24, e_24, hf⟩ := bo hf
    refine pcallS (W0 := (wC c0 h k0 x0 d0 ++ (wS g h a1 a2 a3 a4 σ ++ (wH g k0 k1 γ η ++ (wV g v0 ν ++ (wZ g z0 ζ ++ (wP g p0 r_13))))))) (As := [.int (p5 >>> ((5 : Int32) &&& 31)), .int ((ν (Int32.toNatClampNeg (((4 : Int32) * p3) + (2 : Int32)))) + (1 : Int32))]) (rest := []) [] ⟨hx, hb, hml, hown, hts⟩ hP hE hZ hS (cL_low_ok l g  (p5 >>> ((5 : Int32) &&& 31)) ((ν (Int32.toNatClampNeg (((4 : Int32) * p3) + (2 : Int32)))) + (1 : Int32)) e_24) (va_cwS 2 hts gL_labels_L_low rfl rfl rfl hdL_low.2 ⟨(Nat.le_of_ble_eq_true rfl), (Nat.le_of_ble_eq_true rfl)⟩) rfl rfl hl.1 rfl (Nat.le_of_ble_eq_true rfl) ⟨(k3 h_12), (k61 h_12)⟩ dL_labels_41 ?_
    refine lv_istore (lv' := [(8, .int r_24), (7, .int (ν (Int32.toNatClampNeg (((4 : Int32) * p3) + (3 : Int32))))), (6, .ref p0), (0, .ref c0), (1, .ref v0), (2, .ref z0), (3, .int p3), (4, .int p4), (5, .int p5)]) hx hb dL_labels_44 hl (by decide) rfl (fun ls hl => ?_)
    refine lv_aload_n hx hb dL_labels_46 rfl (lv_at hl 4 rfl) ?_
    refine lv_aload_n hx hb dL_labels_47 rfl (lv_at hl 5 rfl) ?_
    refine lv_iload_n hx hb dL_labels_48 rfl (lv_at hl 6 rfl) ?_
    refine lv_aload hx hb dL_labels_49 (lv_at hl 2 rfl) ?_
    refine lv_iload hx hb dL_labels_51 (lv_at hl 0 rfl) ?_
    obtain ⟨h_25, hf⟩ := ck hf
    obtain ⟨r_25, e_25, hf⟩ := bo hf
    refine mcallSi (W0 := (wC c0 h k0 x0 d0 ++ (wS g h a1 a2 a3 a4 σ ++ (wH g k0 k1 γ η ++ (wV g v0 ν ++ (wZ g z0 ζ ++ (wP g p0 r_13))))))) (Wc := (wV g v0 ν ++ (wZ g z0 ζ ++ (wP g p0 r_13)))) (Wr := (wC c0 h k0 x0 d0 ++ (wS g h a1 a2 a3 a4 σ ++ (wH g k0 k1 γ η)))) (W1 := (wV g v0 ν ++ (wZ g z0 ζ ++ (wP g p0 r_13)))) (W2 := (wC c0 h k0 x0 d0 ++ (wS g h a1 a2 a3 a4 σ ++ (wH g k0 k1 γ η ++ (wV g v0 ν ++ (wZ g z0 ζ ++ (wP g p0 r_13))))))) (As := [.ref v0, .ref z0, .int p3, .ref p0, .int r_24]) (rest := []) [38, 39, 40] [0, 1, 2, 3, 4, 5, 6, 7, 8, 9, 10, 11, 12, 13, 14, 15, 16, 17, 18, 19, 20, 21, 22, 23, 24, 25, 26, 27, 28, 29, 30, 31, 32, 33, 34, 35, 36, 37] [0, 1, 2, 3, 4, 5, 6, 7, 8, 9, 10, 11, 12, 13, 14, 15, 16, 17, 18, 19, 20, 21, 22, 23, 24, 25, 26, 27, 28, 29, 30, 31, 32, 33, 34, 35, 36, 37, 38, 39, 40] ⟨hx, hb, hml, hown, hts⟩ hP hD hE hZ hS hA (cL_against_ok l hl0 g (uA ν p3 r_24) v0 z0 p0 ν ζ r_13 p3 r_24 _ e_25) (va_cwS 5 hts gL_labels_L_against rfl rfl rfl hdL_against.2 ⟨(Nat.le_of_ble_eq_true rfl), (Nat.le_of_ble_eq_true rfl)⟩) rfl rfl rfl (by decide) (by decide) (by decide) (by decide) rfl hl.1 rfl (Nat.le_of_ble_eq_true rfl) ⟨(kc3 h_25), (kc61 h_25)⟩ dL_labels_53 (fun H locs hP hD hS => ?_)
    refine W.widen (k := 3 * ((0 + 1) + (uA ν p3 r_24))) (n := 61 * ((0 + 1) + (uA ν p3 r_24))) (by omega) (by omega) ?_
    refine lv_if_ne (tgt := 63) hx hb dL_labels_56 (by decide) (fun c_26 => ?_) (fun c_26 => ?_)
    · have hf := iq c_26 hf
      refine lv_iconst (v := (0 : Int32)) hx hb dL_labels_63 (by decide) ?_
      refine lv_istore (lv' := [(9, .int (0 : Int32)), (8, .int r_24), (7, .int (ν (Int32.toNatClampNeg (((4 : Int32) * p3) + (3 : Int32))))), (6, .ref p0), (0, .ref c0), (1, .ref v0), (2, .ref z0), (3, .int p3), (4, .int p4), (5, .int p5)]) hx hb dL_labels_64 hl (by decide) rfl (fun ls hl => ?_)
      refine lv_aload_n hx hb dL_labels_66 rfl (lv_at hl 5 rfl) ?_
      refine lv_iconst (v := (4 : Int32)) hx hb dL_labels_67 (by decide) ?_
      refine lv_iload_n hx hb dL_labels_68 rfl (lv_at hl 7 rfl) ?_
      refine lv_imul hx hb dL_labels_69 ?_
      refine lv_iconst (v := (3 : Int32)) hx hb dL_labels_70 (by decide) ?_
      refine lv_iadd hx hb dL_labels_71 ?_
      refine lv_iload hx hb dL_labels_72 (lv_at hl 0 rfl) ?_
      refine lv_if_eq (tgt := 82) hx hb dL_labels_74 (by decide) (fun c_27 => ?_) (fun c_27 => absurd (by decide) c_27)
      refine lv_iload hx hb dL_labels_82 (lv_at hl 2 rfl) ?_
      exact hB84 p0 r_24 false (((4 : Int32) * p3) + (3 : Int32)) (ν (Int32.toNatClampNeg (((4 : Int32) * p3) + (3 : Int32)))) σ η ν r_13 ((0 + 1) + (uA ν p3 r_24)) _ _ h_25 ls hP hD hS (lv_sub hl [4, 5, 6, 7, 3, 1, 0] rfl) hf
    · have hf := ip c_26 hf
      refine lv_iconst (v := (1 : Int32)) hx hb dL_labels_59 (by decide) ?_
      refine lv_goto (tgt := 64) hx hb dL_labels_60 (by decide) ?_
      refine lv_istore (lv' := [(9, .int (1 : Int32)), (8, .int r_24), (7, .int (ν (Int32.toNatClampNeg (((4 : Int32) * p3) + (3 : Int32))))), (6, .ref p0), (0, .ref c0), (1, .ref v0), (2, .ref z0), (3, .int p3), (4, .int p4), (5, .int p5)]) hx hb dL_labels_64 hl (by decide) rfl (fun ls hl => ?_)
      refine lv_aload_n hx hb dL_labels_66 rfl (lv_at hl 5 rfl) ?_
      refine lv_iconst (v := (4 : Int32)) hx hb dL_labels_67 (by decide) ?_
      refine lv_iload_n hx hb dL_labels_68 rfl (lv_at hl 7 rfl) ?_
      refine lv_imul hx hb dL_labels_69 ?_
      refine lv_iconst (v := (3 : Int32)) hx hb dL_labels_70 (by decide) ?_
      refine lv_iadd hx hb dL_labels_71 ?_
      refine lv_iload hx hb dL_labels_72 (lv_at hl 0 rfl) ?_
      refine lv_if_eq (tgt := 82) hx hb dL_labels_74 (by decide) (fun c_28 => absurd c_28 (by decide)) (fun c_28 => ?_)
      refine lv_iload hx hb dL_labels_77 (lv_at hl 1 rfl) ?_
      refine lv_goto (tgt := 84) hx hb dL_labels_79 (by decide) ?_
      exact hB84 p0 r_24 true (((4 : Int32) * p3) + (3 : Int32)) r_24 σ η ν r_13 ((0 + 1) + (uA ν p3 r_24)) _ _ h_25 ls hP hD hS (lv_sub hl [4, 5, 6, 7, 3, 1, 0] rfl) hf

def fL_labelsAll_42 (cap : Nat) (ζ : (Nat → Int64)) (σ_32 : Sh) (η_32 : Hi) (v4_42 : Int32) (k32 : Int32 → Int32 → (Nat → Int32) → Nat → Option (Bool × Sh × Hi × (Nat → Int32))) : Nat → Int32 → Int32 → (Nat → Int32) → Nat → Option (Bool × Sh × Hi × (Nat → Int32))
  | 0, _, _, _, _ => none
  | n + 1, v3_42, v5_42, ν_42, n_42 => (if (ν_42 (Int32.toNatClampNeg (32 : Int32))) ≤ v5_42 then k32 v3_42 (v4_42 + 1) ν_42 n_42 else (if inR ((4 : Int32) * v5_42) 34 then (if (ν_42 (Int32.toNatClampNeg ((4 : Int32) * v5_42))) = v4_42 then (if n_42 + (uB ν_42 v5_42) ≤ cap then ((fL_best (uB ν_42 v5_42) ν_42 ζ v5_42).bind fun r_4 => (if inR (((4 : Int32) * v5_42) + (3 : Int32)) 34 then (if 0 ≤ ((upd ν_42 (Int32.toNatClampNeg (((4 : Int32) * v5_42) + (3 : Int32))) r_4) (Int32.toNatClampNeg (((4 : Int32) * v5_42) + (3 : Int32)))) then fL_labelsAll_42 cap ζ σ_32 η_32 v4_42 k32 n (v3_42 + (1 : Int32)) (v5_42 + 1) (upd ν_42 (Int32.toNatClampNeg (((4 : Int32) * v5_42) + (3 : Int32))) r_4) (n_42 + (uB ν_42 v5_42)) else fL_labelsAll_42 cap ζ σ_32 η_32 v4_42 k32 n (v3_42 + (0 : Int32)) (v5_42 + 1) (upd ν_42 (Int32.toNatClampNeg (((4 : Int32) * v5_42) + (3 : Int32))) r_4) (n_42 + (uB ν_42 v5_42))) else none)) else none) else fL_labelsAll_42 cap ζ σ_32 η_32 v4_42 k32 n v3_42 (v5_42 + 1) ν_42 n_42) else none))
def fL_labelsAll_32 (cap : Nat) (ζ : (Nat → Int64)) (σ_32 : Sh) (η_32 : Hi) : Nat → Int32 → Int32 → (Nat → Int32) → Nat → Option (Bool × Sh × Hi × (Nat → Int32))
  | 0, _, _, _, _ => none
  | n + 1, v3_32, v4_32, ν_32, n_32 => (if (100 : Int32) ≤ v4_32 then ((fX6_labelAll σ_32 η_32).bind fun r_8 => (if r_8.1 = v3_32 then (some (true, r_8.2.1, r_8.2.2, ν_32)) else (some (false, r_8.2.1, r_8.2.2, ν_32)))) else fL_labelsAll_42 cap ζ σ_32 η_32 v4_32 (fL_labelsAll_32 cap ζ σ_32 η_32 n) FU v3_32 (0 : Int32) ν_32 n_32)
def fL_labelsAll_5 (cap : Nat) (ζ : (Nat → Int64)) (v3_5 : Bool) (σ_5 : Sh) (η_5 : Hi) : Nat → Int32 → (Nat → Int32) → Nat → Option (Bool × Sh × Hi × (Nat → Int32))
  | 0, _, _, _ => none
  | n + 1, v4_5, ν_5, n_5 => (if (ν_5 (Int32.toNatClampNeg (32 : Int32))) ≤ v4_5 then fL_labelsAll_32 cap ζ σ_5 η_5 FU (b2i v3_5) (0 : Int32) ν_5 n_5 else (if inR (((4 : Int32) * v4_5) + (3 : Int32)) 34 then fL_labelsAll_5 cap ζ v3_5 σ_5 η_5 n (v4_5 + 1) (upd ν_5 (Int32.toNatClampNeg (((4 : Int32) * v4_5) + (3 : Int32))) (-1 : Int32)) n_5 else none))
def fL_labelsAll (cap : Nat) (σ : Sh) (η : Hi) (ν : (Nat → Int32)) (ζ : (Nat → Int64)) : Option (Bool × Sh × Hi × (Nat → Int32)) := fL_labelsAll_5 cap ζ false σ η FU (0 : Int32) ν 0
abbrev rmL_labelsAll (cap : Nat) : Room := { frames := 7, cells := 3 * cap, slots := 61 * cap, locals := 170 }
theorem hdL_labelsAll : yL_labelsAll.cls = RL ∧ yL_labelsAll.cls ≠ "java/lang/invoke/MethodHandle" ∧ yL_labelsAll.cls ≠ "java/lang/invoke/VarHandle" ∧ (parseMethodDescriptor yL_labelsAll.desc).map (fun d => d.parameters.length) = some 3 := by decide +kernel
set_option maxHeartbeats 4000000 in
set_option maxRecDepth 100000 in
theorem cL_labelsAll_ok (l : Launch) (hl0 : l.stackTraces = false) (g : Gg) (cap : Nat) (c0 h k0 x0 d0 a1 a2 a3 a4 k1 v0 z0 : Nat) (γ : Nat → Nat → Nat) (σ : Sh) (η : Hi) (ν : (Nat → Int32)) (ζ : (Nat → Int64)) (sz : Nat) {o : Bool × Sh × Hi × (Nat → Int32)} (hf : fL_labelsAll cap σ η ν ζ = some o) : Met l yL_labelsAll wsL_labelsAll (rmL_labelsAll cap) (va_Pc [.ref c0, .ref v0, .ref z0] (PM g (wC c0 h k0 x0 d0 ++ (wS g h a1 a2 a3 a4 σ ++ (wH g k0 k1 γ η ++ (wV g v0 ν ++ (wZ g z0 ζ))))) sz)) (va_Qi (fun r' (_ : Unit) => r' = b2i o.1) (fun _ t => PQ g (wC c0 h k0 x0 d0 ++ (wS g h a1 a2 a3 a4 o.2.1 ++ (wH g k0 k1 γ o.2.2.1 ++ (wV g v0 o.2.2.2 ++ (wZ g z0 ζ))))) (va_A (wC c0 h k0 x0 d0 ++ (wS g h a1 a2 a3 a4 σ ++ (wH g k0 k1 γ η ++ (wV g v0 ν ++ (wZ g z0 ζ))))) sz) t) (va_A (wC c0 h k0 x0 d0 ++ (wS g h a1 a2 a3 a4 σ ++ (wH g k0 k1 γ η ++ (wV g v0 ν ++ (wZ g z0 ζ))))) sz)) (3 * cap) (61 * cap) (va_A (wC c0 h k0 x0 d0 ++ (wS g h a1 a2 a3 a4 σ ++ (wH g k0 k1 γ η ++ (wV g v0 ν ++ (wZ g z0 ζ))))) sz) := by
  refine Met.ofW (cc := cL_labelsAll) (maxL := 6) (ret := (some .boolean)) (by decide) rfl ?_
  intro p e s m args below meth c s₁ B hml hv
  obtain ⟨rfl, rfl, hP, hD0, hE, hZ⟩ := hv
  have hx := B.exec
  have hb := B.bytes
  have hr := B.returns
  have hts := atoms_spec (ws := wsL_labelsAll) B.pre
  have hown : s.vm.findClass RL = some m.cls := findClass_of_methodNamed B.named
  have hlocks := B.notSynchronized
  have hD := hD0.self (sz := s.heap.size)
  generalize hAe : (va_A (wC c0 h k0 x0 d0 ++ (wS g h a1 a2 a3 a4 σ ++ (wH g k0 k1 γ η ++ (wV g v0 ν ++ (wZ g z0 ζ))))) s.heap.size) = A at hD hZ ⊢
  have hA : ∀ q : Nat, s.heap.size ≤ q → A q := fun q h => by rw [← hAe]; exact Or.inr h
  have hS : va_S A s.heap s.heap [] := va_S.rf
  have hP : va_P g.1 vwCl (wC c0 h k0 x0 d0 ++ (wS g h a1 a2 a3 a4 σ ++ (wH g k0 k1 γ η ++ (wV g v0 ν ++ (wZ g z0 ζ))))) s.heap := hP
  have hl := lv_entry ([.ref c0, .ref v0, .ref z0]) (n := 6) (Nat.le_of_ble_eq_true rfl)
  rw [lg_entry_eq]
  generalize (lg_sl ([.ref c0, .ref v0, .ref z0]) ++ List.replicate (6 - (lg_sl ([.ref c0, .ref v0, .ref z0])).length) Slot.unset).toArray = ls at hl ⊢
  refine W.cs (cells' := 3 * 0) (slots' := 61 * 0) rfl rfl ?_
  have hl : lv_has ls 6 [(0, .ref c0), (1, .ref v0), (2, .ref z0)] := hl
  have hB32 : ∀ (σ_32 : Sh) (η_32 : Hi) (n32 : Nat) (v3_32 : Int32) (v4_32 : Int32) (ν_32 : (Nat → Int32)) (n_32 : Nat) (H : Heap) (locs : List Loc) (hn : n_32 ≤ cap) (ls : Array Slot), va_P g.1 vwCl (wC c0 h k0 x0 d0 ++ (wS g h a1 a2 a3 a4 σ_32 ++ (wH g k0 k1 γ η_32 ++ (wV g v0 ν_32 ++ (wZ g z0 ζ))))) H → va_D A (wC c0 h k0 x0 d0 ++ (wS g h a1 a2 a3 a4 σ_32 ++ (wH g k0 k1 γ η_32 ++ (wV g v0 ν_32 ++ (wZ g z0 ζ))))) → va_S A s.heap H locs → lv_has ls 6 [(0, .ref c0), (1, .ref v0), (2, .ref z0), (3, .int v3_32), (4, .int v4_32)] → fL_labelsAll_32 cap ζ σ_32 η_32 n32 v3_32 v4_32 ν_32 n_32 = some o → W p l e (headSpec wsL_labelsAll (rmL_labelsAll cap)).room s m ([.ref c0, .ref v0, .ref z0] : List Value).toArray below meth c H locs (3 * n_32) (61 * n_32) (MQ below (va_Qi (fun r' (_ : Unit) => r' = b2i o.1) (fun _ t => PQ g (wC c0 h k0 x0 d0 ++ (wS g h a1 a2 a3 a4 o.2.1 ++ (wH g k0 k1 γ o.2.2.1 ++ (wV g v0 o.2.2.2 ++ (wZ g z0 ζ))))) A t) A) ([.ref c0, .ref v0, .ref z0] : List Value).toArray s (3 * cap) (61 * cap) A) (F0 m 32 ls []) := by
    intro σ_32 η_32 n32
    induction n32 with
    | zero => intro v3_32 v4_32 ν_32 n_32 H locs hn ls hP hD hS hl hf; exact nomatch (show (none : Option (Bool × Sh × Hi × (Nat → Int32))) = some _ from hf)
    | succ n32 ih32 =>
      have hB42 : ∀ (v4_42 : Int32) (n42 : Nat) (v3_42 : Int32) (v5_42 : Int32) (ν_42 : (Nat → Int32)) (n_42 : Nat) (H : Heap) (locs : List Loc) (hn : n_42 ≤ cap) (ls : Array Slot), va_P g.1 vwCl (wC c0 h k0 x0 d0 ++ (wS g h a1 a2 a3 a4 σ_32 ++ (wH g k0 k1 γ η_32 ++ (wV g v0 ν_42 ++ (wZ g z0 ζ))))) H → va_D A (wC c0 h k0 x0 d0 ++ (wS g h a1 a2 a3 a4 σ_32 ++ (wH g k0 k1 γ η_32 ++ (wV g v0 ν_42 ++ (wZ g z0 ζ))))) → va_S A s.heap H locs → lv_has ls 6 [(0, .ref c0), (1, .ref v0), (2, .ref z0), (3, .int v3_42), (4, .int v4_42), (5, .int v5_42)] → fL_labelsAll_42 cap ζ σ_32 η_32 v4_42 (fL_labelsAll_32 cap ζ σ_32 η_32 n32) n42 v3_42 v5_42 ν_42 n_42 = some o → W p l e (headSpec wsL_labelsAll (rmL_labelsAll cap)).room s m ([.ref c0, .ref v0, .ref z0] : List Value).toArray below meth c H locs (3 * n_42) (61 * n_42) (MQ below (va_Qi (fun r' (_ : Unit) => r' = b2i o.1) (fun _ t => PQ g (wC c0 h k0 x0 d0 ++ (wS g h a1 a2 a3 a4 o.2.1 ++ (wH g k0 k1 γ o.2.2.1 ++ (wV g v0 o.2.2.2 ++ (wZ g z0 ζ))))) A t) A) ([.ref c0, .ref v0, .ref z0] : List Value).toArray s (3 * cap) (61 * cap) A) (F0 m 42 ls []) := by
        intro v4_42 n42
        induction n42 with
        | zero => intro v3_42 v5_42 ν_42 n_42 H locs hn ls hP hD hS hl hf; exact nomatch (show (none : Option (Bool × Sh × Hi × (Nat → Int32))) = some _ from hf)
        | succ n42 ih42 =>
          intro v3_42 v5_42 ν_42 n_42 H locs hn ls hP hD hS hl hf
          rw [fL_labelsAll_42] at hf
          refine lv_iload hx hb dL_labelsAll_42 (lv_at hl 5 rfl) ?_
          refine lv_aload_n hx hb dL_labelsAll_44 rfl (lv_at hl 1 rfl) ?_
          refine lv_bipush (v := (32 : Int32)) hx hb dL_labelsAll_45 (by decide) ?_
          refine va_iald hx hb hE.1 hP 38 0 rfl rfl (vin (by decide)) dL_labelsAll_47 ?_
          refine lv_icmp_ge (tgt := 102) hx hb dL_labelsAll_48 (by decide) (fun c_1 => ?_) (fun c_1 => ?_)
          · have hf := ip c_1 hf
            refine lv_iinc (v := (v4_42 + 1)) (lv' := [(4, .int (v4_42 + 1)), (0, .ref c0), (1, .ref v0), (2, .ref z0), (3, .int v3_42), (5, .int v5_42)]) hx hb dL_labelsAll_102 hl (k := 4) rfl rfl (by decide) rfl (fun ls hl => ?_)
            refine lv_goto (tgt := 32) hx hb dL_labelsAll_105 (by decide) ?_
            exact ih32 v3_42 (v4_42 + 1) ν_42 n_42 _ _ hn ls hP hD hS (lv_sub hl [1, 2, 3, 4, 0] rfl) hf
          · have hf := iq c_1 hf
            refine lv_aload_n hx hb dL_labelsAll_51 rfl (lv_at hl 1 rfl) ?_
            refine lv_iconst (v := (4 : Int32)) hx hb dL_labelsAll_52 (by decide) ?_
            refine lv_iload hx hb dL_labelsAll_53 (lv_at hl 5 rfl) ?_
            refine lv_imul hx hb dL_labelsAll_55 ?_
            obtain ⟨h_2, hf⟩ := ck hf
            refine va_iald hx hb hE.1 hP 38 0 rfl rfl (vin h_2) dL_labelsAll_56 ?_
            refine lv_iload hx hb dL_labelsAll_57 (lv_at hl 4 rfl) ?_
            refine lv_icmp_ne (tgt := 96) hx hb dL_labelsAll_59 (by decide) (fun c_3 => ?_) (fun c_3 => ?_)
            · have hf := iq c_3 hf
              refine lv_iinc (v := (v5_42 + 1)) (lv' := [(5, .int (v5_42 + 1)), (0, .ref c0), (1, .ref v0), (2, .ref z0), (3, .int v3_42), (4, .int v4_42)]) hx hb dL_labelsAll_96 hl (k := 5) rfl rfl (by decide) rfl (fun ls hl => ?_)
              refine lv_goto (tgt := 42) hx hb dL_labelsAll_99 (by decide) ?_
              exact ih42 v3_42 (v5_42 + 1) ν_42 n_42 _ _ hn ls hP hD hS (lv_sub hl [1, 2, 3, 4, 5, 0] rfl) hf
            · have hf := ip c_3 hf
              refine lv_aload_n hx hb dL_labelsAll_62 rfl (lv_at hl 1 rfl) ?_
              refine lv_iconst (v := (4 : Int32)) hx hb dL_labelsAll_63 (by decide) ?_
              refine lv_iload hx hb dL_labelsAll_64 (lv_at hl 5 rfl) ?_
              refine lv_imul hx hb dL_labelsAll_66 ?_
              refine lv_iconst (v := (3 : Int32)) hx hb dL_labelsAll_67 (by decide) ?_
              refine lv_iadd hx hb dL_labelsAll_68 ?_
              refine lv_aload_n hx hb dL_labelsAll_69 rfl (lv_at hl 1 rfl) ?_
              refine lv_aload_n hx hb dL_labelsAll_70 rfl (lv_at hl 2 rfl) ?_
              refine lv_iload hx hb dL_labelsAll_71 (lv_at hl 5 rfl) ?_
              obtain ⟨h_4, hf⟩ := ck hf
              obtain ⟨r_4, e_4, hf⟩ := bo hf
              refine mcallSi (W0 := (wC c0 h k0 x0 d0 ++ (wS g h a1 a2 a3 a4 σ_32 ++ (wH g k0 k1 γ η_32 ++ (wV g v0 ν_42 ++ (wZ g z0 ζ)))))) (Wc := (wV g v0 ν_42 ++ (wZ g z0 ζ))) (Wr := (wC c0 h k0 x0 d0 ++ (wS g h a1 a2 a3 a4 σ_32 ++ (wH g k0 k1 γ η_32)))) (W1 := (wV g v0 ν_42 ++ (wZ g z0 ζ))) (W2 := (wC c0 h k0 x0 d0 ++ (wS g h a1 a2 a3 a4 σ_32 ++ (wH g k0 k1 γ η_32 ++ (wV g v0 ν_42 ++ (wZ g z0 ζ)))))) (As := [.ref v0, .ref z0, .int v5_42]) (rest := [.int (((4 : Int32) * v5_42) + (3 : Int32)), .ref v0]) [38, 39] [0, 1, 2, 3, 4, 5, 6, 7, 8, 9, 10, 11, 12, 13, 14, 15, 16, 17, 18, 19, 20, 21, 22, 23, 24, 25, 26, 27, 28, 29, 30, 31, 32, 33, 34, 35, 36, 37] [0, 1, 2, 3, 4, 5, 6, 7, 8, 9, 10, 11, 12, 13, 14, 15, 16, 17, 18, 19, 20, 21, 22, 23, 24, 25, 26, 27, 28, 29, 30, 31, 32, 33, 34, 35, 36, 37, 38, 39] ⟨hx, hb, hml, hown, hts⟩ hP hD hE hZ hS hA (cL_best_ok l hl0 g (uB ν_42 v5_42) v0 z0 ν_42 ζ v5_42 _ e_4) (va_cwS 3 hts gL_labelsAll_L_best rfl rfl rfl hdL_best.2 ⟨(Nat.le_of_ble_eq_true rfl), (Nat.le_of_ble_eq_true rfl)⟩) rfl rfl rfl (by decide) (by decide) (by decide) (by decide) rfl hl.1 rfl (Nat.le_of_ble_eq_true rfl) ⟨(kc3 h_4), (kc61 h_4)⟩ dL_labelsAll_73 (fun H locs hP hD hS => ?_)
              refine W.widen (k := 3 * (n_42 + (uB ν_42 v5_42))) (n := 61 * (n_42 + (uB ν_42 v5_42))) (by omega) (by omega) ?_
              obtain ⟨h_5, hf⟩ := ck hf
              refine va_iast hx hb hE.1 hP hD hS 38 0 rfl rfl (vin h_5) dL_labelsAll_76 (fun H locs hP hD hS => ?_)
              have hP : va_P g.1 vwCl (wC c0 h k0 x0 d0 ++ (wS g h a1 a2 a3 a4 σ_32 ++ (wH g k0 k1 γ η_32 ++ (wV g v0 (upd ν_42 (Int32.toNatClampNeg (((4 : Int32) * v5_42) + (3 : Int32))) r_4) ++ (wZ g z0 ζ))))) H := hP
              have hD : va_D A (wC c0 h k0 x0 d0 ++ (wS g h a1 a2 a3 a4 σ_32 ++ (wH g k0 k1 γ η_32 ++ (wV g v0 (upd ν_42 (Int32.toNatClampNeg (((4 : Int32) * v5_42) + (3 : Int32))) r_4) ++ (wZ g z0 ζ))))) := hD
              refine lv_iload_n hx hb dL_labelsAll_77 rfl (lv_at hl 3 rfl) ?_
              refine lv_aload_n hx hb dL_labelsAll_78 rfl (lv_at hl 1 rfl) ?_
              refine lv_iconst (v := (4 : Int32)) hx hb dL_labelsAll_79 (by decide) ?_
              refine lv_iload hx hb dL_labelsAll_80 (lv_at hl 5 rfl) ?_
              refine lv_imul hx hb dL_labelsAll_82 ?_
              refine lv_iconst (v := (3 : Int32)) hx hb dL_labelsAll_83 (by decide) ?_
              refine lv_iadd hx hb dL_labelsAll_84 ?_
              refine va_iald hx hb hE.1 hP 38 0 rfl rfl (vin h_5) dL_labelsAll_85 ?_
              refine lv_if_ge (tgt := 93) hx hb dL_labelsAll_86 (by decide) (fun c_6 => ?_) (fun c_6 => ?_)
              · have hf := ip c_6 hf
                refine lv_iconst (v := (1 : Int32)) hx hb dL_labelsAll_93 (by decide) ?_
                refine lv_iadd hx hb dL_labelsAll_94 ?_
                refine lv_istore_n (lv' := [(3, .int (v3_42 + (1 : Int32))), (0, .ref c0), (1, .ref v0), (2, .ref z0), (4, .int v4_42), (5, .int v5_42)]) hx hb dL_labelsAll_95 rfl hl (by decide) rfl (fun ls hl => ?_)
                refine lv_iinc (v := (v5_42 + 1)) (lv' := [(5, .int (v5_42 + 1)), (3, .int (v3_42 + (1 : Int32))), (0, .ref c0), (1, .ref v0), (2, .ref z0), (4, .int v4_42)]) hx hb dL_labelsAll_96 hl (k := 5) rfl rfl (by decide) rfl (fun ls hl => ?_)
                refine lv_goto (tgt := 42) hx hb dL_labelsAll_99 (by decide) ?_
                exact ih42 (v3_42 + (1 : Int32)) (v5_42 + 1) (upd ν_42 (Int32.toNatClampNeg (((4 : Int32) * v5_42) + (3 : Int32))) r_4) (n_42 + (uB ν_42 v5_42)) _ _ h_4 ls hP hD hS (lv_sub hl [2, 3, 4, 1, 5, 0] rfl) hf
              · have hf := iq c_6 hf
                refine lv_iconst (v := (0 : Int32)) hx hb dL_labelsAll_89 (by decide) ?_
                refine lv_goto (tgt := 94) hx hb dL_labelsAll_90 (by decide) ?_
                refine lv_iadd hx hb dL_labelsAll_94 ?_
                refine lv_istore_n (lv' := [(3, .int (v3_42 + (0 : Int32))), (0, .ref c0), (1, .ref v0), (2, .ref z0), (4, .int v4_42), (5, .int v5_42)]) hx hb dL_labelsAll_95 rfl hl (by decide) rfl (fun ls hl => ?_)
                refine lv_iinc (v := (v5_42 + 1)) (lv' := [(5, .int (v5_42 + 1)), (3, .int (v3_42 + (0 : Int32))), (0, .ref c0), (1, .ref v0), (2, .ref z0), (4, .int v4_42)]) hx hb dL_labelsAll_96 hl (k := 5) rfl rfl (by decide) rfl (fun ls hl => ?_)
                refine lv_goto (tgt := 42) hx hb dL_labelsAll_99 (by decide) ?_
                exact ih42 (v3_42 + (0 : Int32)) (v5_42 + 1) (upd ν_42 (Int32.toNatClampNeg (((4 : Int32) * v5_42) + (3 : Int32))) r_4) (n_42 + (uB ν_42 v5_42)) _ _ h_4 ls hP hD hS (lv_sub hl [2, 3, 4, 1, 5, 0] rfl) hf
      intro v3_32 v4_32 ν_32 n_32 H locs hn ls hP hD hS hl hf
      rw [fL_labelsAll_32] at hf
      refine lv_iload hx hb dL_labelsAll_32 (lv_at hl 4 rfl) ?_
      refine lv_bipush (v := (100 : Int32)) hx hb dL_labelsAll_34 (by decide) ?_
      refine lv_icmp_ge (tgt := 108) hx hb dL_labelsAll_36 (by decide) (fun c_7 => ?_) (fun c_7 => ?_)
      · have hf := ip c_7 hf
        refine lv_aload_n hx hb dL_labelsAll_108 rfl (lv_at hl 0 rfl) ?_
        obtain ⟨r_8, e_8, hf⟩ := bo hf
        refine mcallVi (W0 := (wC c0 h k0 x0 d0 ++ (wS g h a1 a2 a3 a4 σ_32 ++ (wH g k0 k1 γ η_32 ++ (wV g v0 ν_32 ++ (wZ g z0 ζ)))))) (Wc := (wC c0 h k0 x0 d0 ++ (wS g h a1 a2 a3 a4 σ_32 ++ (wH g k0 k1 γ η_32)))) (Wr := (wV g v0 ν_32 ++ (wZ g z0 ζ))) (W1 := (wC c0 h k0 x0 d0 ++ (wS g h a1 a2 a3 a4 r_8.2.1 ++ (wH g k0 k1 γ r_8.2.2)))) (W2 := (wC c0 h k0 x0 d0 ++ (wS g h a1 a2 a3 a4 r_8.2.1 ++ (wH g k0 k1 γ r_8.2.2 ++ (wV g v0 ν_32 ++ (wZ g z0 ζ)))))) (As := []) (rest := []) [0, 1, 2, 3, 4, 5, 6, 7, 8, 9, 10, 11, 12, 13, 14, 15, 16, 17, 18, 19, 20, 21, 22, 23, 24, 25, 26, 27, 28, 29, 30, 31, 32, 33, 34, 35, 36, 37] [38, 39] [2, 3, 4, 5, 6, 7, 8, 9, 10, 11, 12, 13, 14, 15, 16, 17, 18, 19, 20, 21, 22, 23, 24, 25, 26, 27, 28, 29, 30, 31, 32, 33, 34, 35, 36, 37, 38, 39, 0, 1] 4 0 ⟨hx, hb, hml, hown, hts⟩ hP hD hE hZ hS hA (cX6_labelAll_ok l g  c0 h k0 x0 d0 a1 a2 a3 a4 k1 γ σ_32 η_32 _ e_8) (cwV 0 hts gL_labelsAll_X6_labelAll rfl rfl rfl hdX6_labelAll ⟨(Nat.le_of_ble_eq_true rfl), (Nat.le_of_ble_eq_true rfl)⟩) rfl rfl rfl (by decide) (by decide) (by decide) (by decide) rfl rfl rfl rfl hl.1 rfl (Nat.le_of_ble_eq_true rfl) ⟨(k3 hn), (k61 hn)⟩ dL_labelsAll_109 (fun H locs hP hD hS => ?_)
        refine W.cs (cells' := 3 * n_32) (slots' := 61 * n_32) (Nat.add_zero _) (Nat.add_zero _) ?_
        refine lv_iload_n hx hb dL_labelsAll_112 rfl (lv_at hl 3 rfl) ?_
        refine lv_icmp_ne (tgt := 120) hx hb dL_labelsAll_113 (by decide) (fun c_9 => ?_) (fun c_9 => ?_)
        · have hf := iq c_9 hf
          refine lv_iconst (v := (0 : Int32)) hx hb dL_labelsAll_120 (by decide) ?_
          have ho := Option.some.inj hf
          subst ho
          refine W.widen (k := 3 * cap) (n := 61 * cap) (k3 hn) (k61 hn) ?_
          exact m_zret (v := false) hx hb hr hlocks hP hD hS rfl dL_labelsAll_121
        · have hf := ip c_9 hf
          refine lv_iconst (v := (1 : Int32)) hx hb dL_labelsAll_116 (by decide) ?_
          refine lv_goto (tgt := 121) hx hb dL_labelsAll_117 (by decide) ?_
          have ho := Option.some.inj hf
          subst ho
          refine W.widen (k := 3 * cap) (n := 61 * cap) (k3 hn) (k61 hn) ?_
          exact m_zret (v := true) hx hb hr hlocks hP hD hS rfl dL_labelsAll_121
      · have hf := iq c_7 hf
        refine lv_iconst (v := (0 : Int32)) hx hb dL_labelsAll_39 (by decide) ?_
        refine lv_istore (lv' := [(5, .int (0 : Int32)), (0, .ref c0), (1, .ref v0), (2, .ref z0), (3, .int v3_32), (4, .int v4_32)]) hx hb dL_labelsAll_40 hl (by decide) rfl (fun ls hl => ?_)
        exact hB42 v4_32 FU v3_32 (0 : Int32) ν_32 n_32 _ _ hn ls hP hD hS (lv_sub hl [1, 2, 3, 4, 5, 0] rfl) hf
  have hB5 : ∀ (v3_5 : Bool) (σ_5 : Sh) (η_5 : Hi) (n5 : Nat) (v4_5 : Int32) (ν_5 : (Nat → Int32)) (n_5 : Nat) (H : Heap) (locs : List Loc) (hn : n_5 ≤ cap) (ls : Array Slot), va_P g.1 vwCl (wC c0 h k0 x0 d0 ++ (wS g h a1 a2 a3 a4 σ_5 ++ (wH g k0 k1 γ η_5 ++ (wV g v0 ν_5 ++ (wZ g z0 ζ))))) H → va_D A (wC c0 h k0 x0 d0 ++ (wS g h a1 a2 a3 a4 σ_5 ++ (wH g k0 k1 γ η_5 ++ (wV g v0 ν_5 ++ (wZ g z0 ζ))))) → va_S A s.heap H locs → lv_has ls 6 [(0, .ref c0), (1, .ref v0), (2, .ref z0), (3, .int (b2i v3_5)), (4, .int v4_5)] → fL_labelsAll_5 cap ζ v3_5 σ_5 η_5 n5 v4_5 ν_5 n_5 = some o → W p l e (headSpec wsL_labelsAll (rmL_labelsAll cap)).room s m ([.ref c0, .ref v0, .ref z0] : List Value).toArray below meth c H locs (3 * n_5) (61 * n_5) (MQ below (va_Qi (fun r' (_ : Unit) => r' = b2i o.1) (fun _ t => PQ g (wC c0 h k0 x0 d0 ++ (wS g h a1 a2 a3 a4 o.2.1 ++ (wH g k0 k1 γ o.2.2.1 ++ (wV g v0 o.2.2.2 ++ (wZ g z0 ζ))))) A t) A) ([.ref c0, .ref v0, .ref z0] : List Value).toArray s (3 * cap) (61 * cap) A) (F0 m 5 ls []) := by
    intro v3_5 σ_5 η_5 n5
    induction n5 with
    | zero => intro v4_5 ν_5 n_5 H locs hn ls hP hD hS hl hf; exact nomatch (show (none : Option (Bool × Sh × Hi × (Nat → Int32))) = some _ from hf)
    | succ n5 ih5 =>
      intro v4_5 ν_5 n_5 H locs hn ls hP hD hS hl hf
      rw [fL_labelsAll_5] at hf
      refine lv_iload hx hb dL_labelsAll_5 (lv_at hl 4 rfl) ?_
      refine lv_aload_n hx hb dL_labelsAll_7 rfl (lv_at hl 1 rfl) ?_
      refine lv_bipush (v := (32 : Int32)) hx hb dL_labelsAll_8 (by decide) ?_
      refine va_iald hx hb hE.1 hP 38 0 rfl rfl (vin (by decide)) dL_labelsAll_10 ?_
      refine lv_icmp_ge (tgt := 29) hx hb dL_labelsAll_11 (by decide) (fun c_10 => ?_) (fun c_10 => ?_)
      · have hf := ip c_10 hf
        refine lv_iconst (v := (0 : Int32)) hx hb dL_labelsAll_29 (by decide) ?_
        refine lv_istore (lv' := [(4, .int (0 : Int32)), (0, .ref c0), (1, .ref v0), (2, .ref z0), (3, .int (b2i v3_5))]) hx hb dL_labelsAll_30 hl (by decide) rfl (fun ls hl => ?_)
        exact hB32 σ_5 η_5 FU (b2i v3_5) (0 : Int32) ν_5 n_5 _ _ hn ls hP hD hS (lv_sub hl [1, 2, 3, 4, 0] rfl) hf
      · have hf := iq c_10 hf
        refine lv_aload_n hx hb dL_labelsAll_14 rfl (lv_at hl 1 rfl) ?_
        refine lv_iconst (v := (4 : Int32)) hx hb dL_labelsAll_15 (by decide) ?_
        refine lv_iload hx hb dL_labelsAll_16 (lv_at hl 4 rfl) ?_
        refine lv_imul hx hb dL_labelsAll_18 ?_
        refine lv_iconst (v := (3 : Int32)) hx hb dL_labelsAll_19 (by decide) ?_
        refine lv_iadd hx hb dL_labelsAll_20 ?_
        refine lv_iconst (v := (-1 : Int32)) hx hb dL_labelsAll_21 (by decide) ?_
        obtain ⟨h_11, hf⟩ := ck hf
        refine va_iast hx hb hE.1 hP hD hS 38 0 rfl rfl (vin h_11) dL_labelsAll_22 (fun H locs hP hD hS => ?_)
        have hP : va_P g.1 vwCl (wC c0 h k0 x0 d0 ++ (wS g h a1 a2 a3 a4 σ_5 ++ (wH g k0 k1 γ η_5 ++ (wV g v0 (upd ν_5 (Int32.toNatClampNeg (((4 : Int32) * v4_5) + (3 : Int32))) (-1 : Int32)) ++ (wZ g z0 ζ))))) H := hP
        have hD : va_D A (wC c0 h k0 x0 d0 ++ (wS g h a1 a2 a3 a4 σ_5 ++ (wH g k0 k1 γ η_5 ++ (wV g v0 (upd ν_5 (Int32.toNatClampNeg (((4 : Int32) * v4_5) + (3 : Int32))) (-1 : Int32)) ++ (wZ g z0 ζ))))) := hD
        refine lv_iinc (v := (v4_5 + 1)) (lv' := [(4, .int (v4_5 + 1)), (0, .ref c0), (1, .ref v0), (2, .ref z0), (3, .int (b2i v3_5))]) hx hb dL_labelsAll_23 hl (k := 4) rfl rfl (by decide) rfl (fun ls hl => ?_)
        refine lv_goto (tgt := 5) hx hb dL_labelsAll_26 (by decide) ?_
        exact ih5 (v4_5 + 1) (upd ν_5 (Int32.toNatClampNeg (((4 : Int32) * v4_5) + (3 : Int32))) (-1 : Int32)) n_5 _ _ hn ls hP hD hS (lv_sub hl [1, 2, 3, 4, 0] rfl) hf
  unfold fL_labelsAll at hf
  refine lv_iconst (v := (0 : Int32)) hx hb dL_labelsAll_0 (by decide) ?_
  refine lv_istore_n (lv' := [(3, .int (0 : Int32)), (0, .ref c0), (1, .ref v0), (2, .ref z0)]) hx hb dL_labelsAll_1 rfl hl (by decide) rfl (fun ls hl => ?_)
  refine lv_iconst (v := (0 : Int32)) hx hb dL_labelsAll_2 (by decide) ?_
  refine lv_istore (lv' := [(4, .int (0 : Int32)), (3, .int (0 : Int32)), (0, .ref c0), (1, .ref v0), (2, .ref z0)]) hx hb dL_labelsAll_3 hl (by decide) rfl (fun ls hl => ?_)
  exact hB5 false σ η FU (0 : Int32) ν 0 _ _ (Nat.zero_le _) ls hP hD hS (lv_sub hl [2, 3, 4, 1, 0] rfl) hf

def fL_acts_202 (cap : Nat) (p3 : Int32) (v4_202 : Int32) (v5_202 : Int32) (t1_202 : Int32) (t2_202 : Int32) (t3_202 : Int32) (σ_202 : Sh) (η_202 : Hi) (ν_202 : (Nat → Int32)) (ζ_202 : (Nat → Int64)) (n_202 : Nat) : Option (Bool × Sh × Hi × (Nat → Int32) × (Nat → Int64)) := ((fL_low t2_202 t3_202).bind fun r_1 => (if inR t1_202 34 then (if inR (((4 : Int32) * v4_202) + (3 : Int32)) 34 then (if inR ((4 : Int32) * v4_202) 34 then (xokv (fX6_setLevel σ_202 η_202 v4_202 ((upd (upd ν_202 (Int32.toNatClampNeg t1_202) r_1) (Int32.toNatClampNeg (((4 : Int32) * v4_202) + (3 : Int32))) (-1 : Int32)) (Int32.toNatClampNeg ((4 : Int32) * v4_202)))) fun r_5 => (if r_5.1 = v5_202 then (some (true, r_5.2.1, r_5.2.2, (upd (upd ν_202 (Int32.toNatClampNeg t1_202) r_1) (Int32.toNatClampNeg (((4 : Int32) * v4_202) + (3 : Int32))) (-1 : Int32)), ζ_202)) else (some (false, r_5.2.1, r_5.2.2, (upd (upd ν_202 (Int32.toNatClampNeg t1_202) r_1) (Int32.toNatClampNeg (((4 : Int32) * v4_202) + (3 : Int32))) (-1 : Int32)), ζ_202)))) else none) else none) else none))
def fL_acts_321 (cap : Nat) (p3 : Int32) (v4_321 : Int32) : Nat → Bool → Int32 → Sh → Hi → (Nat → Int32) → (Nat → Int64) → Nat → Option (Bool × Sh × Hi × (Nat → Int32) × (Nat → Int64))
  | 0, _, _, _, _, _, _, _ => none
  | n + 1, v7_321, v8_321, σ_321, η_321, ν_321, ζ_321, n_321 => (if (6 : Int32) ≤ v8_321 then (some (v7_321, σ_321, η_321, ν_321, ζ_321)) else (if v7_321 = true then ((fL_low (p3 >>> ((16 : Int32) &&& 31)) (8 : Int32)).bind fun r_9 => ((fL_low (p3 >>> ((((2 : Int32) * v8_321) + (3 : Int32)) &&& 31)) (3 : Int32)).bind fun r_10 => (if r_10 = 0 then ((fL_low (p3 >>> (v8_321 &&& 31)) (3 : Int32)).bind fun r_13 => (if n_321 + 4 ≤ cap then ((fL_steps 4 σ_321 η_321 ν_321 ζ_321 v4_321 (irm (r_9 + (r_13 + (7 : Int32))) (8 : Int32))).bind fun r_14 => fL_acts_321 cap p3 v4_321 n r_14.1 (v8_321 + 1) r_14.2.1 r_14.2.2.1 r_14.2.2.2.1 r_14.2.2.2.2 (n_321 + 4)) else none)) else (if n_321 + 4 ≤ cap then ((fL_steps 4 σ_321 η_321 ν_321 ζ_321 v4_321 (irm (r_9 + (0 : Int32)) (8 : Int32))).bind fun r_12 => fL_acts_321 cap p3 v4_321 n r_12.1 (v8_321 + 1) r_12.2.1 r_12.2.2.1 r_12.2.2.2.1 r_12.2.2.2.2 (n_321 + 4)) else none)))) else (some (v7_321, σ_321, η_321, ν_321, ζ_321))))
def fL_acts_18 (cap : Nat) (p3 : Int32) (t0_18 : Int32) (t1_18 : Int32) (σ_18 : Sh) (η_18 : Hi) (ν_18 : (Nat → Int32)) (ζ_18 : (Nat → Int64)) (n_18 : Nat) : Option (Bool × Sh × Hi × (Nat → Int32) × (Nat → Int64)) := ((fL_low t0_18 t1_18).bind fun r_15 => ((fL_low p3 (20 : Int32)).bind fun r_16 => (if r_16 < (3 : Int32) then (if n_18 + 138 ≤ cap then ((fL_rings 138 σ_18 η_18 ν_18 ζ_18 p3).bind fun r_18 => (some (r_18.1, r_18.2.1, r_18.2.2.1, r_18.2.2.2.1, r_18.2.2.2.2))) else none) else (if (ν_18 (Int32.toNatClampNeg (32 : Int32))) = 0 then (if n_18 + 138 ≤ cap then ((fL_rings 138 σ_18 η_18 ν_18 ζ_18 p3).bind fun r_51 => (some (r_51.1, r_51.2.1, r_51.2.2.1, r_51.2.2.2.1, r_51.2.2.2.2))) else none) else (if r_16 = (3 : Int32) then ((fL_low (p3 >>> ((7 : Int32) &&& 31)) (100 : Int32)).bind fun r_21 => ((fL_low (p3 >>> ((4 : Int32) &&& 31)) (384 : Int32)).bind fun r_22 => (if n_18 + 2 ≤ cap then ((fL_begins 2 σ_18 η_18 ν_18 ζ_18 r_21 r_22).bind fun r_23 => (some (r_23.1, r_23.2.1, r_23.2.2.1, r_23.2.2.2.1, r_23.2.2.2.2))) else none))) else (if r_16 = (4 : Int32) then ((fL_wipes ν_18 ζ_18 r_15).bind fun r_25 => (xokv (fX6_wipe σ_18 η_18 r_15) fun r_26 => (if r_26.1 = (r_25.1 (Int32.toNatClampNeg (32 : Int32))) then (some (true, r_26.2.1, r_26.2.2, r_25.1, r_25.2)) else (some (false, r_26.2.1, r_26.2.2, r_25.1, r_25.2))))) else (if r_16 = (5 : Int32) then (if inR ((4 : Int32) * r_15) 34 then ((fL_low (p3 >>> ((9 : Int32) &&& 31)) (2 : Int32)).bind fun r_30 => (if r_30 = 0 then fL_acts_202 cap p3 r_15 (ν_18 (Int32.toNatClampNeg ((4 : Int32) * r_15))) ((4 : Int32) * r_15) (p3 >>> ((7 : Int32) &&& 31)) (100 : Int32) σ_18 η_18 ν_18 ζ_18 n_18 else fL_acts_202 cap p3 r_15 (ν_18 (Int32.toNatClampNeg ((4 : Int32) * r_15))) ((4 : Int32) * r_15) (p3 >>> ((7 : Int32) &&& 31)) (12 : Int32) σ_18 η_18 ν_18 ζ_18 n_18)) else none) else (if r_16 = (6 : Int32) then ((fL_low (p3 >>> ((7 : Int32) &&& 31)) (6 : Int32)).bind fun r_33 => (xokv (fX6_setGap σ_18 η_18 ((upd ν_18 (Int32.toNatClampNeg (33 : Int32)) ((1 : Int32) + r_33)) (Int32.toNatClampNeg (33 : Int32)))) fun r_34 => (if r_34.1 = (ν_18 (Int32.toNatClampNeg (33 : Int32))) then (some (true, r_34.2.1, r_34.2.2, (upd ν_18 (Int32.toNatClampNeg (33 : Int32)) ((1 : Int32) + r_33)), ζ_18)) else (some (false, r_34.2.1, r_34.2.2, (upd ν_18 (Int32.toNatClampNeg (33 : Int32)) ((1 : Int32) + r_33)), ζ_18))))) else (if r_16 = (7 : Int32) then (if n_18 + (uU ν_18) ≤ cap then ((fL_labelsAll (uU ν_18) σ_18 η_18 ν_18 ζ_18).bind fun r_37 => (some (r_37.1, r_37.2.1, r_37.2.2.1, r_37.2.2.2, ζ_18))) else none) else (if r_16 = (8 : Int32) then (if n_18 + (uU ν_18) ≤ cap then ((fL_labelsAll (uU ν_18) σ_18 η_18 ν_18 ζ_18).bind fun r_39 => (some (r_39.1, r_39.2.1, r_39.2.2.1, r_39.2.2.2, ζ_18))) else none) else (if r_16 = (9 : Int32) then (if n_18 + (uL ν_18 r_15) ≤ cap then ((fL_labels (uL ν_18 r_15) σ_18 η_18 ν_18 ζ_18 r_15 (r_16 - (9 : Int32)) (p3 >>> ((3 : Int32) &&& 31))).bind fun r_41 => (some (r_41.1, r_41.2.1, r_41.2.2.1, r_41.2.2.2, ζ_18))) else none) else (if r_16 = (10 : Int32) then (if n_18 + (uL ν_18 r_15) ≤ cap then ((fL_labels (uL ν_18 r_15) σ_18 η_18 ν_18 ζ_18 r_15 (r_16 - (9 : Int32)) (p3 >>> ((3 : Int32) &&& 31))).bind fun r_43 => (some (r_43.1, r_43.2.1, r_43.2.2.1, r_43.2.2.2, ζ_18))) else none) else (if r_16 = (11 : Int32) then (if n_18 + (uL ν_18 r_15) ≤ cap then ((fL_labels (uL ν_18 r_15) σ_18 η_18 ν_18 ζ_18 r_15 (r_16 - (9 : Int32)) (p3 >>> ((3 : Int32) &&& 31))).bind fun r_45 => (some (r_45.1, r_45.2.1, r_45.2.2.1, r_45.2.2.2, ζ_18))) else none) else (if r_16 = (12 : Int32) then (if n_18 + (uL ν_18 r_15) ≤ cap then ((fL_labels (uL ν_18 r_15) σ_18 η_18 ν_18 ζ_18 r_15 (2 : Int32) (p3 >>> ((3 : Int32) &&& 31))).bind fun r_47 => (some (r_47.1, r_47.2.1, r_47.2.2.1, r_47.2.2.2, ζ_18))) else none) else (if r_16 = (13 : Int32) then (if n_18 + (uL ν_18 r_15) ≤ cap then ((fL_labels (uL ν_18 r_15) σ_18 η_18 ν_18 ζ_18 r_15 (2 : Int32) (p3 >>> ((3 : Int32) &&& 31))).bind fun r_49 => (some (r_49.1, r_49.2.1, r_49.2.2.1, r_49.2.2.2, ζ_18))) else none) else fL_acts_321 cap p3 r_15 FU true (0 : Int32) σ_18 η_18 ν_18 ζ_18 n_18)))))))))))))))
def fL_acts (cap : Nat) (σ : Sh) (η : Hi) (ν : (Nat → Int32)) (ζ : (Nat → Int64)) (p3 : Int32) : Option (Bool × Sh × Hi × (Nat → Int32) × (Nat → Int64)) := (if (ν (Int32.toNatClampNeg (32 : Int32))) = 0 then fL_acts_18 cap p3 (p3 >>> ((5 : Int32) &&& 31)) (1 : Int32) σ η ν ζ 0 else fL_acts_18 cap p3 (p3 >>> ((5 : Int32) &&& 31)) (ν (Int32.toNatClampNeg (32 : Int32))) σ η ν ζ 0)
abbrev rmL_acts (cap : Nat) : Room := { frames := 11, cells := 3 * cap, slots := 61 * cap, locals := 230 }
theorem hdL_acts : yL_acts.cls = RL ∧ yL_acts.cls ≠ "java/lang/invoke/MethodHandle" ∧ yL_acts.cls ≠ "java/lang/invoke/VarHandle" ∧ (parseMethodDescriptor yL_acts.desc).map (fun d => d.parameters.length) = some 4 := by decide +kernel
set_option maxHeartbeats 4000000 in
set_option maxRecDepth 100000 in
theorem cL_acts_ok (l : Launch) (hl0 : l.stackTraces = false) (g : Gg) (cap : Nat) (c0 h k0 x0 d0 a1 a2 a3 a4 k1 v0 z0 : Nat) (γ : Nat → Nat → Nat) (σ : Sh) (η : Hi) (ν : (Nat → Int32)) (ζ : (Nat → Int64)) (p3 : Int32) (sz : Nat) {o : Bool × Sh × Hi × (Nat → Int32) × (Nat → Int64)} (hf : fL_acts cap σ η ν ζ p3 = some o) : Met l yL_acts wsL_acts (rmL_acts cap) (va_Pc [.ref c0, .ref v0, .ref z0, .int p3] (PM g (wC c0 h k0 x0 d0 ++ (wS g h a1 a2 a3 a4 σ ++ (wH g k0 k1 γ η ++ (wV g v0 ν ++ (wZ g z0 ζ))))) sz)) (va_Qi (fun r' (_ : Unit) => r' = b2i o.1) (fun _ t => PQ g (wC c0 h k0 x0 d0 ++ (wS g h a1 a2 a3 a4 o.2.1 ++ (wH g k0 k1 γ o.2.2.1 ++ (wV g v0 o.2.2.2.1 ++ (wZ g z0 o.2.2.2.2))))) (va_A (wC c0 h k0 x0 d0 ++ (wS g h a1 a2 a3 a4 σ ++ (wH g k0 k1 γ η ++ (wV g v0 ν ++ (wZ g z0 ζ))))) sz) t) (va_A (wC c0 h k0 x0 d0 ++ (wS g h a1 a2 a3 a4 σ ++ (wH g k0 k1 γ η ++ (wV g v0 ν ++ (wZ g z0 ζ))))) sz)) (3 * cap) (61 * cap) (va_A (wC c0 h k0 x0 d0 ++ (wS g h a1 a2 a3 a4 σ ++ (wH g k0 k1 γ η ++ (wV g v0 ν ++ (wZ g z0 ζ))))) sz) := by
  refine Met.ofW (cc := cL_acts) (maxL := 10) (ret := (some .boolean)) (by decide) rfl ?_
  intro p e s m args below meth c s₁ B hml hv
  obtain ⟨rfl, rfl, hP, hD0, hE, hZ⟩ := hv
  have hx := B.exec
  have hb := B.bytes
  have hr := B.returns
  have hts := atoms_spec (ws := wsL_acts) B.pre
  have hown : s.vm.findClass RL = some m.cls := findClass_of_methodNamed B.named
  have hlocks := B.notSynchronized
  have hD := hD0.self (sz := s.heap.size)
  generalize hAe : (va_A (wC c0 h k0 x0 d0 ++ (wS g h a1 a2 a3 a4 σ ++ (wH g k0 k1 γ η ++ (wV g v0 ν ++ (wZ g z0 ζ))))) s.heap.size) = A at hD hZ ⊢
  have hA : ∀ q : Nat, s.heap.size ≤ q → A q := fun q h => by rw [← hAe]; exact Or.inr h
  have hS : va_S A s.heap s.heap [] := va_S.rf
  have hP : va_P g.1 vwCl (wC c0 h k0 x0 d0 ++ (wS g h a1 a2 a3 a4 σ ++ (wH g k0 k1 γ η ++ (wV g v0 ν ++ (wZ g z0 ζ))))) s.heap := hP
  have hl := lv_entry ([.ref c0, .ref v0, .ref z0, .int p3]) (n := 10) (Nat.le_of_ble_eq_true rfl)
  rw [lg_entry_eq]
  generalize (lg_sl ([.ref c0, .ref v0, .ref z0, .int p3]) ++ List.replicate (10 - (lg_sl ([.ref c0, .ref v0, .ref z0, .int p3])).length) Slot.unset).toArray = ls at hl ⊢
  refine W.cs (cells' := 3 * 0) (slots' := 61 * 0) rfl rfl ?_
  have hl : lv_has ls 10 [(0, .ref c0), (1, .ref v0), (2, .ref z0), (3, .int p3)] := hl
  have hB202 : ∀ (v4_202 : Int32) (v5_202 : Int32) (t1_202 : Int32) (t2_202 : Int32) (t3_202 : Int32) (σ_202 : Sh) (η_202 : Hi) (ν_202 : (Nat → Int32)) (ζ_202 : (Nat → Int64)) (n_202 : Nat) (H : Heap) (locs : List Loc) (hn : n_202 ≤ cap) (ls : Array Slot), va_P g.1 vwCl (wC c0 h k0 x0 d0 ++ (wS g h a1 a2 a3 a4 σ_202 ++ (wH g k0 k1 γ η_202 ++ (wV g v0 ν_202 ++ (wZ g z0 ζ_202))))) H → va_D A (wC c0 h k0 x0 d0 ++ (wS g h a1 a2 a3 a4 σ_202 ++ (wH g k0 k1 γ η_202 ++ (wV g v0 ν_202 ++ (wZ g z0 ζ_202))))) → va_S A s.heap H locs → lv_has ls 10 [(0, .ref c0), (1, .ref v0), (4, .int v4_202), (5, .int v5_202)] → fL_acts_202 cap p3 v4_202 v5_202 t1_202 t2_202 t3_202 σ_202 η_202 ν_202 ζ_202 n_202 = some o → W p l e (headSpec wsL_acts (rmL_acts cap)).room s m ([.ref c0, .ref v0, .ref z0, .int p3] : List Value).toArray below meth c H locs (3 * n_202) (61 * n_202) (MQ below (va_Qi (fun r' (_ : Unit) => r' = b2i o.1) (fun _ t => PQ g (wC c0 h k0 x0 d0 ++ (wS g h a1 a2 a3 a4 o.2.1 ++ (wH g k0 k1 γ o.2.2.1 ++ (wV g v0 o.2.2.2.1 ++ (wZ g z0 o.2.2.2.2))))) A t) A) ([.ref c0, .ref v0, .ref z0, .int p3] : List Value).toArray s (3 * cap) (61 * cap) A) (F0 m 202 ls [.int t3_202, .int t2_202, .int t1_202, .ref v0]) := by
    intro  v4_202 v5_202 t1_202 t2_202 t3_202 σ_202 η_202 ν_202 ζ_202 n_202 H locs hn ls hP hD hS hl hf
    unfold fL_acts_202 at hf
    obtain ⟨r_1, e_1, hf⟩ := bo hf
    refine pcallS (W0 := (wC c0 h k0 x0 d0 ++ (wS g h a1 a2 a3 a4 σ_202 ++ (wH g k0 k1 γ η_202 ++ (wV g v0 ν_202 ++ (wZ g z0 ζ_202)))))) (As := [.int t2_202, .int t3_202]) (rest := [.int t1_202, .ref v0]) [] ⟨hx, hb, hml, hown, hts⟩ hP hE hZ hS (cL_low_ok l g  t2_202 t3_202 e_1) (va_cwS 2 hts gL_acts_L_low rfl rfl rfl hdL_low.2 ⟨(Nat.le_of_ble_eq_true rfl), (Nat.le_of_ble_eq_true rfl)⟩) rfl rfl hl.1 rfl (Nat.le_of_ble_eq_true rfl) ⟨(k3 hn), (k61 hn)⟩ dL_acts_202 ?_
    obtain ⟨h_2, hf⟩ := ck hf
    refine va_iast hx hb hE.1 hP hD hS 38 0 rfl rfl (vin h_2) dL_acts_205 (fun H locs hP hD hS => ?_)
    have hP : va_P g.1 vwCl (wC c0 h k0 x0 d0 ++ (wS g h a1 a2 a3 a4 σ_202 ++ (wH g k0 k1 γ η_202 ++ (wV g v0 (upd ν_202 (Int32.toNatClampNeg t1_202) r_1) ++ (wZ g z0 ζ_202))))) H := hP
    have hD : va_D A (wC c0 h k0 x0 d0 ++ (wS g h a1 a2 a3 a4 σ_202 ++ (wH g k0 k1 γ η_202 ++ (wV g v0 (upd ν_202 (Int32.toNatClampNeg t1_202) r_1) ++ (wZ g z0 ζ_202))))) := hD
    refine lv_aload_n hx hb dL_acts_206 rfl (lv_at hl 1 rfl) ?_
    refine lv_iconst (v := (4 : Int32)) hx hb dL_acts_207 (by decide) ?_
    refine lv_iload hx hb dL_acts_208 (lv_at hl 2 rfl) ?_
    refine lv_imul hx hb dL_acts_210 ?_
    refine lv_iconst (v := (3 : Int32)) hx hb dL_acts_211 (by decide) ?_
    refine lv_iadd hx hb dL_acts_212 ?_
    refine lv_iconst (v := (-1 : Int32)) hx hb dL_acts_213 (by decide) ?_
    obtain ⟨h_3, hf⟩ := ck hf
    refine va_iast hx hb hE.1 hP hD hS 38 0 rfl rfl (vin h_3) dL_acts_214 (fun H locs hP hD hS => ?_)
    have hP : va_P g.1 vwCl (wC c0 h k0 x0 d0 ++ (wS g h a1 a2 a3 a4 σ_202 ++ (wH g k0 k1 γ η_202 ++ (wV g v0 (upd (upd ν_202 (Int32.toNatClampNeg t1_202) r_1) (Int32.toNatClampNeg (((4 : Int32) * v4_202) + (3 : Int32))) (-1 : Int32)) ++ (wZ g z0 ζ_202))))) H := hP
    have hD : va_D A (wC c0 h k0 x0 d0 ++ (wS g h a1 a2 a3 a4 σ_202 ++ (wH g k0 k1 γ η_202 ++ (wV g v0 (upd (upd ν_202 (Int32.toNatClampNeg t1_202) r_1) (Int32.toNatClampNeg (((4 : Int32) * v4_202) + (3 : Int32))) (-1 : Int32)) ++ (wZ g z0 ζ_202))))) := hD
    refine lv_aload_n hx hb dL_acts_215 rfl (lv_at hl 0 rfl) ?_
    refine lv_iload hx hb dL_acts_216 (lv_at hl 2 rfl) ?_
    refine lv_aload_n hx hb dL_acts_218 rfl (lv_at hl 1 rfl) ?_
    refine lv_iconst (v := (4 : Int32)) hx hb dL_acts_219 (by decide) ?_
    refine lv_iload hx hb dL_acts_220 (lv_at hl 2 rfl) ?_
    refine lv_imul hx hb dL_acts_222 ?_
    obtain ⟨h_4, hf⟩ := ck hf
    refine va_iald hx hb hE.1 hP 38 0 rfl rfl (vin h_4) dL_acts_223 ?_
    obtain ⟨r_5, e_5, hf⟩ := xov hf
    refine mcallVi (W0 := (wC c0 h k0 x0 d0 ++ (wS g h a1 a2 a3 a4 σ_202 ++ (wH g k0 k1 γ η_202 ++ (wV g v0 (upd (upd ν_202 (Int32.toNatClampNeg t1_202) r_1) (Int32.toNatClampNeg (((4 : Int32) * v4_202) + (3 : Int32))) (-1 : Int32)) ++ (wZ g z0 ζ_202)))))) (Wc := (wC c0 h k0 x0 d0 ++ (wS g h a1 a2 a3 a4 σ_202 ++ (wH g k0 k1 γ η_202)))) (Wr := (wV g v0 (upd (upd ν_202 (Int32.toNatClampNeg t1_202) r_1) (Int32.toNatClampNeg (((4 : Int32) * v4_202) + (3 : Int32))) (-1 : Int32)) ++ (wZ g z0 ζ_202))) (W1 := (wC c0 h k0 x0 d0 ++ (wS g h a1 a2 a3 a4 r_5.2.1 ++ (wH g k0 k1 γ r_5.2.2)))) (W2 := (wC c0 h k0 x0 d0 ++ (wS g h a1 a2 a3 a4 r_5.2.1 ++ (wH g k0 k1 γ r_5.2.2 ++ (wV g v0 (upd (upd ν_202 (Int32.toNatClampNeg t1_202) r_1) (Int32.toNatClampNeg (((4 : Int32) * v4_202) + (3 : Int32))) (-1 : Int32)) ++ (wZ g z0 ζ_202)))))) (As := [.int v4_202, .int ((upd (upd ν_202 (Int32.toNatClampNeg t1_202) r_1) (Int32.toNatClampNeg (((4 : Int32) * v4_202) + (3 : Int32))) (-1 : Int32)) (Int32.toNatClampNeg ((4 : Int32) * v4_202)))]) (rest := []) [0, 1, 2, 3, 4, 5, 6, 7, 8, 9, 10, 11, 12, 13, 14, 15, 16, 17, 18, 19, 20, 21, 22, 23, 24, 25, 26, 27, 28, 29, 30, 31, 32, 33, 34, 35, 36, 37] [38, 39] [2, 3, 4, 5, 6, 7, 8, 9, 10, 11, 12, 13, 14, 15, 16, 17, 18, 19, 20, 21, 22, 23, 24, 25, 26, 27, 28, 29, 30, 31, 32, 33, 34, 35, 36, 37, 38, 39, 0, 1] 4 0 ⟨hx, hb, hml, hown, hts⟩ hP hD hE hZ hS hA (cX6_setLevel_k_ok l g  c0 h k0 x0 d0 a1 a2 a3 a4 k1 γ σ_202 η_202 v4_202 ((upd (upd ν_202 (Int32.toNatClampNeg t1_202) r_1) (Int32.toNatClampNeg (((4 : Int32) * v4_202) + (3 : Int32))) (-1 : Int32)) (Int32.toNatClampNeg ((4 : Int32) * v4_202))) _ e_5) (cwV 2 hts gL_acts_X6_setLevel rfl rfl rfl hdX6_setLevel ⟨(Nat.le_of_ble_eq_true rfl), (Nat.le_of_ble_eq_true rfl)⟩) rfl rfl rfl (by decide) (by decide) (by decide) (by decide) rfl rfl rfl rfl hl.1 rfl (Nat.le_of_ble_eq_true rfl) ⟨(k3 hn), (k61 hn)⟩ dL_acts_224 (fun H locs hP hD hS => ?_)
    refine W.cs (cells' := 3 * n_202) (slots' := 61 * n_202) (Nat.add_zero _) (Nat.add_zero _) ?_
    refine lv_iload hx hb dL_acts_227 (lv_at hl 3 rfl) ?_
    refine lv_icmp_ne (tgt := 236) hx hb dL_acts_229 (by decide) (fun c_6 => ?_) (fun c_6 => ?_)
    · have hf := iq c_6 hf
      refine lv_iconst (v := (0 : Int32)) hx hb dL_acts_236 (by decide) ?_
      have ho := Option.some.inj hf
      subst ho
      refine W.widen (k := 3 * cap) (n := 61 * cap) (k3 hn) (k61 hn) ?_
      exact m_zret (v := false) hx hb hr hlocks hP hD hS rfl dL_acts_237
    · have hf := ip c_6 hf
      refine lv_iconst (v := (1 : Int32)) hx hb dL_acts_232 (by decide) ?_
      refine lv_goto (tgt := 237) hx hb dL_acts_233 (by decide) ?_
      have ho := Option.some.inj hf
      subst ho
      refine W.widen (k := 3 * cap) (n := 61 * cap) (k3 hn) (k61 hn) ?_
      exact m_zret (v := true) hx hb hr hlocks hP hD hS rfl dL_acts_237
  have hB321 : ∀ (v4_321 : Int32) (n321 : Nat) (v7_321 : Bool) (v8_321 : Int32) (σ_321 : Sh) (η_321 : Hi) (ν_321 : (Nat → Int32)) (ζ_321 : (Nat → Int64)) (n_321 : Nat) (H : Heap) (locs : List Loc) (hn : n_321 ≤ cap) (ls : Array Slot), va_P g.1 vwCl (wC c0 h k0 x0 d0 ++ (wS g h a1 a2 a3 a4 σ_321 ++ (wH g k0 k1 γ η_321 ++ (wV g v0 ν_321 ++ (wZ g z0 ζ_321))))) H → va_D A (wC c0 h k0 x0 d0 ++ (wS g h a1 a2 a3 a4 σ_321 ++ (wH g k0 k1 γ η_321 ++ (wV g v0 ν_321 ++ (wZ g z0 ζ_321))))) → va_S A s.heap H locs → lv_has ls 10 [(0, .ref c0), (1, .ref v0), (2, .ref z0), (3, .int p3), (4, .int v4_321), (7, .int (b2i v7_321)), (8, .int v8_321)] → fL_acts_321 cap p3 v4_321 n321 v7_321 v8_321 σ_321 η_321 ν_321 ζ_321 n_321 = some o → W p l e (headSpec wsL_acts (rmL_acts cap)).room s m ([.ref c0, .ref v0, .ref z0, .int p3] : List Value).toArray below meth c H locs (3 * n_321) (61 * n_321) (MQ below (va_Qi (fun r' (_ : Unit) => r' = b2i o.1) (fun _ t => PQ g (wC c0 h k0 x0 d0 ++ (wS g h a1 a2 a3 a4 o.2.1 ++ (wH g k0 k1 γ o.2.2.1 ++ (wV g v0 o.2.2.2.1 ++ (wZ g z0 o.2.2.2.2))))) A t) A) ([.ref c0, .ref v0, .ref z0, .int p3] : List Value).toArray s (3 * cap) (61 * cap) A) (F0 m 321 ls []) := by
    intro v4_321 n321
    induction n321 with
    | zero => intro v7_321 v8_321 σ_321 η_321 ν_321 ζ_321 n_321 H locs hn ls hP hD hS hl hf; exact nomatch (show (none : Option (Bool × Sh × Hi × (Nat → Int32) × (Nat → Int64))) = some _ from hf)
    | succ n321 ih321 =>
      intro v7_321 v8_321 σ_321 η_321 ν_321 ζ_321 n_321 H locs hn ls hP hD hS hl hf
      rw [fL_acts_321] at hf
      refine lv_iload hx hb dL_acts_321 (lv_at hl 6 rfl) ?_
      refine lv_bipush (v := (6 : Int32)) hx hb dL_acts_323 (by decide) ?_
      refine lv_icmp_ge (tgt := 396) hx hb dL_acts_325 (by decide) (fun c_7 => ?_) (fun c_7 => ?_)
      · have hf := ip c_7 hf
        refine lv_iload hx hb dL_acts_396 (lv_at hl 5 rfl) ?_
        have ho := Option.some.inj hf
        subst ho
        refine W.widen (k := 3 * cap) (n := 61 * cap) (k3 hn) (k61 hn) ?_
        exact m_zret (v := v7_321) hx hb hr hlocks hP hD hS rfl dL_acts_398
      · have hf := iq c_7 hf
        refine lv_iload hx hb dL_acts_328 (lv_at hl 5 rfl) ?_
        refine lv_beq (tgt := 396) hx hb dL_acts_330 (by decide) (fun c_8 => ?_) (fun c_8 => ?_)
        · have hf := iq c_8 hf
          refine lv_iload hx hb dL_acts_396 (lv_at hl 5 rfl) ?_
          have ho := Option.some.inj hf
          subst ho
          refine W.widen (k := 3 * cap) (n := 61 * cap) (k3 hn) (k61 hn) ?_
          exact m_zret (v := v7_321) hx hb hr hlocks hP hD hS rfl dL_acts_398
        · have hf := ip c_8 hf
          refine lv_iload_n hx hb dL_acts_333 rfl (lv_at hl 3 rfl) ?_
          refine lv_bipush (v := (16 : Int32)) hx hb dL_acts_334 (by decide) ?_
          refine lv_ishr hx hb dL_acts_336 ?_
          refine lv_bipush (v := (8 : Int32)) hx hb dL_acts_337 (by decide) ?_
          obtain ⟨r_9, e_9, hf⟩ := bo hf
          refine pcallS (W0 := (wC c0 h k0 x0 d0 ++ (wS g h a1 a2 a3 a4 σ_321 ++ (wH g k0 k1 γ η_321 ++ (wV g v0 ν_321 ++ (wZ g z0 ζ_321)))))) (As := [.int (p3 >>> ((16 : Int32) &&& 31)), .int (8 : Int32)]) (rest := []) [] ⟨hx, hb, hml, hown, hts⟩ hP hE hZ hS (cL_low_ok l g  (p3 >>> ((16 : Int32) &&& 31)) (8 : Int32) e_9) (va_cwS 2 hts gL_acts_L_low rfl rfl rfl hdL_low.2 ⟨(Nat.le_of_ble_eq_true rfl), (Nat.le_of_ble_eq_true rfl)⟩) rfl rfl hl.1 rfl (Nat.le_of_ble_eq_true rfl) ⟨(k3 hn), (k61 hn)⟩ dL_acts_339 ?_
          refine lv_iload_n hx hb dL_acts_342 rfl (lv_at hl 3 rfl) ?_
          refine lv_iconst (v := (2 : Int32)) hx hb dL_acts_343 (by decide) ?_
          refine lv_iload hx hb dL_acts_344 (lv_at hl 6 rfl) ?_
          refine lv_imul hx hb dL_acts_346 ?_
          refine lv_iconst (v := (3 : Int32)) hx hb dL_acts_347 (by decide) ?_
          refine lv_iadd hx hb dL_acts_348 ?_
          refine lv_ishr hx hb dL_acts_349 ?_
          refine lv_iconst (v := (3 : Int32)) hx hb dL_acts_350 (by decide) ?_
          obtain ⟨r_10, e_10, hf⟩ := bo hf
          refine pcallS (W0 := (wC c0 h k0 x0 d0 ++ (wS g h a1 a2 a3 a4 σ_321 ++ (wH g k0 k1 γ η_321 ++ (wV g v0 ν_321 ++ (wZ g z0 ζ_321)))))) (As := [.int (p3 >>> ((((2 : Int32) * v8_321) + (3 : Int32)) &&& 31)), .int (3 : Int32)]) (rest := [.int r_9]) [] ⟨hx, hb, hml, hown, hts⟩ hP hE hZ hS (cL_low_ok l g  (p3 >>> ((((2 : Int32) * v8_321) + (3 : Int32)) &&& 31)) (3 : Int32) e_10) (va_cwS 2 hts gL_acts_L_low rfl rfl rfl hdL_low.2 ⟨(Nat.le_of_ble_eq_true rfl), (Nat.le_of_ble_eq_true rfl)⟩) rfl rfl hl.1 rfl (Nat.le_of_ble_eq_true rfl) ⟨(k3 hn), (k61 hn)⟩ dL_acts_351 ?_
          refine lv_if_ne (tgt := 371) hx hb dL_acts_354 (by decide) (fun c_11 => ?_) (fun c_11 => ?_)
          · have hf := iq c_11 hf
            refine lv_iconst (v := (0 : Int32)) hx hb dL_acts_371 (by decide) ?_
            refine lv_iadd hx hb dL_acts_372 ?_
            refine lv_istore (lv' := [(9, .int (r_9 + (0 : Int32))), (0, .ref c0), (1, .ref v0), (2, .ref z0), (3, .int p3), (4, .int v4_321), (7, .int (b2i v7_321)), (8, .int v8_321)]) hx hb dL_acts_373 hl (by decide) rfl (fun ls hl => ?_)
            refine lv_aload_n hx hb dL_acts_375 rfl (lv_at hl 1 rfl) ?_
            refine lv_aload_n hx hb dL_acts_376 rfl (lv_at hl 2 rfl) ?_
            refine lv_aload_n hx hb dL_acts_377 rfl (lv_at hl 3 rfl) ?_
            refine lv_iload hx hb dL_acts_378 (lv_at hl 5 rfl) ?_
            refine lv_iload hx hb dL_acts_380 (lv_at hl 0 rfl) ?_
            refine lv_bipush (v := (8 : Int32)) hx hb dL_acts_382 (by decide) ?_
            refine lv_irm hx hb dL_acts_384 (by decide) ?_
            obtain ⟨h_12, hf⟩ := ck hf
            obtain ⟨r_12, e_12, hf⟩ := bo hf
            refine mcallSi (W0 := (wC c0 h k0 x0 d0 ++ (wS g h a1 a2 a3 a4 σ_321 ++ (wH g k0 k1 γ η_321 ++ (wV g v0 ν_321 ++ (wZ g z0 ζ_321)))))) (Wc := (wC c0 h k0 x0 d0 ++ (wS g h a1 a2 a3 a4 σ_321 ++ (wH g k0 k1 γ η_321 ++ (wV g v0 ν_321 ++ (wZ g z0 ζ_321)))))) (Wr := ([] : va_W)) (W1 := (wC c0 h k0 x0 d0 ++ (wS g h a1 a2 a3 a4 r_12.2.1 ++ (wH g k0 k1 γ r_12.2.2.1 ++ (wV g v0 r_12.2.2.2.1 ++ (wZ g z0 r_12.2.2.2.2)))))) (W2 := (wC c0 h k0 x0 d0 ++ (wS g h a1 a2 a3 a4 r_12.2.1 ++ (wH g k0 k1 γ r_12.2.2.1 ++ (wV g v0 r_12.2.2.2.1 ++ (wZ g z0 r_12.2.2.2.2)))))) (As := [.ref c0, .ref v0, .ref z0, .int v4_321, .int (irm (r_9 + (0 : Int32)) (8 : Int32))]) (rest := []) [0, 1, 2, 3, 4, 5, 6, 7, 8, 9, 10, 11, 12, 13, 14, 15, 16, 17, 18, 19, 20, 21, 22, 23, 24, 25, 26, 27, 28, 29, 30, 31, 32, 33, 34, 35, 36, 37, 38, 39] [] [0, 1, 2, 3, 4, 5, 6, 7, 8, 9, 10, 11, 12, 13, 14, 15, 16, 17, 18, 19, 20, 21, 22, 23, 24, 25, 26, 27, 28, 29, 30, 31, 32, 33, 34, 35, 36, 37, 38, 39] ⟨hx, hb, hml, hown, hts⟩ hP hD hE hZ hS hA (cL_steps_ok l hl0 g 4 c0 h k0 x0 d0 a1 a2 a3 a4 k1 v0 z0 γ σ_321 η_321 ν_321 ζ_321 v4_321 (irm (r_9 + (0 : Int32)) (8 : Int32)) _ e_12) (va_cwS 5 hts gL_acts_L_steps rfl rfl rfl hdL_steps.2 ⟨(Nat.le_of_ble_eq_true rfl), (Nat.le_of_ble_eq_true rfl)⟩) rfl rfl rfl (by decide) (by decide) (by decide) (by decide) rfl hl.1 rfl (Nat.le_of_ble_eq_true rfl) ⟨(kc3 h_12), (kc61 h_12)⟩ dL_acts_385 (fun H locs hP hD hS => ?_)
            refine W.widen (k := 3 * (n_321 + 4)) (n := 61 * (n_321 + 4)) (by omega) (by omega) ?_
            refine lv_istore (lv' := [(7, .int (b2i r_12.1)), (9, .int (r_9 + (0 : Int32))), (0, .ref c0), (1, .ref v0), (2, .ref z0), (3, .int p3), (4, .int v4_321), (8, .int v8_321)]) hx hb dL_acts_388 hl (by decide) rfl (fun ls hl => ?_)
            refine lv_iinc (v := (v8_321 + 1)) (lv' := [(8, .int (v8_321 + 1)), (7, .int (b2i r_12.1)), (9, .int (r_9 + (0 : Int32))), (0, .ref c0), (1, .ref v0), (2, .ref z0), (3, .int p3), (4, .int v4_321)]) hx hb dL_acts_390 hl (k := 7) rfl rfl (by decide) rfl (fun ls hl => ?_)
            refine lv_goto (tgt := 321) hx hb dL_acts_393 (by decide) ?_
            exact ih321 r_12.1 (v8_321 + 1) r_12.2.1 r_12.2.2.1 r_12.2.2.2.1 r_12.2.2.2.2 (n_321 + 4) _ _ h_12 ls hP hD hS (lv_sub hl [3, 4, 5, 6, 7, 1, 0] rfl) hf
          · have hf := ip c_11 hf
            refine lv_iload_n hx hb dL_acts_357 rfl (lv_at hl 3 rfl) ?_
            refine lv_iload hx hb dL_acts_358 (lv_at hl 6 rfl) ?_
            refine lv_ishr hx hb dL_acts_360 ?_
            refine lv_iconst (v := (3 : Int32)) hx hb dL_acts_361 (by decide) ?_
            obtain ⟨r_13, e_13, hf⟩ := bo hf
            refine pcallS (W0 := (wC c0 h k0 x0 d0 ++ (wS g h a1 a2 a3 a4 σ_321 ++ (wH g k0 k1 γ η_321 ++ (wV g v0 ν_321 ++ (wZ g z0 ζ_321)))))) (As := [.int (p3 >>> (v8_321 &&& 31)), .int (3 : Int32)]) (rest := [.int r_9]) [] ⟨hx, hb, hml, hown, hts⟩ hP hE hZ hS (cL_low_ok l g  (p3 >>> (v8_321 &&& 31)) (3 : Int32) e_13) (va_cwS 2 hts gL_acts_L_low rfl rfl rfl hdL_low.2 ⟨(Nat.le_of_ble_eq_true rfl), (Nat.le_of_ble_eq_true rfl)⟩) rfl rfl hl.1 rfl (Nat.le_of_ble_eq_true rfl) ⟨(k3 hn), (k61 hn)⟩ dL_acts_362 ?_
            refine lv_bipush (v := (7 : Int32)) hx hb dL_acts_365 (by decide) ?_
            refine lv_iadd hx hb dL_acts_367 ?_
            refine lv_goto (tgt := 372) hx hb dL_acts_368 (by decide) ?_
            refine lv_iadd hx hb dL_acts_372 ?_
            refine lv_istore (lv' := [(9, .int (r_9 + (r_13 + (7 : Int32)))), (0, .ref c0), (1, .ref v0), (2, .ref z0), (3, .int p3), (4, .int v4_321), (7, .int (b2i v7_321)), (8, .int v8_321)]) hx hb dL_acts_373 hl (by decide) rfl (fun ls hl => ?_)
            refine lv_aload_n hx hb dL_acts_375 rfl (lv_at hl 1 rfl) ?_
            refine lv_aload_n hx hb dL_acts_376 rfl (lv_at hl 2 rfl) ?_
            refine lv_aload_n hx hb dL_acts_377 rfl (lv_at hl 3 rfl) ?_
            refine lv_iload hx hb dL_acts_378 (lv_at hl 5 rfl) ?_
            refine lv_iload hx hb dL_acts_380 (lv_at hl 0 rfl) ?_
            refine lv_bipush (v := (8 : Int32)) hx hb dL_acts_382 (by decide) ?_
            refine lv_irm hx hb dL_acts_384 (by decide) ?_
            obtain ⟨h_14, hf⟩ := ck hf
            obtain ⟨r_14, e_14, hf⟩ := bo hf
            refine mcallSi (W0 := (wC c0 h k0 x0 d0 ++ (wS g h a1 a2 a3 a4 σ_321 ++ (wH g k0 k1 γ η_321 ++ (wV g v0 ν_321 ++ (wZ g z0 ζ_321)))))) (Wc := (wC c0 h k0 x0 d0 ++ (wS g h a1 a2 a3 a4 σ_321 ++ (wH g k0 k1 γ η_321 ++ (wV g v0 ν_321 ++ (wZ g z0 ζ_321)))))) (Wr := ([] : va_W)) (W1 := (wC c0 h k0 x0 d0 ++ (wS g h a1 a2 a3 a4 r_14.2.1 ++ (wH g k0 k1 γ r_14.2.2.1 ++ (wV g v0 r_14.2.2.2.1 ++ (wZ g z0 r_14.2.2.2.2)))))) (W2 := (wC c0 h k0 x0 d0 ++ (wS g h a1 a2 a3 a4 r_14.2.1 ++ (wH g k0 k1 γ r_14.2.2.1 ++ (wV g v0 r_14.2.2.2.1 ++ (wZ g z0 r_14.2.2.2.2)))))) (As := [.ref c0, .ref v0, .ref z0, .int v4_321, .int (irm (r_9 + (r_13 + (7 : Int32))) (8 : Int32))]) (rest := []) [0, 1, 2, 3, 4, 5, 6, 7, 8, 9, 10, 11, 12, 13, 14, 15, 16, 17, 18, 19, 20, 21, 22, 23, 24, 25, 26, 27, 28, 29, 30, 31, 32, 33, 34, 35, 36, 37, 38, 39] [] [0, 1, 2, 3, 4, 5, 6, 7, 8, 9, 10, 11, 12, 13, 14, 15, 16, 17, 18, 19, 20, 21, 22, 23, 24, 25, 26, 27, 28, 29, 30, 31, 32, 33, 34, 35, 36, 37, 38, 39] ⟨hx, hb, hml, hown, hts⟩ hP hD hE hZ hS hA (cL_steps_ok l hl0 g 4 c0 h k0 x0 d0 a1 a2 a3 a4 k1 v0 z0 γ σ_321 η_321 ν_321 ζ_321 v4_321 (irm (r_9 + (r_13 + (7 : Int32))) (8 : Int32)) _ e_14) (va_cwS 5 hts gL_acts_L_steps rfl rfl rfl hdL_steps.2 ⟨(Nat.le_of_ble_eq_true rfl), (Nat.le_of_ble_eq_true rfl)⟩) rfl rfl rfl (by decide) (by decide) (by decide) (by decide) rfl hl.1 rfl (Nat.le_of_ble_eq_true rfl) ⟨(kc3 h_14), (kc61 h_14)⟩ dL_acts_385 (fun H locs hP hD hS => ?_)
            refine W.widen (k := 3 * (n_321 + 4)) (n := 61 * (n_321 + 4)) (by omega) (by omega) ?_
            refine lv_istore (lv' := [(7, .int (b2i r_14.1)), (9, .int (r_9 + (r_13 + (7 : Int32)))), (0, .ref c0), (1, .ref v0), (2, .ref z0), (3, .int p3), (4, .int v4_321), (8, .int v8_321)]) hx hb dL_acts_388 hl (by decide) rfl (fun ls hl => ?_)
            refine lv_iinc (v := (v8_321 + 1)) (lv' := [(8, .int (v8_321 + 1)), (7, .int (b2i r_14.1)), (9, .int (r_9 + (r_13 + (7 : Int32)))), (0, .ref c0), (1, .ref v0), (2, .ref z0), (3, .int p3), (4, .int v4_321)]) hx hb dL_acts_390 hl (k := 7) rfl rfl (by decide) rfl (fun ls hl => ?_)
            refine lv_goto (tgt := 321) hx hb dL_acts_393 (by decide) ?_
            exact ih321 r_14.1 (v8_321 + 1) r_14.2.1 r_14.2.2.1 r_14.2.2.2.1 r_14.2.2.2.2 (n_321 + 4) _ _ h_14 ls hP hD hS (lv_sub hl [3, 4, 5, 6, 7, 1, 0] rfl) hf
  have hB18 : ∀ (t0_18 : Int32) (t1_18 : Int32) (σ_18 : Sh) (η_18 : Hi) (ν_18 : (Nat → Int32)) (ζ_18 : (Nat → Int64)) (n_18 : Nat) (H : Heap) (locs : List Loc) (hn : n_18 ≤ cap) (ls : Array Slot), va_P g.1 vwCl (wC c0 h k0 x0 d0 ++ (wS g h a1 a2 a3 a4 σ_18 ++ (wH g k0 k1 γ η_18 ++ (wV g v0 ν_18 ++ (wZ g z0 ζ_18))))) H → va_D A (wC c0 h k0 x0 d0 ++ (wS g h a1 a2 a3 a4 σ_18 ++ (wH g k0 k1 γ η_18 ++ (wV g v0 ν_18 ++ (wZ g z0 ζ_18))))) → va_S A s.heap H locs → lv_has ls 10 [(0, .ref c0), (1, .ref v0), (2, .ref z0), (3, .int p3)] → fL_acts_18 cap p3 t0_18 t1_18 σ_18 η_18 ν_18 ζ_18 n_18 = some o → W p l e (headSpec wsL_acts (rmL_acts cap)).room s m ([.ref c0, .ref v0, .ref z0, .int p3] : List Value).toArray below meth c H locs (3 * n_18) (61 * n_18) (MQ below (va_Qi (fun r' (_ : Unit) => r' = b2i o.1) (fun _ t => PQ g (wC c0 h k0 x0 d0 ++ (wS g h a1 a2 a3 a4 o.2.1 ++ (wH g k0 k1 γ o.2.2.1 ++ (wV g v0 o.2.2.2.1 ++ (wZ g z0 o.2.2.2.2))))) A t) A) ([.ref c0, .ref v0, .ref z0, .int p3] : List Value).toArray s (3 * cap) (61 * cap) A) (F0 m 18 ls [.int t1_18, .int t0_18]) := by
    intro  t0_18 t1_18 σ_18 η_18 ν_18 ζ_18 n_18 H locs hn ls hP hD hS hl hf
    unfold fL_acts_18 at hf
    obtain ⟨r_15, e_15, hf⟩ := bo hf
    refine pcallS (W0 := (wC c0 h k0 x0 d0 ++ (wS g h a1 a2 a3 a4 σ_18 ++ (wH g k0 k1 γ η_18 ++ (wV g v0 ν_18 ++ (wZ g z0 ζ_18)))))) (As := [.int t0_18, .int t1_18]) (rest := []) [] ⟨hx, hb, hml, hown, hts⟩ hP hE hZ hS (cL_low_ok l g  t0_18 t1_18 e_15) (va_cwS 2 hts gL_acts_L_low rfl rfl rfl hdL_low.2 ⟨(Nat.le_of_ble_eq_true rfl), (Nat.le_of_ble_eq_true rfl)⟩) rfl rfl hl.1 rfl (Nat.le_of_ble_eq_true rfl) ⟨(k3 hn), (k61 hn)⟩ dL_acts_18 ?_
    refine lv_istore (lv' := [(4, .int r_15), (0, .ref c0), (1, .ref v0), (2, .ref z0), (3, .int p3)]) hx hb dL_acts_21 hl (by decide) rfl (fun ls hl => ?_)
    refine lv_iconst (v := (0 : Int32)) hx hb dL_acts_23 (by decide) ?_
    refine lv_istore (lv' := [(5, .int (0 : Int32)), (4, .int r_15), (0, .ref c0), (1, .ref v0), (2, .ref z0), (3, .int p3)]) hx hb dL_acts_24 hl (by decide) rfl (fun ls hl => ?_)
    refine lv_iload_n hx hb dL_acts_26 rfl (lv_at hl 5 rfl) ?_
    refine lv_bipush (v := (20 : Int32)) hx hb dL_acts_27 (by decide) ?_
    obtain ⟨r_16, e_16, hf⟩ := bo hf
    refine pcallS (W0 := (wC c0 h k0 x0 d0 ++ (wS g h a1 a2 a3 a4 σ_18 ++ (wH g k0 k1 γ η_18 ++ (wV g v0 ν_18 ++ (wZ g z0 ζ_18)))))) (As := [.int p3, .int (20 : Int32)]) (rest := []) [] ⟨hx, hb, hml, hown, hts⟩ hP hE hZ hS (cL_low_ok l g  p3 (20 : Int32) e_16) (va_cwS 2 hts gL_acts_L_low rfl rfl rfl hdL_low.2 ⟨(Nat.le_of_ble_eq_true rfl), (Nat.le_of_ble_eq_true rfl)⟩) rfl rfl hl.1 rfl (Nat.le_of_ble_eq_true rfl) ⟨(k3 hn), (k61 hn)⟩ dL_acts_29 ?_
    refine lv_istore (lv' := [(6, .int r_16), (5, .int (0 : Int32)), (4, .int r_15), (0, .ref c0), (1, .ref v0), (2, .ref z0), (3, .int p3)]) hx hb dL_acts_32 hl (by decide) rfl (fun ls hl => ?_)
    refine lv_iload hx hb dL_acts_34 (lv_at hl 0 rfl) ?_
    refine lv_iconst (v := (3 : Int32)) hx hb dL_acts_36 (by decide) ?_
    refine lv_icmp_lt (tgt := 47) hx hb dL_acts_37 (by decide) (fun c_17 => ?_) (fun c_17 => ?_)
    · have hf := ip c_17 hf
      refine lv_aload_n hx hb dL_acts_47 rfl (lv_at hl 3 rfl) ?_
      refine lv_aload_n hx hb dL_acts_48 rfl (lv_at hl 4 rfl) ?_
      refine lv_aload_n hx hb dL_acts_49 rfl (lv_at hl 5 rfl) ?_
      refine lv_iload_n hx hb dL_acts_50 rfl (lv_at hl 6 rfl) ?_
      obtain ⟨h_18, hf⟩ := ck hf
      obtain ⟨r_18, e_18, hf⟩ := bo hf
      refine mcallSi (W0 := (wC c0 h k0 x0 d0 ++ (wS g h a1 a2 a3 a4 σ_18 ++ (wH g k0 k1 γ η_18 ++ (wV g v0 ν_18 ++ (wZ g z0 ζ_18)))))) (Wc := (wC c0 h k0 x0 d0 ++ (wS g h a1 a2 a3 a4 σ_18 ++ (wH g k0 k1 γ η_18 ++ (wV g v0 ν_18 ++ (wZ g z0 ζ_18)))))) (Wr := ([] : va_W)) (W1 := (wC c0 h k0 x0 d0 ++ (wS g h a1 a2 a3 a4 r_18.2.1 ++ (wH g k0 k1 γ r_18.2.2.1 ++ (wV g v0 r_18.2.2.2.1 ++ (wZ g z0 r_18.2.2.2.2)))))) (W2 := (wC c0 h k0 x0 d0 ++ (wS g h a1 a2 a3 a4 r_18.2.1 ++ (wH g k0 k1 γ r_18.2.2.1 ++ (wV g v0 r_18.2.2.2.1 ++ (wZ g z0 r_18.2.2.2.2)))))) (As := [.ref c0, .ref v0, .ref z0, .int p3]) (rest := []) [0, 1, 2, 3, 4, 5, 6, 7, 8, 9, 10, 11, 12, 13, 14, 15, 16, 17, 18, 19, 20, 21, 22, 23, 24, 25, 26, 27, 28, 29, 30, 31, 32, 33, 34, 35, 36, 37, 38, 39] [] [0, 1, 2, 3, 4, 5, 6, 7, 8, 9, 10, 11, 12, 13, 14, 15, 16, 17, 18, 19, 20, 21, 22, 23, 24, 25, 26, 27, 28, 29, 30, 31, 32, 33, 34, 35, 36, 37, 38, 39] ⟨hx, hb, hml, hown, hts⟩ hP hD hE hZ hS hA (cL_rings_ok l hl0 g 138 c0 h k0 x0 d0 a1 a2 a3 a4 k1 v0 z0 γ σ_18 η_18 ν_18 ζ_18 p3 _ e_18) (va_cwS 4 hts gL_acts_L_rings rfl rfl rfl hdL_rings.2 ⟨(Nat.le_of_ble_eq_true rfl), (Nat.le_of_ble_eq_true rfl)⟩) rfl rfl rfl (by decide) (by decide) (by decide) (by decide) rfl hl.1 rfl (Nat.le_of_ble_eq_true rfl) ⟨(kc3 h_18), (kc61 h_18)⟩ dL_acts_51 (fun H locs hP hD hS => ?_)
      refine W.widen (k := 3 * (n_18 + 138)) (n := 61 * (n_18 + 138)) (by omega) (by omega) ?_
      have ho := Option.some.inj hf
      subst ho
      refine W.widen (k := 3 * cap) (n := 61 * cap) (k3 h_18) (k61 h_18) ?_
      exact m_zret (v := r_18.1) hx hb hr hlocks hP hD hS rfl dL_acts_54
    · have hf := iq c_17 hf
      refine lv_aload_n hx hb dL_acts_40 rfl (lv_at hl 4 rfl) ?_
      refine lv_bipush (v := (32 : Int32)) hx hb dL_acts_41 (by decide) ?_
      refine va_iald hx hb hE.1 hP 38 0 rfl rfl (vin (by decide)) dL_acts_43 ?_
      refine lv_if_ne (tgt := 55) hx hb dL_acts_44 (by decide) (fun c_19 => ?_) (fun c_19 => ?_)
      · have hf := iq c_19 hf
        refine lv_iload hx hb dL_acts_55 (lv_at hl 0 rfl) ?_
        by_cases s_20 : r_16 = (3 : Int32)
        · have hf := ip s_20 hf
          refine lv_tableIn (off := 59) (tgt := 116) hx hb dL_acts_57 (by rw [s_20]; decide) (by rw [s_20]; decide) (by rw [s_20]; rfl) (by decide) ?_
          refine lv_aload_n hx hb dL_acts_116 rfl (lv_at hl 3 rfl) ?_
          refine lv_aload_n hx hb dL_acts_117 rfl (lv_at hl 4 rfl) ?_
          refine lv_aload_n hx hb dL_acts_118 rfl (lv_at hl 5 rfl) ?_
          refine lv_iload_n hx hb dL_acts_119 rfl (lv_at hl 6 rfl) ?_
          refine lv_bipush (v := (7 : Int32)) hx hb dL_acts_120 (by decide) ?_
          refine lv_ishr hx hb dL_acts_122 ?_
          refine lv_bipush (v := (100 : Int32)) hx hb dL_acts_123 (by decide) ?_
          obtain ⟨r_21, e_21, hf⟩ := bo hf
          refine pcallS (W0 := (wC c0 h k0 x0 d0 ++ (wS g h a1 a2 a3 a4 σ_18 ++ (wH g k0 k1 γ η_18 ++ (wV g v0 ν_18 ++ (wZ g z0 ζ_18)))))) (As := [.int (p3 >>> ((7 : Int32) &&& 31)), .int (100 : Int32)]) (rest := [.ref z0, .ref v0, .ref c0]) [] ⟨hx, hb, hml, hown, hts⟩ hP hE hZ hS (cL_low_ok l g  (p3 >>> ((7 : Int32) &&& 31)) (100 : Int32) e_21) (va_cwS 2 hts gL_acts_L_low rfl rfl rfl hdL_low.2 ⟨(Nat.le_of_ble_eq_true rfl), (Nat.le_of_ble_eq_true rfl)⟩) rfl rfl hl.1 rfl (Nat.le_of_ble_eq_true rfl) ⟨(k3 hn), (k61 hn)⟩ dL_acts_125 ?_
          refine lv_iload_n hx hb dL_acts_128 rfl (lv_at hl 6 rfl) ?_
          refine lv_iconst (v := (4 : Int32)) hx hb dL_acts_129 (by decide) ?_
          refine lv_ishr hx hb dL_acts_130 ?_
          refine lv_sipush (v := (384 : Int32)) hx hb dL_acts_131 (by decide) ?_
          obtain ⟨r_22, e_22, hf⟩ := bo hf
          refine pcallS (W0 := (wC c0 h k0 x0 d0 ++ (wS g h a1 a2 a3 a4 σ_18 ++ (wH g k0 k1 γ η_18 ++ (wV g v0 ν_18 ++ (wZ g z0 ζ_18)))))) (As := [.int (p3 >>> ((4 : Int32) &&& 31)), .int (384 : Int32)]) (rest := [.int r_21, .ref z0, .ref v0, .ref c0]) [] ⟨hx, hb, hml, hown, hts⟩ hP hE hZ hS (cL_low_ok l g  (p3 >>> ((4 : Int32) &&& 31)) (384 : Int32) e_22) (va_cwS 2 hts gL_acts_L_low rfl rfl rfl hdL_low.2 ⟨(Nat.le_of_ble_eq_true rfl), (Nat.le_of_ble_eq_true rfl)⟩) rfl rfl hl.1 rfl (Nat.le_of_ble_eq_true rfl) ⟨(k3 hn), (k61 hn)⟩ dL_acts_134 ?_
          obtain ⟨h_23, hf⟩ := ck hf
          obtain ⟨r_23, e_23, hf⟩ := bo hf
          refine mcallSi (W0 := (wC c0 h k0 x0 d0 ++ (wS g h a1 a2 a3 a4 σ_18 ++ (wH g k0 k1 γ η_18 ++ (wV g v0 ν_18 ++ (wZ g z0 ζ_18)))))) (Wc := (wC c0 h k0 x0 d0 ++ (wS g h a1 a2 a3 a4 σ_18 ++ (wH g k0 k1 γ η_18 ++ (wV g v0 ν_18 ++ (wZ g z0 ζ_18)))))) (Wr := ([] : va_W)) (W1 := (wC c0 h k0 x0 d0 ++ (wS g h a1 a2 a3 a4 r_23.2.1 ++ (wH g k0 k1 γ r_23.2.2.1 ++ (wV g v0 r_23.2.2.2.1 ++ (wZ g z0 r_23.2.2.2.2)))))) (W2 := (wC c0 h k0 x0 d0 ++ (wS g h a1 a2 a3 a4 r_23.2.1 ++ (wH g k0 k1 γ r_23.2.2.1 ++ (wV g v0 r_23.2.2.2.1 ++ (wZ g z0 r_23.2.2.2.2)))))) (As := [.ref c0, .ref v0, .ref z0, .int r_21, .int r_22]) (rest := []) [0, 1, 2, 3, 4, 5, 6, 7, 8, 9, 10, 11, 12, 13, 14, 15, 16, 17, 18, 19, 20, 21, 22, 23, 24, 25, 26, 27, 28, 29, 30, 31, 32, 33, 34, 35, 36, 37, 38, 39] [] [0, 1, 2, 3, 4, 5, 6, 7, 8, 9, 10, 11, 12, 13, 14, 15, 16, 17, 18, 19, 20, 21, 22, 23, 24, 25, 26, 27, 28, 29, 30, 31, 32, 33, 34, 35, 36, 37, 38, 39] ⟨hx, hb, hml, hown, hts⟩ hP hD hE hZ hS hA (cL_begins_ok l hl0 g 2 c0 h k0 x0 d0 a1 a2 a3 a4 k1 v0 z0 γ σ_18 η_18 ν_18 ζ_18 r_21 r_22 _ e_23) (va_cwS 5 hts gL_acts_L_begins rfl rfl rfl hdL_begins.2 ⟨(Nat.le_of_ble_eq_true rfl), (Nat.le_of_ble_eq_true rfl)⟩) rfl rfl rfl (by decide) (by decide) (by decide) (by decide) rfl hl.1 rfl (Nat.le_of_ble_eq_true rfl) ⟨(kc3 h_23), (kc61 h_23)⟩ dL_acts_137 (fun H locs hP hD hS => ?_)
          refine W.widen (k := 3 * (n_18 + 2)) (n := 61 * (n_18 + 2)) (by omega) (by omega) ?_
          have ho := Option.some.inj hf
          subst ho
          refine W.widen (k := 3 * cap) (n := 61 * cap) (k3 h_23) (k61 h_23) ?_
          exact m_zret (v := r_23.1) hx hb hr hlocks hP hD hS rfl dL_acts_140
        · have hf := iq s_20 hf
          by_cases s_24 : r_16 = (4 : Int32)
          · have hf := ip s_24 hf
            refine lv_tableIn (off := 84) (tgt := 141) hx hb dL_acts_57 (by rw [s_24]; decide) (by rw [s_24]; decide) (by rw [s_24]; rfl) (by decide) ?_
            refine lv_aload_n hx hb dL_acts_141 rfl (lv_at hl 4 rfl) ?_
            refine lv_aload_n hx hb dL_acts_142 rfl (lv_at hl 5 rfl) ?_
            refine lv_iload hx hb dL_acts_143 (lv_at hl 2 rfl) ?_
            obtain ⟨r_25, e_25, hf⟩ := bo hf
            refine mcallSv (W0 := (wC c0 h k0 x0 d0 ++ (wS g h a1 a2 a3 a4 σ_18 ++ (wH g k0 k1 γ η_18 ++ (wV g v0 ν_18 ++ (wZ g z0 ζ_18)))))) (Wc := (wV g v0 ν_18 ++ (wZ g z0 ζ_18))) (Wr := (wC c0 h k0 x0 d0 ++ (wS g h a1 a2 a3 a4 σ_18 ++ (wH g k0 k1 γ η_18)))) (W1 := (wV g v0 r_25.1 ++ (wZ g z0 r_25.2))) (W2 := (wC c0 h k0 x0 d0 ++ (wS g h a1 a2 a3 a4 σ_18 ++ (wH g k0 k1 γ η_18 ++ (wV g v0 r_25.1 ++ (wZ g z0 r_25.2)))))) (As := [.ref v0, .ref z0, .int r_15]) (rest := []) [38, 39] [0, 1, 2, 3, 4, 5, 6, 7, 8, 9, 10, 11, 12, 13, 14, 15, 16, 17, 18, 19, 20, 21, 22, 23, 24, 25, 26, 27, 28, 29, 30, 31, 32, 33, 34, 35, 36, 37] [0, 1, 2, 3, 4, 5, 6, 7, 8, 9, 10, 11, 12, 13, 14, 15, 16, 17, 18, 19, 20, 21, 22, 23, 24, 25, 26, 27, 28, 29, 30, 31, 32, 33, 34, 35, 36, 37, 38, 39] ⟨hx, hb, hml, hown, hts⟩ hP hD hE hZ hS hA (cL_wipes_ok l g  v0 z0 ν_18 ζ_18 r_15 _ e_25) (va_cwS 3 hts gL_acts_L_wipes rfl rfl rfl hdL_wipes.2 ⟨(Nat.le_of_ble_eq_true rfl), (Nat.le_of_ble_eq_true rfl)⟩) rfl rfl rfl (by decide) (by decide) (by decide) (by decide) rfl hl.1 rfl (Nat.le_of_ble_eq_true rfl) ⟨(k3 hn), (k61 hn)⟩ dL_acts_145 (fun H locs hP hD hS => ?_)
            refine W.cs (cells' := 3 * n_18) (slots' := 61 * n_18) (Nat.add_zero _) (Nat.add_zero _) ?_
            refine lv_aload_n hx hb dL_acts_148 rfl (lv_at hl 3 rfl) ?_
            refine lv_iload hx hb dL_acts_149 (lv_at hl 2 rfl) ?_
            obtain ⟨r_26, e_26, hf⟩ := xov hf
            refine mcallVi (W0 := (wC c0 h k0 x0 d0 ++ (wS g h a1 a2 a3 a4 σ_18 ++ (wH g k0 k1 γ η_18 ++ (wV g v0 r_25.1 ++ (wZ g z0 r_25.2)))))) (Wc := (wC c0 h k0 x0 d0 ++ (wS g h a1 a2 a3 a4 σ_18 ++ (wH g k0 k1 γ η_18)))) (Wr := (wV g v0 r_25.1 ++ (wZ g z0 r_25.2))) (W1 := (wC c0 h k0 x0 d0 ++ (wS g h a1 a2 a3 a4 r_26.2.1 ++ (wH g k0 k1 γ r_26.2.2)))) (W2 := (wC c0 h k0 x0 d0 ++ (wS g h a1 a2 a3 a4 r_26.2.1 ++ (wH g k0 k1 γ r_26.2.2 ++ (wV g v0 r_25.1 ++ (wZ g z0 r_25.2)))))) (As := [.int r_15]) (rest := []) [0, 1, 2, 3, 4, 5, 6, 7, 8, 9, 10, 11, 12, 13, 14, 15, 16, 17, 18, 19, 20, 21, 22, 23, 24, 25, 26, 27, 28, 29, 30, 31, 32, 33, 34, 35, 36, 37] [38, 39] [2, 3, 4, 5, 6, 7, 8, 9, 10, 11, 12, 13, 14, 15, 16, 17, 18, 19, 20, 21, 22, 23, 24, 25, 26, 27, 28, 29, 30, 31, 32, 33, 34, 35, 36, 37, 38, 39, 0, 1] 4 0 ⟨hx, hb, hml, hown, hts⟩ hP hD hE hZ hS hA (cX6_wipe_k_ok l g  c0 h k0 x0 d0 a1 a2 a3 a4 k1 γ σ_18 η_18 r_15 _ e_26) (cwV 1 hts gL_acts_X6_wipe rfl rfl rfl hdX6_wipe ⟨(Nat.le_of_ble_eq_true rfl), (Nat.le_of_ble_eq_true rfl)⟩) rfl rfl rfl (by decide) (by decide) (by decide) (by decide) rfl rfl rfl rfl hl.1 rfl (Nat.le_of_ble_eq_true rfl) ⟨(k3 hn), (k61 hn)⟩ dL_acts_151 (fun H locs hP hD hS => ?_)
            refine W.cs (cells' := 3 * n_18) (slots' := 61 * n_18) (Nat.add_zero _) (Nat.add_zero _) ?_
            refine lv_aload_n hx hb dL_acts_154 rfl (lv_at hl 4 rfl) ?_
            refine lv_bipush (v := (32 : Int32)) hx hb dL_acts_155 (by decide) ?_
            refine va_iald hx hb hE.1 hP 38 0 rfl rfl (vin (by decide)) dL_acts_157 ?_
            refine lv_icmp_ne (tgt := 165) hx hb dL_acts_158 (by decide) (fun c_27 => ?_) (fun c_27 => ?_)
            · have hf := iq c_27 hf
              refine lv_iconst (v := (0 : Int32)) hx hb dL_acts_165 (by decide) ?_
              have ho := Option.some.inj hf
              subst ho
              refine W.widen (k := 3 * cap) (n := 61 * cap) (k3 hn) (k61 hn) ?_
              exact m_zret (v := false) hx hb hr hlocks hP hD hS rfl dL_acts_166
            · have hf := ip c_27 hf
              refine lv_iconst (v := (1 : Int32)) hx hb dL_acts_161 (by decide) ?_
              refine lv_goto (tgt := 166) hx hb dL_acts_162 (by decide) ?_
              have ho := Option.some.inj hf
              subst ho
              refine W.widen (k := 3 * cap) (n := 61 * cap) (k3 hn) (k61 hn) ?_
              exact m_zret (v := true) hx hb hr hlocks hP hD hS rfl dL_acts_166
          · have hf := iq s_24 hf
            by_cases s_28 : r_16 = (5 : Int32)
            · have hf := ip s_28 hf
              refine lv_tableIn (off := 110) (tgt := 167) hx hb dL_acts_57 (by rw [s_28]; decide) (by rw [s_28]; decide) (by rw [s_28]; rfl) (by decide) ?_
              refine lv_aload_n hx hb dL_acts_167 rfl (lv_at hl 4 rfl) ?_
              refine lv_iconst (v := (4 : Int32)) hx hb dL_acts_168 (by decide) ?_
              refine lv_iload hx hb dL_acts_169 (lv_at hl 2 rfl) ?_
              refine lv_imul hx hb dL_acts_171 ?_
              obtain ⟨h_29, hf⟩ := ck hf
              refine va_iald hx hb hE.1 hP 38 0 rfl rfl (vin h_29) dL_acts_172 ?_
              refine lv_istore (lv' := [(5, .int (ν_18 (Int32.toNatClampNeg ((4 : Int32) * r_15)))), (6, .int r_16), (4, .int r_15), (0, .ref c0), (1, .ref v0), (2, .ref z0), (3, .int p3)]) hx hb dL_acts_173 hl (by decide) rfl (fun ls hl => ?_)
              refine lv_aload_n hx hb dL_acts_175 rfl (lv_at hl 4 rfl) ?_
              refine lv_iconst (v := (4 : Int32)) hx hb dL_acts_176 (by decide) ?_
              refine lv_iload hx hb dL_acts_177 (lv_at hl 2 rfl) ?_
              refine lv_imul hx hb dL_acts_179 ?_
              refine lv_iload_n hx hb dL_acts_180 rfl (lv_at hl 6 rfl) ?_
              refine lv_bipush (v := (7 : Int32)) hx hb dL_acts_181 (by decide) ?_
              refine lv_ishr hx hb dL_acts_183 ?_
              refine lv_iload_n hx hb dL_acts_184 rfl (lv_at hl 6 rfl) ?_
              refine lv_bipush (v := (9 : Int32)) hx hb dL_acts_185 (by decide) ?_
              refine lv_ishr hx hb dL_acts_187 ?_
              refine lv_iconst (v := (2 : Int32)) hx hb dL_acts_188 (by decide) ?_
              obtain ⟨r_30, e_30, hf⟩ := bo hf
              refine pcallS (W0 := (wC c0 h k0 x0 d0 ++ (wS g h a1 a2 a3 a4 σ_18 ++ (wH g k0 k1 γ η_18 ++ (wV g v0 ν_18 ++ (wZ g z0 ζ_18)))))) (As := [.int (p3 >>> ((9 : Int32) &&& 31)), .int (2 : Int32)]) (rest := [.int (p3 >>> ((7 : Int32) &&& 31)), .int ((4 : Int32) * r_15), .ref v0]) [] ⟨hx, hb, hml, hown, hts⟩ hP hE hZ hS (cL_low_ok l g  (p3 >>> ((9 : Int32) &&& 31)) (2 : Int32) e_30) (va_cwS 2 hts gL_acts_L_low rfl rfl rfl hdL_low.2 ⟨(Nat.le_of_ble_eq_true rfl), (Nat.le_of_ble_eq_true rfl)⟩) rfl rfl hl.1 rfl (Nat.le_of_ble_eq_true rfl) ⟨(k3 hn), (k61 hn)⟩ dL_acts_189 ?_
              refine lv_if_ne (tgt := 200) hx hb dL_acts_192 (by decide) (fun c_31 => ?_) (fun c_31 => ?_)
              · have hf := iq c_31 hf
                refine lv_bipush (v := (12 : Int32)) hx hb dL_acts_200 (by decide) ?_
                exact hB202 r_15 (ν_18 (Int32.toNatClampNeg ((4 : Int32) * r_15))) ((4 : Int32) * r_15) (p3 >>> ((7 : Int32) &&& 31)) (12 : Int32) σ_18 η_18 ν_18 ζ_18 n_18 _ _ hn ls hP hD hS (lv_sub hl [3, 4, 2, 0] rfl) hf
              · have hf := ip c_31 hf
                refine lv_bipush (v := (100 : Int32)) hx hb dL_acts_195 (by decide) ?_
                refine lv_goto (tgt := 202) hx hb dL_acts_197 (by decide) ?_
                exact hB202 r_15 (ν_18 (Int32.toNatClampNeg ((4 : Int32) * r_15))) ((4 : Int32) * r_15) (p3 >>> ((7 : Int32) &&& 31)) (100 : Int32) σ_18 η_18 ν_18 ζ_18 n_18 _ _ hn ls hP hD hS (lv_sub hl [3, 4, 2, 0] rfl) hf
            · have hf := iq s_28 hf
              by_cases s_32 : r_16 = (6 : Int32)
              · have hf := ip s_32 hf
                refine lv_tableIn (off := 181) (tgt := 238) hx hb dL_acts_57 (by rw [s_32]; decide) (by rw [s_32]; decide) (by rw [s_32]; rfl) (by decide) ?_
                refine lv_aload_n hx hb dL_acts_238 rfl (lv_at hl 4 rfl) ?_
                refine lv_bipush (v := (33 : Int32)) hx hb dL_acts_239 (by decide) ?_
                refine va_iald hx hb hE.1 hP 38 0 rfl rfl (vin (by decide)) dL_acts_241 ?_
                refine lv_istore (lv' := [(5, .int (ν_18 (Int32.toNatClampNeg (33 : Int32)))), (6, .int r_16), (4, .int r_15), (0, .ref c0), (1, .ref v0), (2, .ref z0), (3, .int p3)]) hx hb dL_acts_242 hl (by decide) rfl (fun ls hl => ?_)
                refine lv_aload_n hx hb dL_acts_244 rfl (lv_at hl 4 rfl) ?_
                refine lv_bipush (v := (33 : Int32)) hx hb dL_acts_245 (by decide) ?_
                refine lv_iconst (v := (1 : Int32)) hx hb dL_acts_247 (by decide) ?_
                refine lv_iload_n hx hb dL_acts_248 rfl (lv_at hl 6 rfl) ?_
                refine lv_bipush (v := (7 : Int32)) hx hb dL_acts_249 (by decide) ?_
                refine lv_ishr hx hb dL_acts_251 ?_
                refine lv_bipush (v := (6 : Int32)) hx hb dL_acts_252 (by decide) ?_
                obtain ⟨r_33, e_33, hf⟩ := bo hf
                refine pcallS (W0 := (wC c0 h k0 x0 d0 ++ (wS g h a1 a2 a3 a4 σ_18 ++ (wH g k0 k1 γ η_18 ++ (wV g v0 ν_18 ++ (wZ g z0 ζ_18)))))) (As := [.int (p3 >>> ((7 : Int32) &&& 31)), .int (6 : Int32)]) (rest := [.int (1 : Int32), .int (33 : Int32), .ref v0]) [] ⟨hx, hb, hml, hown, hts⟩ hP hE hZ hS (cL_low_ok l g  (p3 >>> ((7 : Int32) &&& 31)) (6 : Int32) e_33) (va_cwS 2 hts gL_acts_L_low rfl rfl rfl hdL_low.2 ⟨(Nat.le_of_ble_eq_true rfl), (Nat.le_of_ble_eq_true rfl)⟩) rfl rfl hl.1 rfl (Nat.le_of_ble_eq_true rfl) ⟨(k3 hn), (k61 hn)⟩ dL_acts_254 ?_
                refine lv_iadd hx hb dL_acts_257 ?_
                refine va_iast hx hb hE.1 hP hD hS 38 0 rfl rfl (vin (by decide)) dL_acts_258 (fun H locs hP hD hS => ?_)
                have hP : va_P g.1 vwCl (wC c0 h k0 x0 d0 ++ (wS g h a1 a2 a3 a4 σ_18 ++ (wH g k0 k1 γ η_18 ++ (wV g v0 (upd ν_18 (Int32.toNatClampNeg (33 : Int32)) ((1 : Int32) + r_33)) ++ (wZ g z0 ζ_18))))) H := hP
                have hD : va_D A (wC c0 h k0 x0 d0 ++ (wS g h a1 a2 a3 a4 σ_18 ++ (wH g k0 k1 γ η_18 ++ (wV g v0 (upd ν_18 (Int32.toNatClampNeg (33 : Int32)) ((1 : Int32) + r_33)) ++ (wZ g z0 ζ_18))))) := hD
                refine lv_aload_n hx hb dL_acts_259 rfl (lv_at hl 3 rfl) ?_
                refine lv_aload_n hx hb dL_acts_260 rfl (lv_at hl 4 rfl) ?_
                refine lv_bipush (v := (33 : Int32)) hx hb dL_acts_261 (by decide) ?_
                refine va_iald hx hb hE.1 hP 38 0 rfl rfl (vin (by decide)) dL_acts_263 ?_
                obtain ⟨r_34, e_34, hf⟩ := xov hf
                refine mcallVi (W0 := (wC c0 h k0 x0 d0 ++ (wS g h a1 a2 a3 a4 σ_18 ++ (wH g k0 k1 γ η_18 ++ (wV g v0 (upd ν_18 (Int32.toNatClampNeg (33 : Int32)) ((1 : Int32) + r_33)) ++ (wZ g z0 ζ_18)))))) (Wc := (wC c0 h k0 x0 d0 ++ (wS g h a1 a2 a3 a4 σ_18 ++ (wH g k0 k1 γ η_18)))) (Wr := (wV g v0 (upd ν_18 (Int32.toNatClampNeg (33 : Int32)) ((1 : Int32) + r_33)) ++ (wZ g z0 ζ_18))) (W1 := (wC c0 h k0 x0 d0 ++ (wS g h a1 a2 a3 a4 r_34.2.1 ++ (wH g k0 k1 γ r_34.2.2)))) (W2 := (wC c0 h k0 x0 d0 ++ (wS g h a1 a2 a3 a4 r_34.2.1 ++ (wH g k0 k1 γ r_34.2.2 ++ (wV g v0 (upd ν_18 (Int32.toNatClampNeg (33 : Int32)) ((1 : Int32) + r_33)) ++ (wZ g z0 ζ_18)))))) (As := [.int ((upd ν_18 (Int32.toNatClampNeg (33 : Int32)) ((1 : Int32) + r_33)) (Int32.toNatClampNeg (33 : Int32)))]) (rest := []) [0, 1, 2, 3, 4, 5, 6, 7, 8, 9, 10, 11, 12, 13, 14, 15, 16, 17, 18, 19, 20, 21, 22, 23, 24, 25, 26, 27, 28, 29, 30, 31, 32, 33, 34, 35, 36, 37] [38, 39] [2, 3, 4, 5, 6, 7, 8, 9, 10, 11, 12, 13, 14, 15, 16, 17, 18, 19, 20, 21, 22, 23, 24, 25, 26, 27, 28, 29, 30, 31, 32, 33, 34, 35, 36, 37, 38, 39, 0, 1] 4 0 ⟨hx, hb, hml, hown, hts⟩ hP hD hE hZ hS hA (cX6_setGap_k_ok l g  c0 h k0 x0 d0 a1 a2 a3 a4 k1 γ σ_18 η_18 ((upd ν_18 (Int32.toNatClampNeg (33 : Int32)) ((1 : Int32) + r_33)) (Int32.toNatClampNeg (33 : Int32))) _ e_34) (cwV 1 hts gL_acts_X6_setGap rfl rfl rfl hdX6_setGap ⟨(Nat.le_of_ble_eq_true rfl), (Nat.le_of_ble_eq_true rfl)⟩) rfl rfl rfl (by decide) (by decide) (by decide) (by decide) rfl rfl rfl rfl hl.1 rfl (Nat.le_of_ble_eq_true rfl) ⟨(k3 hn), (k61 hn)⟩ dL_acts_264 (fun H locs hP hD hS => ?_)
                refine W.cs (cells' := 3 * n_18) (slots' := 61 * n_18) (Nat.add_zero _) (Nat.add_zero _) ?_
                refine lv_iload hx hb dL_acts_267 (lv_at hl 0 rfl) ?_
                refine lv_icmp_ne (tgt := 276) hx hb dL_acts_269 (by decide) (fun c_35 => ?_) (fun c_35 => ?_)
                · have hf := iq c_35 hf
                  refine lv_iconst (v := (0 : Int32)) hx hb dL_acts_276 (by decide) ?_
                  have ho := Option.some.inj hf
                  subst ho
                  refine W.widen (k := 3 * cap) (n := 61 * cap) (k3 hn) (k61 hn) ?_
                  exact m_zret (v := false) hx hb hr hlocks hP hD hS rfl dL_acts_277
                · have hf := ip c_35 hf
                  refine lv_iconst (v := (1 : Int32)) hx hb dL_acts_272 (by decide) ?_
                  refine lv_goto (tgt := 277) hx hb dL_acts_273 (by decide) ?_
                  have ho := Option.some.inj hf
                  subst ho
                  refine W.widen (k := 3 * cap) (n := 61 * cap) (k3 hn) (k61 hn) ?_
                  exact m_zret (v := true) hx hb hr hlocks hP hD hS rfl dL_acts_277
              · have hf := iq s_32 hf
                by_cases s_36 : r_16 = (7 : Int32)
                · have hf := ip s_36 hf
                  refine lv_tableIn (off := 221) (tgt := 278) hx hb dL_acts_57 (by rw [s_36]; decide) (by rw [s_36]; decide) (by rw [s_36]; rfl) (by decide) ?_
                  refine lv_aload_n hx hb dL_acts_278 rfl (lv_at hl 3 rfl) ?_
                  refine lv_aload_n hx hb dL_acts_279 rfl (lv_at hl 4 rfl) ?_
                  refine lv_aload_n hx hb dL_acts_280 rfl (lv_at hl 5 rfl) ?_
                  obtain ⟨h_37, hf⟩ := ck hf
                  obtain ⟨r_37, e_37, hf⟩ := bo hf
                  refine mcallSi (W0 := (wC c0 h k0 x0 d0 ++ (wS g h a1 a2 a3 a4 σ_18 ++ (wH g k0 k1 γ η_18 ++ (wV g v0 ν_18 ++ (wZ g z0 ζ_18)))))) (Wc := (wC c0 h k0 x0 d0 ++ (wS g h a1 a2 a3 a4 σ_18 ++ (wH g k0 k1 γ η_18 ++ (wV g v0 ν_18 ++ (wZ g z0 ζ_18)))))) (Wr := ([] : va_W)) (W1 := (wC c0 h k0 x0 d0 ++ (wS g h a1 a2 a3 a4 r_37.2.1 ++ (wH g k0 k1 γ r_37.2.2.1 ++ (wV g v0 r_37.2.2.2 ++ (wZ g z0 ζ_18)))))) (W2 := (wC c0 h k0 x0 d0 ++ (wS g h a1 a2 a3 a4 r_37.2.1 ++ (wH g k0 k1 γ r_37.2.2.1 ++ (wV g v0 r_37.2.2.2 ++ (wZ g z0 ζ_18)))))) (As := [.ref c0, .ref v0, .ref z0]) (rest := []) [0, 1, 2, 3, 4, 5, 6, 7, 8, 9, 10, 11, 12, 13, 14, 15, 16, 17, 18, 19, 20, 21, 22, 23, 24, 25, 26, 27, 28, 29, 30, 31, 32, 33, 34, 35, 36, 37, 38, 39] [] [0, 1, 2, 3, 4, 5, 6, 7, 8, 9, 10, 11, 12, 13, 14, 15, 16, 17, 18, 19, 20, 21, 22, 23, 24, 25, 26, 27, 28, 29, 30, 31, 32, 33, 34, 35, 36, 37, 38, 39] ⟨hx, hb, hml, hown, hts⟩ hP hD hE hZ hS hA (cL_labelsAll_ok l hl0 g (uU ν_18) c0 h k0 x0 d0 a1 a2 a3 a4 k1 v0 z0 γ σ_18 η_18 ν_18 ζ_18 _ e_37) (va_cwS 3 hts gL_acts_L_labelsAll rfl rfl rfl hdL_labelsAll.2 ⟨(Nat.le_of_ble_eq_true rfl), (Nat.le_of_ble_eq_true rfl)⟩) rfl rfl rfl (by decide) (by decide) (by decide) (by decide) rfl hl.1 rfl (Nat.le_of_ble_eq_true rfl) ⟨(kc3 h_37), (kc61 h_37)⟩ dL_acts_281 (fun H locs hP hD hS => ?_)
                  refine W.widen (k := 3 * (n_18 + (uU ν_18))) (n := 61 * (n_18 + (uU ν_18))) (by omega) (by omega) ?_
                  have ho := Option.some.inj hf
                  subst ho
                  refine W.widen (k := 3 * cap) (n := 61 * cap) (k3 h_37) (k61 h_37) ?_
                  exact m_zret (v := r_37.1) hx hb hr hlocks hP hD hS rfl dL_acts_284
                · have hf := iq s_36 hf
                  by_cases s_38 : r_16 = (8 : Int32)
                  · have hf := ip s_38 hf
                    refine lv_tableIn (off := 221) (tgt := 278) hx hb dL_acts_57 (by rw [s_38]; decide) (by rw [s_38]; decide) (by rw [s_38]; rfl) (by decide) ?_
                    refine lv_aload_n hx hb dL_acts_278 rfl (lv_at hl 3 rfl) ?_
                    refine lv_aload_n hx hb dL_acts_279 rfl (lv_at hl 4 rfl) ?_
                    refine lv_aload_n hx hb dL_acts_280 rfl (lv_at hl 5 rfl) ?_
                    obtain ⟨h_39, hf⟩ := ck hf
                    obtain ⟨r_39, e_39, hf⟩ := bo hf
                    refine mcallSi (W0 := (wC c0 h k0 x0 d0 ++ (wS g h a1 a2 a3 a4 σ_18 ++ (wH g k0 k1 γ η_18 ++ (wV g v0 ν_18 ++ (wZ g z0 ζ_18)))))) (Wc := (wC c0 h k0 x0 d0 ++ (wS g h a1 a2 a3 a4 σ_18 ++ (wH g k0 k1 γ η_18 ++ (wV g v0 ν_18 ++ (wZ g z0 ζ_18)))))) (Wr := ([] : va_W)) (W1 := (wC c0 h k0 x0 d0 ++ (wS g h a1 a2 a3 a4 r_39.2.1 ++ (wH g k0 k1 γ r_39.2.2.1 ++ (wV g v0 r_39.2.2.2 ++ (wZ g z0 ζ_18)))))) (W2 := (wC c0 h k0 x0 d0 ++ (wS g h a1 a2 a3 a4 r_39.2.1 ++ (wH g k0 k1 γ r_39.2.2.1 ++ (wV g v0 r_39.2.2.2 ++ (wZ g z0 ζ_18)))))) (As := [.ref c0, .ref v0, .ref z0]) (rest := []) [0, 1, 2, 3, 4, 5, 6, 7, 8, 9, 10, 11, 12, 13, 14, 15, 16, 17, 18, 19, 20, 21, 22, 23, 24, 25, 26, 27, 28, 29, 30, 31, 32, 33, 34, 35, 36, 37, 38, 39] [] [0, 1, 2, 3, 4, 5, 6, 7, 8, 9, 10, 11, 12, 13, 14, 15, 16, 17, 18, 19, 20, 21, 22, 23, 24, 25, 26, 27, 28, 29, 30, 31, 32, 33, 34, 35, 36, 37, 38, 39] ⟨hx, hb, hml, hown, hts⟩ hP hD hE hZ hS hA (cL_labelsAll_ok l hl0 g (uU ν_18) c0 h k0 x0 d0 a1 a2 a3 a4 k1 v0 z0 γ σ_18 η_18 ν_18 ζ_18 _ e_39) (va_cwS 3 hts gL_acts_L_labelsAll rfl rfl rfl hdL_labelsAll.2 ⟨(Nat.le_of_ble_eq_true rfl), (Nat.le_of_ble_eq_true rfl)⟩) rfl rfl rfl (by decide) (by decide) (by decide) (by decide) rfl hl.1 rfl (Nat.le_of_ble_eq_true rfl) ⟨(kc3 h_39), (kc61 h_39)⟩ dL_acts_281 (fun H locs hP hD hS => ?_)
                    refine W.widen (k := 3 * (n_18 + (uU ν_18))) (n := 61 * (n_18 + (uU ν_18))) (by omega) (by omega) ?_
                    have ho := Option.some.inj hf
                    subst ho
                    refine W.widen (k := 3 * cap) (n := 61 * cap) (k3 h_39) (k61 h_39) ?_
                    exact m_zret (v := r_39.1) hx hb hr hlocks hP hD hS rfl dL_acts_284
                  · have hf := iq s_38 hf
                    by_cases s_40 : r_16 = (9 : Int32)
                    · have hf := ip s_40 hf
                      refine lv_tableIn (off := 228) (tgt := 285) hx hb dL_acts_57 (by rw [s_40]; decide) (by rw [s_40]; decide) (by rw [s_40]; rfl) (by decide) ?_
                      refine lv_aload_n hx hb dL_acts_285 rfl (lv_at hl 3 rfl) ?_
                      refine lv_aload_n hx hb dL_acts_286 rfl (lv_at hl 4 rfl) ?_
                      refine lv_aload_n hx hb dL_acts_287 rfl (lv_at hl 5 rfl) ?_
                      refine lv_iload hx hb dL_acts_288 (lv_at hl 2 rfl) ?_
                      refine lv_iload hx hb dL_acts_290 (lv_at hl 0 rfl) ?_
                      refine lv_bipush (v := (9 : Int32)) hx hb dL_acts_292 (by decide) ?_
                      refine lv_isub hx hb dL_acts_294 ?_
                      refine lv_iload_n hx hb dL_acts_295 rfl (lv_at hl 6 rfl) ?_
                      refine lv_iconst (v := (3 : Int32)) hx hb dL_acts_296 (by decide) ?_
                      refine lv_ishr hx hb dL_acts_297 ?_
                      obtain ⟨h_41, hf⟩ := ck hf
                      obtain ⟨r_41, e_41, hf⟩ := bo hf
                      refine mcallSi (W0 := (wC c0 h k0 x0 d0 ++ (wS g h a1 a2 a3 a4 σ_18 ++ (wH g k0 k1 γ η_18 ++ (wV g v0 ν_18 ++ (wZ g z0 ζ_18)))))) (Wc := (wC c0 h k0 x0 d0 ++ (wS g h a1 a2 a3 a4 σ_18 ++ (wH g k0 k1 γ η_18 ++ (wV g v0 ν_18 ++ (wZ g z0 ζ_18)))))) (Wr := ([] : va_W)) (W1 := (wC c0 h k0 x0 d0 ++ (wS g h a1 a2 a3 a4 r_41.2.1 ++ (wH g k0 k1 γ r_41.2.2.1 ++ (wV g v0 r_41.2.2.2 ++ (wZ g z0 ζ_18)))))) (W2 := (wC c0 h k0 x0 d0 ++ (wS g h a1 a2 a3 a4 r_41.2.1 ++ (wH g k0 k1 γ r_41.2.2.1 ++ (wV g v0 r_41.2.2.2 ++ (wZ g z0 ζ_18)))))) (As := [.ref c0, .ref v0, .ref z0, .int r_15, .int (r_16 - (9 : Int32)), .int (p3 >>> ((3 : Int32) &&& 31))]) (rest := []) [0, 1, 2, 3, 4, 5, 6, 7, 8, 9, 10, 11, 12, 13, 14, 15, 16, 17, 18, 19, 20, 21, 22, 23, 24, 25, 26, 27, 28, 29, 30, 31, 32, 33, 34, 35, 36, 37, 38, 39] [] [0, 1, 2, 3, 4, 5, 6, 7, 8, 9, 10, 11, 12, 13, 14, 15, 16, 17, 18, 19, 20, 21, 22, 23, 24, 25, 26, 27, 28, 29, 30, 31, 32, 33, 34, 35, 36, 37, 38, 39] ⟨hx, hb, hml, hown, hts⟩ hP hD hE hZ hS hA (cL_labels_ok l hl0 g (uL ν_18 r_15) c0 h k0 x0 d0 a1 a2 a3 a4 k1 v0 z0 γ σ_18 η_18 ν_18 ζ_18 r_15 (r_16 - (9 : Int32)) (p3 >>> ((3 : Int32) &&& 31)) _ e_41) (va_cwS 6 hts gL_acts_L_labels rfl rfl rfl hdL_labels.2 ⟨(Nat.le_of_ble_eq_true rfl), (Nat.le_of_ble_eq_true rfl)⟩) rfl rfl rfl (by decide) (by decide) (by decide) (by decide) rfl hl.1 rfl (Nat.le_of_ble_eq_true rfl) ⟨(kc3 h_41), (kc61 h_41)⟩ dL_acts_298 (fun H locs hP hD hS => ?_)
                      refine W.widen (k := 3 * (n_18 + (uL ν_18 r_15))) (n := 61 * (n_18 + (uL ν_18 r_15))) (by omega) (by omega) ?_
                      have ho := Option.some.inj hf
                      subst ho
                      refine W.widen (k := 3 * cap) (n := 61 * cap) (k3 h_41) (k61 h_41) ?_
                      exact m_zret (v := r_41.1) hx hb hr hlocks hP hD hS rfl dL_acts_301
                    · have hf := iq s_40 hf
                      by_cases s_42 : r_16 = (10 : Int32)
                      · have hf := ip s_42 hf
                        refine lv_tableIn (off := 228) (tgt := 285) hx hb dL_acts_57 (by rw [s_42]; decide) (by rw [s_42]; decide) (by rw [s_42]; rfl) (by decide) ?_
                        refine lv_aload_n hx hb dL_acts_285 rfl (lv_at hl 3 rfl) ?_
                        refine lv_aload_n hx hb dL_acts_286 rfl (lv_at hl 4 rfl) ?_
                        refine lv_aload_n hx hb dL_acts_287 rfl (lv_at hl 5 rfl) ?_
                        refine lv_iload hx hb dL_acts_288 (lv_at hl 2 rfl) ?_
                        refine lv_iload hx hb dL_acts_290 (lv_at hl 0 rfl) ?_
                        refine lv_bipush (v := (9 : Int32)) hx hb dL_acts_292 (by decide) ?_
                        refine lv_isub hx hb dL_acts_294 ?_
                        refine lv_iload_n hx hb dL_acts_295 rfl (lv_at hl 6 rfl) ?_
                        refine lv_iconst (v := (3 : Int32)) hx hb dL_acts_296 (by decide) ?_
                        refine lv_ishr hx hb dL_acts_297 ?_
                        obtain ⟨h_43, hf⟩ := ck hf
                        obtain ⟨r_43, e_43, hf⟩ := bo hf
                        refine mcallSi (W0 := (wC c0 h k0 x0 d0 ++ (wS g h a1 a2 a3 a4 σ_18 ++ (wH g k0 k1 γ η_18 ++ (wV g v0 ν_18 ++ (wZ g z0 ζ_18)))))) (Wc := (wC c0 h k0 x0 d0 ++ (wS g h a1 a2 a3 a4 σ_18 ++ (wH g k0 k1 γ η_18 ++ (wV g v0 ν_18 ++ (wZ g z0 ζ_18)))))) (Wr := ([] : va_W)) (W1 := (wC c0 h k0 x0 d0 ++ (wS g h a1 a2 a3 a4 r_43.2.1 ++ (wH g k0 k1 γ r_43.2.2.1 ++ (wV g v0 r_43.2.2.2 ++ (wZ g z0 ζ_18)))))) (W2 := (wC c0 h k0 x0 d0 ++ (wS g h a1 a2 a3 a4 r_43.2.1 ++ (wH g k0 k1 γ r_43.2.2.1 ++ (wV g v0 r_43.2.2.2 ++ (wZ g z0 ζ_18)))))) (As := [.ref c0, .ref v0, .ref z0, .int r_15, .int (r_16 - (9 : Int32)), .int (p3 >>> ((3 : Int32) &&& 31))]) (rest := []) [0, 1, 2, 3, 4, 5, 6, 7, 8, 9, 10, 11, 12, 13, 14, 15, 16, 17, 18, 19, 20, 21, 22, 23, 24, 25, 26, 27, 28, 29, 30, 31, 32, 33, 34, 35, 36, 37, 38, 39] [] [0, 1, 2, 3, 4, 5, 6, 7, 8, 9, 10, 11, 12, 13, 14, 15, 16, 17, 18, 19, 20, 21, 22, 23, 24, 25, 26, 27, 28, 29, 30, 31, 32, 33, 34, 35, 36, 37, 38, 39] ⟨hx, hb, hml, hown, hts⟩ hP hD hE hZ hS hA (cL_labels_ok l hl0 g (uL ν_18 r_15) c0 h k0 x0 d0 a1 a2 a3 a4 k1 v0 z0 γ σ_18 η_18 ν_18 ζ_18 r_15 (r_16 - (9 : Int32)) (p3 >>> ((3 : Int32) &&& 31)) _ e_43) (va_cwS 6 hts gL_acts_L_labels rfl rfl rfl hdL_labels.2 ⟨(Nat.le_of_ble_eq_true rfl), (Nat.le_of_ble_eq_true rfl)⟩) rfl rfl rfl (by decide) (by decide) (by decide) (by decide) rfl hl.1 rfl (Nat.le_of_ble_eq_true rfl) ⟨(kc3 h_43), (kc61 h_43)⟩ dL_acts_298 (fun H locs hP hD hS => ?_)
                        refine W.widen (k := 3 * (n_18 + (uL ν_18 r_15))) (n := 61 * (n_18 + (uL ν_18 r_15))) (by omega) (by omega) ?_
                        have ho := Option.some.inj hf
                        subst ho
                        refine W.widen (k := 3 * cap) (n := 61 * cap) (k3 h_43) (k61 h_43) ?_
                        exact m_zret (v := r_43.1) hx hb hr hlocks hP hD hS rfl dL_acts_301
                      · have hf := iq s_42 hf
                        by_cases s_44 : r_16 = (11 : Int32)
                        · have hf := ip s_44 hf
                          refine lv_tableIn (off := 228) (tgt := 285) hx hb dL_acts_57 (by rw [s_44]; decide) (by rw [s_44]; decide) (by rw [s_44]; rfl) (by decide) ?_
                          refine lv_aload_n hx hb dL_acts_285 rfl (lv_at hl 3 rfl) ?_
                          refine lv_aload_n hx hb dL_acts_286 rfl (lv_at hl 4 rfl) ?_
                          refine lv_aload_n hx hb dL_acts_287 rfl (lv_at hl 5 rfl) ?_
                          refine lv_iload hx hb dL_acts_288 (lv_at hl 2 rfl) ?_
                          refine lv_iload hx hb dL_acts_290 (lv_at hl 0 rfl) ?_
                          refine lv_bipush (v := (9 : Int32)) hx hb dL_acts_292 (by decide) ?_
                          refine lv_isub hx hb dL_acts_294 ?_
                          refine lv_iload_n hx hb dL_acts_295 rfl (lv_at hl 6 rfl) ?_
                          refine lv_iconst (v := (3 : Int32)) hx hb dL_acts_296 (by decide) ?_
                          refine lv_ishr hx hb dL_acts_297 ?_
                          obtain ⟨h_45, hf⟩ := ck hf
                          obtain ⟨r_45, e_45, hf⟩ := bo hf
                          refine mcallSi (W0 := (wC c0 h k0 x0 d0 ++ (wS g h a1 a2 a3 a4 σ_18 ++ (wH g k0 k1 γ η_18 ++ (wV g v0 ν_18 ++ (wZ g z0 ζ_18)))))) (Wc := (wC c0 h k0 x0 d0 ++ (wS g h a1 a2 a3 a4 σ_18 ++ (wH g k0 k1 γ η_18 ++ (wV g v0 ν_18 ++ (wZ g z0 ζ_18)))))) (Wr := ([] : va_W)) (W1 := (wC c0 h k0 x0 d0 ++ (wS g h a1 a2 a3 a4 r_45.2.1 ++ (wH g k0 k1 γ r_45.2.2.1 ++ (wV g v0 r_45.2.2.2 ++ (wZ g z0 ζ_18)))))) (W2 := (wC c0 h k0 x0 d0 ++ (wS g h a1 a2 a3 a4 r_45.2.1 ++ (wH g k0 k1 γ r_45.2.2.1 ++ (wV g v0 r_45.2.2.2 ++ (wZ g z0 ζ_18)))))) (As := [.ref c0, .ref v0, .ref z0, .int r_15, .int (r_16 - (9 : Int32)), .int (p3 >>> ((3 : Int32) &&& 31))]) (rest := []) [0, 1, 2, 3, 4, 5, 6, 7, 8, 9, 10, 11, 12, 13, 14, 15, 16, 17, 18, 19, 20, 21, 22, 23, 24, 25, 26, 27, 28, 29, 30, 31, 32, 33, 34, 35, 36, 37, 38, 39] [] [0, 1, 2, 3, 4, 5, 6, 7, 8, 9, 10, 11, 12, 13, 14, 15, 16, 17, 18, 19, 20, 21, 22, 23, 24, 25, 26, 27, 28, 29, 30, 31, 32, 33, 34, 35, 36, 37, 38, 39] ⟨hx, hb, hml, hown, hts⟩ hP hD hE hZ hS hA (cL_labels_ok l hl0 g (uL ν_18 r_15) c0 h k0 x0 d0 a1 a2 a3 a4 k1 v0 z0 γ σ_18 η_18 ν_18 ζ_18 r_15 (r_16 - (9 : Int32)) (p3 >>> ((3 : Int32) &&& 31)) _ e_45) (va_cwS 6 hts gL_acts_L_labels rfl rfl rfl hdL_labels.2 ⟨(Nat.le_of_ble_eq_true rfl), (Nat.le_of_ble_eq_true rfl)⟩) rfl rfl rfl (by decide) (by decide) (by decide) (by decide) rfl hl.1 rfl (Nat.le_of_ble_eq_true rfl) ⟨(kc3 h_45), (kc61 h_45)⟩ dL_acts_298 (fun H locs hP hD hS => ?_)
                          refine W.widen (k := 3 * (n_18 + (uL ν_18 r_15))) (n := 61 * (n_18 + (uL ν_18 r_15))) (by omega) (by omega) ?_
                          have ho := Option.some.inj hf
                          subst ho
                          refine W.widen (k := 3 * cap) (n := 61 * cap) (k3 h_45) (k61 h_45) ?_
                          exact m_zret (v := r_45.1) hx hb hr hlocks hP hD hS rfl dL_acts_301
                        · have hf := iq s_44 hf
                          by_cases s_46 : r_16 = (12 : Int32)
                          · have hf := ip s_46 hf
                            refine lv_tableIn (off := 245) (tgt := 302) hx hb dL_acts_57 (by rw [s_46]; decide) (by rw [s_46]; decide) (by rw [s_46]; rfl) (by decide) ?_
                            refine lv_aload_n hx hb dL_acts_302 rfl (lv_at hl 3 rfl) ?_
                            refine lv_aload_n hx hb dL_acts_303 rfl (lv_at hl 4 rfl) ?_
                            refine lv_aload_n hx hb dL_acts_304 rfl (lv_at hl 5 rfl) ?_
                            refine lv_iload hx hb dL_acts_305 (lv_at hl 2 rfl) ?_
                            refine lv_iconst (v := (2 : Int32)) hx hb dL_acts_307 (by decide) ?_
                            refine lv_iload_n hx hb dL_acts_308 rfl (lv_at hl 6 rfl) ?_
                            refine lv_iconst (v := (3 : Int32)) hx hb dL_acts_309 (by decide) ?_
                            refine lv_ishr hx hb dL_acts_310 ?_
                            obtain ⟨h_47, hf⟩ := ck hf
                            obtain ⟨r_47, e_47, hf⟩ := bo hf
                            refine mcallSi (W0 := (wC c0 h k0 x0 d0 ++ (wS g h a1 a2 a3 a4 σ_18 ++ (wH g k0 k1 γ η_18 ++ (wV g v0 ν_18 ++ (wZ g z0 ζ_18)))))) (Wc := (wC c0 h k0 x0 d0 ++ (wS g h a1 a2 a3 a4 σ_18 ++ (wH g k0 k1 γ η_18 ++ (wV g v0 ν_18 ++ (wZ g z0 ζ_18)))))) (Wr := ([] : va_W)) (W1 := (wC c0 h k0 x0 d0 ++ (wS g h a1 a2 a3 a4 r_47.2.1 ++ (wH g k0 k1 γ r_47.2.2.1 ++ (wV g v0 r_47.2.2.2 ++ (wZ g z0 ζ_18)))))) (W2 := (wC c0 h k0 x0 d0 ++ (wS g h a1 a2 a3 a4 r_47.2.1 ++ (wH g k0 k1 γ r_47.2.2.1 ++ (wV g v0 r_47.2.2.2 ++ (wZ g z0 ζ_18)))))) (As := [.ref c0, .ref v0, .ref z0, .int r_15, .int (2 : Int32), .int (p3 >>> ((3 : Int32) &&& 31))]) (rest := []) [0, 1, 2, 3, 4, 5, 6, 7, 8, 9, 10, 11, 12, 13, 14, 15, 16, 17, 18, 19, 20, 21, 22, 23, 24, 25, 26, 27, 28, 29, 30, 31, 32, 33, 34, 35, 36, 37, 38, 39] [] [0, 1, 2, 3, 4, 5, 6, 7, 8, 9, 10, 11, 12, 13, 14, 15, 16, 17, 18, 19, 20, 21, 22, 23, 24, 25, 26, 27, 28, 29, 30, 31, 32, 33, 34, 35, 36, 37, 38, 39] ⟨hx, hb, hml, hown, hts⟩ hP hD hE hZ hS hA (cL_labels_ok l hl0 g (uL ν_18 r_15) c0 h k0 x0 d0 a1 a2 a3 a4 k1 v0 z0 γ σ_18 η_18 ν_18 ζ_18 r_15 (2 : Int32) (p3 >>> ((3 : Int32) &&& 31)) _ e_47) (va_cwS 6 hts gL_acts_L_labels rfl rfl rfl hdL_labels.2 ⟨(Nat.le_of_ble_eq_true rfl), (Nat.le_of_ble_eq_true rfl)⟩) rfl rfl rfl (by decide) (by decide) (by decide) (by decide) rfl hl.1 rfl (Nat.le_of_ble_eq_true rfl) ⟨(kc3 h_47), (kc61 h_47)⟩ dL_acts_311 (fun H locs hP hD hS => ?_)
                            refine W.widen (k := 3 * (n_18 + (uL ν_18 r_15))) (n := 61 * (n_18 + (uL ν_18 r_15))) (by omega) (by omega) ?_
                            have ho := Option.some.inj hf
                            subst ho
                            refine W.widen (k := 3 * cap) (n := 61 * cap) (k3 h_47) (k61 h_47) ?_
                            exact m_zret (v := r_47.1) hx hb hr hlocks hP hD hS rfl dL_acts_314
                          · have hf := iq s_46 hf
                            by_cases s_48 : r_16 = (13 : Int32)
                            · have hf := ip s_48 hf
                              refine lv_tableIn (off := 245) (tgt := 302) hx hb dL_acts_57 (by rw [s_48]; decide) (by rw [s_48]; decide) (by rw [s_48]; rfl) (by decide) ?_
                              refine lv_aload_n hx hb dL_acts_302 rfl (lv_at hl 3 rfl) ?_
                              refine lv_aload_n hx hb dL_acts_303 rfl (lv_at hl 4 rfl) ?_
                              refine lv_aload_n hx hb dL_acts_304 rfl (lv_at hl 5 rfl) ?_
                              refine lv_iload hx hb dL_acts_305 (lv_at hl 2 rfl) ?_
                              refine lv_iconst (v := (2 : Int32)) hx hb dL_acts_307 (by decide) ?_
                              refine lv_iload_n hx hb dL_acts_308 rfl (lv_at hl 6 rfl) ?_
                              refine lv_iconst (v := (3 : Int32)) hx hb dL_acts_309 (by decide) ?_
                              refine lv_ishr hx hb dL_acts_310 ?_
                              obtain ⟨h_49, hf⟩ := ck hf
                              obtain ⟨r_49, e_49, hf⟩ := bo hf
                              refine mcallSi (W0 := (wC c0 h k0 x0 d0 ++ (wS g h a1 a2 a3 a4 σ_18 ++ (wH g k0 k1 γ η_18 ++ (wV g v0 ν_18 ++ (wZ g z0 ζ_18)))))) (Wc := (wC c0 h k0 x0 d0 ++ (wS g h a1 a2 a3 a4 σ_18 ++ (wH g k0 k1 γ η_18 ++ (wV g v0 ν_18 ++ (wZ g z0 ζ_18)))))) (Wr := ([] : va_W)) (W1 := (wC c0 h k0 x0 d0 ++ (wS g h a1 a2 a3 a4 r_49.2.1 ++ (wH g k0 k1 γ r_49.2.2.1 ++ (wV g v0 r_49.2.2.2 ++ (wZ g z0 ζ_18)))))) (W2 := (wC c0 h k0 x0 d0 ++ (wS g h a1 a2 a3 a4 r_49.2.1 ++ (wH g k0 k1 γ r_49.2.2.1 ++ (wV g v0 r_49.2.2.2 ++ (wZ g z0 ζ_18)))))) (As := [.ref c0, .ref v0, .ref z0, .int r_15, .int (2 : Int32), .int (p3 >>> ((3 : Int32) &&& 31))]) (rest := []) [0, 1, 2, 3, 4, 5, 6, 7, 8, 9, 10, 11, 12, 13, 14, 15, 16, 17, 18, 19, 20, 21, 22, 23, 24, 25, 26, 27, 28, 29, 30, 31, 32, 33, 34, 35, 36, 37, 38, 39] [] [0, 1, 2, 3, 4, 5, 6, 7, 8, 9, 10, 11, 12, 13, 14, 15, 16, 17, 18, 19, 20, 21, 22, 23, 24, 25, 26, 27, 28, 29, 30, 31, 32, 33, 34, 35, 36, 37, 38, 39] ⟨hx, hb, hml, hown, hts⟩ hP hD hE hZ hS hA (cL_labels_ok l hl0 g (uL ν_18 r_15) c0 h k0 x0 d0 a1 a2 a3 a4 k1 v0 z0 γ σ_18 η_18 ν_18 ζ_18 r_15 (2 : Int32) (p3 >>> ((3 : Int32) &&& 31)) _ e_49) (va_cwS 6 hts gL_acts_L_labels rfl rfl rfl hdL_labels.2 ⟨(Nat.le_of_ble_eq_true rfl), (Nat.le_of_ble_eq_true rfl)⟩) rfl rfl rfl (by decide) (by decide) (by decide) (by decide) rfl hl.1 rfl (Nat.le_of_ble_eq_true rfl) ⟨(kc3 h_49), (kc61 h_49)⟩ dL_acts_311 (fun H locs hP hD hS => ?_)
                              refine W.widen (k := 3 * (n_18 + (uL ν_18 r_15))) (n := 61 * (n_18 + (uL ν_18 r_15))) (by omega) (by omega) ?_
                              have ho := Option.some.inj hf
                              subst ho
                              refine W.widen (k := 3 * cap) (n := 61 * cap) (k3 h_49) (k61 h_49) ?_
                              exact m_zret (v := r_49.1) hx hb hr hlocks hP hD hS rfl dL_acts_314
                            · have hf := iq s_48 hf
                              refine lv_tabD (tgt := 315) hx hb dL_acts_57 [3, 4, 5, 6, 7, 8, 9, 10, 11, 12, 13] (by decide) (by decide +kernel) (fun v hv => ?_) (by decide) ?_
                              · simp only [List.mem_cons, List.not_mem_nil, or_false] at hv
                                rcases hv with rfl | rfl | rfl | rfl | rfl | rfl | rfl | rfl | rfl | rfl | rfl
                                · exact lv_neT s_20 (by decide)
                                · exact lv_neT s_24 (by decide)
                                · exact lv_neT s_28 (by decide)
                                · exact lv_neT s_32 (by decide)
                                · exact lv_neT s_36 (by decide)
                                · exact lv_neT s_38 (by decide)
                                · exact lv_neT s_40 (by decide)
                                · exact lv_neT s_42 (by decide)
                                · exact lv_neT s_44 (by decide)
                                · exact lv_neT s_46 (by decide)
                                · exact lv_neT s_48 (by decide)
                              refine lv_iconst (v := (1 : Int32)) hx hb dL_acts_315 (by decide) ?_
                              refine lv_istore (lv' := [(7, .int (1 : Int32)), (6, .int r_16), (5, .int (0 : Int32)), (4, .int r_15), (0, .ref c0), (1, .ref v0), (2, .ref z0), (3, .int p3)]) hx hb dL_acts_316 hl (by decide) rfl (fun ls hl => ?_)
                              refine lv_iconst (v := (0 : Int32)) hx hb dL_acts_318 (by decide) ?_
                              refine lv_istore (lv' := [(8, .int (0 : Int32)), (7, .int (1 : Int32)), (6, .int r_16), (5, .int (0 : Int32)), (4, .int r_15), (0, .ref c0), (1, .ref v0), (2, .ref z0), (3, .int p3)]) hx hb dL_acts_319 hl (by decide) rfl (fun ls hl => ?_)
                              exact hB321 r_15 FU true (0 : Int32) σ_18 η_18 ν_18 ζ_18 n_18 _ _ hn ls hP hD hS (lv_sub hl [5, 6, 7, 8, 4, 1, 0] rfl) hf
      · have hf := ip c_19 hf
        refine lv_aload_n hx hb dL_acts_47 rfl (lv_at hl 3 rfl) ?_
        refine lv_aload_n hx hb dL_acts_48 rfl (lv_at hl 4 rfl) ?_
        refine lv_aload_n hx hb dL_acts_49 rfl (lv_at hl 5 rfl) ?_
        refine lv_iload_n hx hb dL_acts_50 rfl (lv_at hl 6 rfl) ?_
        obtain ⟨h_51, hf⟩ := ck hf
        obtain ⟨r_51, e_51, hf⟩ := bo hf
        refine mcallSi (W0 := (wC c0 h k0 x0 d0 ++ (wS g h a1 a2 a3 a4 σ_18 ++ (wH g k0 k1 γ η_18 ++ (wV g v0 ν_18 ++ (wZ g z0 ζ_18)))))) (Wc := (wC c0 h k0 x0 d0 ++ (wS g h a1 a2 a3 a4 σ_18 ++ (wH g k0 k1 γ η_18 ++ (wV g v0 ν_18 ++ (wZ g z0 ζ_18)))))) (Wr := ([] : va_W)) (W1 := (wC c0 h k0 x0 d0 ++ (wS g h a1 a2 a3 a4 r_51.2.1 ++ (wH g k0 k1 γ r_51.2.2.1 ++ (wV g v0 r_51.2.2.2.1 ++ (wZ g z0 r_51.2.2.2.2)))))) (W2 := (wC c0 h k0 x0 d0 ++ (wS g h a1 a2 a3 a4 r_51.2.1 ++ (wH g k0 k1 γ r_51.2.2.1 ++ (wV g v0 r_51.2.2.2.1 ++ (wZ g z0 r_51.2.2.2.2)))))) (As := [.ref c0, .ref v0, .ref z0, .int p3]) (rest := []) [0, 1, 2, 3, 4, 5, 6, 7, 8, 9, 10, 11, 12, 13, 14, 15, 16, 17, 18, 19, 20, 21, 22, 23, 24, 25, 26, 27, 28, 29, 30, 31, 32, 33, 34, 35, 36, 37, 38, 39] [] [0, 1, 2, 3, 4, 5, 6, 7, 8, 9, 10, 11, 12, 13, 14, 15, 16, 17, 18, 19, 20, 21, 22, 23, 24, 25, 26, 27, 28, 29, 30, 31, 32, 33, 34, 35, 36, 37, 38, 39] ⟨hx, hb, hml, hown, hts⟩ hP hD hE hZ hS hA (cL_rings_ok l hl0 g 138 c0 h k0 x0 d0 a1 a2 a3 a4 k1 v0 z0 γ σ_18 η_18 ν_18 ζ_18 p3 _ e_51) (va_cwS 4 hts gL_acts_L_rings rfl rfl rfl hdL_rings.2 ⟨(Nat.le_of_ble_eq_true rfl), (Nat.le_of_ble_eq_true rfl)⟩) rfl rfl rfl (by decide) (by decide) (by decide) (by decide) rfl hl.1 rfl (Nat.le_of_ble_eq_true rfl) ⟨(kc3 h_51), (kc61 h_51)⟩ dL_acts_51 (fun H locs hP hD hS => ?_)
        refine W.widen (k := 3 * (n_18 + 138)) (n := 61 * (n_18 + 138)) (by omega) (by omega) ?_
        have ho := Option.some.inj hf
        subst ho
        refine W.widen (k := 3 * cap) (n := 61 * cap) (k3 h_51) (k61 h_51) ?_
        exact m_zret (v := r_51.1) hx hb hr hlocks hP hD hS rfl dL_acts_54
  unfold fL_acts at hf
  refine lv_iload_n hx hb dL_acts_0 rfl (lv_at hl 3 rfl) ?_
  refine lv_iconst (v := (5 : Int32)) hx hb dL_acts_1 (by decide) ?_
  refine lv_ishr hx hb dL_acts_2 ?_
  refine lv_aload_n hx hb dL_acts_3 rfl (lv_at hl 1 rfl) ?_
  refine lv_bipush (v := (32 : Int32)) hx hb dL_acts_4 (by decide) ?_
  refine va_iald hx hb hE.1 hP 38 0 rfl rfl (vin (by decide)) dL_acts_6 ?_
  refine lv_if_ne (tgt := 14) hx hb dL_acts_7 (by decide) (fun c_52 => ?_) (fun c_52 => ?_)
  · have hf := iq c_52 hf
    refine lv_aload_n hx hb dL_acts_14 rfl (lv_at hl 1 rfl) ?_
    refine lv_bipush (v := (32 : Int32)) hx hb dL_acts_15 (by decide) ?_
    refine va_iald hx hb hE.1 hP 38 0 rfl rfl (vin (by decide)) dL_acts_17 ?_
    exact hB18 (p3 >>> ((5 : Int32) &&& 31)) (ν (Int32.toNatClampNeg (32 : Int32))) σ η ν ζ 0 _ _ (Nat.zero_le _) ls hP hD hS (lv_sub hl [0, 1, 2, 3] rfl) hf
  · have hf := ip c_52 hf
    refine lv_iconst (v := (1 : Int32)) hx hb dL_acts_10 (by decide) ?_
    refine lv_goto (tgt := 18) hx hb dL_acts_11 (by decide) ?_
    exact hB18 (p3 >>> ((5 : Int32) &&& 31)) (1 : Int32) σ η ν ζ 0 _ _ (Nat.zero_le _) ls hP hD hS (lv_sub hl [0, 1, 2, 3] rfl) hf
