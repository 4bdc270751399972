def fL_areLines_333 (cap : Nat) (σ : Sh) (ν : (Nat → Int32)) (ζ : (Nat → Int64)) (p3 : Int32) (v5_333 : Int32) (v6_333 : Int32) (v7_333 : Bool) (ψ_333 : (Nat → Int32)) (n_333 : Nat) : Option (Bool) := (if v7_333 = true then ((fX6_labels σ).bind fun r_2 => (if r_2 = v5_333 then ((fX6_tooNear σ).bind fun r_4 => (if r_4 = v6_333 then (some true) else (some false))) else (some false))) else (some false))
def fL_areLines_287 (cap : Nat) (σ : Sh) (ν : (Nat → Int32)) (ζ : (Nat → Int64)) (p3 : Int32) (k44 : Int32 → Int32 → Bool → Int32 → (Nat → Int32) → Nat → Option (Bool)) (v5_287 : Int32) (v6_287 : Int32) (v8_287 : Int32) (v9_287 : Int32) (v10_287 : Int32) (ψ_287 : (Nat → Int32)) (n_287 : Nat) : Option (Bool) := (xokv (fX6_lineByLevel σ v9_287) fun r_6 => (if r_6 = v8_287 then ((fL_low (p3 >>> (v8_287 &&& 31)) (3 : Int32)).bind fun r_8 => (if 0 < r_8 then k44 v5_287 v6_287 true (v8_287 + 1) ψ_287 n_287 else (xokv (fX6_pointsWithin σ v8_287) fun r_10 => (if r_10 = v10_287 then k44 v5_287 v6_287 true (v8_287 + 1) ψ_287 n_287 else k44 v5_287 v6_287 false (v8_287 + 1) ψ_287 n_287)))) else k44 v5_287 v6_287 false (v8_287 + 1) ψ_287 n_287))
def fL_areLines_239 (cap : Nat) (σ : Sh) (ν : (Nat → Int32)) (ζ : (Nat → Int64)) (p3 : Int32) (v5_239 : Int32) (v6_239 : Int32) (v8_239 : Int32) (v9_239 : Int32) (ψ_239 : (Nat → Int32)) (k44 : Int32 → Int32 → Bool → Int32 → (Nat → Int32) → Nat → Option (Bool)) : Nat → Int32 → Int32 → Nat → Option (Bool)
  | 0, _, _, _ => none
  | n + 1, v10_239, v11_239, n_239 => (if (384 : Int32) ≤ v11_239 then fL_areLines_287 cap σ ν ζ p3 k44 v5_239 v6_239 v8_239 v9_239 v10_239 ψ_239 n_239 else ((fL_low (p3 >>> (v8_239 &&& 31)) (3 : Int32)).bind fun r_13 => (if r_13 = 0 then ((fL_isWithin ν ψ_239 v8_239 v11_239).bind fun r_15 => (if r_15 = true then fL_areLines_239 cap σ ν ζ p3 v5_239 v6_239 v8_239 v9_239 ψ_239 k44 n (v10_239 + (1 : Int32)) (v11_239 + 1) n_239 else fL_areLines_239 cap σ ν ζ p3 v5_239 v6_239 v8_239 v9_239 ψ_239 k44 n (v10_239 + (0 : Int32)) (v11_239 + 1) n_239)) else fL_areLines_287 cap σ ν ζ p3 k44 v5_239 v6_239 v8_239 v9_239 v10_239 ψ_239 n_239)))
def fL_areLines_180 (cap : Nat) (σ : Sh) (ν : (Nat → Int32)) (ζ : (Nat → Int64)) (p3 : Int32) (v5_97 : Int32) (v8_97 : Int32) (v10_97 : Bool) (ψ_97 : (Nat → Int32)) (k44 : Int32 → Int32 → Bool → Int32 → (Nat → Int32) → Nat → Option (Bool)) (k97 : Int32 → Int32 → Int32 → Nat → Option (Bool)) (v9_180 : Int32) (v11_180 : Int32) (t0_180 : Int32) (t1_180 : Bool) (n_180 : Nat) : Option (Bool) := (if inR ((4 : Int32) * v11_180) 34 then (if inR ((4 : Int32) * v8_97) 34 then (if (ν (Int32.toNatClampNeg ((4 : Int32) * v11_180))) < (ν (Int32.toNatClampNeg ((4 : Int32) * v8_97))) then k97 (t0_180 + (b2i t1_180)) (v9_180 + (1 : Int32)) (v11_180 + 1) n_180 else (if (ν (Int32.toNatClampNeg ((4 : Int32) * v11_180))) = (ν (Int32.toNatClampNeg ((4 : Int32) * v8_97))) then (if v8_97 ≤ v11_180 then k97 (t0_180 + (b2i t1_180)) (v9_180 + (0 : Int32)) (v11_180 + 1) n_180 else k97 (t0_180 + (b2i t1_180)) (v9_180 + (1 : Int32)) (v11_180 + 1) n_180) else k97 (t0_180 + (b2i t1_180)) (v9_180 + (0 : Int32)) (v11_180 + 1) n_180)) else none) else none)
def fL_areLines_140 (cap : Nat) (σ : Sh) (ν : (Nat → Int32)) (ζ : (Nat → Int64)) (p3 : Int32) (v5_97 : Int32) (v8_97 : Int32) (v10_97 : Bool) (ψ_97 : (Nat → Int32)) (k44 : Int32 → Int32 → Bool → Int32 → (Nat → Int32) → Nat → Option (Bool)) (k97 : Int32 → Int32 → Int32 → Nat → Option (Bool)) (v6_140 : Int32) (v9_140 : Int32) (v11_140 : Int32) (t0_140 : Bool) (n_140 : Nat) : Option (Bool) := (if t0_140 = true then (if inR (((4 : Int32) * v8_97) + (3 : Int32)) 34 then (if n_140 + 1 ≤ cap then ((fL_far 1 ν ζ ψ_97 v8_97 (ν (Int32.toNatClampNeg (((4 : Int32) * v8_97) + (3 : Int32)))) v11_140).bind fun r_24 => (if (ν (Int32.toNatClampNeg (33 : Int32))) ≤ r_24 then fL_areLines_180 cap σ ν ζ p3 v5_97 v8_97 v10_97 ψ_97 k44 k97 v9_140 v11_140 v6_140 false (n_140 + 1) else fL_areLines_180 cap σ ν ζ p3 v5_97 v8_97 v10_97 ψ_97 k44 k97 v9_140 v11_140 v6_140 true (n_140 + 1))) else none) else none) else fL_areLines_180 cap σ ν ζ p3 v5_97 v8_97 v10_97 ψ_97 k44 k97 v9_140 v11_140 v6_140 false n_140)
def fL_areLines_97 (cap : Nat) (σ : Sh) (ν : (Nat → Int32)) (ζ : (Nat → Int64)) (p3 : Int32) (v5_97 : Int32) (v8_97 : Int32) (v10_97 : Bool) (ψ_97 : (Nat → Int32)) (k44 : Int32 → Int32 → Bool → Int32 → (Nat → Int32) → Nat → Option (Bool)) : Nat → Int32 → Int32 → Int32 → Nat → Option (Bool)
  | 0, _, _, _, _ => none
  | n + 1, v6_97, v9_97, v11_97, n_97 => (if (ν (Int32.toNatClampNeg (32 : Int32))) ≤ v11_97 then fL_areLines_239 cap σ ν ζ p3 v5_97 v6_97 v8_97 v9_97 ψ_97 k44 FU (b2i v10_97) (0 : Int32) n_97 else (if v8_97 ≤ v11_97 then fL_areLines_140 cap σ ν ζ p3 v5_97 v8_97 v10_97 ψ_97 k44 (fL_areLines_97 cap σ ν ζ p3 v5_97 v8_97 v10_97 ψ_97 k44 n) v6_97 v9_97 v11_97 false n_97 else (if inR (((4 : Int32) * v8_97) + (3 : Int32)) 34 then (if (ν (Int32.toNatClampNeg (((4 : Int32) * v8_97) + (3 : Int32)))) < 0 then fL_areLines_140 cap σ ν ζ p3 v5_97 v8_97 v10_97 ψ_97 k44 (fL_areLines_97 cap σ ν ζ p3 v5_97 v8_97 v10_97 ψ_97 k44 n) v6_97 v9_97 v11_97 false n_97 else (if inR (((4 : Int32) * v11_97) + (3 : Int32)) 34 then (if (ν (Int32.toNatClampNeg (((4 : Int32) * v11_97) + (3 : Int32)))) < 0 then fL_areLines_140 cap σ ν ζ p3 v5_97 v8_97 v10_97 ψ_97 k44 (fL_areLines_97 cap σ ν ζ p3 v5_97 v8_97 v10_97 ψ_97 k44 n) v6_97 v9_97 v11_97 false n_97 else fL_areLines_140 cap σ ν ζ p3 v5_97 v8_97 v10_97 ψ_97 k44 (fL_areLines_97 cap σ ν ζ p3 v5_97 v8_97 v10_97 ψ_97 k44 n) v6_97 v9_97 v11_97 true n_97) else none)) else none)))
def fL_areLines_44 (cap : Nat) (σ : Sh) (ν : (Nat → Int32)) (ζ : (Nat → Int64)) (p3 : Int32) : Nat → Int32 → Int32 → Bool → Int32 → (Nat → Int32) → Nat → Option (Bool)
  | 0, _, _, _, _, _, _ => none
  | n + 1, v5_44, v6_44, v7_44, v8_44, ψ_44, n_44 => (if (ν (Int32.toNatClampNeg (32 : Int32))) ≤ v8_44 then fL_areLines_333 cap σ ν ζ p3 v5_44 v6_44 v7_44 ψ_44 n_44 else (if v7_44 = true then ((fL_walks ν ζ ψ_44 v8_44).bind fun r_34 => (if inR (((4 : Int32) * v8_44) + (3 : Int32)) 34 then (if 0 ≤ (ν (Int32.toNatClampNeg (((4 : Int32) * v8_44) + (3 : Int32)))) then fL_areLines_97 cap σ ν ζ p3 (v5_44 + (1 : Int32)) v8_44 false r_34 (fL_areLines_44 cap σ ν ζ p3 n) FU v6_44 (0 : Int32) (0 : Int32) n_44 else fL_areLines_97 cap σ ν ζ p3 (v5_44 + (0 : Int32)) v8_44 false r_34 (fL_areLines_44 cap σ ν ζ p3 n) FU v6_44 (0 : Int32) (0 : Int32) n_44) else none)) else fL_areLines_333 cap σ ν ζ p3 v5_44 v6_44 v7_44 ψ_44 n_44))
def fL_areLines (cap : Nat) (σ : Sh) (ν : (Nat → Int32)) (ζ : (Nat → Int64)) (p3 : Int32) : Option (Bool) := (if 0 + 1 ≤ cap then ((fX6_lines σ).bind fun r_38 => (if r_38 = (ν (Int32.toNatClampNeg (32 : Int32))) then ((fX6_gap σ).bind fun r_40 => (if r_40 = (ν (Int32.toNatClampNeg (33 : Int32))) then fL_areLines_44 cap σ ν ζ p3 FU (0 : Int32) (0 : Int32) true (0 : Int32) (fun _ => (0 : Int32)) (0 + 1) else fL_areLines_44 cap σ ν ζ p3 FU (0 : Int32) (0 : Int32) false (0 : Int32) (fun _ => (0 : Int32)) (0 + 1))) else fL_areLines_44 cap σ ν ζ p3 FU (0 : Int32) (0 : Int32) false (0 : Int32) (fun _ => (0 : Int32)) (0 + 1))) else none)
abbrev rmL_areLines (cap : Nat) : Room := { frames := 6, cells := 3 * cap, slots := 61 * cap, locals := 140 }
theorem hdL_areLines : yL_areLines.cls = RL ∧ yL_areLines.cls ≠ "java/lang/invoke/MethodHandle" ∧ yL_areLines.cls ≠ "java/lang/invoke/VarHandle" ∧ (parseMethodDescriptor yL_areLines.desc).map (fun d => d.parameters.length) = some 4 := by decide +kernel
theorem naL_areLines : (.arrayClass .int : Cond) ∈ wsL_areLines := by decide +kernel
set_option maxHeartbeats 4000000 in
set_option maxRecDepth 100000 in
theorem cL_areLines_ok (l : Launch) (hl0 : l.stackTraces = false) (g : Gg) (cap : Nat) (c0 h k0 x0 d0 a1 a2 a3 a4 v0 z0 : Nat) (σ : Sh) (ν : (Nat → Int32)) (ζ : (Nat → Int64)) (p3 : Int32) (sz : Nat) {o : Bool} (hf : fL_areLines cap σ ν ζ p3 = some o) : Met l yL_areLines wsL_areLines (rmL_areLines cap) (va_Pc [.ref c0, .ref v0, .ref z0, .int p3] (PM g (wC c0 h k0 x0 d0 ++ (wS g h a1 a2 a3 a4 σ ++ (wV g v0 ν ++ (wZ g z0 ζ)))) sz)) (va_Qi (fun r' (_ : Unit) => r' = b2i o) (fun _ t => PQ g (wC c0 h k0 x0 d0 ++ (wS g h a1 a2 a3 a4 σ ++ (wV g v0 ν ++ (wZ g z0 ζ)))) (va_A (wC c0 h k0 x0 d0 ++ (wS g h a1 a2 a3 a4 σ ++ (wV g v0 ν ++ (wZ g z0 ζ)))) sz) t) (va_A (wC c0 h k0 x0 d0 ++ (wS g h a1 a2 a3 a4 σ ++ (wV g v0 ν ++ (wZ g z0 ζ)))) sz)) (3 * cap) (61 * cap) (va_A (wC c0 h k0 x0 d0 ++ (wS g h a1 a2 a3 a4 σ ++ (wV g v0 ν ++ (wZ g z0 ζ)))) sz) := by
  refine Met.ofW (cc := cL_areLines) (maxL := 13) (ret := (some .boolean)) (by decide) rfl ?_
  intro p e s m args below meth c s₁ B hml hv
  obtain ⟨rfl, rfl, hP, hD0, hE, hZ⟩ := hv
  have hx := B.exec
  have hb := B.bytes
  have hr := B.returns
  have hts := atoms_spec (ws := wsL_areLines) B.pre
  have hown : s.vm.findClass RL = some m.cls := findClass_of_methodNamed B.named
  have hlocks := B.notSynchronized
  have hD := hD0.self (sz := s.heap.size)
  generalize hAe : (va_A (wC c0 h k0 x0 d0 ++ (wS g h a1 a2 a3 a4 σ ++ (wV g v0 ν ++ (wZ g z0 ζ)))) s.heap.size) = A at hD hZ ⊢
  have hA : ∀ q : Nat, s.heap.size ≤ q → A q := fun q h => by rw [← hAe]; exact Or.inr h
  have hS : va_S A s.heap s.heap [] := va_S.rf
  have hP : va_P g.1 vwCl (wC c0 h k0 x0 d0 ++ (wS g h a1 a2 a3 a4 σ ++ (wV g v0 ν ++ (wZ g z0 ζ)))) s.heap := hP
  have hl := lv_entry ([.ref c0, .ref v0, .ref z0, .int p3]) (n := 13) (Nat.le_of_ble_eq_true rfl)
  rw [lg_entry_eq]
  generalize (lg_sl ([.ref c0, .ref v0, .ref z0, .int p3]) ++ List.replicate (13 - (lg_sl ([.ref c0, .ref v0, .ref z0, .int p3])).length) Slot.unset).toArray = ls at hl ⊢
  refine W.cs (cells' := 3 * 0) (slots' := 61 * 0) rfl rfl ?_
  have hl : lv_has ls 13 [(0, .ref c0), (1, .ref v0), (2, .ref z0), (3, .int p3)] := hl
  have hB333 : ∀ (p0 : Nat) (v5_333 : Int32) (v6_333 : Int32) (v7_333 : Bool) (ψ_333 : (Nat → Int32)) (n_333 : Nat) (H : Heap) (locs : List Loc) (hn : n_333 ≤ cap) (ls : Array Slot), va_P g.1 vwCl (wC c0 h k0 x0 d0 ++ (wS g h a1 a2 a3 a4 σ ++ (wV g v0 ν ++ (wZ g z0 ζ ++ (wP g p0 ψ_333))))) H → va_D A (wC c0 h k0 x0 d0 ++ (wS g h a1 a2 a3 a4 σ ++ (wV g v0 ν ++ (wZ g z0 ζ ++ (wP g p0 ψ_333))))) → va_S A s.heap H locs → lv_has ls 13 [(0, .ref c0), (5, .int v5_333), (6, .int v6_333), (7, .int (b2i v7_333))] → fL_areLines_333 cap σ ν ζ p3 v5_333 v6_333 v7_333 ψ_333 n_333 = some o → W p l e (headSpec wsL_areLines (rmL_areLines cap)).room s m ([.ref c0, .ref v0, .ref z0, .int p3] : List Value).toArray below meth c H locs (3 * n_333) (61 * n_333) (MQ below (va_Qi (fun r' (_ : Unit) => r' = b2i o) (fun _ t => PQ g (wC c0 h k0 x0 d0 ++ (wS g h a1 a2 a3 a4 σ ++ (wV g v0 ν ++ (wZ g z0 ζ)))) A t) A) ([.ref c0, .ref v0, .ref z0, .int p3] : List Value).toArray s (3 * cap) (61 * cap) A) (F0 m 333 ls []) := by
    intro p0  v5_333 v6_333 v7_333 ψ_333 n_333 H locs hn ls hP hD hS hl hf
    unfold fL_areLines_333 at hf
    refine lv_iload hx hb dL_areLines_333 (lv_at hl 3 rfl) ?_
    refine lv_beq (tgt := 360) hx hb dL_areLines_335 (by decide) (fun c_1 => ?_) (fun c_1 => ?_)
    · have hf := iq c_1 hf
      refine lv_iconst (v := (0 : Int32)) hx hb dL_areLines_360 (by decide) ?_
      have ho := Option.some.inj hf
      subst ho
      have hP := hP.sub (ws' := (wC c0 h k0 x0 d0 ++ (wS g h a1 a2 a3 a4 σ ++ (wV g v0 ν ++ (wZ g z0 ζ))))) [0, 1, 2, 3, 4, 5, 6, 7] rfl
      have hD := hD.sub (ws' := (wC c0 h k0 x0 d0 ++ (wS g h a1 a2 a3 a4 σ ++ (wV g v0 ν ++ (wZ g z0 ζ))))) [0, 1, 2, 3, 4, 5, 6, 7] (by decide) rfl
      refine W.widen (k := 3 * cap) (n := 61 * cap) (k3 hn) (k61 hn) ?_
      exact m_zret (v := false) hx hb hr hlocks hP hD hS rfl dL_areLines_361
    · have hf := ip c_1 hf
      refine lv_aload_n hx hb dL_areLines_338 rfl (lv_at hl 0 rfl) ?_
      obtain ⟨r_2, e_2, hf⟩ := bo hf
      refine pcallV (W0 := (wC c0 h k0 x0 d0 ++ (wS g h a1 a2 a3 a4 σ ++ (wV g v0 ν ++ (wZ g z0 ζ ++ (wP g p0 ψ_333)))))) (As := []) (rest := []) [0, 1, 2, 3, 4, 5] 4 0 ⟨hx, hb, hml, hown, hts⟩ hP hE hZ hS (cX6_labels_ok l g c0 h k0 x0 d0 a1 a2 a3 a4 σ e_2) (cwV 0 hts gL_areLines_X6_labels rfl rfl rfl hdX6_labels ⟨(Nat.le_of_ble_eq_true rfl), (Nat.le_of_ble_eq_true rfl)⟩) rfl rfl rfl rfl rfl hl.1 rfl (Nat.le_of_ble_eq_true rfl) ⟨(k3 hn), (k61 hn)⟩ dL_areLines_339 ?_
      refine lv_iload hx hb dL_areLines_342 (lv_at hl 1 rfl) ?_
      refine lv_icmp_ne (tgt := 360) hx hb dL_areLines_344 (by decide) (fun c_3 => ?_) (fun c_3 => ?_)
      · have hf := iq c_3 hf
        refine lv_iconst (v := (0 : Int32)) hx hb dL_areLines_360 (by decide) ?_
        have ho := Option.some.inj hf
        subst ho
        have hP := hP.sub (ws' := (wC c0 h k0 x0 d0 ++ (wS g h a1 a2 a3 a4 σ ++ (wV g v0 ν ++ (wZ g z0 ζ))))) [0, 1, 2, 3, 4, 5, 6, 7] rfl
        have hD := hD.sub (ws' := (wC c0 h k0 x0 d0 ++ (wS g h a1 a2 a3 a4 σ ++ (wV g v0 ν ++ (wZ g z0 ζ))))) [0, 1, 2, 3, 4, 5, 6, 7] (by decide) rfl
        refine W.widen (k := 3 * cap) (n := 61 * cap) (k3 hn) (k61 hn) ?_
        exact m_zret (v := false) hx hb hr hlocks hP hD hS rfl dL_areLines_361
      · have hf := ip c_3 hf
        refine lv_aload_n hx hb dL_areLines_347 rfl (lv_at hl 0 rfl) ?_
        obtain ⟨r_4, e_4, hf⟩ := bo hf
        refine pcallV (W0 := (wC c0 h k0 x0 d0 ++ (wS g h a1 a2 a3 a4 σ ++ (wV g v0 ν ++ (wZ g z0 ζ ++ (wP g p0 ψ_333)))))) (As := []) (rest := []) [0, 1, 2, 3, 4, 5] 4 0 ⟨hx, hb, hml, hown, hts⟩ hP hE hZ hS (cX6_tooNear_ok l g c0 h k0 x0 d0 a1 a2 a3 a4 σ e_4) (cwV 0 hts gL_areLines_X6_tooNear rfl rfl rfl hdX6_tooNear ⟨(Nat.le_of_ble_eq_true rfl), (Nat.le_of_ble_eq_true rfl)⟩) rfl rfl rfl rfl rfl hl.1 rfl (Nat.le_of_ble_eq_true rfl) ⟨(k3 hn), (k61 hn)⟩ dL_areLines_348 ?_
        refine lv_iload hx hb dL_areLines_351 (lv_at hl 2 rfl) ?_
        refine lv_icmp_ne (tgt := 360) hx hb dL_areLines_353 (by decide) (fun c_5 => ?_) (fun c_5 => ?_)
        · have hf := iq c_5 hf
          refine lv_iconst (v := (0 : Int32)) hx hb dL_areLines_360 (by decide) ?_
          have ho := Option.some.inj hf
          subst ho
          have hP := hP.sub (ws' := (wC c0 h k0 x0 d0 ++ (wS g h a1 a2 a3 a4 σ ++ (wV g v0 ν ++ (wZ g z0 ζ))))) [0, 1, 2, 3, 4, 5, 6, 7] rfl
          have hD := hD.sub (ws' := (wC c0 h k0 x0 d0 ++ (wS g h a1 a2 a3 a4 σ ++ (wV g v0 ν ++ (wZ g z0 ζ))))) [0, 1, 2, 3, 4, 5, 6, 7] (by decide) rfl
          refine W.widen (k := 3 * cap) (n := 61 * cap) (k3 hn) (k61 hn) ?_
          exact m_zret (v := false) hx hb hr hlocks hP hD hS rfl dL_areLines_361
        · have hf := ip c_5 hf
          refine lv_iconst (v := (1 : Int32)) hx hb dL_areLines_356 (by decide) ?_
          refine lv_goto (tgt := 361) hx hb dL_areLines_357 (by decide) ?_
          have ho := Option.some.inj hf
          subst ho
          have hP := hP.sub (ws' := (wC c0 h k0 x0 d0 ++ (wS g h a1 a2 a3 a4 σ ++ (wV g v0 ν ++ (wZ g z0 ζ))))) [0, 1, 2, 3, 4, 5, 6, 7] rfl
          have hD := hD.sub (ws' := (wC c0 h k0 x0 d0 ++ (wS g h a1 a2 a3 a4 σ ++ (wV g v0 ν ++ (wZ g z0 ζ))))) [0, 1, 2, 3, 4, 5, 6, 7] (by decide) rfl
          refine W.widen (k := 3 * cap) (n := 61 * cap) (k3 hn) (k61 hn) ?_
          exact m_zret (v := true) hx hb hr hlocks hP hD hS rfl dL_areLines_361
  have hB44 : ∀ (p0 : Nat) (n44 : Nat) (v5_44 : Int32) (v6_44 : Int32) (v7_44 : Bool) (v8_44 : Int32) (ψ_44 : (Nat → Int32)) (n_44 : Nat) (H : Heap) (locs : List Loc) (hn : n_44 ≤ cap) (ls : Array Slot), va_P g.1 vwCl (wC c0 h k0 x0 d0 ++ (wS g h a1 a2 a3 a4 σ ++ (wV g v0 ν ++ (wZ g z0 ζ ++ (wP g p0 ψ_44))))) H → va_D A (wC c0 h k0 x0 d0 ++ (wS g h a1 a2 a3 a4 σ ++ (wV g v0 ν ++ (wZ g z0 ζ ++ (wP g p0 ψ_44))))) → va_S A s.heap H locs → lv_has ls 13 [(0, .ref c0), (1, .ref v0), (2, .ref z0), (3, .int p3), (4, .ref p0), (5, .int v5_44), (6, .int v6_44), (7, .int (b2i v7_44)), (8, .int v8_44)] → fL_areLines_44 cap σ ν ζ p3 n44 v5_44 v6_44 v7_44 v8_44 ψ_44 n_44 = some o → W p l e (headSpec wsL_areLines (rmL_areLines cap)).room s m ([.ref c0, .ref v0, .ref z0, .int p3] : List Value).toArray below meth c H locs (3 * n_44) (61 * n_44) (MQ below (va_Qi (fun r' (_ : Unit) => r' = b2i o) (fun _ t => PQ g (wC c0 h k0 x0 d0 ++ (wS g h a1 a2 a3 a4 σ ++ (wV g v0 ν ++ (wZ g z0 ζ)))) A t) A) ([.ref c0, .ref v0, .ref z0, .int p3] : List Value).toArray s (3 * cap) (61 * cap) A) (F0 m 44 ls []) := by
    intro p0  n44
    induction n44 with
    | zero => intro v5_44 v6_44 v7_44 v8_44 ψ_44 n_44 H locs hn ls hP hD hS hl hf; exact nomatch (show (none : Option (Bool)) = some _ from hf)
    | succ n44 ih44 =>
      have hB287 : ∀ (v5_287 : Int32) (v6_287 : Int32) (v8_287 : Int32) (v9_287 : Int32) (v10_287 : Int32) (ψ_287 : (Nat → Int32)) (n_287 : Nat) (H : Heap) (locs : List Loc) (hn : n_287 ≤ cap) (ls : Array Slot), va_P g.1 vwCl (wC c0 h k0 x0 d0 ++ (wS g h a1 a2 a3 a4 σ ++ (wV g v0 ν ++ (wZ g z0 ζ ++ (wP g p0 ψ_287))))) H → va_D A (wC c0 h k0 x0 d0 ++ (wS g h a1 a2 a3 a4 σ ++ (wV g v0 ν ++ (wZ g z0 ζ ++ (wP g p0 ψ_287))))) → va_S A s.heap H locs → lv_has ls 13 [(0, .ref c0), (1, .ref v0), (2, .ref z0), (3, .int p3), (4, .ref p0), (5, .int v5_287), (6, .int v6_287), (8, .int v8_287), (9, .int v9_287), (10, .int v10_287)] → fL_areLines_287 cap σ ν ζ p3 (fL_areLines_44 cap σ ν ζ p3 n44) v5_287 v6_287 v8_287 v9_287 v10_287 ψ_287 n_287 = some o → W p l e (headSpec wsL_areLines (rmL_areLines cap)).room s m ([.ref c0, .ref v0, .ref z0, .int p3] : List Value).toArray below meth c H locs (3 * n_287) (61 * n_287) (MQ below (va_Qi (fun r' (_ : Unit) => r' = b2i o) (fun _ t => PQ g (wC c0 h k0 x0 d0 ++ (wS g h a1 a2 a3 a4 σ ++ (wV g v0 ν ++ (wZ g z0 ζ)))) A t) A) ([.ref c0, .ref v0, .ref z0, .int p3] : List Value).toArray s (3 * cap) (61 * cap) A) (F0 m 287 ls []) := by
        intro  v5_287 v6_287 v8_287 v9_287 v10_287 ψ_287 n_287 H locs hn ls hP hD hS hl hf
        unfold fL_areLines_287 at hf
        refine lv_aload_n hx hb dL_areLines_287 rfl (lv_at hl 0 rfl) ?_
        refine lv_iload hx hb dL_areLines_288 (lv_at hl 8 rfl) ?_
        obtain ⟨r_6, e_6, hf⟩ := xov hf
        refine mcallVi (W0 := (wC c0 h k0 x0 d0 ++ (wS g h a1 a2 a3 a4 σ ++ (wV g v0 ν ++ (wZ g z0 ζ ++ (wP g p0 ψ_287)))))) (Wc := (wC c0 h k0 x0 d0 ++ (wS g h a1 a2 a3 a4 σ))) (Wr := (wV g v0 ν ++ (wZ g z0 ζ ++ (wP g p0 ψ_287)))) (W1 := (wC c0 h k0 x0 d0 ++ (wS g h a1 a2 a3 a4 σ))) (W2 := (wC c0 h k0 x0 d0 ++ (wS g h a1 a2 a3 a4 σ ++ (wV g v0 ν ++ (wZ g z0 ζ ++ (wP g p0 ψ_287)))))) (As := [.int v9_287]) (rest := []) [0, 1, 2, 3, 4, 5] [6, 7, 8] [3, 4, 5, 6, 7, 8, 0, 1, 2] 4 0 ⟨hx, hb, hml, hown, hts⟩ hP hD hE hZ hS hA (cX6_lineByLevel_k_ok l g  c0 h k0 x0 d0 a1 a2 a3 a4 σ v9_287 _ e_6) (cwV 1 hts gL_areLines_X6_lineByLevel rfl rfl rfl hdX6_lineByLevel ⟨(Nat.le_of_ble_eq_true rfl), (Nat.le_of_ble_eq_true rfl)⟩) rfl rfl rfl (by decide) (by decide) (by decide) (by decide) rfl rfl rfl rfl hl.1 rfl (Nat.le_of_ble_eq_true rfl) ⟨(k3 hn), (k61 hn)⟩ dL_areLines_290 (fun H locs hP hD hS => ?_)
        refine W.cs (cells' := 3 * n_287) (slots' := 61 * n_287) (Nat.add_zero _) (Nat.add_zero _) ?_
        refine lv_iload hx hb dL_areLines_293 (lv_at hl 7 rfl) ?_
        refine lv_icmp_ne (tgt := 324) hx hb dL_areLines_295 (by decide) (fun c_7 => ?_) (fun c_7 => ?_)
        · have hf := iq c_7 hf
          refine lv_iconst (v := (0 : Int32)) hx hb dL_areLines_324 (by decide) ?_
          refine lv_istore (lv' := [(7, .int (0 : Int32)), (0, .ref c0), (1, .ref v0), (2, .ref z0), (3, .int p3), (4, .ref p0), (5, .int v5_287), (6, .int v6_287), (8, .int v8_287), (9, .int v9_287), (10, .int v10_287)]) hx hb dL_areLines_325 hl (by decide) rfl (fun ls hl => ?_)
          refine lv_iinc (v := (v8_287 + 1)) (lv' := [(8, .int (v8_287 + 1)), (7, .int (0 : Int32)), (0, .ref c0), (1, .ref v0), (2, .ref z0), (3, .int p3), (4, .ref p0), (5, .int v5_287), (6, .int v6_287), (9, .int v9_287), (10, .int v10_287)]) hx hb dL_areLines_327 hl (k := 8) rfl rfl (by decide) rfl (fun ls hl => ?_)
          refine lv_goto (tgt := 44) hx hb dL_areLines_330 (by decide) ?_
          exact ih44 v5_287 v6_287 false (v8_287 + 1) ψ_287 n_287 _ _ hn ls hP hD hS (lv_sub hl [2, 3, 4, 5, 6, 7, 8, 1, 0] rfl) hf
        · have hf := ip c_7 hf
          refine lv_iload_n hx hb dL_areLines_298 rfl (lv_at hl 3 rfl) ?_
          refine lv_iload hx hb dL_areLines_299 (lv_at hl 7 rfl) ?_
          refine lv_ishr hx hb dL_areLines_301 ?_
          refine lv_iconst (v := (3 : Int32)) hx hb dL_areLines_302 (by decide) ?_
          obtain ⟨r_8, e_8, hf⟩ := bo hf
          refine pcallS (W0 := (wC c0 h k0 x0 d0 ++ (wS g h a1 a2 a3 a4 σ ++ (wV g v0 ν ++ (wZ g z0 ζ ++ (wP g p0 ψ_287)))))) (As := [.int (p3 >>> (v8_287 &&& 31)), .int (3 : Int32)]) (rest := []) [] ⟨hx, hb, hml, hown, hts⟩ hP hE hZ hS (cL_low_ok l g  (p3 >>> (v8_287 &&& 31)) (3 : Int32) e_8) (va_cwS 2 hts gL_areLines_L_low rfl rfl rfl hdL_low.2 ⟨(Nat.le_of_ble_eq_true rfl), (Nat.le_of_ble_eq_true rfl)⟩) rfl rfl hl.1 rfl (Nat.le_of_ble_eq_true rfl) ⟨(k3 hn), (k61 hn)⟩ dL_areLines_303 ?_
          refine lv_if_gt (tgt := 320) hx hb dL_areLines_306 (by decide) (fun c_9 => ?_) (fun c_9 => ?_)
          · have hf := ip c_9 hf
            refine lv_iconst (v := (1 : Int32)) hx hb dL_areLines_320 (by decide) ?_
            refine lv_goto (tgt := 325) hx hb dL_areLines_321 (by decide) ?_
            refine lv_istore (lv' := [(7, .int (1 : Int32)), (0, .ref c0), (1, .ref v0), (2, .ref z0), (3, .int p3), (4, .ref p0), (5, .int v5_287), (6, .int v6_287), (8, .int v8_287), (9, .int v9_287), (10, .int v10_287)]) hx hb dL_areLines_325 hl (by decide) rfl (fun ls hl => ?_)
            refine lv_iinc (v := (v8_287 + 1)) (lv' := [(8, .int (v8_287 + 1)), (7, .int (1 : Int32)), (0, .ref c0), (1, .ref v0), (2, .ref z0), (3, .int p3), (4, .ref p0), (5, .int v5_287), (6, .int v6_287), (9, .int v9_287), (10, .int v10_287)]) hx hb dL_areLines_327 hl (k := 8) rfl rfl (by decide) rfl (fun ls hl => ?_)
            refine lv_goto (tgt := 44) hx hb dL_areLines_330 (by decide) ?_
            exact ih44 v5_287 v6_287 true (v8_287 + 1) ψ_287 n_287 _ _ hn ls hP hD hS (lv_sub hl [2, 3, 4, 5, 6, 7, 8, 1, 0] rfl) hf
          · have hf := iq c_9 hf
            refine lv_aload_n hx hb dL_areLines_309 rfl (lv_at hl 0 rfl) ?_
            refine lv_iload hx hb dL_areLines_310 (lv_at hl 7 rfl) ?_
            obtain ⟨r_10, e_10, hf⟩ := xov hf
            refine mcallVi (W0 := (wC c0 h k0 x0 d0 ++ (wS g h a1 a2 a3 a4 σ ++ (wV g v0 ν ++ (wZ g z0 ζ ++ (wP g p0 ψ_287)))))) (Wc := (wC c0 h k0 x0 d0 ++ (wS g h a1 a2 a3 a4 σ))) (Wr := (wV g v0 ν ++ (wZ g z0 ζ ++ (wP g p0 ψ_287)))) (W1 := (wC c0 h k0 x0 d0 ++ (wS g h a1 a2 a3 a4 σ))) (W2 := (wC c0 h k0 x0 d0 ++ (wS g h a1 a2 a3 a4 σ ++ (wV g v0 ν ++ (wZ g z0 ζ ++ (wP g p0 ψ_287)))))) (As := [.int v8_287]) (rest := []) [0, 1, 2, 3, 4, 5] [6, 7, 8] [3, 4, 5, 6, 7, 8, 0, 1, 2] 4 0 ⟨hx, hb, hml, hown, hts⟩ hP hD hE hZ hS hA (cX6_pointsWithin_k_ok l g  c0 h k0 x0 d0 a1 a2 a3 a4 σ v8_287 _ e_10) (cwV 1 hts gL_areLines_X6_pointsWithin rfl rfl rfl hdX6_pointsWithin ⟨(Nat.le_of_ble_eq_true rfl), (Nat.le_of_ble_eq_true rfl)⟩) rfl rfl rfl (by decide) (by decide) (by decide) (by decide) rfl rfl rfl rfl hl.1 rfl (Nat.le_of_ble_eq_true rfl) ⟨(k3 hn), (k61 hn)⟩ dL_areLines_312 (fun H locs hP hD hS => ?_)
            refine W.cs (cells' := 3 * n_287) (slots' := 61 * n_287) (Nat.add_zero _) (Nat.add_zero _) ?_
            refine lv_iload hx hb dL_areLines_315 (lv_at hl 9 rfl) ?_
            refine lv_icmp_ne (tgt := 324) hx hb dL_areLines_317 (by decide) (fun c_11 => ?_) (fun c_11 => ?_)
            · have hf := iq c_11 hf
              refine lv_iconst (v := (0 : Int32)) hx hb dL_areLines_324 (by decide) ?_
              refine lv_istore (lv' := [(7, .int (0 : Int32)), (0, .ref c0), (1, .ref v0), (2, .ref z0), (3, .int p3), (4, .ref p0), (5, .int v5_287), (6, .int v6_287), (8, .int v8_287), (9, .int v9_287), (10, .int v10_287)]) hx hb dL_areLines_325 hl (by decide) rfl (fun ls hl => ?_)
              refine lv_iinc (v := (v8_287 + 1)) (lv' := [(8, .int (v8_287 + 1)), (7, .int (0 : Int32)), (0, .ref c0), (1, .ref v0), (2, .ref z0), (3, .int p3), (4, .ref p0), (5, .int v5_287), (6, .int v6_287), (9, .int v9_287), (10, .int v10_287)]) hx hb dL_areLines_327 hl (k := 8) rfl rfl (by decide) rfl (fun ls hl => ?_)
              refine lv_goto (tgt := 44) hx hb dL_areLines_330 (by decide) ?_
              exact ih44 v5_287 v6_287 false (v8_287 + 1) ψ_287 n_287 _ _ hn ls hP hD hS (lv_sub hl [2, 3, 4, 5, 6, 7, 8, 1, 0] rfl) hf
            · have hf := ip c_11 hf
              refine lv_iconst (v := (1 : Int32)) hx hb dL_areLines_320 (by decide) ?_
              refine lv_goto (tgt := 325) hx hb dL_areLines_321 (by decide) ?_
              refine lv_istore (lv' := [(7, .int (1 : Int32)), (0, .ref c0), (1, .ref v0), (2, .ref z0), (3, .int p3), (4, .ref p0), (5, .int v5_287), (6, .int v6_287), (8, .int v8_287), (9, .int v9_287), (10, .int v10_287)]) hx hb dL_areLines_325 hl (by decide) rfl (fun ls hl => ?_)
              refine lv_iinc (v := (v8_287 + 1)) (lv' := [(8, .int (v8_287 + 1)), (7, .int (1 : Int32)), (0, .ref c0), (1, .ref v0), (2, .ref z0), (3, .int p3), (4, .ref p0), (5, .int v5_287), (6, .int v6_287), (9, .int v9_287), (10, .int v10_287)]) hx hb dL_areLines_327 hl (k := 8) rfl rfl (by decide) rfl (fun ls hl => ?_)
              refine lv_goto (tgt := 44) hx hb dL_areLines_330 (by decide) ?_
              exact ih44 v5_287 v6_287 true (v8_287 + 1) ψ_287 n_287 _ _ hn ls hP hD hS (lv_sub hl [2, 3, 4, 5, 6, 7, 8, 1, 0] rfl) hf
      have hB239 : ∀ (v5_239 : Int32) (v6_239 : Int32) (v8_239 : Int32) (v9_239 : Int32) (ψ_239 : (Nat → Int32)) (n239 : Nat) (v10_239 : Int32) (v11_239 : Int32) (n_239 : Nat) (H : Heap) (locs : List Loc) (hn : n_239 ≤ cap) (ls : Array Slot), va_P g.1 vwCl (wC c0 h k0 x0 d0 ++ (wS g h a1 a2 a3 a4 σ ++ (wV g v0 ν ++ (wZ g z0 ζ ++ (wP g p0 ψ_239))))) H → va_D A (wC c0 h k0 x0 d0 ++ (wS g h a1 a2 a3 a4 σ ++ (wV g v0 ν ++ (wZ g z0 ζ ++ (wP g p0 ψ_239))))) → va_S A s.heap H locs → lv_has ls 13 [(0, .ref c0), (1, .ref v0), (2, .ref z0), (3, .int p3), (4, .ref p0), (5, .int v5_239), (6, .int v6_239), (8, .int v8_239), (9, .int v9_239), (10, .int v10_239), (11, .int v11_239)] → fL_areLines_239 cap σ ν ζ p3 v5_239 v6_239 v8_239 v9_239 ψ_239 (fL_areLines_44 cap σ ν ζ p3 n44) n239 v10_239 v11_239 n_239 = some o → W p l e (headSpec wsL_areLines (rmL_areLines cap)).room s m ([.ref c0, .ref v0, .ref z0, .int p3] : List Value).toArray below meth c H locs (3 * n_239) (61 * n_239) (MQ below (va_Qi (fun r' (_ : Unit) => r' = b2i o) (fun _ t => PQ g (wC c0 h k0 x0 d0 ++ (wS g h a1 a2 a3 a4 σ ++ (wV g v0 ν ++ (wZ g z0 ζ)))) A t) A) ([.ref c0, .ref v0, .ref z0, .int p3] : List Value).toArray s (3 * cap) (61 * cap) A) (F0 m 239 ls []) := by
        intro v5_239 v6_239 v8_239 v9_239 ψ_239 n239
        induction n239 with
        | zero => intro v10_239 v11_239 n_239 H locs hn ls hP hD hS hl hf; exact nomatch (show (none : Option (Bool)) = some _ from hf)
        | succ n239 ih239 =>
          intro v10_239 v11_239 n_239 H locs hn ls hP hD hS hl hf
          rw [fL_areLines_239] at hf
          refine lv_iload hx hb dL_areLines_239 (lv_at hl 10 rfl) ?_
          refine lv_sipush (v := (384 : Int32)) hx hb dL_areLines_241 (by decide) ?_
          refine lv_icmp_ge (tgt := 287) hx hb dL_areLines_244 (by decide) (fun c_12 => ?_) (fun c_12 => ?_)
          · have hf := ip c_12 hf
            exact hB287 v5_239 v6_239 v8_239 v9_239 v10_239 ψ_239 n_239 _ _ hn ls hP hD hS (lv_sub hl [0, 1, 2, 3, 4, 5, 6, 7, 8, 9] rfl) hf
          · have hf := iq c_12 hf
            refine lv_iload_n hx hb dL_areLines_247 rfl (lv_at hl 3 rfl) ?_
            refine lv_iload hx hb dL_areLines_248 (lv_at hl 7 rfl) ?_
            refine lv_ishr hx hb dL_areLines_250 ?_
            refine lv_iconst (v := (3 : Int32)) hx hb dL_areLines_251 (by decide) ?_
            obtain ⟨r_13, e_13, hf⟩ := bo hf
            refine pcallS (W0 := (wC c0 h k0 x0 d0 ++ (wS g h a1 a2 a3 a4 σ ++ (wV g v0 ν ++ (wZ g z0 ζ ++ (wP g p0 ψ_239)))))) (As := [.int (p3 >>> (v8_239 &&& 31)), .int (3 : Int32)]) (rest := []) [] ⟨hx, hb, hml, hown, hts⟩ hP hE hZ hS (cL_low_ok l g  (p3 >>> (v8_239 &&& 31)) (3 : Int32) e_13) (va_cwS 2 hts gL_areLines_L_low rfl rfl rfl hdL_low.2 ⟨(Nat.le_of_ble_eq_true rfl), (Nat.le_of_ble_eq_true rfl)⟩) rfl rfl hl.1 rfl (Nat.le_of_ble_eq_true rfl) ⟨(k3 hn), (k61 hn)⟩ dL_areLines_252 ?_
            refine lv_if_ne (tgt := 287) hx hb dL_areLines_255 (by decide) (fun c_14 => ?_) (fun c_14 => ?_)
            · have hf := iq c_14 hf
              exact hB287 v5_239 v6_239 v8_239 v9_239 v10_239 ψ_239 n_239 _ _ hn ls hP hD hS (lv_sub hl [0, 1, 2, 3, 4, 5, 6, 7, 8, 9] rfl) hf
            · have hf := ip c_14 hf
              refine lv_iload hx hb dL_areLines_258 (lv_at hl 9 rfl) ?_
              refine lv_aload_n hx hb dL_areLines_260 rfl (lv_at hl 1 rfl) ?_
              refine lv_iload hx hb dL_areLines_261 (lv_at hl 7 rfl) ?_
              refine lv_aload hx hb dL_areLines_263 (lv_at hl 4 rfl) ?_
              refine lv_iload hx hb dL_areLines_265 (lv_at hl 10 rfl) ?_
              obtain ⟨r_15, e_15, hf⟩ := bo hf
              refine pcallS (W0 := (wC c0 h k0 x0 d0 ++ (wS g h a1 a2 a3 a4 σ ++ (wV g v0 ν ++ (wZ g z0 ζ ++ (wP g p0 ψ_239)))))) (As := [.ref v0, .int v8_239, .ref p0, .int v11_239]) (rest := [.int v10_239]) [6, 8] ⟨hx, hb, hml, hown, hts⟩ hP hE hZ hS (cL_isWithin_ok l g v0 p0 ν ψ_239 v8_239 v11_239 e_15) (va_cwS 4 hts gL_areLines_L_isWithin rfl rfl rfl hdL_isWithin.2 ⟨(Nat.le_of_ble_eq_true rfl), (Nat.le_of_ble_eq_true rfl)⟩) rfl rfl hl.1 rfl (Nat.le_of_ble_eq_true rfl) ⟨(k3 hn), (k61 hn)⟩ dL_areLines_267 ?_
              refine lv_beq (tgt := 277) hx hb dL_areLines_270 (by decide) (fun c_16 => ?_) (fun c_16 => ?_)
              · have hf := iq c_16 hf
                refine lv_iconst (v := (0 : Int32)) hx hb dL_areLines_277 (by decide) ?_
                refine lv_iadd hx hb dL_areLines_278 ?_
                refine lv_istore (lv' := [(10, .int (v10_239 + (0 : Int32))), (0, .ref c0), (1, .ref v0), (2, .ref z0), (3, .int p3), (4, .ref p0), (5, .int v5_239), (6, .int v6_239), (8, .int v8_239), (9, .int v9_239), (11, .int v11_239)]) hx hb dL_areLines_279 hl (by decide) rfl (fun ls hl => ?_)
                refine lv_iinc (v := (v11_239 + 1)) (lv' := [(11, .int (v11_239 + 1)), (10, .int (v10_239 + (0 : Int32))), (0, .ref c0), (1, .ref v0), (2, .ref z0), (3, .int p3), (4, .ref p0), (5, .int v5_239), (6, .int v6_239), (8, .int v8_239), (9, .int v9_239)]) hx hb dL_areLines_281 hl (k := 10) rfl rfl (by decide) rfl (fun ls hl => ?_)
                refine lv_goto (tgt := 239) hx hb dL_areLines_284 (by decide) ?_
                exact ih239 (v10_239 + (0 : Int32)) (v11_239 + 1) n_239 _ _ hn ls hP hD hS (lv_sub hl [2, 3, 4, 5, 6, 7, 8, 9, 10, 1, 0] rfl) hf
              · have hf := ip c_16 hf
                refine lv_iconst (v := (1 : Int32)) hx hb dL_areLines_273 (by decide) ?_
                refine lv_goto (tgt := 278) hx hb dL_areLines_274 (by decide) ?_
                refine lv_iadd hx hb dL_areLines_278 ?_
                refine lv_istore (lv' := [(10, .int (v10_239 + (1 : Int32))), (0, .ref c0), (1, .ref v0), (2, .ref z0), (3, .int p3), (4, .ref p0), (5, .int v5_239), (6, .int v6_239), (8, .int v8_239), (9, .int v9_239), (11, .int v11_239)]) hx hb dL_areLines_279 hl (by decide) rfl (fun ls hl => ?_)
                refine lv_iinc (v := (v11_239 + 1)) (lv' := [(11, .int (v11_239 + 1)), (10, .int (v10_239 + (1 : Int32))), (0, .ref c0), (1, .ref v0), (2, .ref z0), (3, .int p3), (4, .ref p0), (5, .int v5_239), (6, .int v6_239), (8, .int v8_239), (9, .int v9_239)]) hx hb dL_areLines_281 hl (k := 10) rfl rfl (by decide) rfl (fun ls hl => ?_)
                refine lv_goto (tgt := 239) hx hb dL_areLines_284 (by decide) ?_
                exact ih239 (v10_239 + (1 : Int32)) (v11_239 + 1) n_239 _ _ hn ls hP hD hS (lv_sub hl [2, 3, 4, 5, 6, 7, 8, 9, 10, 1, 0] rfl) hf
      have hB97 : ∀ (v5_97 : Int32) (v8_97 : Int32) (v10_97 : Bool) (ψ_97 : (Nat → Int32)) (n97 : Nat) (v6_97 : Int32) (v9_97 : Int32) (v11_97 : Int32) (n_97 : Nat) (H : Heap) (locs : List Loc) (hn : n_97 ≤ cap) (ls : Array Slot), va_P g.1 vwCl (wC c0 h k0 x0 d0 ++ (wS g h a1 a2 a3 a4 σ ++ (wV g v0 ν ++ (wZ g z0 ζ ++ (wP g p0 ψ_97))))) H → va_D A (wC c0 h k0 x0 d0 ++ (wS g h a1 a2 a3 a4 σ ++ (wV g v0 ν ++ (wZ g z0 ζ ++ (wP g p0 ψ_97))))) → va_S A s.heap H locs → lv_has ls 13 [(0, .ref c0), (1, .ref v0), (2, .ref z0), (3, .int p3), (4, .ref p0), (5, .int v5_97), (6, .int v6_97), (8, .int v8_97), (9, .int v9_97), (10, .int (b2i v10_97)), (11, .int v11_97)] → fL_areLines_97 cap σ ν ζ p3 v5_97 v8_97 v10_97 ψ_97 (fL_areLines_44 cap σ ν ζ p3 n44) n97 v6_97 v9_97 v11_97 n_97 = some o → W p l e (headSpec wsL_areLines (rmL_areLines cap)).room s m ([.ref c0, .ref v0, .ref z0, .int p3] : List Value).toArray below meth c H locs (3 * n_97) (61 * n_97) (MQ below (va_Qi (fun r' (_ : Unit) => r' = b2i o) (fun _ t => PQ g (wC c0 h k0 x0 d0 ++ (wS g h a1 a2 a3 a4 σ ++ (wV g v0 ν ++ (wZ g z0 ζ)))) A t) A) ([.ref c0, .ref v0, .ref z0, .int p3] : List Value).toArray s (3 * cap) (61 * cap) A) (F0 m 97 ls []) := by
        intro v5_97 v8_97 v10_97 ψ_97 n97
        induction n97 with
        | zero => intro v6_97 v9_97 v11_97 n_97 H locs hn ls hP hD hS hl hf; exact nomatch (show (none : Option (Bool)) = some _ from hf)
        | succ n97 ih97 =>
          have hB180 : ∀ (v9_180 : Int32) (v11_180 : Int32) (t0_180 : Int32) (t1_180 : Bool) (n_180 : Nat) (H : Heap) (locs : List Loc) (hn : n_180 ≤ cap) (ls : Array Slot), va_P g.1 vwCl (wC c0 h k0 x0 d0 ++ (wS g h a1 a2 a3 a4 σ ++ (wV g v0 ν ++ (wZ g z0 ζ ++ (wP g p0 ψ_97))))) H → va_D A (wC c0 h k0 x0 d0 ++ (wS g h a1 a2 a3 a4 σ ++ (wV g v0 ν ++ (wZ g z0 ζ ++ (wP g p0 ψ_97))))) → va_S A s.heap H locs → lv_has ls 13 [(0, .ref c0), (1, .ref v0), (2, .ref z0), (3, .int p3), (4, .ref p0), (5, .int v5_97), (8, .int v8_97), (9, .int v9_180), (10, .int (b2i v10_97)), (11, .int v11_180)] → fL_areLines_180 cap σ ν ζ p3 v5_97 v8_97 v10_97 ψ_97 (fL_areLines_44 cap σ ν ζ p3 n44) (fL_areLines_97 cap σ ν ζ p3 v5_97 v8_97 v10_97 ψ_97 (fL_areLines_44 cap σ ν ζ p3 n44) n97) v9_180 v11_180 t0_180 t1_180 n_180 = some o → W p l e (headSpec wsL_areLines (rmL_areLines cap)).room s m ([.ref c0, .ref v0, .ref z0, .int p3] : List Value).toArray below meth c H locs (3 * n_180) (61 * n_180) (MQ below (va_Qi (fun r' (_ : Unit) => r' = b2i o) (fun _ t => PQ g (wC c0 h k0 x0 d0 ++ (wS g h a1 a2 a3 a4 σ ++ (wV g v0 ν ++ (wZ g z0 ζ)))) A t) A) ([.ref c0, .ref v0, .ref z0, .int p3] : List Value).toArray s (3 * cap) (61 * cap) A) (F0 m 180 ls [.int (b2i t1_180), .int t0_180]) := by
            intro  v9_180 v11_180 t0_180 t1_180 n_180 H locs hn ls hP hD hS hl hf
            unfold fL_areLines_180 at hf
            refine lv_iadd hx hb dL_areLines_180 ?_
            refine lv_istore (lv' := [(6, .int (t0_180 + (b2i t1_180))), (0, .ref c0), (1, .ref v0), (2, .ref z0), (3, .int p3), (4, .ref p0), (5, .int v5_97), (8, .int v8_97), (9, .int v9_180), (10, .int (b2i v10_97)), (11, .int v11_180)]) hx hb dL_areLines_181 hl (by decide) rfl (fun ls hl => ?_)
            refine lv_iload hx hb dL_areLines_183 (lv_at hl 8 rfl) ?_
            refine lv_aload_n hx hb dL_areLines_185 rfl (lv_at hl 2 rfl) ?_
            refine lv_iconst (v := (4 : Int32)) hx hb dL_areLines_186 (by decide) ?_
            refine lv_iload hx hb dL_areLines_187 (lv_at hl 10 rfl) ?_
            refine lv_imul hx hb dL_areLines_189 ?_
            obtain ⟨h_17, hf⟩ := ck hf
            refine va_iald hx hb hE.1 hP 6 0 rfl rfl (vin h_17) dL_areLines_190 ?_
            refine lv_aload_n hx hb dL_areLines_191 rfl (lv_at hl 2 rfl) ?_
            refine lv_iconst (v := (4 : Int32)) hx hb dL_areLines_192 (by decide) ?_
            refine lv_iload hx hb dL_areLines_193 (lv_at hl 7 rfl) ?_
            refine lv_imul hx hb dL_areLines_195 ?_
            obtain ⟨h_18, hf⟩ := ck hf
            refine va_iald hx hb hE.1 hP 6 0 rfl rfl (vin h_18) dL_areLines_196 ?_
            refine lv_icmp_lt (tgt := 222) hx hb dL_areLines_197 (by decide) (fun c_19 => ?_) (fun c_19 => ?_)
            · have hf := ip c_19 hf
              refine lv_iconst (v := (1 : Int32)) hx hb dL_areLines_222 (by decide) ?_
              refine lv_goto (tgt := 227) hx hb dL_areLines_223 (by decide) ?_
              refine lv_iadd hx hb dL_areLines_227 ?_
              refine lv_istore (lv' := [(9, .int (v9_180 + (1 : Int32))), (6, .int (t0_180 + (b2i t1_180))), (0, .ref c0), (1, .ref v0), (2, .ref z0), (3, .int p3), (4, .ref p0), (5, .int v5_97), (8, .int v8_97), (10, .int (b2i v10_97)), (11, .int v11_180)]) hx hb dL_areLines_228 hl (by decide) rfl (fun ls hl => ?_)
              refine lv_iinc (v := (v11_180 + 1)) (lv' := [(11, .int (v11_180 + 1)), (9, .int (v9_180 + (1 : Int32))), (6, .int (t0_180 + (b2i t1_180))), (0, .ref c0), (1, .ref v0), (2, .ref z0), (3, .int p3), (4, .ref p0), (5, .int v5_97), (8, .int v8_97), (10, .int (b2i v10_97))]) hx hb dL_areLines_230 hl (k := 10) rfl rfl (by decide) rfl (fun ls hl => ?_)
              refine lv_goto (tgt := 97) hx hb dL_areLines_233 (by decide) ?_
              exact ih97 (t0_180 + (b2i t1_180)) (v9_180 + (1 : Int32)) (v11_180 + 1) n_180 _ _ hn ls hP hD hS (lv_sub hl [3, 4, 5, 6, 7, 8, 2, 9, 1, 10, 0] rfl) hf
            · have hf := iq c_19 hf
              refine lv_aload_n hx hb dL_areLines_200 rfl (lv_at hl 2 rfl) ?_
              refine lv_iconst (v := (4 : Int32)) hx hb dL_areLines_201 (by decide) ?_
              refine lv_iload hx hb dL_areLines_202 (lv_at hl 10 rfl) ?_
              refine lv_imul hx hb dL_areLines_204 ?_
              refine va_iald hx hb hE.1 hP 6 0 rfl rfl (vin h_17) dL_areLines_205 ?_
              refine lv_aload_n hx hb dL_areLines_206 rfl (lv_at hl 2 rfl) ?_
              refine lv_iconst (v := (4 : Int32)) hx hb dL_areLines_207 (by decide) ?_
              refine lv_iload hx hb dL_areLines_208 (lv_at hl 7 rfl) ?_
              refine lv_imul hx hb dL_areLines_210 ?_
              refine va_iald hx hb hE.1 hP 6 0 rfl rfl (vin h_18) dL_areLines_211 ?_
              refine lv_icmp_ne (tgt := 226) hx hb dL_areLines_212 (by decide) (fun c_20 => ?_) (fun c_20 => ?_)
              · have hf := iq c_20 hf
                refine lv_iconst (v := (0 : Int32)) hx hb dL_areLines_226 (by decide) ?_
                refine lv_iadd hx hb dL_areLines_227 ?_
                refine lv_istore (lv' := [(9, .int (v9_180 + (0 : Int32))), (6, .int (t0_180 + (b2i t1_180))), (0, .ref c0), (1, .ref v0), (2, .ref z0), (3, .int p3), (4, .ref p0), (5, .int v5_97), (8, .int v8_97), (10, .int (b2i v10_97)), (11, .int v11_180)]) hx hb dL_areLines_228 hl (by decide) rfl (fun ls hl => ?_)
                refine lv_iinc (v := (v11_180 + 1)) (lv' := [(11, .int (v11_180 + 1)), (9, .int (v9_180 + (0 : Int32))), (6, .int (t0_180 + (b2i t1_180))), (0, .ref c0), (1, .ref v0), (2, .ref z0), (3, .int p3), (4, .ref p0), (5, .int v5_97), (8, .int v8_97), (10, .int (b2i v10_97))]) hx hb dL_areLines_230 hl (k := 10) rfl rfl (by decide) rfl (fun ls hl => ?_)
                refine lv_goto (tgt := 97) hx hb dL_areLines_233 (by decide) ?_
                exact ih97 (t0_180 + (b2i t1_180)) (v9_180 + (0 : Int32)) (v11_180 + 1) n_180 _ _ hn ls hP hD hS (lv_sub hl [3, 4, 5, 6, 7, 8, 2, 9, 1, 10, 0] rfl) hf
              · have hf := ip c_20 hf
                refine lv_iload hx hb dL_areLines_215 (lv_at hl 10 rfl) ?_
                refine lv_iload hx hb dL_areLines_217 (lv_at hl 7 rfl) ?_
                refine lv_icmp_ge (tgt := 226) hx hb dL_areLines_219 (by decide) (fun c_21 => ?_) (fun c_21 => ?_)
                · have hf := ip c_21 hf
                  refine lv_iconst (v := (0 : Int32)) hx hb dL_areLines_226 (by decide) ?_
                  refine lv_iadd hx hb dL_areLines_227 ?_
                  refine lv_istore (lv' := [(9, .int (v9_180 + (0 : Int32))), (6, .int (t0_180 + (b2i t1_180))), (0, .ref c0), (1, .ref v0), (2, .ref z0), (3, .int p3), (4, .ref p0), (5, .int v5_97), (8, .int v8_97), (10, .int (b2i v10_97)), (11, .int v11_180)]) hx hb dL_areLines_228 hl (by decide) rfl (fun ls hl => ?_)
                  refine lv_iinc (v := (v11_180 + 1)) (lv' := [(11, .int (v11_180 + 1)), (9, .int (v9_180 + (0 : Int32))), (6, .int (t0_180 + (b2i t1_180))), (0, .ref c0), (1, .ref v0), (2, .ref z0), (3, .int p3), (4, .ref p0), (5, .int v5_97), (8, .int v8_97), (10, .int (b2i v10_97))]) hx hb dL_areLines_230 hl (k := 10) rfl rfl (by decide) rfl (fun ls hl => ?_)
                  refine lv_goto (tgt := 97) hx hb dL_areLines_233 (by decide) ?_
                  exact ih97 (t0_180 + (b2i t1_180)) (v9_180 + (0 : Int32)) (v11_180 + 1) n_180 _ _ hn ls hP hD hS (lv_sub hl [3, 4, 5, 6, 7, 8, 2, 9, 1, 10, 0] rfl) hf
                · have hf := iq c_21 hf
                  refine lv_iconst (v := (1 : Int32)) hx hb dL_areLines_222 (by decide) ?_
                  refine lv_goto (tgt := 227) hx hb dL_areLines_223 (by decide) ?_
                  refine lv_iadd hx hb dL_areLines_227 ?_
                  refine lv_istore (lv' := [(9, .int (v9_180 + (1 : Int32))), (6, .int (t0_180 + (b2i t1_180))), (0, .ref c0), (1, .ref v0), (2, .ref z0), (3, .int p3), (4, .ref p0), (5, .int v5_97), (8, .int v8_97), (10, .int (b2i v10_97)), (11, .int v11_180)]) hx hb dL_areLines_228 hl (by decide) rfl (fun ls hl => ?_)
                  refine lv_iinc (v := (v11_180 + 1)) (lv' := [(11, .int (v11_180 + 1)), (9, .int (v9_180 + (1 : Int32))), (6, .int (t0_180 + (b2i t1_180))), (0, .ref c0), (1, .ref v0), (2, .ref z0), (3, .int p3), (4, .ref p0), (5, .int v5_97), (8, .int v8_97), (10, .int (b2i v10_97))]) hx hb dL_areLines_230 hl (k := 10) rfl rfl (by decide) rfl (fun ls hl => ?_)
                  refine lv_goto (tgt := 97) hx hb dL_areLines_233 (by decide) ?_
                  exact ih97 (t0_180 + (b2i t1_180)) (v9_180 + (1 : Int32)) (v11_180 + 1) n_180 _ _ hn ls hP hD hS (lv_sub hl [3, 4, 5, 6, 7, 8, 2, 9, 1, 10, 0] rfl) hf
          have hB140 : ∀ (v6_140 : Int32) (v9_140 : Int32) (v11_140 : Int32) (t0_140 : Bool) (n_140 : Nat) (H : Heap) (locs : List Loc) (hn : n_140 ≤ cap) (ls : Array Slot), va_P g.1 vwCl (wC c0 h k0 x0 d0 ++ (wS g h a1 a2 a3 a4 σ ++ (wV g v0 ν ++ (wZ g z0 ζ ++ (wP g p0 ψ_97))))) H → va_D A (wC c0 h k0 x0 d0 ++ (wS g h a1 a2 a3 a4 σ ++ (wV g v0 ν ++ (wZ g z0 ζ ++ (wP g p0 ψ_97))))) → va_S A s.heap H locs → lv_has ls 13 [(0, .ref c0), (1, .ref v0), (2, .ref z0), (3, .int p3), (4, .ref p0), (5, .int v5_97), (6, .int v6_140), (8, .int v8_97), (9, .int v9_140), (10, .int (b2i v10_97)), (11, .int v11_140)] → fL_areLines_140 cap σ ν ζ p3 v5_97 v8_97 v10_97 ψ_97 (fL_areLines_44 cap σ ν ζ p3 n44) (fL_areLines_97 cap σ ν ζ p3 v5_97 v8_97 v10_97 ψ_97 (fL_areLines_44 cap σ ν ζ p3 n44) n97) v6_140 v9_140 v11_140 t0_140 n_140 = some o → W p l e (headSpec wsL_areLines (rmL_areLines cap)).room s m ([.ref c0, .ref v0, .ref z0, .int p3] : List Value).toArray below meth c H locs (3 * n_140) (61 * n_140) (MQ below (va_Qi (fun r' (_ : Unit) => r' = b2i o) (fun _ t => PQ g (wC c0 h k0 x0 d0 ++ (wS g h a1 a2 a3 a4 σ ++ (wV g v0 ν ++ (wZ g z0 ζ)))) A t) A) ([.ref c0, .ref v0, .ref z0, .int p3] : List Value).toArray s (3 * cap) (61 * cap) A) (F0 m 140 ls [.int (b2i t0_140)]) := by
            intro  v6_140 v9_140 v11_140 t0_140 n_140 H locs hn ls hP hD hS hl hf
            unfold fL_areLines_140 at hf
            refine lv_istore (lv' := [(12, .int (b2i t0_140)), (0, .ref c0), (1, .ref v0), (2, .ref z0), (3, .int p3), (4, .ref p0), (5, .int v5_97), (6, .int v6_140), (8, .int v8_97), (9, .int v9_140), (10, .int (b2i v10_97)), (11, .int v11_140)]) hx hb dL_areLines_140 hl (by decide) rfl (fun ls hl => ?_)
            refine lv_iload hx hb dL_areLines_142 (lv_at hl 7 rfl) ?_
            refine lv_iload hx hb dL_areLines_144 (lv_at hl 0 rfl) ?_
            refine lv_beq (tgt := 179) hx hb dL_areLines_146 (by decide) (fun c_22 => ?_) (fun c_22 => ?_)
            · have hf := iq c_22 hf
              refine lv_iconst (v := (0 : Int32)) hx hb dL_areLines_179 (by decide) ?_
              exact hB180 v9_140 v11_140 v6_140 false n_140 _ _ hn ls hP hD hS (lv_sub hl [1, 2, 3, 4, 5, 6, 8, 9, 10, 11] rfl) hf
            · have hf := ip c_22 hf
              refine lv_aload_n hx hb dL_areLines_149 rfl (lv_at hl 2 rfl) ?_
              refine lv_aload_n hx hb dL_areLines_150 rfl (lv_at hl 3 rfl) ?_
              refine lv_iload hx hb dL_areLines_151 (lv_at hl 8 rfl) ?_
              refine lv_aload hx hb dL_areLines_153 (lv_at hl 5 rfl) ?_
              refine lv_aload_n hx hb dL_areLines_155 rfl (lv_at hl 2 rfl) ?_
              refine lv_iconst (v := (4 : Int32)) hx hb dL_areLines_156 (by decide) ?_
              refine lv_iload hx hb dL_areLines_157 (lv_at hl 8 rfl) ?_
              refine lv_imul hx hb dL_areLines_159 ?_
              refine lv_iconst (v := (3 : Int32)) hx hb dL_areLines_160 (by decide) ?_
              refine lv_iadd hx hb dL_areLines_161 ?_
              obtain ⟨h_23, hf⟩ := ck hf
              refine va_iald hx hb hE.1 hP 6 0 rfl rfl (vin h_23) dL_areLines_162 ?_
              refine lv_iload hx hb dL_areLines_163 (lv_at hl 11 rfl) ?_
              obtain ⟨h_24, hf⟩ := ck hf
              obtain ⟨r_24, e_24, hf⟩ := bo hf
              refine mcallSi (W0 := (wC c0 h k0 x0 d0 ++ (wS g h a1 a2 a3 a4 σ ++ (wV g v0 ν ++ (wZ g z0 ζ ++ (wP g p0 ψ_97)))))) (Wc := (wV g v0 ν ++ (wZ g z0 ζ ++ (wP g p0 ψ_97)))) (Wr := (wC c0 h k0 x0 d0 ++ (wS g h a1 a2 a3 a4 σ))) (W1 := (wV g v0 ν ++ (wZ g z0 ζ ++ (wP g p0 ψ_97)))) (W2 := (wC c0 h k0 x0 d0 ++ (wS g h a1 a2 a3 a4 σ ++ (wV g v0 ν ++ (wZ g z0 ζ ++ (wP g p0 ψ_97)))))) (As := [.ref v0, .ref z0, .int v8_97, .ref p0, .int (ν (Int32.toNatClampNeg (((4 : Int32) * v8_97) + (3 : Int32)))), .int v11_140]) (rest := [.int v6_140]) [6, 7, 8] [0, 1, 2, 3, 4, 5] [0, 1, 2, 3, 4, 5, 6, 7, 8] ⟨hx, hb, hml, hown, hts⟩ hP hD hE hZ hS hA (cL_far_ok l hl0 g 1 v0 z0 p0 ν ζ ψ_97 v8_97 (ν (Int32.toNatClampNeg (((4 : Int32) * v8_97) + (3 : Int32)))) v11_140 _ e_24) (va_cwS 6 hts gL_areLines_L_far rfl rfl rfl hdL_far.2 ⟨(Nat.le_of_ble_eq_true rfl), (Nat.le_of_ble_eq_true rfl)⟩) rfl rfl rfl (by decide) (by decide) (by decide) (by decide) rfl hl.1 rfl (Nat.le_of_ble_eq_true rfl) ⟨(kc3 h_24), (kc61 h_24)⟩ dL_areLines_165 (fun H locs hP hD hS => ?_)
              refine W.widen (k := 3 * (n_140 + 1)) (n := 61 * (n_140 + 1)) (by omega) (by omega) ?_
              refine lv_aload_n hx hb dL_areLines_168 rfl (lv_at hl 2 rfl) ?_
              refine lv_bipush (v := (33 : Int32)) hx hb dL_areLines_169 (by decide) ?_
              refine va_iald hx hb hE.1 hP 6 0 rfl rfl (vin (by decide)) dL_areLines_171 ?_
              refine lv_icmp_ge (tgt := 179) hx hb dL_areLines_172 (by decide) (fun c_25 => ?_) (fun c_25 => ?_)
              · have hf := ip c_25 hf
                refine lv_iconst (v := (0 : Int32)) hx hb dL_areLines_179 (by decide) ?_
                exact hB180 v9_140 v11_140 v6_140 false (n_140 + 1) _ _ h_24 ls hP hD hS (lv_sub hl [1, 2, 3, 4, 5, 6, 8, 9, 10, 11] rfl) hf
              · have hf := iq c_25 hf
                refine lv_iconst (v := (1 : Int32)) hx hb dL_areLines_175 (by decide) ?_
                refine lv_goto (tgt := 180) hx hb dL_areLines_176 (by decide) ?_
                exact hB180 v9_140 v11_140 v6_140 true (n_140 + 1) _ _ h_24 ls hP hD hS (lv_sub hl [1, 2, 3, 4, 5, 6, 8, 9, 10, 11] rfl) hf
          intro v6_97 v9_97 v11_97 n_97 H locs hn ls hP hD hS hl hf
          rw [fL_areLines_97] at hf
          refine lv_iload hx hb dL_areLines_97 (lv_at hl 10 rfl) ?_
          refine lv_aload_n hx hb dL_areLines_99 rfl (lv_at hl 1 rfl) ?_
          refine lv_bipush (v := (32 : Int32)) hx hb dL_areLines_100 (by decide) ?_
          refine va_iald hx hb hE.1 hP 6 0 rfl rfl (vin (by decide)) dL_areLines_102 ?_
          refine lv_icmp_ge (tgt := 236) hx hb dL_areLines_103 (by decide) (fun c_26 => ?_) (fun c_26 => ?_)
          · have hf := ip c_26 hf
            refine lv_iconst (v := (0 : Int32)) hx hb dL_areLines_236 (by decide) ?_
            refine lv_istore (lv' := [(11, .int (0 : Int32)), (0, .ref c0), (1, .ref v0), (2, .ref z0), (3, .int p3), (4, .ref p0), (5, .int v5_97), (6, .int v6_97), (8, .int v8_97), (9, .int v9_97), (10, .int (b2i v10_97))]) hx hb dL_areLines_237 hl (by decide) rfl (fun ls hl => ?_)
            exact hB239 v5_97 v6_97 v8_97 v9_97 ψ_97 FU (b2i v10_97) (0 : Int32) n_97 _ _ hn ls hP hD hS (lv_sub hl [1, 2, 3, 4, 5, 6, 7, 8, 9, 10, 0] rfl) hf
          · have hf := iq c_26 hf
            refine lv_iload hx hb dL_areLines_106 (lv_at hl 10 rfl) ?_
            refine lv_iload hx hb dL_areLines_108 (lv_at hl 7 rfl) ?_
            refine lv_icmp_ge (tgt := 139) hx hb dL_areLines_110 (by decide) (fun c_27 => ?_) (fun c_27 => ?_)
            · have hf := ip c_27 hf
              refine lv_iconst (v := (0 : Int32)) hx hb dL_areLines_139 (by decide) ?_
              exact hB140 v6_97 v9_97 v11_97 false n_97 _ _ hn ls hP hD hS (lv_sub hl [0, 1, 2, 3, 4, 5, 6, 7, 8, 9, 10] rfl) hf
            · have hf := iq c_27 hf
              refine lv_aload_n hx hb dL_areLines_113 rfl (lv_at hl 1 rfl) ?_
              refine lv_iconst (v := (4 : Int32)) hx hb dL_areLines_114 (by decide) ?_
              refine lv_iload hx hb dL_areLines_115 (lv_at hl 7 rfl) ?_
              refine lv_imul hx hb dL_areLines_117 ?_
              refine lv_iconst (v := (3 : Int32)) hx hb dL_areLines_118 (by decide) ?_
              refine lv_iadd hx hb dL_areLines_119 ?_
              obtain ⟨h_28, hf⟩ := ck hf
              refine va_iald hx hb hE.1 hP 6 0 rfl rfl (vin h_28) dL_areLines_120 ?_
              refine lv_if_lt (tgt := 139) hx hb dL_areLines_121 (by decide) (fun c_29 => ?_) (fun c_29 => ?_)
              · have hf := ip c_29 hf
                refine lv_iconst (v := (0 : Int32)) hx hb dL_areLines_139 (by decide) ?_
                exact hB140 v6_97 v9_97 v11_97 false n_97 _ _ hn ls hP hD hS (lv_sub hl [0, 1, 2, 3, 4, 5, 6, 7, 8, 9, 10] rfl) hf
              · have hf := iq c_29 hf
                refine lv_aload_n hx hb dL_areLines_124 rfl (lv_at hl 1 rfl) ?_
                refine lv_iconst (v := (4 : Int32)) hx hb dL_areLines_125 (by decide) ?_
                refine lv_iload hx hb dL_areLines_126 (lv_at hl 10 rfl) ?_
                refine lv_imul hx hb dL_areLines_128 ?_
                refine lv_iconst (v := (3 : Int32)) hx hb dL_areLines_129 (by decide) ?_
                refine lv_iadd hx hb dL_areLines_130 ?_
                obtain ⟨h_30, hf⟩ := ck hf
                refine va_iald hx hb hE.1 hP 6 0 rfl rfl (vin h_30) dL_areLines_131 ?_
                refine lv_if_lt (tgt := 139) hx hb dL_areLines_132 (by decide) (fun c_31 => ?_) (fun c_31 => ?_)
                · have hf := ip c_31 hf
                  refine lv_iconst (v := (0 : Int32)) hx hb dL_areLines_139 (by decide) ?_
                  exact hB140 v6_97 v9_97 v11_97 false n_97 _ _ hn ls hP hD hS (lv_sub hl [0, 1, 2, 3, 4, 5, 6, 7, 8, 9, 10] rfl) hf
                · have hf := iq c_31 hf
                  refine lv_iconst (v := (1 : Int32)) hx hb dL_areLines_135 (by decide) ?_
                  refine lv_goto (tgt := 140) hx hb dL_areLines_136 (by decide) ?_
                  exact hB140 v6_97 v9_97 v11_97 true n_97 _ _ hn ls hP hD hS (lv_sub hl [0, 1, 2, 3, 4, 5, 6, 7, 8, 9, 10] rfl) hf
      intro v5_44 v6_44 v7_44 v8_44 ψ_44 n_44 H locs hn ls hP hD hS hl hf
      rw [fL_areLines_44] at hf
      refine lv_iload hx hb dL_areLines_44 (lv_at hl 8 rfl) ?_
      refine lv_aload_n hx hb dL_areLines_46 rfl (lv_at hl 1 rfl) ?_
      refine lv_bipush (v := (32 : Int32)) hx hb dL_areLines_47 (by decide) ?_
      refine va_iald hx hb hE.1 hP 6 0 rfl rfl (vin (by decide)) dL_areLines_49 ?_
      refine lv_icmp_ge (tgt := 333) hx hb dL_areLines_50 (by decide) (fun c_32 => ?_) (fun c_32 => ?_)
      · have hf := ip c_32 hf
        exact hB333 p0 v5_44 v6_44 v7_44 ψ_44 n_44 _ _ hn ls hP hD hS (lv_sub hl [0, 5, 6, 7] rfl) hf
      · have hf := iq c_32 hf
        refine lv_iload hx hb dL_areLines_53 (lv_at hl 7 rfl) ?_
        refine lv_beq (tgt := 333) hx hb dL_areLines_55 (by decide) (fun c_33 => ?_) (fun c_33 => ?_)
        · have hf := iq c_33 hf
          exact hB333 p0 v5_44 v6_44 v7_44 ψ_44 n_44 _ _ hn ls hP hD hS (lv_sub hl [0, 5, 6, 7] rfl) hf
        · have hf := ip c_33 hf
          refine lv_iconst (v := (0 : Int32)) hx hb dL_areLines_58 (by decide) ?_
          refine lv_istore (lv' := [(9, .int (0 : Int32)), (0, .ref c0), (1, .ref v0), (2, .ref z0), (3, .int p3), (4, .ref p0), (5, .int v5_44), (6, .int v6_44), (7, .int (b2i v7_44)), (8, .int v8_44)]) hx hb dL_areLines_59 hl (by decide) rfl (fun ls hl => ?_)
          refine lv_iconst (v := (0 : Int32)) hx hb dL_areLines_61 (by decide) ?_
          refine lv_istore (lv' := [(10, .int (0 : Int32)), (9, .int (0 : Int32)), (0, .ref c0), (1, .ref v0), (2, .ref z0), (3, .int p3), (4, .ref p0), (5, .int v5_44), (6, .int v6_44), (7, .int (b2i v7_44)), (8, .int v8_44)]) hx hb dL_areLines_62 hl (by decide) rfl (fun ls hl => ?_)
          refine lv_aload_n hx hb dL_areLines_64 rfl (lv_at hl 3 rfl) ?_
          refine lv_aload_n hx hb dL_areLines_65 rfl (lv_at hl 4 rfl) ?_
          refine lv_iload hx hb dL_areLines_66 (lv_at hl 10 rfl) ?_
          refine lv_aload hx hb dL_areLines_68 (lv_at hl 6 rfl) ?_
          obtain ⟨r_34, e_34, hf⟩ := bo hf
          refine mcallSv (W0 := (wC c0 h k0 x0 d0 ++ (wS g h a1 a2 a3 a4 σ ++ (wV g v0 ν ++ (wZ g z0 ζ ++ (wP g p0 ψ_44)))))) (Wc := (wV g v0 ν ++ (wZ g z0 ζ ++ (wP g p0 ψ_44)))) (Wr := (wC c0 h k0 x0 d0 ++ (wS g h a1 a2 a3 a4 σ))) (W1 := (wV g v0 ν ++ (wZ g z0 ζ ++ (wP g p0 r_34)))) (W2 := (wC c0 h k0 x0 d0 ++ (wS g h a1 a2 a3 a4 σ ++ (wV g v0 ν ++ (wZ g z0 ζ ++ (wP g p0 r_34)))))) (As := [.ref v0, .ref z0, .int v8_44, .ref p0]) (rest := []) [6, 7, 8] [0, 1, 2, 3, 4, 5] [0, 1, 2, 3, 4, 5, 6, 7, 8] ⟨hx, hb, hml, hown, hts⟩ hP hD hE hZ hS hA (cL_walks_ok l g  v0 z0 p0 ν ζ ψ_44 v8_44 _ e_34) (va_cwS 4 hts gL_areLines_L_walks rfl rfl rfl hdL_walks.2 ⟨(Nat.le_of_ble_eq_true rfl), (Nat.le_of_ble_eq_true rfl)⟩) rfl rfl rfl (by decide) (by decide) (by decide) (by decide) rfl hl.1 rfl (Nat.le_of_ble_eq_true rfl) ⟨(k3 hn), (k61 hn)⟩ dL_areLines_70 (fun H locs hP hD hS => ?_)
          refine W.cs (cells' := 3 * n_44) (slots' := 61 * n_44) (Nat.add_zero _) (Nat.add_zero _) ?_
          refine lv_iload hx hb dL_areLines_73 (lv_at hl 7 rfl) ?_
          refine lv_aload_n hx hb dL_areLines_75 rfl (lv_at hl 3 rfl) ?_
          refine lv_iconst (v := (4 : Int32)) hx hb dL_areLines_76 (by decide) ?_
          refine lv_iload hx hb dL_areLines_77 (lv_at hl 10 rfl) ?_
          refine lv_imul hx hb dL_areLines_79 ?_
          refine lv_iconst (v := (3 : Int32)) hx hb dL_areLines_80 (by decide) ?_
          refine lv_iadd hx hb dL_areLines_81 ?_
          obtain ⟨h_35, hf⟩ := ck hf
          refine va_iald hx hb hE.1 hP 6 0 rfl rfl (vin h_35) dL_areLines_82 ?_
          refine lv_if_ge (tgt := 90) hx hb dL_areLines_83 (by decide) (fun c_36 => ?_) (fun c_36 => ?_)
          · have hf := ip c_36 hf
            refine lv_iconst (v := (1 : Int32)) hx hb dL_areLines_90 (by decide) ?_
            refine lv_iadd hx hb dL_areLines_91 ?_
            refine lv_istore (lv' := [(5, .int (v5_44 + (1 : Int32))), (10, .int (0 : Int32)), (9, .int (0 : Int32)), (0, .ref c0), (1, .ref v0), (2, .ref z0), (3, .int p3), (4, .ref p0), (6, .int v6_44), (7, .int (b2i v7_44)), (8, .int v8_44)]) hx hb dL_areLines_92 hl (by decide) rfl (fun ls hl => ?_)
            refine lv_iconst (v := (0 : Int32)) hx hb dL_areLines_94 (by decide) ?_
            refine lv_istore (lv' := [(11, .int (0 : Int32)), (5, .int (v5_44 + (1 : Int32))), (10, .int (0 : Int32)), (9, .int (0 : Int32)), (0, .ref c0), (1, .ref v0), (2, .ref z0), (3, .int p3), (4, .ref p0), (6, .int v6_44), (7, .int (b2i v7_44)), (8, .int v8_44)]) hx hb dL_areLines_95 hl (by decide) rfl (fun ls hl => ?_)
            exact hB97 (v5_44 + (1 : Int32)) v8_44 false r_34 FU v6_44 (0 : Int32) (0 : Int32) n_44 _ _ hn ls hP hD hS (lv_sub hl [4, 5, 6, 7, 8, 1, 9, 11, 3, 2, 0] rfl) hf
          · have hf := iq c_36 hf
            refine lv_iconst (v := (0 : Int32)) hx hb dL_areLines_86 (by decide) ?_
            refine lv_goto (tgt := 91) hx hb dL_areLines_87 (by decide) ?_
            refine lv_iadd hx hb dL_areLines_91 ?_
            refine lv_istore (lv' := [(5, .int (v5_44 + (0 : Int32))), (10, .int (0 : Int32)), (9, .int (0 : Int32)), (0, .ref c0), (1, .ref v0), (2, .ref z0), (3, .int p3), (4, .ref p0), (6, .int v6_44), (7, .int (b2i v7_44)), (8, .int v8_44)]) hx hb dL_areLines_92 hl (by decide) rfl (fun ls hl => ?_)
            refine lv_iconst (v := (0 : Int32)) hx hb dL_areLines_94 (by decide) ?_
            refine lv_istore (lv' := [(11, .int (0 : Int32)), (5, .int (v5_44 + (0 : Int32))), (10, .int (0 : Int32)), (9, .int (0 : Int32)), (0, .ref c0), (1, .ref v0), (2, .ref z0), (3, .int p3), (4, .ref p0), (6, .int v6_44), (7, .int (b2i v7_44)), (8, .int v8_44)]) hx hb dL_areLines_95 hl (by decide) rfl (fun ls hl => ?_)
            exact hB97 (v5_44 + (0 : Int32)) v8_44 false r_34 FU v6_44 (0 : Int32) (0 : Int32) n_44 _ _ hn ls hP hD hS (lv_sub hl [4, 5, 6, 7, 8, 1, 9, 11, 3, 2, 0] rfl) hf
  unfold fL_areLines at hf
  refine lv_bipush (v := (61 : Int32)) hx hb dL_areLines_0 (by decide) ?_
  obtain ⟨h_37, hf⟩ := ck hf
  refine newaI (N' := 61) (W0 := (wC c0 h k0 x0 d0 ++ (wS g h a1 a2 a3 a4 σ ++ (wV g v0 ν ++ (wZ g z0 ζ))))) hx hb (hts _ naL_areLines) hE hP hD hS hA (by decide) (by decide) (Nat.le_of_ble_eq_true rfl) (ka3 h_37) (ka61 h_37) dL_areLines_2 (fun p0 H hP hD hS => ?_)
  have hP : va_P g.1 vwCl (wC c0 h k0 x0 d0 ++ (wS g h a1 a2 a3 a4 σ ++ (wV g v0 ν ++ (wZ g z0 ζ ++ (wP g p0 (fun _ => (0 : Int32))))))) H := hP
  have hD : va_D A (wC c0 h k0 x0 d0 ++ (wS g h a1 a2 a3 a4 σ ++ (wV g v0 ν ++ (wZ g z0 ζ ++ (wP g p0 (fun _ => (0 : Int32))))))) := hD
  refine W.widen (k := 3 * (0 + 1)) (n := 61 * (0 + 1)) (by omega) (by omega) ?_
  refine lv_astore (lv' := [(4, .ref p0), (0, .ref c0), (1, .ref v0), (2, .ref z0), (3, .int p3)]) hx hb dL_areLines_4 hl (by decide) rfl (fun ls hl => ?_)
  refine lv_iconst (v := (0 : Int32)) hx hb dL_areLines_6 (by decide) ?_
  refine lv_istore (lv' := [(5, .int (0 : Int32)), (4, .ref p0), (0, .ref c0), (1, .ref v0), (2, .ref z0), (3, .int p3)]) hx hb dL_areLines_7 hl (by decide) rfl (fun ls hl => ?_)
  refine lv_iconst (v := (0 : Int32)) hx hb dL_areLines_9 (by decide) ?_
  refine lv_istore (lv' := [(6, .int (0 : Int32)), (5, .int (0 : Int32)), (4, .ref p0), (0, .ref c0), (1, .ref v0), (2, .ref z0), (3, .int p3)]) hx hb dL_areLines_10 hl (by decide) rfl (fun ls hl => ?_)
  refine lv_aload_n hx hb dL_areLines_12 rfl (lv_at hl 3 rfl) ?_
  obtain ⟨r_38, e_38, hf⟩ := bo hf
  refine pcallV (W0 := (wC c0 h k0 x0 d0 ++ (wS g h a1 a2 a3 a4 σ ++ (wV g v0 ν ++ (wZ g z0 ζ ++ (wP g p0 (fun _ => (0 : Int32)))))))) (As := []) (rest := []) [0, 1, 2, 3, 4, 5] 4 0 ⟨hx, hb, hml, hown, hts⟩ hP hE hZ hS (cX6_lines_ok l g c0 h k0 x0 d0 a1 a2 a3 a4 σ e_38) (cwV 0 hts gL_areLines_X6_lines rfl rfl rfl hdX6_lines ⟨(Nat.le_of_ble_eq_true rfl), (Nat.le_of_ble_eq_true rfl)⟩) rfl rfl rfl rfl rfl hl.1 rfl (Nat.le_of_ble_eq_true rfl) ⟨(k3 h_37), (k61 h_37)⟩ dL_areLines_13 ?_
  refine lv_aload_n hx hb dL_areLines_16 rfl (lv_at hl 4 rfl) ?_
  refine lv_bipush (v := (32 : Int32)) hx hb dL_areLines_17 (by decide) ?_
  refine va_iald hx hb hE.1 hP 6 0 rfl rfl (vin (by decide)) dL_areLines_19 ?_
  refine lv_icmp_ne (tgt := 38) hx hb dL_areLines_20 (by decide) (fun c_39 => ?_) (fun c_39 => ?_)
  · have hf := iq c_39 hf
    refine lv_iconst (v := (0 : Int32)) hx hb dL_areLines_38 (by decide) ?_
    refine lv_istore (lv' := [(7, .int (0 : Int32)), (6, .int (0 : Int32)), (5, .int (0 : Int32)), (4, .ref p0), (0, .ref c0), (1, .ref v0), (2, .ref z0), (3, .int p3)]) hx hb dL_areLines_39 hl (by decide) rfl (fun ls hl => ?_)
    refine lv_iconst (v := (0 : Int32)) hx hb dL_areLines_41 (by decide) ?_
    refine lv_istore (lv' := [(8, .int (0 : Int32)), (7, .int (0 : Int32)), (6, .int (0 : Int32)), (5, .int (0 : Int32)), (4, .ref p0), (0, .ref c0), (1, .ref v0), (2, .ref z0), (3, .int p3)]) hx hb dL_areLines_42 hl (by decide) rfl (fun ls hl => ?_)
    exact hB44 p0 FU (0 : Int32) (0 : Int32) false (0 : Int32) (fun _ => (0 : Int32)) (0 + 1) _ _ h_37 ls hP hD hS (lv_sub hl [5, 6, 7, 8, 4, 3, 2, 1, 0] rfl) hf
  · have hf := ip c_39 hf
    refine lv_aload_n hx hb dL_areLines_23 rfl (lv_at hl 3 rfl) ?_
    obtain ⟨r_40, e_40, hf⟩ := bo hf
    refine pcallV (W0 := (wC c0 h k0 x0 d0 ++ (wS g h a1 a2 a3 a4 σ ++ (wV g v0 ν ++ (wZ g z0 ζ ++ (wP g p0 (fun _ => (0 : Int32)))))))) (As := []) (rest := []) [0, 1, 2, 3, 4, 5] 4 0 ⟨hx, hb, hml, hown, hts⟩ hP hE hZ hS (cX6_gap_ok l g c0 h k0 x0 d0 a1 a2 a3 a4 σ e_40) (cwV 0 hts gL_areLines_X6_gap rfl rfl rfl hdX6_gap ⟨(Nat.le_of_ble_eq_true rfl), (Nat.le_of_ble_eq_true rfl)⟩) rfl rfl rfl rfl rfl hl.1 rfl (Nat.le_of_ble_eq_true rfl) ⟨(k3 h_37), (k61 h_37)⟩ dL_areLines_24 ?_
    refine lv_aload_n hx hb dL_areLines_27 rfl (lv_at hl 4 rfl) ?_
    refine lv_bipush (v := (33 : Int32)) hx hb dL_areLines_28 (by decide) ?_
    refine va_iald hx hb hE.1 hP 6 0 rfl rfl (vin (by decide)) dL_areLines_30 ?_
    refine lv_icmp_ne (tgt := 38) hx hb dL_areLines_31 (by decide) (fun c_41 => ?_) (fun c_41 => ?_)
    · have hf := iq c_41 hf
      refine lv_iconst (v := (0 : Int32)) hx hb dL_areLines_38 (by decide) ?_
      refine lv_istore (lv' := [(7, .int (0 : Int32)), (6, .int (0 : Int32)), (5, .int (0 : Int32)), (4, .ref p0), (0, .ref c0), (1, .ref v0), (2, .ref z0), (3, .int p3)]) hx hb dL_areLines_39 hl (by decide) rfl (fun ls hl => ?_)
      refine lv_iconst (v := (0 : Int32)) hx hb dL_areLines_41 (by decide) ?_
      refine lv_istore (lv' := [(8, .int (0 : Int32)), (7, .int (0 : Int32)), (6, .int (0 : Int32)), (5, .int (0 : Int32)), (4, .ref p0), (0, .ref c0), (1, .ref v0), (2, .ref z0), (3, .int p3)]) hx hb dL_areLines_42 hl (by decide) rfl (fun ls hl => ?_)
      exact hB44 p0 FU (0 : Int32) (0 : Int32) false (0 : Int32) (fun _ => (0 : Int32)) (0 + 1) _ _ h_37 ls hP hD hS (lv_sub hl [5, 6, 7, 8, 4, 3, 2, 1, 0] rfl) hf
    · have hf := ip c_41 hf
      refine lv_iconst (v := (1 : Int32)) hx hb dL_areLines_34 (by decide) ?_
      refine lv_goto (tgt := 39) hx hb dL_areLines_35 (by decide) ?_
      refine lv_istore (lv' := [(7, .int (1 : Int32)), (6, .int (0 : Int32)), (5, .int (0 : Int32)), (4, .ref p0), (0, .ref c0), (1, .ref v0), (2, .ref z0), (3, .int p3)]) hx hb dL_areLines_39 hl (by decide) rfl (fun ls hl => ?_)
      refine lv_iconst (v := (0 : Int32)) hx hb dL_areLines_41 (by decide) ?_
      refine lv_istore (lv' := [(8, .int (0 : Int32)), (7, .int (1 : Int32)), (6, .int (0 : Int32)), (5, .int (0 : Int32)), (4, .ref p0), (0, .ref c0), (1, .ref v0), (2, .ref z0), (3, .int p3)]) hx hb dL_areLines_42 hl (by decide) rfl (fun ls hl => ?_)
      exact hB44 p0 FU (0 : Int32) (0 : Int32) true (0 : Int32) (fun _ => (0 : Int32)) (0 + 1) _ _ h_37 ls hP hD hS (lv_sub hl [5, 6, 7, 8, 4, 3, 2, 1, 0] rfl) hf

def fL_told (σ : Sh) (η : Hi) (p1 p2 p3 : Int32) : Option (Int32 × Sh × Hi) := (if p1 = 0 then ((fX6_begin σ η p2 p3).bind fun r_14 => xcase r_14 (fun e => (if e = "java/lang/IllegalStateException" then (some ((-13 : Int32), σ, η)) else none)) (fun v_14 => (some (v_14.1, v_14.2.1, v_14.2.2)))) else (if p1 = (1 : Int32) then ((fX6_step σ η p2 p3).bind fun r_11 => xcase r_11 (fun e => (if e = "java/lang/IllegalStateException" then (some ((-13 : Int32), σ, η)) else none)) (fun v_11 => (if v_11.1 = true then (some ((1 : Int32), v_11.2.1, v_11.2.2)) else (some ((0 : Int32), v_11.2.1, v_11.2.2))))) else (if p1 = (2 : Int32) then ((fX6_label σ η p2 p3).bind fun r_9 => xcase r_9 (fun e => (if e = "java/lang/IllegalStateException" then (some ((-13 : Int32), σ, η)) else none)) (fun v_9 => (some (v_9.1, v_9.2.1, v_9.2.2)))) else (if p1 = (3 : Int32) then ((fX6_unlabel σ η p2).bind fun r_7 => xcase r_7 (fun e => (if e = "java/lang/IllegalStateException" then (some ((-13 : Int32), σ, η)) else none)) (fun v_7 => (some (v_7.1, v_7.2.1, v_7.2.2)))) else ((fX6_labelBest σ η p2).bind fun r_5 => xcase r_5 (fun e => (if e = "java/lang/IllegalStateException" then (some ((-13 : Int32), σ, η)) else none)) (fun v_5 => (some (v_5.1, v_5.2.1, v_5.2.2))))))))
abbrev rmL_told : Room := { frames := 8, cells := 3, slots := 18, locals := 149 }
theorem hdL_told : yL_told.cls = RL ∧ yL_told.cls ≠ "java/lang/invoke/MethodHandle" ∧ yL_told.cls ≠ "java/lang/invoke/VarHandle" ∧ (parseMethodDescriptor yL_told.desc).map (fun d => d.parameters.length) = some 4 := by decide +kernel
theorem hkL_told_179 : (.classLink RL 179 "java/lang/IllegalStateException" : Cond) ∈ wsL_told := by decide +kernel
set_option maxHeartbeats 4000000 in
set_option maxRecDepth 100000 in
theorem cL_told_ok (l : Launch) (hl0 : l.stackTraces = false) (g : Gg) (c0 h k0 x0 d0 a1 a2 a3 a4 k1 : Nat) (γ : Nat → Nat → Nat) (σ : Sh) (η : Hi) (p1 p2 p3 : Int32) (sz : Nat) {o : Int32 × Sh × Hi} (hf : fL_told σ η p1 p2 p3 = some o) : vx_Met l yL_told wsL_told rmL_told (va_Pc [.ref c0, .int p1, .int p2, .int p3] (PM g (wC c0 h k0 x0 d0 ++ (wS g h a1 a2 a3 a4 σ ++ (wH g k0 k1 γ η))) sz)) (va_Qi (fun r' (_ : Unit) => r' = o.1) (fun _ t => PQ g (wC c0 h k0 x0 d0 ++ (wS g h a1 a2 a3 a4 o.2.1 ++ (wH g k0 k1 γ o.2.2))) (va_A (wC c0 h k0 x0 d0 ++ (wS g h a1 a2 a3 a4 σ ++ (wH g k0 k1 γ η))) sz) t) (va_A (wC c0 h k0 x0 d0 ++ (wS g h a1 a2 a3 a4 σ ++ (wH g k0 k1 γ η))) sz)) (vx_X (fun _ : Unit => False) (fun _ _ _ => True) (va_A (wC c0 h k0 x0 d0 ++ (wS g h a1 a2 a3 a4 σ ++ (wH g k0 k1 γ η))) sz)) 3 18 (va_A (wC c0 h k0 x0 d0 ++ (wS g h a1 a2 a3 a4 σ ++ (wH g k0 k1 γ η))) sz) := by
  refine vx_ofWH (cc := cL_told) (maxL := 5) (ret := (some .int)) (by decide) rfl ?_
  intro p e s m args below meth c s₁ B hml hv
  obtain ⟨rfl, rfl, hP, hD0, hE, hZ⟩ := hv
  have hx := B.exec
  have hb := B.bytes
  have hr := B.returns
  have hts := atoms_spec (ws := wsL_told) B.pre
  have htab := vx_table (x := yL_told) B (hts _ List.mem_cons_self)
  have hown : s.vm.findClass RL = some m.cls := findClass_of_methodNamed B.named
  have hlocks := B.notSynchronized
  have hD := hD0.self (sz := s.heap.size)
  generalize hAe : (va_A (wC c0 h k0 x0 d0 ++ (wS g h a1 a2 a3 a4 σ ++ (wH g k0 k1 γ η))) s.heap.size) = A at hD hZ ⊢
  have hA : ∀ q : Nat, s.heap.size ≤ q → A q := fun q h => by rw [← hAe]; exact Or.inr h
  have hS : va_S A s.heap s.heap [] := va_S.rf
  have hP : va_P g.1 vwCl (wC c0 h k0 x0 d0 ++ (wS g h a1 a2 a3 a4 σ ++ (wH g k0 k1 γ η))) s.heap := hP
  have hl := lv_entry ([.ref c0, .int p1, .int p2, .int p3]) (n := 5) (Nat.le_of_ble_eq_true rfl)
  rw [lg_entry_eq]
  generalize (lg_sl ([.ref c0, .int p1, .int p2, .int p3]) ++ List.replicate (5 - (lg_sl ([.ref c0, .int p1, .int p2, .int p3])).length) Slot.unset).toArray = ls at hl ⊢
  have hl : lv_has ls 5 [(0, .ref c0), (1, .int p1), (2, .int p2), (3, .int p3)] := hl
  unfold fL_told at hf
  refine lv_iload_n hx hb dL_told_0 rfl (lv_at hl 1 rfl) ?_
  refine lv_if_ne (tgt := 13) hx hb dL_told_1 (by decide) (fun c_1 => ?_) (fun c_1 => ?_)
  · have hf := iq c_1 hf
    refine lv_iload_n hx hb dL_told_13 rfl (lv_at hl 1 rfl) ?_
    refine lv_iconst (v := (1 : Int32)) hx hb dL_told_14 (by decide) ?_
    refine lv_icmp_ne (tgt := 35) hx hb dL_told_15 (by decide) (fun c_2 => ?_) (fun c_2 => ?_)
    · have hf := iq c_2 hf
      refine lv_iload_n hx hb dL_told_35 rfl (lv_at hl 1 rfl) ?_
      refine lv_iconst (v := (2 : Int32)) hx hb dL_told_36 (by decide) ?_
      refine lv_icmp_ne (tgt := 49) hx hb dL_told_37 (by decide) (fun c_3 => ?_) (fun c_3 => ?_)
      · have hf := iq c_3 hf
        refine lv_iload_n hx hb dL_told_49 rfl (lv_at hl 1 rfl) ?_
        refine lv_iconst (v := (3 : Int32)) hx hb dL_told_50 (by decide) ?_
        refine lv_icmp_ne (tgt := 62) hx hb dL_told_51 (by decide) (fun c_4 => ?_) (fun c_4 => ?_)
        · have hf := iq c_4 hf
          refine lv_aload_n hx hb dL_told_62 rfl (lv_at hl 0 rfl) ?_
          refine lv_iload_n hx hb dL_told_63 rfl (lv_at hl 2 rfl) ?_
          obtain ⟨r_5, e_5, hf⟩ := bo hf
          refine wcallVmi (W0 := (wC c0 h k0 x0 d0 ++ (wS g h a1 a2 a3 a4 σ ++ (wH g k0 k1 γ η)))) (Wc := (wC c0 h k0 x0 d0 ++ (wS g h a1 a2 a3 a4 σ ++ (wH g k0 k1 γ η)))) (Wr := ([] : va_W)) (W1 := fun u : Sh × Hi => (wC c0 h k0 x0 d0 ++ (wS g h a1 a2 a3 a4 u.1 ++ (wH g k0 k1 γ u.2)))) (W2 := fun u : Sh × Hi => (wC c0 h k0 x0 d0 ++ (wS g h a1 a2 a3 a4 u.1 ++ (wH g k0 k1 γ u.2)))) (As := [.int p2]) (rest := []) [0, 1, 2, 3, 4, 5, 6, 7, 8, 9, 10, 11, 12, 13, 14, 15, 16, 17, 18, 19, 20, 21, 22, 23, 24, 25, 26, 27, 28, 29, 30, 31, 32, 33, 34, 35, 36, 37] [] [0, 1, 2, 3, 4, 5, 6, 7, 8, 9, 10, 11, 12, 13, 14, 15, 16, 17, 18, 19, 20, 21, 22, 23, 24, 25, 26, 27, 28, 29, 30, 31, 32, 33, 34, 35, 36, 37] 4 0 ⟨hx, hb, hml, hown, hts⟩ hP hD hE hZ hS hA (cX6_labelBest_ok l hl0 g c0 h k0 x0 d0 a1 a2 a3 a4 k1 γ σ η p2 _ e_5) (cwV 1 hts gL_told_X6_labelBest rfl rfl rfl hdX6_labelBest ⟨(Nat.le_of_ble_eq_true rfl), (Nat.le_of_ble_eq_true rfl)⟩) rfl rfl (fun _ => rfl) (by decide) (by decide) (by decide) (by decide) rfl rfl rfl rfl hl.1 rfl (Nat.le_of_ble_eq_true rfl) ⟨(Nat.le_of_ble_eq_true rfl), (Nat.le_of_ble_eq_true rfl)⟩ dL_told_64 (fun E ce q9 H locs ox_5 hP hD hS hce hcv hcl => ?_) (fun v_5 H locs ok_5 hP hD hS => ?_)
          · have hf := xe ox_5 hf
            by_cases z_6 : E = "java/lang/IllegalStateException"
            · have hf := ip z_6 hf
              subst z_6
              refine vx_catch (name := "java/lang/IllegalStateException") hown [] ⟨0, 67, 68, 179⟩ [] (htab.trans rfl) (fun z hz => absurd hz List.not_mem_nil) (by decide) (by decide) (hts _ hkL_told_179) (va_Nw.use rfl (hE.2.1 (.castable "java/lang/IllegalStateException" "java/lang/IllegalStateException") (by decide +kernel))) hce hcv hcl ?_
              refine lv_astore (lv' := [(4, .ref q9), (0, .ref c0), (1, .int p1), (2, .int p2), (3, .int p3)]) hx hb dL_told_68 hl (by decide) rfl (fun ls hl => ?_)
              refine lv_bipush (v := (-13 : Int32)) hx hb dL_told_70 (by decide) ?_
              have ho := Option.some.inj hf
              subst ho
              exact w_iret (v := (-13 : Int32)) hx hb hr hlocks hP hD hS ⟨(Nat.le_of_ble_eq_true rfl), (Nat.le_of_ble_eq_true rfl)⟩ rfl dL_told_72
            · have hf := iq z_6 hf
              exact nomatch (show (none : Option (Int32 × Sh × Hi)) = some _ from hf)
          · have hf := xo ok_5 hf
            have ho := Option.some.inj hf
            subst ho
            exact w_iret (v := v_5.1) hx hb hr hlocks hP hD hS ⟨(Nat.le_of_ble_eq_true rfl), (Nat.le_of_ble_eq_true rfl)⟩ rfl dL_told_67
        · have hf := ip c_4 hf
          refine lv_aload_n hx hb dL_told_54 rfl (lv_at hl 0 rfl) ?_
          refine lv_iload_n hx hb dL_told_55 rfl (lv_at hl 2 rfl) ?_
          obtain ⟨r_7, e_7, hf⟩ := bo hf
          refine wcallVmi (W0 := (wC c0 h k0 x0 d0 ++ (wS g h a1 a2 a3 a4 σ ++ (wH g k0 k1 γ η)))) (Wc := (wC c0 h k0 x0 d0 ++ (wS g h a1 a2 a3 a4 σ ++ (wH g k0 k1 γ η)))) (Wr := ([] : va_W)) (W1 := fun u : Sh × Hi => (wC c0 h k0 x0 d0 ++ (wS g h a1 a2 a3 a4 u.1 ++ (wH g k0 k1 γ u.2)))) (W2 := fun u : Sh × Hi => (wC c0 h k0 x0 d0 ++ (wS g h a1 a2 a3 a4 u.1 ++ (wH g k0 k1 γ u.2)))) (As := [.int p2]) (rest := []) [0, 1, 2, 3, 4, 5, 6, 7, 8, 9, 10, 11, 12, 13, 14, 15, 16, 17, 18, 19, 20, 21, 22, 23, 24, 25, 26, 27, 28, 29, 30, 31, 32, 33, 34, 35, 36, 37] [] [0, 1, 2, 3, 4, 5, 6, 7, 8, 9, 10, 11, 12, 13, 14, 15, 16, 17, 18, 19, 20, 21, 22, 23, 24, 25, 26, 27, 28, 29, 30, 31, 32, 33, 34, 35, 36, 37] 4 0 ⟨hx, hb, hml, hown, hts⟩ hP hD hE hZ hS hA (cX6_unlabel_ok l hl0 g c0 h k0 x0 d0 a1 a2 a3 a4 k1 γ σ η p2 _ e_7) (cwV 1 hts gL_told_X6_unlabel rfl rfl rfl hdX6_unlabel ⟨(Nat.le_of_ble_eq_true rfl), (Nat.le_of_ble_eq_true rfl)⟩) rfl rfl (fun _ => rfl) (by decide) (by decide) (by decide) (by decide) rfl rfl rfl rfl hl.1 rfl (Nat.le_of_ble_eq_true rfl) ⟨(Nat.le_of_ble_eq_true rfl), (Nat.le_of_ble_eq_true rfl)⟩ dL_told_56 (fun E ce q9 H locs ox_7 hP hD hS hce hcv hcl => ?_) (fun v_7 H locs ok_7 hP hD hS => ?_)
          · have hf := xe ox_7 hf
            by_cases z_8 : E = "java/lang/IllegalStateException"
            · have hf := ip z_8 hf
              subst z_8
              refine vx_catch (name := "java/lang/IllegalStateException") hown [] ⟨0, 67, 68, 179⟩ [] (htab.trans rfl) (fun z hz => absurd hz List.not_mem_nil) (by decide) (by decide) (hts _ hkL_told_179) (va_Nw.use rfl (hE.2.1 (.castable "java/lang/IllegalStateException" "java/lang/IllegalStateException") (by decide +kernel))) hce hcv hcl ?_
              refine lv_astore (lv' := [(4, .ref q9), (0, .ref c0), (1, .int p1), (2, .int p2), (3, .int p3)]) hx hb dL_told_68 hl (by decide) rfl (fun ls hl => ?_)
              refine lv_bipush (v := (-13 : Int32)) hx hb dL_told_70 (by decide) ?_
              have ho := Option.some.inj hf
              subst ho
              exact w_iret (v := (-13 : Int32)) hx hb hr hlocks hP hD hS ⟨(Nat.le_of_ble_eq_true rfl), (Nat.le_of_ble_eq_true rfl)⟩ rfl dL_told_72
            · have hf := iq z_8 hf
              exact nomatch (show (none : Option (Int32 × Sh × Hi)) = some _ from hf)
          · have hf := xo ok_7 hf
            refine lv_goto (tgt := 67) hx hb dL_told_59 (by decide) ?_
            have ho := Option.some.inj hf
            subst ho
            exact w_iret (v := v_7.1) hx hb hr hlocks hP hD hS ⟨(Nat.le_of_ble_eq_true rfl), (Nat.le_of_ble_eq_true rfl)⟩ rfl dL_told_67
      · have hf := ip c_3 hf
        refine lv_aload_n hx hb dL_told_40 rfl (lv_at hl 0 rfl) ?_
        refine lv_iload_n hx hb dL_told_41 rfl (lv_at hl 2 rfl) ?_
        refine lv_iload_n hx hb dL_told_42 rfl (lv_at hl 3 rfl) ?_
        obtain ⟨r_9, e_9, hf⟩ := bo hf
        refine wcallVmi (W0 := (wC c0 h k0 x0 d0 ++ (wS g h a1 a2 a3 a4 σ ++ (wH g k0 k1 γ η)))) (Wc := (wC c0 h k0 x0 d0 ++ (wS g h a1 a2 a3 a4 σ ++ (wH g k0 k1 γ η)))) (Wr := ([] : va_W)) (W1 := fun u : Sh × Hi => (wC c0 h k0 x0 d0 ++ (wS g h a1 a2 a3 a4 u.1 ++ (wH g k0 k1 γ u.2)))) (W2 := fun u : Sh × Hi => (wC c0 h k0 x0 d0 ++ (wS g h a1 a2 a3 a4 u.1 ++ (wH g k0 k1 γ u.2)))) (As := [.int p2, .int p3]) (rest := []) [0, 1, 2, 3, 4, 5, 6, 7, 8, 9, 10, 11, 12, 13, 14, 15, 16, 17, 18, 19, 20, 21, 22, 23, 24, 25, 26, 27, 28, 29, 30, 31, 32, 33, 34, 35, 36, 37] [] [0, 1, 2, 3, 4, 5, 6, 7, 8, 9, 10, 11, 12, 13, 14, 15, 16, 17, 18, 19, 20, 21, 22, 23, 24, 25, 26, 27, 28, 29, 30, 31, 32, 33, 34, 35, 36, 37] 4 0 ⟨hx, hb, hml, hown, hts⟩ hP hD hE hZ hS hA (cX6_label_ok l hl0 g c0 h k0 x0 d0 a1 a2 a3 a4 k1 γ σ η p2 p3 _ e_9) (cwV 2 hts gL_told_X6_label rfl rfl rfl hdX6_label ⟨(Nat.le_of_ble_eq_true rfl), (Nat.le_of_ble_eq_true rfl)⟩) rfl rfl (fun _ => rfl) (by decide) (by decide) (by decide) (by decide) rfl rfl rfl rfl hl.1 rfl (Nat.le_of_ble_eq_true rfl) ⟨(Nat.le_of_ble_eq_true rfl), (Nat.le_of_ble_eq_true rfl)⟩ dL_told_43 (fun E ce q9 H locs ox_9 hP hD hS hce hcv hcl => ?_) (fun v_9 H locs ok_9 hP hD hS => ?_)
        · have hf := xe ox_9 hf
          by_cases z_10 : E = "java/lang/IllegalStateException"
          · have hf := ip z_10 hf
            subst z_10
            refine vx_catch (name := "java/lang/IllegalStateException") hown [] ⟨0, 67, 68, 179⟩ [] (htab.trans rfl) (fun z hz => absurd hz List.not_mem_nil) (by decide) (by decide) (hts _ hkL_told_179) (va_Nw.use rfl (hE.2.1 (.castable "java/lang/IllegalStateException" "java/lang/IllegalStateException") (by decide +kernel))) hce hcv hcl ?_
            refine lv_astore (lv' := [(4, .ref q9), (0, .ref c0), (1, .int p1), (2, .int p2), (3, .int p3)]) hx hb dL_told_68 hl (by decide) rfl (fun ls hl => ?_)
            refine lv_bipush (v := (-13 : Int32)) hx hb dL_told_70 (by decide) ?_
            have ho := Option.some.inj hf
            subst ho
            exact w_iret (v := (-13 : Int32)) hx hb hr hlocks hP hD hS ⟨(Nat.le_of_ble_eq_true rfl), (Nat.le_of_ble_eq_true rfl)⟩ rfl dL_told_72
          · have hf := iq z_10 hf
            exact nomatch (show (none : Option (Int32 × Sh × Hi)) = some _ from hf)
        · have hf := xo ok_9 hf
          refine lv_goto (tgt := 67) hx hb dL_told_46 (by decide) ?_
          have ho := Option.some.inj hf
          subst ho
          exact w_iret (v := v_9.1) hx hb hr hlocks hP hD hS ⟨(Nat.le_of_ble_eq_true rfl), (Nat.le_of_ble_eq_true rfl)⟩ rfl dL_told_67
    · have hf := ip c_2 hf
      refine lv_aload_n hx hb dL_told_18 rfl (lv_at hl 0 rfl) ?_
      refine lv_iload_n hx hb dL_told_19 rfl (lv_at hl 2 rfl) ?_
      refine lv_iload_n hx hb dL_told_20 rfl (lv_at hl 3 rfl) ?_
      obtain ⟨r_11, e_11, hf⟩ := bo hf
      refine wcallVmb (W0 := (wC c0 h k0 x0 d0 ++ (wS g h a1 a2 a3 a4 σ ++ (wH g k0 k1 γ η)))) (Wc := (wC c0 h k0 x0 d0 ++ (wS g h a1 a2 a3 a4 σ ++ (wH g k0 k1 γ η)))) (Wr := ([] : va_W)) (W1 := fun u : Sh × Hi => (wC c0 h k0 x0 d0 ++ (wS g h a1 a2 a3 a4 u.1 ++ (wH g k0 k1 γ u.2)))) (W2 := fun u : Sh × Hi => (wC c0 h k0 x0 d0 ++ (wS g h a1 a2 a3 a4 u.1 ++ (wH g k0 k1 γ u.2)))) (As := [.int p2, .int p3]) (rest := []) [0, 1, 2, 3, 4, 5, 6, 7, 8, 9, 10, 11, 12, 13, 14, 15, 16, 17, 18, 19, 20, 21, 22, 23, 24, 25, 26, 27, 28, 29, 30, 31, 32, 33, 34, 35, 36, 37] [] [0, 1, 2, 3, 4, 5, 6, 7, 8, 9, 10, 11, 12, 13, 14, 15, 16, 17, 18, 19, 20, 21, 22, 23, 24, 25, 26, 27, 28, 29, 30, 31, 32, 33, 34, 35, 36, 37] 4 0 ⟨hx, hb, hml, hown, hts⟩ hP hD hE hZ hS hA (cX6_step_ok l hl0 g c0 h k0 x0 d0 a1 a2 a3 a4 k1 γ σ η p2 p3 _ e_11) (cwV 2 hts gL_told_X6_step rfl rfl rfl hdX6_step ⟨(Nat.le_of_ble_eq_true rfl), (Nat.le_of_ble_eq_true rfl)⟩) rfl rfl (fun _ => rfl) (by decide) (by decide) (by decide) (by decide) rfl rfl rfl rfl hl.1 rfl (Nat.le_of_ble_eq_true rfl) ⟨(Nat.le_of_ble_eq_true rfl), (Nat.le_of_ble_eq_true rfl)⟩ dL_told_21 (fun E ce q9 H locs ox_11 hP hD hS hce hcv hcl => ?_) (fun v_11 H locs ok_11 hP hD hS => ?_)
      · have hf := xe ox_11 hf
        by_cases z_12 : E = "java/lang/IllegalStateException"
        · have hf := ip z_12 hf
          subst z_12
          refine vx_catch (name := "java/lang/IllegalStateException") hown [] ⟨0, 67, 68, 179⟩ [] (htab.trans rfl) (fun z hz => absurd hz List.not_mem_nil) (by decide) (by decide) (hts _ hkL_told_179) (va_Nw.use rfl (hE.2.1 (.castable "java/lang/IllegalStateException" "java/lang/IllegalStateException") (by decide +kernel))) hce hcv hcl ?_
          refine lv_astore (lv' := [(4, .ref q9), (0, .ref c0), (1, .int p1), (2, .int p2), (3, .int p3)]) hx hb dL_told_68 hl (by decide) rfl (fun ls hl => ?_)
          refine lv_bipush (v := (-13 : Int32)) hx hb dL_told_70 (by decide) ?_
          have ho := Option.some.inj hf
          subst ho
          exact w_iret (v := (-13 : Int32)) hx hb hr hlocks hP hD hS ⟨(Nat.le_of_ble_eq_true rfl), (Nat.le_of_ble_eq_true rfl)⟩ rfl dL_told_72
        · have hf := iq z_12 hf
          exact nomatch (show (none : Option (Int32 × Sh × Hi)) = some _ from hf)
      · have hf := xo ok_11 hf
        refine lv_beq (tgt := 31) hx hb dL_told_24 (by decide) (fun c_13 => ?_) (fun c_13 => ?_)
        · have hf := iq c_13 hf
          refine lv_iconst (v := (0 : Int32)) hx hb dL_told_31 (by decide) ?_
          refine lv_goto (tgt := 67) hx hb dL_told_32 (by decide) ?_
          have ho := Option.some.inj hf
          subst ho
          exact w_iret (v := (0 : Int32)) hx hb hr hlocks hP hD hS ⟨(Nat.le_of_ble_eq_true rfl), (Nat.le_of_ble_eq_true rfl)⟩ rfl dL_told_67
        · have hf := ip c_13 hf
          refine lv_iconst (v := (1 : Int32)) hx hb dL_told_27 (by decide) ?_
          refine lv_goto (tgt := 67) hx hb dL_told_28 (by decide) ?_
          have ho := Option.some.inj hf
          subst ho
          exact w_iret (v := (1 : Int32)) hx hb hr hlocks hP hD hS ⟨(Nat.le_of_ble_eq_true rfl), (Nat.le_of_ble_eq_true rfl)⟩ rfl dL_told_67
  · have hf := ip c_1 hf
    refine lv_aload_n hx hb dL_told_4 rfl (lv_at hl 0 rfl) ?_
    refine lv_iload_n hx hb dL_told_5 rfl (lv_at hl 2 rfl) ?_
    refine lv_iload_n hx hb dL_told_6 rfl (lv_at hl 3 rfl) ?_
    obtain ⟨r_14, e_14, hf⟩ := bo hf
    refine wcallVmi (W0 := (wC c0 h k0 x0 d0 ++ (wS g h a1 a2 a3 a4 σ ++ (wH g k0 k1 γ η)))) (Wc := (wC c0 h k0 x0 d0 ++ (wS g h a1 a2 a3 a4 σ ++ (wH g k0 k1 γ η)))) (Wr := ([] : va_W)) (W1 := fun u : Sh × Hi => (wC c0 h k0 x0 d0 ++ (wS g h a1 a2 a3 a4 u.1 ++ (wH g k0 k1 γ u.2)))) (W2 := fun u : Sh × Hi => (wC c0 h k0 x0 d0 ++ (wS g h a1 a2 a3 a4 u.1 ++ (wH g k0 k1 γ u.2)))) (As := [.int p2, .int p3]) (rest := []) [0, 1, 2, 3, 4, 5, 6, 7, 8, 9, 10, 11, 12, 13, 14, 15, 16, 17, 18, 19, 20, 21, 22, 23, 24, 25, 26, 27, 28, 29, 30, 31, 32, 33, 34, 35, 36, 37] [] [0, 1, 2, 3, 4, 5, 6, 7, 8, 9, 10, 11, 12, 13, 14, 15, 16, 17, 18, 19, 20, 21, 22, 23, 24, 25, 26, 27, 28, 29, 30, 31, 32, 33, 34, 35, 36, 37] 4 0 ⟨hx, hb, hml, hown, hts⟩ hP hD hE hZ hS hA (cX6_begin_ok l hl0 g c0 h k0 x0 d0 a1 a2 a3 a4 k1 γ σ η p2 p3 _ e_14) (cwV 2 hts gL_told_X6_begin rfl rfl rfl hdX6_begin ⟨(Nat.le_of_ble_eq_true rfl), (Nat.le_of_ble_eq_true rfl)⟩) rfl rfl (fun _ => rfl) (by decide) (by decide) (by decide) (by decide) rfl rfl rfl rfl hl.1 rfl (Nat.le_of_ble_eq_true rfl) ⟨(Nat.le_of_ble_eq_true rfl), (Nat.le_of_ble_eq_true rfl)⟩ dL_told_7 (fun E ce q9 H locs ox_14 hP hD hS hce hcv hcl => ?_) (fun v_14 H locs ok_14 hP hD hS => ?_)
    · have hf := xe ox_14 hf
      by_cases z_15 : E = "java/lang/IllegalStateException"
      · have hf := ip z_15 hf
        subst z_15
        refine vx_catch (name := "java/lang/IllegalStateException") hown [] ⟨0, 67, 68, 179⟩ [] (htab.trans rfl) (fun z hz => absurd hz List.not_mem_nil) (by decide) (by decide) (hts _ hkL_told_179) (va_Nw.use rfl (hE.2.1 (.castable "java/lang/IllegalStateException" "java/lang/IllegalStateException") (by decide +kernel))) hce hcv hcl ?_
        refine lv_astore (lv' := [(4, .ref q9), (0, .ref c0), (1, .int p1), (2, .int p2), (3, .int p3)]) hx hb dL_told_68 hl (by decide) rfl (fun ls hl => ?_)
        refine lv_bipush (v := (-13 : Int32)) hx hb dL_told_70 (by decide) ?_
        have ho := Option.some.inj hf
        subst ho
        exact w_iret (v := (-13 : Int32)) hx hb hr hlocks hP hD hS ⟨(Nat.le_of_ble_eq_true rfl), (Nat.le_of_ble_eq_true rfl)⟩ rfl dL_told_72
      · have hf := iq z_15 hf
        exact nomatch (show (none : Option (Int32 × Sh × Hi)) = some _ from hf)
    · have hf := xo ok_14 hf
      refine lv_goto (tgt := 67) hx hb dL_told_10 (by decide) ?_
      have ho := Option.some.inj hf
      subst ho
      exact w_iret (v := v_14.1) hx hb hr hlocks hP hD hS ⟨(Nat.le_of_ble_eq_true rfl), (Nat.le_of_ble_eq_true rfl)⟩ rfl dL_told_67
