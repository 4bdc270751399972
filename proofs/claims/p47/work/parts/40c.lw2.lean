def fL_against (cap : Nat) (ν : (Nat → Int32)) (ζ : (Nat → Int64)) (ψ : (Nat → Int32)) (p2 p4 : Int32) : Option (Int32) := ((fL_bends ν ζ ψ p2 p4).bind fun r_1 => (if r_1 < 0 then (if 0 ≤ r_1 then (some (2 : Int32)) else (some (1 : Int32))) else (if r_1 ≤ (1 : Int32) then (if inR p4 61 then ((fL_size ν p2).bind fun r_6 => (if inR ((p4 + r_6) - (1 : Int32)) 61 then (if ((((ψ (Int32.toNatClampNeg p4)) / (24 : Int32)) - ((ψ (Int32.toNatClampNeg ((p4 + r_6) - (1 : Int32)))) / (24 : Int32))) * (((ψ (Int32.toNatClampNeg p4)) / (24 : Int32)) - ((ψ (Int32.toNatClampNeg ((p4 + r_6) - (1 : Int32)))) / (24 : Int32)))) ≤ (((irm (ψ (Int32.toNatClampNeg p4)) (24 : Int32)) - (irm (ψ (Int32.toNatClampNeg ((p4 + r_6) - (1 : Int32)))) (24 : Int32))) * ((irm (ψ (Int32.toNatClampNeg p4)) (24 : Int32)) - (irm (ψ (Int32.toNatClampNeg ((p4 + r_6) - (1 : Int32)))) (24 : Int32)))) then (if 0 + (uF ν p2) ≤ cap then ((fL_free (uF ν p2) ν ζ ψ p2 p4).bind fun r_9 => (if (ν (Int32.toNatClampNeg (33 : Int32))) ≤ r_9 then (some (0 : Int32)) else (some (4 : Int32)))) else none) else (some (3 : Int32))) else none)) else none) else (if 0 ≤ r_1 then (some (2 : Int32)) else (some (1 : Int32))))))
abbrev rmL_against (cap : Nat) : Room := { frames := 4, cells := 3 * cap, slots := 61 * cap, locals := 103 }
theorem hdL_against : yL_against.cls = RL ∧ yL_against.cls ≠ "java/lang/invoke/MethodHandle" ∧ yL_against.cls ≠ "java/lang/invoke/VarHandle" ∧ (parseMethodDescriptor yL_against.desc).map (fun d => d.parameters.length) = some 5 := by decide +kernel
set_option maxHeartbeats 4000000 in
set_option maxRecDepth 100000 in
theorem cL_against_ok (l : Launch) (hl0 : l.stackTraces = false) (g : Gg) (cap : Nat) (v0 z0 p0 : Nat) (ν : (Nat → Int32)) (ζ : (Nat → Int64)) (ψ : (Nat → Int32)) (p2 p4 : Int32) (sz : Nat) {o : Int32} (hf : fL_against cap ν ζ ψ p2 p4 = some o) : Met l yL_against wsL_against (rmL_against cap) (va_Pc [.ref v0, .ref z0, .int p2, .ref p0, .int p4] (PM g (wV g v0 ν ++ (wZ g z0 ζ ++ (wP g p0 ψ))) sz)) (va_Qi (fun r' (_ : Unit) => r' = o) (fun _ t => PQ g (wV g v0 ν ++ (wZ g z0 ζ ++ (wP g p0 ψ))) (va_A (wV g v0 ν ++ (wZ g z0 ζ ++ (wP g p0 ψ))) sz) t) (va_A (wV g v0 ν ++ (wZ g z0 ζ ++ (wP g p0 ψ))) sz)) (3 * cap) (61 * cap) (va_A (wV g v0 ν ++ (wZ g z0 ζ ++ (wP g p0 ψ))) sz) := by
  refine Met.ofW (cc := cL_against) (maxL := 10) (ret := (some .int)) (by decide) rfl ?_
  intro p e s m args below meth c s₁ B hml hv
  obtain ⟨rfl, rfl, hP, hD0, hE, hZ⟩ := hv
  have hx := B.exec
  have hb := B.bytes
  have hr := B.returns
  have hts := atoms_spec (ws := wsL_against) B.pre
  have hown : s.vm.findClass RL = some m.cls := findClass_of_methodNamed B.named
  have hlocks := B.notSynchronized
  have hD := hD0.self (sz := s.heap.size)
  generalize hAe : (va_A (wV g v0 ν ++ (wZ g z0 ζ ++ (wP g p0 ψ))) s.heap.size) = A at hD hZ ⊢
  have hA : ∀ q : Nat, s.heap.size ≤ q → A q := fun q h => by rw [← hAe]; exact Or.inr h
  have hS : va_S A s.heap s.heap [] := va_S.rf
  have hP : va_P g.1 vwCl (wV g v0 ν ++ (wZ g z0 ζ ++ (wP g p0 ψ))) s.heap := hP
  have hl := lv_entry ([.ref v0, .ref z0, .int p2, .ref p0, .int p4]) (n := 10) (Nat.le_of_ble_eq_true rfl)
  rw [lg_entry_eq]
  generalize (lg_sl ([.ref v0, .ref z0, .int p2, .ref p0, .int p4]) ++ List.replicate (10 - (lg_sl ([.ref v0, .ref z0, .int p2, .ref p0, .int p4])).length) Slot.unset).toArray = ls at hl ⊢
  refine W.cs (cells' := 3 * 0) (slots' := 61 * 0) rfl rfl ?_
  have hl : lv_has ls 10 [(0, .ref v0), (1, .ref z0), (2, .int p2), (3, .ref p0), (4, .int p4)] := hl
  unfold fL_against at hf
  refine lv_aload_n hx hb dL_against_0 rfl (lv_at hl 0 rfl) ?_
  refine lv_aload_n hx hb dL_against_1 rfl (lv_at hl 1 rfl) ?_
  refine lv_iload_n hx hb dL_against_2 rfl (lv_at hl 2 rfl) ?_
  refine lv_aload_n hx hb dL_against_3 rfl (lv_at hl 3 rfl) ?_
  refine lv_iload hx hb dL_against_4 (lv_at hl 4 rfl) ?_
  obtain ⟨r_1, e_1, hf⟩ := bo hf
  refine pcallS (W0 := (wV g v0 ν ++ (wZ g z0 ζ ++ (wP g p0 ψ)))) (As := [.ref v0, .ref z0, .int p2, .ref p0, .int p4]) (rest := []) [0, 1, 2] ⟨hx, hb, hml, hown, hts⟩ hP hE hZ hS (cL_bends_ok l g v0 z0 p0 ν ζ ψ p2 p4 e_1) (va_cwS 5 hts gL_against_L_bends rfl rfl rfl hdL_bends.2 ⟨(Nat.le_of_ble_eq_true rfl), (Nat.le_of_ble_eq_true rfl)⟩) rfl rfl hl.1 rfl (Nat.le_of_ble_eq_true rfl) ⟨(k3 (Nat.zero_le _)), (k61 (Nat.zero_le _))⟩ dL_against_6 ?_
  refine lv_istore (lv' := [(5, .int r_1), (0, .ref v0), (1, .ref z0), (2, .int p2), (3, .ref p0), (4, .int p4)]) hx hb dL_against_9 hl (by decide) rfl (fun ls hl => ?_)
  refine lv_iload hx hb dL_against_11 (lv_at hl 0 rfl) ?_
  refine lv_if_lt (tgt := 22) hx hb dL_against_13 (by decide) (fun c_2 => ?_) (fun c_2 => ?_)
  · have hf := ip c_2 hf
    refine lv_iload hx hb dL_against_22 (lv_at hl 0 rfl) ?_
    refine lv_if_ge (tgt := 31) hx hb dL_against_24 (by decide) (fun c_3 => ?_) (fun c_3 => ?_)
    · have hf := ip c_3 hf
      refine lv_iconst (v := (2 : Int32)) hx hb dL_against_31 (by decide) ?_
      have ho := Option.some.inj hf
      subst ho
      refine W.widen (k := 3 * cap) (n := 61 * cap) (k3 (Nat.zero_le _)) (k61 (Nat.zero_le _)) ?_
      exact m_iret (v := (2 : Int32)) hx hb hr hlocks hP hD hS rfl dL_against_32
    · have hf := iq c_3 hf
      refine lv_iconst (v := (1 : Int32)) hx hb dL_against_27 (by decide) ?_
      refine lv_goto (tgt := 32) hx hb dL_against_28 (by decide) ?_
      have ho := Option.some.inj hf
      subst ho
      refine W.widen (k := 3 * cap) (n := 61 * cap) (k3 (Nat.zero_le _)) (k61 (Nat.zero_le _)) ?_
      exact m_iret (v := (1 : Int32)) hx hb hr hlocks hP hD hS rfl dL_against_32
  · have hf := iq c_2 hf
    refine lv_iload hx hb dL_against_16 (lv_at hl 0 rfl) ?_
    refine lv_iconst (v := (1 : Int32)) hx hb dL_against_18 (by decide) ?_
    refine lv_icmp_le (tgt := 33) hx hb dL_against_19 (by decide) (fun c_4 => ?_) (fun c_4 => ?_)
    · have hf := ip c_4 hf
      refine lv_aload_n hx hb dL_against_33 rfl (lv_at hl 4 rfl) ?_
      refine lv_iload hx hb dL_against_34 (lv_at hl 5 rfl) ?_
      obtain ⟨h_5, hf⟩ := ck hf
      refine va_iald hx hb hE.1 hP 2 0 rfl rfl (vin h_5) dL_against_36 ?_
      refine lv_istore (lv' := [(6, .int (ψ (Int32.toNatClampNeg p4))), (5, .int r_1), (0, .ref v0), (1, .ref z0), (2, .int p2), (3, .ref p0), (4, .int p4)]) hx hb dL_against_37 hl (by decide) rfl (fun ls hl => ?_)
      refine lv_aload_n hx hb dL_against_39 rfl (lv_at hl 5 rfl) ?_
      refine lv_iload hx hb dL_against_40 (lv_at hl 6 rfl) ?_
      refine lv_aload_n hx hb dL_against_42 rfl (lv_at hl 2 rfl) ?_
      refine lv_iload_n hx hb dL_against_43 rfl (lv_at hl 4 rfl) ?_
      obtain ⟨r_6, e_6, hf⟩ := bo hf
      refine pcallS (W0 := (wV g v0 ν ++ (wZ g z0 ζ ++ (wP g p0 ψ)))) (As := [.ref v0, .int p2]) (rest := [.int p4, .ref p0]) [0] ⟨hx, hb, hml, hown, hts⟩ hP hE hZ hS (cL_size_ok l g v0 ν p2 e_6) (va_cwS 2 hts gL_against_L_size rfl rfl rfl hdL_size.2 ⟨(Nat.le_of_ble_eq_true rfl), (Nat.le_of_ble_eq_true rfl)⟩) rfl rfl hl.1 rfl (Nat.le_of_ble_eq_true rfl) ⟨(k3 (Nat.zero_le _)), (k61 (Nat.zero_le _))⟩ dL_against_44 ?_
      refine lv_iadd hx hb dL_against_47 ?_
      refine lv_iconst (v := (1 : Int32)) hx hb dL_against_48 (by decide) ?_
      refine lv_isub hx hb dL_against_49 ?_
      obtain ⟨h_7, hf⟩ := ck hf
      refine va_iald hx hb hE.1 hP 2 0 rfl rfl (vin h_7) dL_against_50 ?_
      refine lv_istore (lv' := [(7, .int (ψ (Int32.toNatClampNeg ((p4 + r_6) - (1 : Int32))))), (6, .int (ψ (Int32.toNatClampNeg p4))), (5, .int r_1), (0, .ref v0), (1, .ref z0), (2, .int p2), (3, .ref p0), (4, .int p4)]) hx hb dL_against_51 hl (by decide) rfl (fun ls hl => ?_)
      refine lv_iload hx hb dL_against_53 (lv_at hl 1 rfl) ?_
      refine lv_bipush (v := (24 : Int32)) hx hb dL_against_55 (by decide) ?_
      refine lv_idiv hx hb dL_against_57 (by decide) ?_
      refine lv_iload hx hb dL_against_58 (lv_at hl 0 rfl) ?_
      refine lv_bipush (v := (24 : Int32)) hx hb dL_against_60 (by decide) ?_
      refine lv_idiv hx hb dL_against_62 (by decide) ?_
      refine lv_isub hx hb dL_against_63 ?_
      refine lv_istore (lv' := [(8, .int (((ψ (Int32.toNatClampNeg p4)) / (24 : Int32)) - ((ψ (Int32.toNatClampNeg ((p4 + r_6) - (1 : Int32)))) / (24 : Int32)))), (7, .int (ψ (Int32.toNatClampNeg ((p4 + r_6) - (1 : Int32))))), (6, .int (ψ (Int32.toNatClampNeg p4))), (5, .int r_1), (0, .ref v0), (1, .ref z0), (2, .int p2), (3, .ref p0), (4, .int p4)]) hx hb dL_against_64 hl (by decide) rfl (fun ls hl => ?_)
      refine lv_iload hx hb dL_against_66 (lv_at hl 2 rfl) ?_
      refine lv_bipush (v := (24 : Int32)) hx hb dL_against_68 (by decide) ?_
      refine lv_irm hx hb dL_against_70 (by decide) ?_
      refine lv_iload hx hb dL_against_71 (lv_at hl 1 rfl) ?_
      refine lv_bipush (v := (24 : Int32)) hx hb dL_against_73 (by decide) ?_
      refine lv_irm hx hb dL_against_75 (by decide) ?_
      refine lv_isub hx hb dL_against_76 ?_
      refine lv_istore (lv' := [(9, .int ((irm (ψ (Int32.toNatClampNeg p4)) (24 : Int32)) - (irm (ψ (Int32.toNatClampNeg ((p4 + r_6) - (1 : Int32)))) (24 : Int32)))), (8, .int (((ψ (Int32.toNatClampNeg p4)) / (24 : Int32)) - ((ψ (Int32.toNatClampNeg ((p4 + r_6) - (1 : Int32)))) / (24 : Int32)))), (7, .int (ψ (Int32.toNatClampNeg ((p4 + r_6) - (1 : Int32))))), (6, .int (ψ (Int32.toNatClampNeg p4))), (5, .int r_1), (0, .ref v0), (1, .ref z0), (2, .int p2), (3, .ref p0), (4, .int p4)]) hx hb dL_against_77 hl (by decide) rfl (fun ls hl => ?_)
      refine lv_iload hx hb dL_against_79 (lv_at hl 1 rfl) ?_
      refine lv_iload hx hb dL_against_81 (lv_at hl 1 rfl) ?_
      refine lv_imul hx hb dL_against_83 ?_
      refine lv_iload hx hb dL_against_84 (lv_at hl 0 rfl) ?_
      refine lv_iload hx hb dL_against_86 (lv_at hl 0 rfl) ?_
      refine lv_imul hx hb dL_against_88 ?_
      refine lv_icmp_le (tgt := 96) hx hb dL_against_89 (by decide) (fun c_8 => ?_) (fun c_8 => ?_)
      · have hf := ip c_8 hf
        refine lv_aload_n hx hb dL_against_96 rfl (lv_at hl 5 rfl) ?_
        refine lv_aload_n hx hb dL_against_97 rfl (lv_at hl 6 rfl) ?_
        refine lv_iload_n hx hb dL_against_98 rfl (lv_at hl 7 rfl) ?_
        refine lv_aload_n hx hb dL_against_99 rfl (lv_at hl 8 rfl) ?_
        refine lv_iload hx hb dL_against_100 (lv_at hl 9 rfl) ?_
        obtain ⟨h_9, hf⟩ := ck hf
        obtain ⟨r_9, e_9, hf⟩ := bo hf
        refine mcallSi (W0 := (wV g v0 ν ++ (wZ g z0 ζ ++ (wP g p0 ψ)))) (Wc := (wV g v0 ν ++ (wZ g z0 ζ ++ (wP g p0 ψ)))) (Wr := ([] : va_W)) (W1 := (wV g v0 ν ++ (wZ g z0 ζ ++ (wP g p0 ψ)))) (W2 := (wV g v0 ν ++ (wZ g z0 ζ ++ (wP g p0 ψ)))) (As := [.ref v0, .ref z0, .int p2, .ref p0, .int p4]) (rest := []) [0, 1, 2] [] [0, 1, 2] ⟨hx, hb, hml, hown, hts⟩ hP hD hE hZ hS hA (cL_free_ok l hl0 g (uF ν p2) v0 z0 p0 ν ζ ψ p2 p4 _ e_9) (va_cwS 5 hts gL_against_L_free rfl rfl rfl hdL_free.2 ⟨(Nat.le_of_ble_eq_true rfl), (Nat.le_of_ble_eq_true rfl)⟩) rfl rfl rfl (by decide) (by decide) (by decide) (by decide) rfl hl.1 rfl (Nat.le_of_ble_eq_true rfl) ⟨(kc3 h_9), (kc61 h_9)⟩ dL_against_102 (fun H locs hP hD hS => ?_)
        refine W.widen (k := 3 * (0 + (uF ν p2))) (n := 61 * (0 + (uF ν p2))) (by omega) (by omega) ?_
        refine lv_aload_n hx hb dL_against_105 rfl (lv_at hl 5 rfl) ?_
        refine lv_bipush (v := (33 : Int32)) hx hb dL_against_106 (by decide) ?_
        refine va_iald hx hb hE.1 hP 0 0 rfl rfl (vin (by decide)) dL_against_108 ?_
        refine lv_icmp_ge (tgt := 116) hx hb dL_against_109 (by decide) (fun c_10 => ?_) (fun c_10 => ?_)
        · have hf := ip c_10 hf
          refine lv_iconst (v := (0 : Int32)) hx hb dL_against_116 (by decide) ?_
          have ho := Option.some.inj hf
          subst ho
          refine W.widen (k := 3 * cap) (n := 61 * cap) (k3 h_9) (k61 h_9) ?_
          exact m_iret (v := (0 : Int32)) hx hb hr hlocks hP hD hS rfl dL_against_117
        · have hf := iq c_10 hf
          refine lv_iconst (v := (4 : Int32)) hx hb dL_against_112 (by decide) ?_
          refine lv_goto (tgt := 117) hx hb dL_against_113 (by decide) ?_
          have ho := Option.some.inj hf
          subst ho
          refine W.widen (k := 3 * cap) (n := 61 * cap) (k3 h_9) (k61 h_9) ?_
          exact m_iret (v := (4 : Int32)) hx hb hr hlocks hP hD hS rfl dL_against_117
      · have hf := iq c_8 hf
        refine lv_iconst (v := (3 : Int32)) hx hb dL_against_92 (by decide) ?_
        refine lv_goto (tgt := 117) hx hb dL_against_93 (by decide) ?_
        have ho := Option.some.inj hf
        subst ho
        refine W.widen (k := 3 * cap) (n := 61 * cap) (k3 (Nat.zero_le _)) (k61 (Nat.zero_le _)) ?_
        exact m_iret (v := (3 : Int32)) hx hb hr hlocks hP hD hS rfl dL_against_117
    · have hf := iq c_4 hf
      refine lv_iload hx hb dL_against_22 (lv_at hl 0 rfl) ?_
      refine lv_if_ge (tgt := 31) hx hb dL_against_24 (by decide) (fun c_11 => ?_) (fun c_11 => ?_)
      · have hf := ip c_11 hf
        refine lv_iconst (v := (2 : Int32)) hx hb dL_against_31 (by decide) ?_
        have ho := Option.some.inj hf
        subst ho
        refine W.widen (k := 3 * cap) (n := 61 * cap) (k3 (Nat.zero_le _)) (k61 (Nat.zero_le _)) ?_
        exact m_iret (v := (2 : Int32)) hx hb hr hlocks hP hD hS rfl dL_against_32
      · have hf := iq c_11 hf
        refine lv_iconst (v := (1 : Int32)) hx hb dL_against_27 (by decide) ?_
        refine lv_goto (tgt := 32) hx hb dL_against_28 (by decide) ?_
        have ho := Option.some.inj hf
        subst ho
        refine W.widen (k := 3 * cap) (n := 61 * cap) (k3 (Nat.zero_le _)) (k61 (Nat.zero_le _)) ?_
        exact m_iret (v := (1 : Int32)) hx hb hr hlocks hP hD hS rfl dL_against_32

def fL_best_90 (cap : Nat) (ν : (Nat → Int32)) (ζ : (Nat → Int64)) (p2 : Int32) (ψ_27 : (Nat → Int32)) (k27 : Int32 → Int32 → Int32 → Nat → Option (Int32)) (v5_90 : Int32) (v6_90 : Int32) (v7_90 : Int32) (t0_90 : Int32) (n_90 : Nat) : Option (Int32) := (if t0_90 = v6_90 then k27 t0_90 v7_90 (v6_90 + (-1)) n_90 else k27 t0_90 v5_90 (v6_90 + (-1)) n_90)
def fL_best_27 (cap : Nat) (ν : (Nat → Int32)) (ζ : (Nat → Int64)) (p2 : Int32) (ψ_27 : (Nat → Int32)) : Nat → Int32 → Int32 → Int32 → Nat → Option (Int32)
  | 0, _, _, _, _ => none
  | n + 1, v4_27, v5_27, v6_27, n_27 => (if v6_27 < 0 then (some v4_27) else (if n_27 + (uA ν p2 v6_27) ≤ cap then ((fL_against (uA ν p2 v6_27) ν ζ ψ_27 p2 v6_27).bind fun r_3 => (if r_3 = 0 then ((fL_bends ν ζ ψ_27 p2 v6_27).bind fun r_5 => (if (n_27 + (uA ν p2 v6_27)) + (uF ν p2) ≤ cap then ((fL_free (uF ν p2) ν ζ ψ_27 p2 v6_27).bind fun r_6 => (if v4_27 < 0 then fL_best_90 cap ν ζ p2 ψ_27 (fL_best_27 cap ν ζ p2 ψ_27 n) v5_27 v6_27 (((200 : Int32) * ((1 : Int32) - r_5)) + r_6) v6_27 ((n_27 + (uA ν p2 v6_27)) + (uF ν p2)) else (if (((200 : Int32) * ((1 : Int32) - r_5)) + r_6) < v5_27 then fL_best_90 cap ν ζ p2 ψ_27 (fL_best_27 cap ν ζ p2 ψ_27 n) v5_27 v6_27 (((200 : Int32) * ((1 : Int32) - r_5)) + r_6) v4_27 ((n_27 + (uA ν p2 v6_27)) + (uF ν p2)) else fL_best_90 cap ν ζ p2 ψ_27 (fL_best_27 cap ν ζ p2 ψ_27 n) v5_27 v6_27 (((200 : Int32) * ((1 : Int32) - r_5)) + r_6) v6_27 ((n_27 + (uA ν p2 v6_27)) + (uF ν p2))))) else none)) else fL_best_27 cap ν ζ p2 ψ_27 n v4_27 v5_27 (v6_27 + (-1)) (n_27 + (uA ν p2 v6_27)))) else none))
def fL_best (cap : Nat) (ν : (Nat → Int32)) (ζ : (Nat → Int64)) (p2 : Int32) : Option (Int32) := (if 0 + 1 ≤ cap then ((fL_walks ν ζ (fun _ => (0 : Int32)) p2).bind fun r_10 => (if inR (((4 : Int32) * p2) + (2 : Int32)) 34 then fL_best_27 cap ν ζ p2 r_10 FU (-1 : Int32) (0 : Int32) (ν (Int32.toNatClampNeg (((4 : Int32) * p2) + (2 : Int32)))) (0 + 1) else none)) else none)
abbrev rmL_best (cap : Nat) : Room := { frames := 5, cells := 3 * cap, slots := 61 * cap, locals := 132 }
theorem hdL_best : yL_best.cls = RL ∧ yL_best.cls ≠ "java/lang/invoke/MethodHandle" ∧ yL_best.cls ≠ "java/lang/invoke/VarHandle" ∧ (parseMethodDescriptor yL_best.desc).map (fun d => d.parameters.length) = some 3 := by decide +kernel
theorem naL_best : (.arrayClass .int : Cond) ∈ wsL_best := by decide +kernel
set_option maxHeartbeats 4000000 in
set_option maxRecDepth 100000 in
theorem cL_best_ok (l : Launch) (hl0 : l.stackTraces = false) (g : Gg) (cap : Nat) (v0 z0 : Nat) (ν : (Nat → Int32)) (ζ : (Nat → Int64)) (p2 : Int32) (sz : Nat) {o : Int32} (hf : fL_best cap ν ζ p2 = some o) : Met l yL_best wsL_best (rmL_best cap) (va_Pc [.ref v0, .ref z0, .int p2] (PM g (wV g v0 ν ++ (wZ g z0 ζ)) sz)) (va_Qi (fun r' (_ : Unit) => r' = o) (fun _ t => PQ g (wV g v0 ν ++ (wZ g z0 ζ)) (va_A (wV g v0 ν ++ (wZ g z0 ζ)) sz) t) (va_A (wV g v0 ν ++ (wZ g z0 ζ)) sz)) (3 * cap) (61 * cap) (va_A (wV g v0 ν ++ (wZ g z0 ζ)) sz) := by
  refine Met.ofW (cc := cL_best) (maxL := 8) (ret := (some .int)) (by decide) rfl ?_
  intro p e s m args below meth c s₁ B hml hv
  obtain ⟨rfl, rfl, hP, hD0, hE, hZ⟩ := hv
  have hx := B.exec
  have hb := B.bytes
  have hr := B.returns
  have hts := atoms_spec (ws := wsL_best) B.pre
  have hown : s.vm.findClass RL = some m.cls := findClass_of_methodNamed B.named
  have hlocks := B.notSynchronized
  have hD := hD0.self (sz := s.heap.size)
  generalize hAe : (va_A (wV g v0 ν ++ (wZ g z0 ζ)) s.heap.size) = A at hD hZ ⊢
  have hA : ∀ q : Nat, s.heap.size ≤ q → A q := fun q h => by rw [← hAe]; exact Or.inr h
  have hS : va_S A s.heap s.heap [] := va_S.rf
  have hP : va_P g.1 vwCl (wV g v0 ν ++ (wZ g z0 ζ)) s.heap := hP
  have hl := lv_entry ([.ref v0, .ref z0, .int p2]) (n := 8) (Nat.le_of_ble_eq_true rfl)
  rw [lg_entry_eq]
  generalize (lg_sl ([.ref v0, .ref z0, .int p2]) ++ List.replicate (8 - (lg_sl ([.ref v0, .ref z0, .int p2])).length) Slot.unset).toArray = ls at hl ⊢
  refine W.cs (cells' := 3 * 0) (slots' := 61 * 0) rfl rfl ?_
  have hl : lv_has ls 8 [(0, .ref v0), (1, .ref z0), (2, .int p2)] := hl
  have hB27 : ∀ (p0 : Nat) (ψ_27 : (Nat → Int32)) (n27 : Nat) (v4_27 : Int32) (v5_27 : Int32) (v6_27 : Int32) (n_27 : Nat) (H : Heap) (locs : List Loc) (hn : n_27 ≤ cap) (ls : Array Slot), va_P g.1 vwCl (wV g v0 ν ++ (wZ g z0 ζ ++ (wP g p0 ψ_27))) H → va_D A (wV g v0 ν ++ (wZ g z0 ζ ++ (wP g p0 ψ_27))) → va_S A s.heap H locs → lv_has ls 8 [(0, .ref v0), (1, .ref z0), (2, .int p2), (3, .ref p0), (4, .int v4_27), (5, .int v5_27), (6, .int v6_27)] → fL_best_27 cap ν ζ p2 ψ_27 n27 v4_27 v5_27 v6_27 n_27 = some o → W p l e (headSpec wsL_best (rmL_best cap)).room s m ([.ref v0, .ref z0, .int p2] : List Value).toArray below meth c H locs (3 * n_27) (61 * n_27) (MQ below (va_Qi (fun r' (_ : Unit) => r' = o) (fun _ t => PQ g (wV g v0 ν ++ (wZ g z0 ζ)) A t) A) ([.ref v0, .ref z0, .int p2] : List Value).toArray s (3 * cap) (61 * cap) A) (F0 m 27 ls []) := by
    intro p0 ψ_27 n27
    induction n27 with
    | zero => intro v4_27 v5_27 v6_27 n_27 H locs hn ls hP hD hS hl hf; exact nomatch (show (none : Option (Int32)) = some _ from hf)
    | succ n27 ih27 =>
      have hB90 : ∀ (v5_90 : Int32) (v6_90 : Int32) (v7_90 : Int32) (t0_90 : Int32) (n_90 : Nat) (H : Heap) (locs : List Loc) (hn : n_90 ≤ cap) (ls : Array Slot), va_P g.1 vwCl (wV g v0 ν ++ (wZ g z0 ζ ++ (wP g p0 ψ_27))) H → va_D A (wV g v0 ν ++ (wZ g z0 ζ ++ (wP g p0 ψ_27))) → va_S A s.heap H locs → lv_has ls 8 [(0, .ref v0), (1, .ref z0), (2, .int p2), (3, .ref p0), (5, .int v5_90), (6, .int v6_90), (7, .int v7_90)] → fL_best_90 cap ν ζ p2 ψ_27 (fL_best_27 cap ν ζ p2 ψ_27 n27) v5_90 v6_90 v7_90 t0_90 n_90 = some o → W p l e (headSpec wsL_best (rmL_best cap)).room s m ([.ref v0, .ref z0, .int p2] : List Value).toArray below meth c H locs (3 * n_90) (61 * n_90) (MQ below (va_Qi (fun r' (_ : Unit) => r' = o) (fun _ t => PQ g (wV g v0 ν ++ (wZ g z0 ζ)) A t) A) ([.ref v0, .ref z0, .int p2] : List Value).toArray s (3 * cap) (61 * cap) A) (F0 m 90 ls [.int t0_90]) := by
        intro  v5_90 v6_90 v7_90 t0_90 n_90 H locs hn ls hP hD hS hl hf
        unfold fL_best_90 at hf
        refine lv_istore (lv' := [(4, .int t0_90), (0, .ref v0), (1, .ref z0), (2, .int p2), (3, .ref p0), (5, .int v5_90), (6, .int v6_90), (7, .int v7_90)]) hx hb dL_best_90 hl (by decide) rfl (fun ls hl => ?_)
        refine lv_iload hx hb dL_best_92 (lv_at hl 0 rfl) ?_
        refine lv_iload hx hb dL_best_94 (lv_at hl 6 rfl) ?_
        refine lv_icmp_ne (tgt := 104) hx hb dL_best_96 (by decide) (fun c_1 => ?_) (fun c_1 => ?_)
        · have hf := iq c_1 hf
          refine lv_iload hx hb dL_best_104 (lv_at hl 5 rfl) ?_
          refine lv_istore (lv' := [(5, .int v5_90), (4, .int t0_90), (0, .ref v0), (1, .ref z0), (2, .int p2), (3, .ref p0), (6, .int v6_90), (7, .int v7_90)]) hx hb dL_best_106 hl (by decide) rfl (fun ls hl => ?_)
          refine lv_iinc (v := (v6_90 + (-1))) (lv' := [(6, .int (v6_90 + (-1))), (5, .int v5_90), (4, .int t0_90), (0, .ref v0), (1, .ref z0), (2, .int p2), (3, .ref p0), (7, .int v7_90)]) hx hb dL_best_108 hl (k := 6) rfl rfl (by decide) rfl (fun ls hl => ?_)
          refine lv_goto (tgt := 27) hx hb dL_best_111 (by decide) ?_
          exact ih27 t0_90 v5_90 (v6_90 + (-1)) n_90 _ _ hn ls hP hD hS (lv_sub hl [3, 4, 5, 6, 2, 1, 0] rfl) hf
        · have hf := ip c_1 hf
          refine lv_iload hx hb dL_best_99 (lv_at hl 7 rfl) ?_
          refine lv_goto (tgt := 106) hx hb dL_best_101 (by decide) ?_
          refine lv_istore (lv' := [(5, .int v7_90), (4, .int t0_90), (0, .ref v0), (1, .ref z0), (2, .int p2), (3, .ref p0), (6, .int v6_90), (7, .int v7_90)]) hx hb dL_best_106 hl (by decide) rfl (fun ls hl => ?_)
          refine lv_iinc (v := (v6_90 + (-1))) (lv' := [(6, .int (v6_90 + (-1))), (5, .int v7_90), (4, .int t0_90), (0, .ref v0), (1, .ref z0), (2, .int p2), (3, .ref p0), (7, .int v7_90)]) hx hb dL_best_108 hl (k := 6) rfl rfl (by decide) rfl (fun ls hl => ?_)
          refine lv_goto (tgt := 27) hx hb dL_best_111 (by decide) ?_
          exact ih27 t0_90 v7_90 (v6_90 + (-1)) n_90 _ _ hn ls hP hD hS (lv_sub hl [3, 4, 5, 6, 2, 1, 0] rfl) hf
      intro v4_27 v5_27 v6_27 n_27 H locs hn ls hP hD hS hl hf
      rw [fL_best_27] at hf
      refine lv_iload hx hb dL_best_27 (lv_at hl 6 rfl) ?_
      refine lv_if_lt (tgt := 114) hx hb dL_best_29 (by decide) (fun c_2 => ?_) (fun c_2 => ?_)
      · have hf := ip c_2 hf
        refine lv_iload hx hb dL_best_114 (lv_at hl 4 rfl) ?_
        have ho := Option.some.inj hf
        subst ho
        have hP := hP.sub (ws' := (wV g v0 ν ++ (wZ g z0 ζ))) [0, 1] rfl
        have hD := hD.sub (ws' := (wV g v0 ν ++ (wZ g z0 ζ))) [0, 1] (by decide) rfl
        refine W.widen (k := 3 * cap) (n := 61 * cap) (k3 hn) (k61 hn) ?_
        exact m_iret (v := v4_27) hx hb hr hlocks hP hD hS rfl dL_best_116
      · have hf := iq c_2 hf
        refine lv_aload_n hx hb dL_best_32 rfl (lv_at hl 0 rfl) ?_
        refine lv_aload_n hx hb dL_best_33 rfl (lv_at hl 1 rfl) ?_
        refine lv_iload_n hx hb dL_best_34 rfl (lv_at hl 2 rfl) ?_
        refine lv_aload_n hx hb dL_best_35 rfl (lv_at hl 3 rfl) ?_
        refine lv_iload hx hb dL_best_36 (lv_at hl 6 rfl) ?_
        obtain ⟨h_3, hf⟩ := ck hf
        obtain ⟨r_3, e_3, hf⟩ := bo hf
        refine mcallSi (W0 := (wV g v0 ν ++ (wZ g z0 ζ ++ (wP g p0 ψ_27)))) (Wc := (wV g v0 ν ++ (wZ g z0 ζ ++ (wP g p0 ψ_27)))) (Wr := ([] : va_W)) (W1 := (wV g v0 ν ++ (wZ g z0 ζ ++ (wP g p0 ψ_27)))) (W2 := (wV g v0 ν ++ (wZ g z0 ζ ++ (wP g p0 ψ_27)))) (As := [.ref v0, .ref z0, .int p2, .ref p0, .int v6_27]) (rest := []) [0, 1, 2] [] [0, 1, 2] ⟨hx, hb, hml, hown, hts⟩ hP hD hE hZ hS hA (cL_against_ok l hl0 g (uA ν p2 v6_27) v0 z0 p0 ν ζ ψ_27 p2 v6_27 _ e_3) (va_cwS 5 hts gL_best_L_against rfl rfl rfl hdL_against.2 ⟨(Nat.le_of_ble_eq_true rfl), (Nat.le_of_ble_eq_true rfl)⟩) rfl rfl rfl (by decide) (by decide) (by decide) (by decide) rfl hl.1 rfl (Nat.le_of_ble_eq_true rfl) ⟨(kc3 h_3), (kc61 h_3)⟩ dL_best_38 (fun H locs hP hD hS => ?_)
        refine W.widen (k := 3 * (n_27 + (uA ν p2 v6_27))) (n := 61 * (n_27 + (uA ν p2 v6_27))) (by omega) (by omega) ?_
        refine lv_if_ne (tgt := 108) hx hb dL_best_41 (by decide) (fun c_4 => ?_) (fun c_4 => ?_)
        · have hf := iq c_4 hf
          refine lv_iinc (v := (v6_27 + (-1))) (lv' := [(6, .int (v6_27 + (-1))), (0, .ref v0), (1, .ref z0), (2, .int p2), (3, .ref p0), (4, .int v4_27), (5, .int v5_27)]) hx hb dL_best_108 hl (k := 6) rfl rfl (by decide) rfl (fun ls hl => ?_)
          refine lv_goto (tgt := 27) hx hb dL_best_111 (by decide) ?_
          exact ih27 v4_27 v5_27 (v6_27 + (-1)) (n_27 + (uA ν p2 v6_27)) _ _ h_3 ls hP hD hS (lv_sub hl [1, 2, 3, 4, 5, 6, 0] rfl) hf
        · have hf := ip c_4 hf
          refine lv_sipush (v := (200 : Int32)) hx hb dL_best_44 (by decide) ?_
          refine lv_iconst (v := (1 : Int32)) hx hb dL_best_47 (by decide) ?_
          refine lv_aload_n hx hb dL_best_48 rfl (lv_at hl 0 rfl) ?_
          refine lv_aload_n hx hb dL_best_49 rfl (lv_at hl 1 rfl) ?_
          refine lv_iload_n hx hb dL_best_50 rfl (lv_at hl 2 rfl) ?_
          refine lv_aload_n hx hb dL_best_51 rfl (lv_at hl 3 rfl) ?_
          refine lv_iload hx hb dL_best_52 (lv_at hl 6 rfl) ?_
          obtain ⟨r_5, e_5, hf⟩ := bo hf
          refine pcallS (W0 := (wV g v0 ν ++ (wZ g z0 ζ ++ (wP g p0 ψ_27)))) (As := [.ref v0, .ref z0, .int p2, .ref p0, .int v6_27]) (rest := [.int (1 : Int32), .int (200 : Int32)]) [0, 1, 2] ⟨hx, hb, hml, hown, hts⟩ hP hE hZ hS (cL_bends_ok l g v0 z0 p0 ν ζ ψ_27 p2 v6_27 e_5) (va_cwS 5 hts gL_best_L_bends rfl rfl rfl hdL_bends.2 ⟨(Nat.le_of_ble_eq_true rfl), (Nat.le_of_ble_eq_true rfl)⟩) rfl rfl hl.1 rfl (Nat.le_of_ble_eq_true rfl) ⟨(k3 h_3), (k61 h_3)⟩ dL_best_54 ?_
          refine lv_isub hx hb dL_best_57 ?_
          refine lv_imul hx hb dL_best_58 ?_
          refine lv_aload_n hx hb dL_best_59 rfl (lv_at hl 0 rfl) ?_
          refine lv_aload_n hx hb dL_best_60 rfl (lv_at hl 1 rfl) ?_
          refine lv_iload_n hx hb dL_best_61 rfl (lv_at hl 2 rfl) ?_
          refine lv_aload_n hx hb dL_best_62 rfl (lv_at hl 3 rfl) ?_
          refine lv_iload hx hb dL_best_63 (lv_at hl 6 rfl) ?_
          obtain ⟨h_6, hf⟩ := ck hf
          obtain ⟨r_6, e_6, hf⟩ := bo hf
          refine mcallSi (W0 := (wV g v0 ν ++ (wZ g z0 ζ ++ (wP g p0 ψ_27)))) (Wc := (wV g v0 ν ++ (wZ g z0 ζ ++ (wP g p0 ψ_27)))) (Wr := ([] : va_W)) (W1 := (wV g v0 ν ++ (wZ g z0 ζ ++ (wP g p0 ψ_27)))) (W2 := (wV g v0 ν ++ (wZ g z0 ζ ++ (wP g p0 ψ_27)))) (As := [.ref v0, .ref z0, .int p2, .ref p0, .int v6_27]) (rest := [.int ((200 : Int32) * ((1 : Int32) - r_5))]) [0, 1, 2] [] [0, 1, 2] ⟨hx, hb, hml, hown, hts⟩ hP hD hE hZ hS hA (cL_free_ok l hl0 g (uF ν p2) v0 z0 p0 ν ζ ψ_27 p2 v6_27 _ e_6) (va_cwS 5 hts gL_best_L_free rfl rfl rfl hdL_free.2 ⟨(Nat.le_of_ble_eq_true rfl), (Nat.le_of_ble_eq_true rfl)⟩) rfl rfl rfl (by decide) (by decide) (by decide) (by decide) rfl hl.1 rfl (Nat.le_of_ble_eq_true rfl) ⟨(kc3 h_6), (kc61 h_6)⟩ dL_best_65 (fun H locs hP hD hS => ?_)
          refine W.widen (k := 3 * ((n_27 + (uA ν p2 v6_27)) + (uF ν p2))) (n := 61 * ((n_27 + (uA ν p2 v6_27)) + (uF ν p2))) (by omega) (by omega) ?_
          refine lv_iadd hx hb dL_best_68 ?_
          refine lv_istore (lv' := [(7, .int (((200 : Int32) * ((1 : Int32) - r_5)) + r_6)), (0, .ref v0), (1, .ref z0), (2, .int p2), (3, .ref p0), (4, .int v4_27), (5, .int v5_27), (6, .int v6_27)]) hx hb dL_best_69 hl (by decide) rfl (fun ls hl => ?_)
          refine lv_iload hx hb dL_best_71 (lv_at hl 5 rfl) ?_
          refine lv_if_lt (tgt := 83) hx hb dL_best_73 (by decide) (fun c_7 => ?_) (fun c_7 => ?_)
          · have hf := ip c_7 hf
            refine lv_iload hx hb dL_best_83 (lv_at hl 7 rfl) ?_
            refine lv_goto (tgt := 90) hx hb dL_best_85 (by decide) ?_
            exact hB90 v5_27 v6_27 (((200 : Int32) * ((1 : Int32) - r_5)) + r_6) v6_27 ((n_27 + (uA ν p2 v6_27)) + (uF ν p2)) _ _ h_6 ls hP hD hS (lv_sub hl [1, 2, 3, 4, 6, 7, 0] rfl) hf
          · have hf := iq c_7 hf
            refine lv_iload hx hb dL_best_76 (lv_at hl 0 rfl) ?_
            refine lv_iload hx hb dL_best_78 (lv_at hl 6 rfl) ?_
            refine lv_icmp_lt (tgt := 88) hx hb dL_best_80 (by decide) (fun c_8 => ?_) (fun c_8 => ?_)
            · have hf := ip c_8 hf
              refine lv_iload hx hb dL_best_88 (lv_at hl 5 rfl) ?_
              exact hB90 v5_27 v6_27 (((200 : Int32) * ((1 : Int32) - r_5)) + r_6) v4_27 ((n_27 + (uA ν p2 v6_27)) + (uF ν p2)) _ _ h_6 ls hP hD hS (lv_sub hl [1, 2, 3, 4, 6, 7, 0] rfl) hf
            · have hf := iq c_8 hf
              refine lv_iload hx hb dL_best_83 (lv_at hl 7 rfl) ?_
              refine lv_goto (tgt := 90) hx hb dL_best_85 (by decide) ?_
              exact hB90 v5_27 v6_27 (((200 : Int32) * ((1 : Int32) - r_5)) + r_6) v6_27 ((n_27 + (uA ν p2 v6_27)) + (uF ν p2)) _ _ h_6 ls hP hD hS (lv_sub hl [1, 2, 3, 4, 6, 7, 0] rfl) hf
  unfold fL_best at hf
  refine lv_bipush (v := (61 : Int32)) hx hb dL_best_0 (by decide) ?_
  obtain ⟨h_9, hf⟩ := ck hf
  refine newaI (N' := 61) (W0 := (wV g v0 ν ++ (wZ g z0 ζ))) hx hb (hts _ naL_best) hE hP hD hS hA (by decide) (by decide) (Nat.le_of_ble_eq_true rfl) (ka3 h_9) (ka61 h_9) dL_best_2 (fun p0 H hP hD hS => ?_)
  have hP : va_P g.1 vwCl (wV g v0 ν ++ (wZ g z0 ζ ++ (wP g p0 (fun _ => (0 : Int32))))) H := hP
  have hD : va_D A (wV g v0 ν ++ (wZ g z0 ζ ++ (wP g p0 (fun _ => (0 : Int32))))) := hD
  refine W.widen (k := 3 * (0 + 1)) (n := 61 * (0 + 1)) (by omega) (by omega) ?_
  refine lv_astore_n (lv' := [(3, .ref p0), (0, .ref v0), (1, .ref z0), (2, .int p2)]) hx hb dL_best_4 rfl hl (by decide) rfl (fun ls hl => ?_)
  refine lv_aload_n hx hb dL_best_5 rfl (lv_at hl 1 rfl) ?_
  refine lv_aload_n hx hb dL_best_6 rfl (lv_at hl 2 rfl) ?_
  refine lv_iload_n hx hb dL_best_7 rfl (lv_at hl 3 rfl) ?_
  refine lv_aload_n hx hb dL_best_8 rfl (lv_at hl 0 rfl) ?_
  obtain ⟨r_10, e_10, hf⟩ := bo hf
  refine mcallSv (W0 := (wV g v0 ν ++ (wZ g z0 ζ ++ (wP g p0 (fun _ => (0 : Int32)))))) (Wc := (wV g v0 ν ++ (wZ g z0 ζ ++ (wP g p0 (fun _ => (0 : Int32)))))) (Wr := ([] : va_W)) (W1 := (wV g v0 ν ++ (wZ g z0 ζ ++ (wP g p0 r_10)))) (W2 := (wV g v0 ν ++ (wZ g z0 ζ ++ (wP g p0 r_10)))) (As := [.ref v0, .ref z0, .int p2, .ref p0]) (rest := []) [0, 1, 2] [] [0, 1, 2] ⟨hx, hb, hml, hown, hts⟩ hP hD hE hZ hS hA (cL_walks_ok l g  v0 z0 p0 ν ζ (fun _ => (0 : Int32)) p2 _ e_10) (va_cwS 4 hts gL_best_L_walks rfl rfl rfl hdL_walks.2 ⟨(Nat.le_of_ble_eq_true rfl), (Nat.le_of_ble_eq_true rfl)⟩) rfl rfl rfl (by decide) (by decide) (by decide) (by decide) rfl hl.1 rfl (Nat.le_of_ble_eq_true rfl) ⟨(k3 h_9), (k61 h_9)⟩ dL_best_9 (fun H locs hP hD hS => ?_)
  refine W.cs (cells' := 3 * (0 + 1)) (slots' := 61 * (0 + 1)) (Nat.add_zero _) (Nat.add_zero _) ?_
  refine lv_iconst (v := (-1 : Int32)) hx hb dL_best_12 (by decide) ?_
  refine lv_istore (lv' := [(4, .int (-1 : Int32)), (3, .ref p0), (0, .ref v0), (1, .ref z0), (2, .int p2)]) hx hb dL_best_13 hl (by decide) rfl (fun ls hl => ?_)
  refine lv_iconst (v := (0 : Int32)) hx hb dL_best_15 (by decide) ?_
  refine lv_istore (lv' := [(5, .int (0 : Int32)), (4, .int (-1 : Int32)), (3, .ref p0), (0, .ref v0), (1, .ref z0), (2, .int p2)]) hx hb dL_best_16 hl (by decide) rfl (fun ls hl => ?_)
  refine lv_aload_n hx hb dL_best_18 rfl (lv_at hl 3 rfl) ?_
  refine lv_iconst (v := (4 : Int32)) hx hb dL_best_19 (by decide) ?_
  refine lv_iload_n hx hb dL_best_20 rfl (lv_at hl 5 rfl) ?_
  refine lv_imul hx hb dL_best_21 ?_
  refine lv_iconst (v := (2 : Int32)) hx hb dL_best_22 (by decide) ?_
  refine lv_iadd hx hb dL_best_23 ?_
  obtain ⟨h_11, hf⟩ := ck hf
  refine va_iald hx hb hE.1 hP 0 0 rfl rfl (vin h_11) dL_best_24 ?_
  refine lv_istore (lv' := [(6, .int (ν (Int32.toNatClampNeg (((4 : Int32) * p2) + (2 : Int32))))), (5, .int (0 : Int32)), (4, .int (-1 : Int32)), (3, .ref p0), (0, .ref v0), (1, .ref z0), (2, .int p2)]) hx hb dL_best_25 hl (by decide) rfl (fun ls hl => ?_)
  exact hB27 p0 r_10 FU (-1 : Int32) (0 : Int32) (ν (Int32.toNatClampNeg (((4 : Int32) * p2) + (2 : Int32)))) (0 + 1) _ _ h_9 ls hP hD hS (lv_sub hl [4, 5, 6, 3, 2, 1, 0] rfl) hf

def fL_isWithin_110 (ν : (Nat → Int32)) (ψ : (Nat → Int32)) (p1 p3 : Int32) (k6 : Bool → Int32 → Option (Bool)) (v4_110 : Bool) (v5_110 : Int32) (t0_110 : Bool) : Option (Bool) := (if t0_110 = true then (if v4_110 = true then k6 false (v5_110 + 1) else k6 true (v5_110 + 1)) else k6 v4_110 (v5_110 + 1))
def fL_isWithin_60 (ν : (Nat → Int32)) (ψ : (Nat → Int32)) (p1 p3 : Int32) (k6 : Bool → Int32 → Option (Bool)) (v4_60 : Bool) (v5_60 : Int32) (t0_60 : Int32) : Option (Bool) := (if inR v5_60 61 then (if inR (v5_60 + (1 : Int32)) 61 then (if ((ψ (Int32.toNatClampNeg v5_60)) / (24 : Int32)) = ((ψ (Int32.toNatClampNeg (v5_60 + (1 : Int32)))) / (24 : Int32)) then fL_isWithin_110 ν ψ p1 p3 k6 v4_60 v5_60 false else (if (t0_60 / (24 : Int32)) = (p3 / (24 : Int32)) then (if (irm p3 (24 : Int32)) ≤ (irm t0_60 (24 : Int32)) then fL_isWithin_110 ν ψ p1 p3 k6 v4_60 v5_60 false else fL_isWithin_110 ν ψ p1 p3 k6 v4_60 v5_60 true) else fL_isWithin_110 ν ψ p1 p3 k6 v4_60 v5_60 false)) else none) else none)
def fL_isWithin_6 (ν : (Nat → Int32)) (ψ : (Nat → Int32)) (p1 p3 : Int32) : Nat → Bool → Int32 → Option (Bool)
  | 0, _, _ => none
  | n + 1, v4_6, v5_6 => (if inR (((4 : Int32) * p1) + (2 : Int32)) 34 then (if (ν (Int32.toNatClampNeg (((4 : Int32) * p1) + (2 : Int32)))) ≤ v5_6 then (if v4_6 = true then ((fL_closed ν ψ p1).bind fun r_11 => (if r_11 = true then (some true) else (some false))) else (some false)) else (if inR v5_6 61 then (if (ψ (Int32.toNatClampNeg v5_6)) = p3 then (some false) else (if inR (v5_6 + (1 : Int32)) 61 then (if ((ψ (Int32.toNatClampNeg v5_6)) / (24 : Int32)) ≤ ((ψ (Int32.toNatClampNeg (v5_6 + (1 : Int32)))) / (24 : Int32)) then fL_isWithin_60 ν ψ p1 p3 (fL_isWithin_6 ν ψ p1 p3 n) v4_6 v5_6 (ψ (Int32.toNatClampNeg (v5_6 + (1 : Int32)))) else fL_isWithin_60 ν ψ p1 p3 (fL_isWithin_6 ν ψ p1 p3 n) v4_6 v5_6 (ψ (Int32.toNatClampNeg v5_6))) else none)) else none)) else none)
def fL_isWithin (ν : (Nat → Int32)) (ψ : (Nat → Int32)) (p1 p3 : Int32) : Option (Bool) := fL_isWithin_6 ν ψ p1 p3 FU false (0 : Int32)
abbrev rmL_isWithin : Room := { frames := 1, cells := 0, slots := 0, locals := 23 }
theorem hdL_isWithin : yL_isWithin.cls = RL ∧ yL_isWithin.cls ≠ "java/lang/invoke/MethodHandle" ∧ yL_isWithin.cls ≠ "java/lang/invoke/VarHandle" ∧ (parseMethodDescriptor yL_isWithin.desc).map (fun d => d.parameters.length) = some 4 := by decide +kernel
set_option maxHeartbeats 4000000 in
set_option maxRecDepth 100000 in
theorem cL_isWithin_ok (l : Launch) (g : Gg) (v0 p0 : Nat) (ν : (Nat → Int32)) (ψ : (Nat → Int32)) (p1 p3 : Int32) {r : Bool} (hf : fL_isWithin ν ψ p1 p3 = some r) : Met l yL_isWithin wsL_isWithin rmL_isWithin (va_Pc [.ref v0, .int p1, .ref p0, .int p3] (PP g (wV g v0 ν ++ (wP g p0 ψ)))) (vp_Si (fun r' => r' = b2i r)) 0 0 (fun _ => False) := by
  refine Met.ofW (cc := cL_isWithin) (maxL := 8) (ret := (some .boolean)) (by decide) rfl ?_
  intro p e s m args below meth c s₁ B hml hv
  obtain ⟨rfl, hP, hE, hZ⟩ := hv
  have hx := B.exec
  have hb := B.bytes
  have hr := B.returns
  have hts := atoms_spec (ws := wsL_isWithin) B.pre
  have hown : s.vm.findClass RL = some m.cls := findClass_of_methodNamed B.named
  have hlocks := B.notSynchronized
  have hS : va_S (fun _ => False) s.heap s.heap [] := va_S.rf
  have hl := lv_entry ([.ref v0, .int p1, .ref p0, .int p3]) (n := 8) (Nat.le_of_ble_eq_true rfl)
  rw [lg_entry_eq]
  generalize (lg_sl ([.ref v0, .int p1, .ref p0, .int p3]) ++ List.replicate (8 - (lg_sl ([.ref v0, .int p1, .ref p0, .int p3])).length) Slot.unset).toArray = ls at hl ⊢
  have hl : lv_has ls 8 [(0, .ref v0), (1, .int p1), (2, .ref p0), (3, .int p3)] := hl
  have hB6 : ∀ (n6 : Nat) (v4_6 : Bool) (v5_6 : Int32) (ls : Array Slot), lv_has ls 8 [(0, .ref v0), (1, .int p1), (2, .ref p0), (3, .int p3), (4, .int (b2i v4_6)), (5, .int v5_6)] → fL_isWithin_6 ν ψ p1 p3 n6 v4_6 v5_6 = some r → W p l e (headSpec wsL_isWithin rmL_isWithin).room s m ([.ref v0, .int p1, .ref p0, .int p3] : List Value).toArray below meth c s.heap [] 0 0 (MQ below (vp_Si (fun r' => r' = b2i r)) ([.ref v0, .int p1, .ref p0, .int p3] : List Value).toArray s 0 0 (fun _ => False)) (F0 m 6 ls []) := by
    intro  n6
    induction n6 with
    | zero => intro v4_6 v5_6 ls hl hf; exact nomatch (show (none : Option (Bool)) = some _ from hf)
    | succ n6 ih6 =>
      have hB110 : ∀ (v4_110 : Bool) (v5_110 : Int32) (t0_110 : Bool) (ls : Array Slot), lv_has ls 8 [(0, .ref v0), (1, .int p1), (2, .ref p0), (3, .int p3), (4, .int (b2i v4_110)), (5, .int v5_110)] → fL_isWithin_110 ν ψ p1 p3 (fL_isWithin_6 ν ψ p1 p3 n6) v4_110 v5_110 t0_110 = some r → W p l e (headSpec wsL_isWithin rmL_isWithin).room s m ([.ref v0, .int p1, .ref p0, .int p3] : List Value).toArray below meth c s.heap [] 0 0 (MQ below (vp_Si (fun r' => r' = b2i r)) ([.ref v0, .int p1, .ref p0, .int p3] : List Value).toArray s 0 0 (fun _ => False)) (F0 m 110 ls [.int (b2i t0_110)]) := by
        intro  v4_110 v5_110 t0_110 ls hl hf
        unfold fL_isWithin_110 at hf
        refine lv_istore (lv' := [(7, .int (b2i t0_110)), (0, .ref v0), (1, .int p1), (2, .ref p0), (3, .int p3), (4, .int (b2i v4_110)), (5, .int v5_110)]) hx hb dL_isWithin_110 hl (by decide) rfl (fun ls hl => ?_)
        refine lv_iload hx hb dL_isWithin_112 (lv_at hl 0 rfl) ?_
        refine lv_beq (tgt := 130) hx hb dL_isWithin_114 (by decide) (fun c_1 => ?_) (fun c_1 => ?_)
        · have hf := iq c_1 hf
          refine lv_iload hx hb dL_isWithin_130 (lv_at hl 5 rfl) ?_
          refine lv_istore (lv' := [(4, .int (b2i v4_110)), (7, .int (b2i t0_110)), (0, .ref v0), (1, .int p1), (2, .ref p0), (3, .int p3), (5, .int v5_110)]) hx hb dL_isWithin_132 hl (by decide) rfl (fun ls hl => ?_)
          refine lv_iinc (v := (v5_110 + 1)) (lv' := [(5, .int (v5_110 + 1)), (4, .int (b2i v4_110)), (7, .int (b2i t0_110)), (0, .ref v0), (1, .int p1), (2, .ref p0), (3, .int p3)]) hx hb dL_isWithin_134 hl (k := 6) rfl rfl (by decide) rfl (fun ls hl => ?_)
          refine lv_goto (tgt := 6) hx hb dL_isWithin_137 (by decide) ?_
          exact ih6 v4_110 (v5_110 + 1) ls (lv_sub hl [3, 4, 5, 6, 1, 0] rfl) hf
        · have hf := ip c_1 hf
          refine lv_iload hx hb dL_isWithin_117 (lv_at hl 5 rfl) ?_
          refine lv_bne (tgt := 126) hx hb dL_isWithin_119 (by decide) (fun c_2 => ?_) (fun c_2 => ?_)
          · have hf := ip c_2 hf
            refine lv_iconst (v := (0 : Int32)) hx hb dL_isWithin_126 (by decide) ?_
            refine lv_goto (tgt := 132) hx hb dL_isWithin_127 (by decide) ?_
            refine lv_istore (lv' := [(4, .int (0 : Int32)), (7, .int (b2i t0_110)), (0, .ref v0), (1, .int p1), (2, .ref p0), (3, .int p3), (5, .int v5_110)]) hx hb dL_isWithin_132 hl (by decide) rfl (fun ls hl => ?_)
            refine lv_iinc (v := (v5_110 + 1)) (lv' := [(5, .int (v5_110 + 1)), (4, .int (0 : Int32)), (7, .int (b2i t0_110)), (0, .ref v0), (1, .int p1), (2, .ref p0), (3, .int p3)]) hx hb dL_isWithin_134 hl (k := 6) rfl rfl (by decide) rfl (fun ls hl => ?_)
            refine lv_goto (tgt := 6) hx hb dL_isWithin_137 (by decide) ?_
            exact ih6 false (v5_110 + 1) ls (lv_sub hl [3, 4, 5, 6, 1, 0] rfl) hf
          · have hf := iq c_2 hf
            refine lv_iconst (v := (1 : Int32)) hx hb dL_isWithin_122 (by decide) ?_
            refine lv_goto (tgt := 132) hx hb dL_isWithin_123 (by decide) ?_
            refine lv_istore (lv' := [(4, .int (1 : Int32)), (7, .int (b2i t0_110)), (0, .ref v0), (1, .int p1), (2, .ref p0), (3, .int p3), (5, .int v5_110)]) hx hb dL_isWithin_132 hl (by decide) rfl (fun ls hl => ?_)
            refine lv_iinc (v := (v5_110 + 1)) (lv' := [(5, .int (v5_110 + 1)), (4, .int (1 : Int32)), (7, .int (b2i t0_110)), (0, .ref v0), (1, .int p1), (2, .ref p0), (3, .int p3)]) hx hb dL_isWithin_134 hl (k := 6) rfl rfl (by decide) rfl (fun ls hl => ?_)
            refine lv_goto (tgt := 6) hx hb dL_isWithin_137 (by decide) ?_
            exact ih6 true (v5_110 + 1) ls (lv_sub hl [3, 4, 5, 6, 1, 0] rfl) hf
      have hB60 : ∀ (v4_60 : Bool) (v5_60 : Int32) (t0_60 : Int32) (ls : Array Slot), lv_has ls 8 [(0, .ref v0), (1, .int p1), (2, .ref p0), (3, .int p3), (4, .int (b2i v4_60)), (5, .int v5_60)] → fL_isWithin_60 ν ψ p1 p3 (fL_isWithin_6 ν ψ p1 p3 n6) v4_60 v5_60 t0_60 = some r → W p l e (headSpec wsL_isWithin rmL_isWithin).room s m ([.ref v0, .int p1, .ref p0, .int p3] : List Value).toArray below meth c s.heap [] 0 0 (MQ below (vp_Si (fun r' => r' = b2i r)) ([.ref v0, .int p1, .ref p0, .int p3] : List Value).toArray s 0 0 (fun _ => False)) (F0 m 60 ls [.int t0_60]) := by
        intro  v4_60 v5_60 t0_60 ls hl hf
        unfold fL_isWithin_60 at hf
        refine lv_istore (lv' := [(6, .int t0_60), (0, .ref v0), (1, .int p1), (2, .ref p0), (3, .int p3), (4, .int (b2i v4_60)), (5, .int v5_60)]) hx hb dL_isWithin_60 hl (by decide) rfl (fun ls hl => ?_)
        refine lv_aload_n hx hb dL_isWithin_62 rfl (lv_at hl 3 rfl) ?_
        refine lv_iload hx hb dL_isWithin_63 (lv_at hl 6 rfl) ?_
        obtain ⟨h_3, hf⟩ := ck hf
        refine va_iald hx hb hE.1 hP 1 0 rfl rfl (vin h_3) dL_isWithin_65 ?_
        refine lv_bipush (v := (24 : Int32)) hx hb dL_isWithin_66 (by decide) ?_
        refine lv_idiv hx hb dL_isWithin_68 (by decide) ?_
        refine lv_aload_n hx hb dL_isWithin_69 rfl (lv_at hl 3 rfl) ?_
        refine lv_iload hx hb dL_isWithin_70 (lv_at hl 6 rfl) ?_
        refine lv_iconst (v := (1 : Int32)) hx hb dL_isWithin_72 (by decide) ?_
        refine lv_iadd hx hb dL_isWithin_73 ?_
        obtain ⟨h_4, hf⟩ := ck hf
        refine va_iald hx hb hE.1 hP 1 0 rfl rfl (vin h_4) dL_isWithin_74 ?_
        refine lv_bipush (v := (24 : Int32)) hx hb dL_isWithin_75 (by decide) ?_
        refine lv_idiv hx hb dL_isWithin_77 (by decide) ?_
        refine lv_icmp_eq (tgt := 109) hx hb dL_isWithin_78 (by decide) (fun c_5 => ?_) (fun c_5 => ?_)
        · have hf := ip c_5 hf
          refine lv_iconst (v := (0 : Int32)) hx hb dL_isWithin_109 (by decide) ?_
          exact hB110 v4_60 v5_60 false ls (lv_sub hl [1, 2, 3, 4, 5, 6] rfl) hf
        · have hf := iq c_5 hf
          refine lv_iload hx hb dL_isWithin_81 (lv_at hl 0 rfl) ?_
          refine lv_bipush (v := (24 : Int32)) hx hb dL_isWithin_83 (by decide) ?_
          refine lv_idiv hx hb dL_isWithin_85 (by decide) ?_
          refine lv_iload_n hx hb dL_isWithin_86 rfl (lv_at hl 4 rfl) ?_
          refine lv_bipush (v := (24 : Int32)) hx hb dL_isWithin_87 (by decide) ?_
          refine lv_idiv hx hb dL_isWithin_89 (by decide) ?_
          refine lv_icmp_ne (tgt := 109) hx hb dL_isWithin_90 (by decide) (fun c_6 => ?_) (fun c_6 => ?_)
          · have hf := iq c_6 hf
            refine lv_iconst (v := (0 : Int32)) hx hb dL_isWithin_109 (by decide) ?_
            exact hB110 v4_60 v5_60 false ls (lv_sub hl [1, 2, 3, 4, 5, 6] rfl) hf
          · have hf := ip c_6 hf
            refine lv_iload hx hb dL_isWithin_93 (lv_at hl 0 rfl) ?_
            refine lv_bipush (v := (24 : Int32)) hx hb dL_isWithin_95 (by decide) ?_
            refine lv_irm hx hb dL_isWithin_97 (by decide) ?_
            refine lv_iload_n hx hb dL_isWithin_98 rfl (lv_at hl 4 rfl) ?_
            refine lv_bipush (v := (24 : Int32)) hx hb dL_isWithin_99 (by decide) ?_
            refine lv_irm hx hb dL_isWithin_101 (by decide) ?_
            refine lv_icmp_ge (tgt := 109) hx hb dL_isWithin_102 (by decide) (fun c_7 => ?_) (fun c_7 => ?_)
            · have hf := ip c_7 hf
              refine lv_iconst (v := (0 : Int32)) hx hb dL_isWithin_109 (by decide) ?_
              exact hB110 v4_60 v5_60 false ls (lv_sub hl [1, 2, 3, 4, 5, 6] rfl) hf
            · have hf := iq c_7 hf
              refine lv_iconst (v := (1 : Int32)) hx hb dL_isWithin_105 (by decide) ?_
              refine lv_goto (tgt := 110) hx hb dL_isWithin_106 (by decide) ?_
              exact hB110 v4_60 v5_60 true ls (lv_sub hl [1, 2, 3, 4, 5, 6] rfl) hf
      intro v4_6 v5_6 ls hl hf
      rw [fL_isWithin_6] at hf
      refine lv_iload hx hb dL_isWithin_6 (lv_at hl 5 rfl) ?_
      refine lv_aload_n hx hb dL_isWithin_8 rfl (lv_at hl 0 rfl) ?_
      refine lv_iconst (v := (4 : Int32)) hx hb dL_isWithin_9 (by decide) ?_
      refine lv_iload_n hx hb dL_isWithin_10 rfl (lv_at hl 1 rfl) ?_
      refine lv_imul hx hb dL_isWithin_11 ?_
      refine lv_iconst (v := (2 : Int32)) hx hb dL_isWithin_12 (by decide) ?_
      refine lv_iadd hx hb dL_isWithin_13 ?_
      obtain ⟨h_8, hf⟩ := ck hf
      refine va_iald hx hb hE.1 hP 0 0 rfl rfl (vin h_8) dL_isWithin_14 ?_
      refine lv_icmp_ge (tgt := 140) hx hb dL_isWithin_15 (by decide) (fun c_9 => ?_) (fun c_9 => ?_)
      · have hf := ip c_9 hf
        refine lv_iload hx hb dL_isWithin_140 (lv_at hl 4 rfl) ?_
        refine lv_beq (tgt := 158) hx hb dL_isWithin_142 (by decide) (fun c_10 => ?_) (fun c_10 => ?_)
        · have hf := iq c_10 hf
          refine lv_iconst (v := (0 : Int32)) hx hb dL_isWithin_158 (by decide) ?_
          exact p_zret (v := false) hx hb hr hlocks (Option.some.inj hf) dL_isWithin_159
        · have hf := ip c_10 hf
          refine lv_aload_n hx hb dL_isWithin_145 rfl (lv_at hl 0 rfl) ?_
          refine lv_iload_n hx hb dL_isWithin_146 rfl (lv_at hl 1 rfl) ?_
          refine lv_aload_n hx hb dL_isWithin_147 rfl (lv_at hl 2 rfl) ?_
          obtain ⟨r_11, e_11, hf⟩ := bo hf
          refine pcallS (W0 := (wV g v0 ν ++ (wP g p0 ψ))) (As := [.ref v0, .int p1, .ref p0]) (rest := []) [0, 1] ⟨hx, hb, hml, hown, hts⟩ hP hE hZ hS (cL_closed_ok l g v0 p0 ν ψ p1 e_11) (va_cwS 3 hts gL_isWithin_L_closed rfl rfl rfl hdL_closed.2 ⟨(Nat.le_of_ble_eq_true rfl), (Nat.le_of_ble_eq_true rfl)⟩) rfl rfl hl.1 rfl (Nat.le_of_ble_eq_true rfl) ⟨(Nat.le_of_ble_eq_true rfl), (Nat.le_of_ble_eq_true rfl)⟩ dL_isWithin_148 ?_
          refine lv_beq (tgt := 158) hx hb dL_isWithin_151 (by decide) (fun c_12 => ?_) (fun c_12 => ?_)
          · have hf := iq c_12 hf
            refine lv_iconst (v := (0 : Int32)) hx hb dL_isWithin_158 (by decide) ?_
            exact p_zret (v := false) hx hb hr hlocks (Option.some.inj hf) dL_isWithin_159
          · have hf := ip c_12 hf
            refine lv_iconst (v := (1 : Int32)) hx hb dL_isWithin_154 (by decide) ?_
            refine lv_goto (tgt := 159) hx hb dL_isWithin_155 (by decide) ?_
            exact p_zret (v := true) hx hb hr hlocks (Option.some.inj hf) dL_isWithin_159
      · have hf := iq c_9 hf
        refine lv_aload_n hx hb dL_isWithin_18 rfl (lv_at hl 2 rfl) ?_
        refine lv_iload hx hb dL_isWithin_19 (lv_at hl 5 rfl) ?_
        obtain ⟨h_13, hf⟩ := ck hf
        refine va_iald hx hb hE.1 hP 1 0 rfl rfl (vin h_13) dL_isWithin_21 ?_
        refine lv_iload_n hx hb dL_isWithin_22 rfl (lv_at hl 3 rfl) ?_
        refine lv_icmp_ne (tgt := 28) hx hb dL_isWithin_23 (by decide) (fun c_14 => ?_) (fun c_14 => ?_)
        · have hf := iq c_14 hf
          refine lv_aload_n hx hb dL_isWithin_28 rfl (lv_at hl 2 rfl) ?_
          refine lv_iload hx hb dL_isWithin_29 (lv_at hl 5 rfl) ?_
          refine va_iald hx hb hE.1 hP 1 0 rfl rfl (vin h_13) dL_isWithin_31 ?_
          refine lv_bipush (v := (24 : Int32)) hx hb dL_isWithin_32 (by decide) ?_
          refine lv_idiv hx hb dL_isWithin_34 (by decide) ?_
          refine lv_aload_n hx hb dL_isWithin_35 rfl (lv_at hl 2 rfl) ?_
          refine lv_iload hx hb dL_isWithin_36 (lv_at hl 5 rfl) ?_
          refine lv_iconst (v := (1 : Int32)) hx hb dL_isWithin_38 (by decide) ?_
          refine lv_iadd hx hb dL_isWithin_39 ?_
          obtain ⟨h_15, hf⟩ := ck hf
          refine va_iald hx hb hE.1 hP 1 0 rfl rfl (vin h_15) dL_isWithin_40 ?_
          refine lv_bipush (v := (24 : Int32)) hx hb dL_isWithin_41 (by decide) ?_
          refine lv_idiv hx hb dL_isWithin_43 (by decide) ?_
          refine lv_icmp_le (tgt := 54) hx hb dL_isWithin_44 (by decide) (fun c_16 => ?_) (fun c_16 => ?_)
          · have hf := ip c_16 hf
            refine lv_aload_n hx hb dL_isWithin_54 rfl (lv_at hl 2 rfl) ?_
            refine lv_iload hx hb dL_isWithin_55 (lv_at hl 5 rfl) ?_
            refine lv_iconst (v := (1 : Int32)) hx hb dL_isWithin_57 (by decide) ?_
            refine lv_iadd hx hb dL_isWithin_58 ?_
            refine va_iald hx hb hE.1 hP 1 0 rfl rfl (vin h_15) dL_isWithin_59 ?_
            exact hB60 v4_6 v5_6 (ψ (Int32.toNatClampNeg (v5_6 + (1 : Int32)))) ls (lv_sub hl [0, 1, 2, 3, 4, 5] rfl) hf
          · have hf := iq c_16 hf
            refine lv_aload_n hx hb dL_isWithin_47 rfl (lv_at hl 2 rfl) ?_
            refine lv_iload hx hb dL_isWithin_48 (lv_at hl 5 rfl) ?_
            refine va_iald hx hb hE.1 hP 1 0 rfl rfl (vin h_13) dL_isWithin_50 ?_
            refine lv_goto (tgt := 60) hx hb dL_isWithin_51 (by decide) ?_
            exact hB60 v4_6 v5_6 (ψ (Int32.toNatClampNeg v5_6)) ls (lv_sub hl [0, 1, 2, 3, 4, 5] rfl) hf
        · have hf := ip c_14 hf
          refine lv_iconst (v := (0 : Int32)) hx hb dL_isWithin_26 (by decide) ?_
          exact p_zret (v := false) hx hb hr hlocks (Option.some.inj hf) dL_isWithin_27
  unfold fL_isWithin at hf
  refine lv_iconst (v := (0 : Int32)) hx hb dL_isWithin_0 (by decide) ?_
  refine lv_istore (lv' := [(4, .int (0 : Int32)), (0, .ref v0), (1, .int p1), (2, .ref p0), (3, .int p3)]) hx hb dL_isWithin_1 hl (by decide) rfl (fun ls hl => ?_)
  refine lv_iconst (v := (0 : Int32)) hx hb dL_isWithin_3 (by decide) ?_
  refine lv_istore (lv' := [(5, .int (0 : Int32)), (4, .int (0 : Int32)), (0, .ref v0), (1, .int p1), (2, .ref p0), (3, .int p3)]) hx hb dL_isWithin_4 hl (by decide) rfl (fun ls hl => ?_)
  exact hB6 FU false (0 : Int32) ls (lv_sub hl [2, 3, 4, 5, 1, 0] rfl) hf

def fL_round_127 (cap : Nat) (ν : (Nat → Int32)) (ζ : (Nat → Int64)) (p2 : Int32) (k20 : Int32 → Int32 → Int32 → (Nat → Int32) → (Nat → Int32) → Nat → Option (Int32)) (v6_127 : Int32) (v7_127 : Int32) (v8_127 : Int32) (t0_127 : Int32) (ψ_127 : (Nat → Int32)) (θ_127 : (Nat → Int32)) (n_127 : Nat) : Option (Int32) := (if v8_127 ≤ v6_127 then k20 t0_127 v6_127 (v7_127 + 1) ψ_127 θ_127 n_127 else k20 t0_127 v8_127 (v7_127 + 1) ψ_127 θ_127 n_127)
def fL_round_60 (cap : Nat) (ν : (Nat → Int32)) (ζ : (Nat → Int64)) (p2 : Int32) (v5_60 : Int32) (v6_60 : Int32) (v7_60 : Int32) (k20 : Int32 → Int32 → Int32 → (Nat → Int32) → (Nat → Int32) → Nat → Option (Int32)) : Nat → Int32 → Int32 → (Nat → Int32) → (Nat → Int32) → Nat → Option (Int32)
  | 0, _, _, _, _, _ => none
  | n + 1, v8_60, v9_60, ψ_60, θ_60, n_60 => (if (ν (Int32.toNatClampNeg (32 : Int32))) ≤ v9_60 then (if v8_60 ≤ v6_60 then fL_round_127 cap ν ζ p2 k20 v6_60 v7_60 v8_60 v5_60 ψ_60 θ_60 n_60 else fL_round_127 cap ν ζ p2 k20 v6_60 v7_60 v8_60 v7_60 ψ_60 θ_60 n_60) else ((fL_walks ν ζ θ_60 v9_60).bind fun r_4 => (if inR (((4 : Int32) * v7_60) + (1 : Int32)) 34 then ((fL_isWithin ν r_4 v9_60 (ν (Int32.toNatClampNeg (((4 : Int32) * v7_60) + (1 : Int32))))).bind fun r_6 => (if r_6 = true then fL_round_60 cap ν ζ p2 v5_60 v6_60 v7_60 k20 n (v8_60 + (1 : Int32)) (v9_60 + 1) ψ_60 r_4 n_60 else fL_round_60 cap ν ζ p2 v5_60 v6_60 v7_60 k20 n (v8_60 + (0 : Int32)) (v9_60 + 1) ψ_60 r_4 n_60)) else none)))
def fL_round_20 (cap : Nat) (ν : (Nat → Int32)) (ζ : (Nat → Int64)) (p2 : Int32) : Nat → Int32 → Int32 → Int32 → (Nat → Int32) → (Nat → Int32) → Nat → Option (Int32)
  | 0, _, _, _, _, _, _ => none
  | n + 1, v5_20, v6_20, v7_20, ψ_20, θ_20, n_20 => (if (ν (Int32.toNatClampNeg (32 : Int32))) ≤ v7_20 then (some v5_20) else ((fL_walks ν ζ ψ_20 v7_20).bind fun r_9 => (if inR (((4 : Int32) * p2) + (1 : Int32)) 34 then ((fL_isWithin ν r_9 v7_20 (ν (Int32.toNatClampNeg (((4 : Int32) * p2) + (1 : Int32))))).bind fun r_11 => (if r_11 = true then fL_round_60 cap ν ζ p2 v5_20 v6_20 v7_20 (fL_round_20 cap ν ζ p2 n) FU (0 : Int32) (0 : Int32) r_9 θ_20 n_20 else fL_round_20 cap ν ζ p2 n v5_20 v6_20 (v7_20 + 1) r_9 θ_20 n_20)) else none)))
def fL_round (cap : Nat) (ν : (Nat → Int32)) (ζ : (Nat → Int64)) (p2 : Int32) : Option (Int32) := (if 0 + 1 ≤ cap then (if (0 + 1) + 1 ≤ cap then fL_round_20 cap ν ζ p2 FU (-1 : Int32) (-1 : Int32) (0 : Int32) (fun _ => (0 : Int32)) (fun _ => (0 : Int32)) ((0 + 1) + 1) else none) else none)
abbrev rmL_round (cap : Nat) : Room := { frames := 2, cells := 3 * cap, slots := 61 * cap, locals := 50 }
theorem hdL_round : yL_round.cls = RL ∧ yL_round.cls ≠ "java/lang/invoke/MethodHandle" ∧ yL_round.cls ≠ "java/lang/invoke/VarHandle" ∧ (parseMethodDescriptor yL_round.desc).map (fun d => d.parameters.length) = some 3 := by decide +kernel
theorem naL_round : (.arrayClass .int : Cond) ∈ wsL_round := by decide +kernel
set_option maxHeartbeats 4000000 in
set_option maxRecDepth 100000 in
theorem cL_round_ok (l : Launch) (hl0 : l.stackTraces = false) (g : Gg) (cap : Nat) (v0 z0 : Nat) (ν : (Nat → Int32)) (ζ : (Nat → Int64)) (p2 : Int32) (sz : Nat) {o : Int32} (hf : fL_round cap ν ζ p2 = some o) : Met l yL_round wsL_round (rmL_round cap) (va_Pc [.ref v0, .ref z0, .int p2] (PM g (wV g v0 ν ++ (wZ g z0 ζ)) sz)) (va_Qi (fun r' (_ : Unit) => r' = o) (fun _ t => PQ g (wV g v0 ν ++ (wZ g z0 ζ)) (va_A (wV g v0 ν ++ (wZ g z0 ζ)) sz) t) (va_A (wV g v0 ν ++ (wZ g z0 ζ)) sz)) (3 * cap) (61 * cap) (va_A (wV g v0 ν ++ (wZ g z0 ζ)) sz) := by
  refine Met.ofW (cc := cL_round) (maxL := 10) (ret := (some .int)) (by decide) rfl ?_
  intro p e s m args below meth c s₁ B hml hv
  obtain ⟨rfl, rfl, hP, hD0, hE, hZ⟩ := hv
  have hx := B.exec
  have hb := B.bytes
  have hr := B.returns
  have hts := atoms_spec (ws := wsL_round) B.pre
  have hown : s.vm.findClass RL = some m.cls := findClass_of_methodNamed B.named
  have hlocks := B.notSynchronized
  have hD := hD0.self (sz := s.heap.size)
  generalize hAe : (va_A (wV g v0 ν ++ (wZ g z0 ζ)) s.heap.size) = A at hD hZ ⊢
  have hA : ∀ q : Nat, s.heap.size ≤ q → A q := fun q h => by rw [← hAe]; exact Or.inr h
  have hS : va_S A s.heap s.heap [] := va_S.rf
  have hP : va_P g.1 vwCl (wV g v0 ν ++ (wZ g z0 ζ)) s.heap := hP
  have hl := lv_entry ([.ref v0, .ref z0, .int p2]) (n := 10) (Nat.le_of_ble_eq_true rfl)
  rw [lg_entry_eq]
  generalize (lg_sl ([.ref v0, .ref z0, .int p2]) ++ List.replicate (10 - (lg_sl ([.ref v0, .ref z0, .int p2])).length) Slot.unset).toArray = ls at hl ⊢
  refine W.cs (cells' := 3 * 0) (slots' := 61 * 0) rfl rfl ?_
  have hl : lv_has ls 10 [(0, .ref v0), (1, .ref z0), (2, .int p2)] := hl
  have hB20 : ∀ (p0 q0 : Nat) (n20 : Nat) (v5_20 : Int32) (v6_20 : Int32) (v7_20 : Int32) (ψ_20 : (Nat → Int32)) (θ_20 : (Nat → Int32)) (n_20 : Nat) (H : Heap) (locs : List Loc) (hn : n_20 ≤ cap) (ls : Array Slot), va_P g.1 vwCl (wV g v0 ν ++ (wZ g z0 ζ ++ (wP g p0 ψ_20 ++ (wP g q0 θ_20)))) H → va_D A (wV g v0 ν ++ (wZ g z0 ζ ++ (wP g p0 ψ_20 ++ (wP g q0 θ_20)))) → va_S A s.heap H locs → lv_has ls 10 [(0, .ref v0), (1, .ref z0), (2, .int p2), (3, .ref p0), (4, .ref q0), (5, .int v5_20), (6, .int v6_20), (7, .int v7_20)] → fL_round_20 cap ν ζ p2 n20 v5_20 v6_20 v7_20 ψ_20 θ_20 n_20 = some o → W p l e (headSpec wsL_round (rmL_round cap)).room s m ([.ref v0, .ref z0, .int p2] : List Value).toArray below meth c H locs (3 * n_20) (61 * n_20) (MQ below (va_Qi (fun r' (_ : Unit) => r' = o) (fun _ t => PQ g (wV g v0 ν ++ (wZ g z0 ζ)) A t) A) ([.ref v0, .ref z0, .int p2] : List Value).toArray s (3 * cap) (61 * cap) A) (F0 m 20 ls []) := by
    intro p0 q0  n20
    induction n20 with
    | zero => intro v5_20 v6_20 v7_20 ψ_20 θ_20 n_20 H locs hn ls hP hD hS hl hf; exact nomatch (show (none : Option (Int32)) = some _ from hf)
    | succ n20 ih20 =>
      have hB127 : ∀ (v6_127 : Int32) (v7_127 : Int32) (v8_127 : Int32) (t0_127 : Int32) (ψ_127 : (Nat → Int32)) (θ_127 : (Nat → Int32)) (n_127 : Nat) (H : Heap) (locs : List Loc) (hn : n_127 ≤ cap) (ls : Array Slot), va_P g.1 vwCl (wV g v0 ν ++ (wZ g z0 ζ ++ (wP g p0 ψ_127 ++ (wP g q0 θ_127)))) H → va_D A (wV g v0 ν ++ (wZ g z0 ζ ++ (wP g p0 ψ_127 ++ (wP g q0 θ_127)))) → va_S A s.heap H locs → lv_has ls 10 [(0, .ref v0), (1, .ref z0), (2, .int p2), (3, .ref p0), (4, .ref q0), (6, .int v6_127), (7, .int v7_127), (8, .int v8_127)] → fL_round_127 cap ν ζ p2 (fL_round_20 cap ν ζ p2 n20) v6_127 v7_127 v8_127 t0_127 ψ_127 θ_127 n_127 = some o → W p l e (headSpec wsL_round (rmL_round cap)).room s m ([.ref v0, .ref z0, .int p2] : List Value).toArray below meth c H locs (3 * n_127) (61 * n_127) (MQ below (va_Qi (fun r' (_ : Unit) => r' = o) (fun _ t => PQ g (wV g v0 ν ++ (wZ g z0 ζ)) A t) A) ([.ref v0, .ref z0, .int p2] : List Value).toArray s (3 * cap) (61 * cap) A) (F0 m 127 ls [.int t0_127]) := by
        intro  v6_127 v7_127 v8_127 t0_127 ψ_127 θ_127 n_127 H locs hn ls hP hD hS hl hf
        unfold fL_round_127 at hf
        refine lv_istore (lv' := [(5, .int t0_127), (0, .ref v0), (1, .ref z0), (2, .int p2), (3, .ref p0), (4, .ref q0), (6, .int v6_127), (7, .int v7_127), (8, .int v8_127)]) hx hb dL_round_127 hl (by decide) rfl (fun ls hl => ?_)
        refine lv_iload hx hb dL_round_129 (lv_at hl 8 rfl) ?_
        refine lv_iload hx hb dL_round_131 (lv_at hl 6 rfl) ?_
        refine lv_icmp_le (tgt := 141) hx hb dL_round_133 (by decide) (fun c_1 => ?_) (fun c_1 => ?_)
        · have hf := ip c_1 hf
          refine lv_iload hx hb dL_round_141 (lv_at hl 6 rfl) ?_
          refine lv_istore (lv' := [(6, .int v6_127), (5, .int t0_127), (0, .ref v0), (1, .ref z0), (2, .int p2), (3, .ref p0), (4, .ref q0), (7, .int v7_127), (8, .int v8_127)]) hx hb dL_round_143 hl (by decide) rfl (fun ls hl => ?_)
          refine lv_iinc (v := (v7_127 + 1)) (lv' := [(7, .int (v7_127 + 1)), (6, .int v6_127), (5, .int t0_127), (0, .ref v0), (1, .ref z0), (2, .int p2), (3, .ref p0), (4, .ref q0), (8, .int v8_127)]) hx hb dL_round_145 hl (k := 7) rfl rfl (by decide) rfl (fun ls hl => ?_)
          refine lv_goto (tgt := 20) hx hb dL_round_148 (by decide) ?_
          exact ih20 t0_127 v6_127 (v7_127 + 1) ψ_127 θ_127 n_127 _ _ hn ls hP hD hS (lv_sub hl [3, 4, 5, 6, 7, 2, 1, 0] rfl) hf
        · have hf := iq c_1 hf
          refine lv_iload hx hb dL_round_136 (lv_at hl 8 rfl) ?_
          refine lv_goto (tgt := 143) hx hb dL_round_138 (by decide) ?_
          refine lv_istore (lv' := [(6, .int v8_127), (5, .int t0_127), (0, .ref v0), (1, .ref z0), (2, .int p2), (3, .ref p0), (4, .ref q0), (7, .int v7_127), (8, .int v8_127)]) hx hb dL_round_143 hl (by decide) rfl (fun ls hl => ?_)
          refine lv_iinc (v := (v7_127 + 1)) (lv' := [(7, .int (v7_127 + 1)), (6, .int v8_127), (5, .int t0_127), (0, .ref v0), (1, .ref z0), (2, .int p2), (3, .ref p0), (4, .ref q0), (8, .int v8_127)]) hx hb dL_round_145 hl (k := 7) rfl rfl (by decide) rfl (fun ls hl => ?_)
          refine lv_goto (tgt := 20) hx hb dL_round_148 (by decide) ?_
          exact ih20 t0_127 v8_127 (v7_127 + 1) ψ_127 θ_127 n_127 _ _ hn ls hP hD hS (lv_sub hl [3, 4, 5, 6, 7, 2, 1, 0] rfl) hf
      have hB60 : ∀ (v5_60 : Int32) (v6_60 : Int32) (v7_60 : Int32) (n60 : Nat) (v8_60 : Int32) (v9_60 : Int32) (ψ_60 : (Nat → Int32)) (θ_60 : (Nat → Int32)) (n_60 : Nat) (H : Heap) (locs : List Loc) (hn : n_60 ≤ cap) (ls : Array Slot), va_P g.1 vwCl (wV g v0 ν ++ (wZ g z0 ζ ++ (wP g p0 ψ_60 ++ (wP g q0 θ_60)))) H → va_D A (wV g v0 ν ++ (wZ g z0 ζ ++ (wP g p0 ψ_60 ++ (wP g q0 θ_60)))) → va_S A s.heap H locs → lv_has ls 10 [(0, .ref v0), (1, .ref z0), (2, .int p2), (3, .ref p0), (4, .ref q0), (5, .int v5_60), (6, .int v6_60), (7, .int v7_60), (8, .int v8_60), (9, .int v9_60)] → fL_round_60 cap ν ζ p2 v5_60 v6_60 v7_60 (fL_round_20 cap ν ζ p2 n20) n60 v8_60 v9_60 ψ_60 θ_60 n_60 = some o → W p l e (headSpec wsL_round (rmL_round cap)).room s m ([.ref v0, .ref z0, .int p2] : List Value).toArray below meth c H locs (3 * n_60) (61 * n_60) (MQ below (va_Qi (fun r' (_ : Unit) => r' = o) (fun _ t => PQ g (wV g v0 ν ++ (wZ g z0 ζ)) A t) A) ([.ref v0, .ref z0, .int p2] : List Value).toArray s (3 * cap) (61 * cap) A) (F0 m 60 ls []) := by
        intro v5_60 v6_60 v7_60 n60
        induction n60 with
        | zero => intro v8_60 v9_60 ψ_60 θ_60 n_60 H locs hn ls hP hD hS hl hf; exact nomatch (show (none : Option (Int32)) = some _ from hf)
        | succ n60 ih60 =>
          intro v8_60 v9_60 ψ_60 θ_60 n_60 H locs hn ls hP hD hS hl hf
          rw [fL_round_60] at hf
          refine lv_iload hx hb dL_round_60 (lv_at hl 9 rfl) ?_
          refine lv_aload_n hx hb dL_round_62 rfl (lv_at hl 0 rfl) ?_
          refine lv_bipush (v := (32 : Int32)) hx hb dL_round_63 (by decide) ?_
          refine va_iald hx hb hE.1 hP 0 0 rfl rfl (vin (by decide)) dL_round_65 ?_
          refine lv_icmp_ge (tgt := 113) hx hb dL_round_66 (by decide) (fun c_2 => ?_) (fun c_2 => ?_)
          · have hf := ip c_2 hf
            refine lv_iload hx hb dL_round_113 (lv_at hl 8 rfl) ?_
            refine lv_iload hx hb dL_round_115 (lv_at hl 6 rfl) ?_
            refine lv_icmp_le (tgt := 125) hx hb dL_round_117 (by decide) (fun c_3 => ?_) (fun c_3 => ?_)
            · have hf := ip c_3 hf
              refine lv_iload hx hb dL_round_125 (lv_at hl 5 rfl) ?_
              exact hB127 v6_60 v7_60 v8_60 v5_60 ψ_60 θ_60 n_60 _ _ hn ls hP hD hS (lv_sub hl [0, 1, 2, 3, 4, 6, 7, 8] rfl) hf
            · have hf := iq c_3 hf
              refine lv_iload hx hb dL_round_120 (lv_at hl 7 rfl) ?_
              refine lv_goto (tgt := 127) hx hb dL_round_122 (by decide) ?_
              exact hB127 v6_60 v7_60 v8_60 v7_60 ψ_60 θ_60 n_60 _ _ hn ls hP hD hS (lv_sub hl [0, 1, 2, 3, 4, 6, 7, 8] rfl) hf
          · have hf := iq c_2 hf
            refine lv_aload_n hx hb dL_round_69 rfl (lv_at hl 0 rfl) ?_
            refine lv_aload_n hx hb dL_round_70 rfl (lv_at hl 1 rfl) ?_
            refine lv_iload hx hb dL_round_71 (lv_at hl 9 rfl) ?_
            refine lv_aload hx hb dL_round_73 (lv_at hl 4 rfl) ?_
            obtain ⟨r_4, e_4, hf⟩ := bo hf
            refine mcallSv (W0 := (wV g v0 ν ++ (wZ g z0 ζ ++ (wP g p0 ψ_60 ++ (wP g q0 θ_60))))) (Wc := (wV g v0 ν ++ (wZ g z0 ζ ++ (wP g q0 θ_60)))) (Wr := (wP g p0 ψ_60)) (W1 := (wV g v0 ν ++ (wZ g z0 ζ ++ (wP g q0 r_4)))) (W2 := (wV g v0 ν ++ (wZ g z0 ζ ++ (wP g p0 ψ_60 ++ (wP g q0 r_4))))) (As := [.ref v0, .ref z0, .int v9_60, .ref q0]) (rest := []) [0, 1, 3] [2] [1, 2, 0, 3] ⟨hx, hb, hml, hown, hts⟩ hP hD hE hZ hS hA (cL_walks_ok l g  v0 z0 q0 ν ζ θ_60 v9_60 _ e_4) (va_cwS 4 hts gL_round_L_walks rfl rfl rfl hdL_walks.2 ⟨(Nat.le_of_ble_eq_true rfl), (Nat.le_of_ble_eq_true rfl)⟩) rfl rfl rfl (by decide) (by decide) (by decide) (by decide) rfl hl.1 rfl (Nat.le_of_ble_eq_true rfl) ⟨(k3 hn), (k61 hn)⟩ dL_round_75 (fun H locs hP hD hS => ?_)
            refine W.cs (cells' := 3 * n_60) (slots' := 61 * n_60) (Nat.add_zero _) (Nat.add_zero _) ?_
            refine lv_iload hx hb dL_round_78 (lv_at hl 8 rfl) ?_
            refine lv_aload_n hx hb dL_round_80 rfl (lv_at hl 0 rfl) ?_
            refine lv_iload hx hb dL_round_81 (lv_at hl 9 rfl) ?_
            refine lv_aload hx hb dL_round_83 (lv_at hl 4 rfl) ?_
            refine lv_aload_n hx hb dL_round_85 rfl (lv_at hl 0 rfl) ?_
            refine lv_iconst (v := (4 : Int32)) hx hb dL_round_86 (by decide) ?_
            refine lv_iload hx hb dL_round_87 (lv_at hl 7 rfl) ?_
            refine lv_imul hx hb dL_round_89 ?_
            refine lv_iconst (v := (1 : Int32)) hx hb dL_round_90 (by decide) ?_
            refine lv_iadd hx hb dL_round_91 ?_
            obtain ⟨h_5, hf⟩ := ck hf
            refine va_iald hx hb hE.1 hP 0 0 rfl rfl (vin h_5) dL_round_92 ?_
            obtain ⟨r_6, e_6, hf⟩ := bo hf
            refine pcallS (W0 := (wV g v0 ν ++ (wZ g z0 ζ ++ (wP g p0 ψ_60 ++ (wP g q0 r_4))))) (As := [.ref v0, .int v9_60, .ref q0, .int (ν (Int32.toNatClampNeg (((4 : Int32) * v7_60) + (1 : Int32))))]) (rest := [.int v8_60]) [0, 3] ⟨hx, hb, hml, hown, hts⟩ hP hE hZ hS (cL_isWithin_ok l g v0 q0 ν r_4 v9_60 (ν (Int32.toNatClampNeg (((4 : Int32) * v7_60) + (1 : Int32)))) e_6) (va_cwS 4 hts gL_round_L_isWithin rfl rfl rfl hdL_isWithin.2 ⟨(Nat.le_of_ble_eq_true rfl), (Nat.le_of_ble_eq_true rfl)⟩) rfl rfl hl.1 rfl (Nat.le_of_ble_eq_true rfl) ⟨(k3 hn), (k61 hn)⟩ dL_round_93 ?_
            refine lv_beq (tgt := 103) hx hb dL_round_96 (by decide) (fun c_7 => ?_) (fun c_7 => ?_)
            · have hf := iq c_7 hf
              refine lv_iconst (v := (0 : Int32)) hx hb dL_round_103 (by decide) ?_
              refine lv_iadd hx hb dL_round_104 ?_
              refine lv_istore (lv' := [(8, .int (v8_60 + (0 : Int32))), (0, .ref v0), (1, .ref z0), (2, .int p2), (3, .ref p0), (4, .ref q0), (5, .int v5_60), (6, .int v6_60), (7, .int v7_60), (9, .int v9_60)]) hx hb dL_round_105 hl (by decide) rfl (fun ls hl => ?_)
              refine lv_iinc (v := (v9_60 + 1)) (lv' := [(9, .int (v9_60 + 1)), (8, .int (v8_60 + (0 : Int32))), (0, .ref v0), (1, .ref z0), (2, .int p2), (3, .ref p0), (4, .ref q0), (5, .int v5_60), (6, .int v6_60), (7, .int v7_60)]) hx hb dL_round_107 hl (k := 9) rfl rfl (by decide) rfl (fun ls hl => ?_)
              refine lv_goto (tgt := 60) hx hb dL_round_110 (by decide) ?_
              exact ih60 (v8_60 + (0 : Int32)) (v9_60 + 1) ψ_60 r_4 n_60 _ _ hn ls hP hD hS (lv_sub hl [2, 3, 4, 5, 6, 7, 8, 9, 1, 0] rfl) hf
            · have hf := ip c_7 hf
              refine lv_iconst (v := (1 : Int32)) hx hb dL_round_99 (by decide) ?_
              refine lv_goto (tgt := 104) hx hb dL_round_100 (by decide) ?_
              refine lv_iadd hx hb dL_round_104 ?_
              refine lv_istore (lv' := [(8, .int (v8_60 + (1 : Int32))), (0, .ref v0), (1, .ref z0), (2, .int p2), (3, .ref p0), (4, .ref q0), (5, .int v5_60), (6, .int v6_60), (7, .int v7_60), (9, .int v9_60)]) hx hb dL_round_105 hl (by decide) rfl (fun ls hl => ?_)
              refine lv_iinc (v := (v9_60 + 1)) (lv' := [(9, .int (v9_60 + 1)), (8, .int (v8_60 + (1 : Int32))), (0, .ref v0), (1, .ref z0), (2, .int p2), (3, .ref p0), (4, .ref q0), (5, .int v5_60), (6, .int v6_60), (7, .int v7_60)]) hx hb dL_round_107 hl (k := 9) rfl rfl (by decide) rfl (fun ls hl => ?_)
              refine lv_goto (tgt := 60) hx hb dL_round_110 (by decide) ?_
              exact ih60 (v8_60 + (1 : Int32)) (v9_60 + 1) ψ_60 r_4 n_60 _ _ hn ls hP hD hS (lv_sub hl [2, 3, 4, 5, 6, 7, 8, 9, 1, 0] rfl) hf
      intro v5_20 v6_20 v7_20 ψ_20 θ_20 n_20 H locs hn ls hP hD hS hl hf
      rw [fL_round_20] at hf
      refine lv_iload hx hb dL_round_20 (lv_at hl 7 rfl) ?_
      refine lv_aload_n hx hb dL_round_22 rfl (lv_at hl 0 rfl) ?_
      refine lv_bipush (v := (32 : Int32)) hx hb dL_round_23 (by decide) ?_
      refine va_iald hx hb hE.1 hP 0 0 rfl rfl (vin (by decide)) dL_round_25 ?_
      refine lv_icmp_ge (tgt := 151) hx hb dL_round_26 (by decide) (fun c_8 => ?_) (fun c_8 => ?_)
      · have hf := ip c_8 hf
        refine lv_iload hx hb dL_round_151 (lv_at hl 5 rfl) ?_
        have ho := Option.some.inj hf
        subst ho
        have hP := hP.sub (ws' := (wV g v0 ν ++ (wZ g z0 ζ))) [0, 1] rfl
        have hD := hD.sub (ws' := (wV g v0 ν ++ (wZ g z0 ζ))) [0, 1] (by decide) rfl
        refine W.widen (k := 3 * cap) (n := 61 * cap) (k3 hn) (k61 hn) ?_
        exact m_iret (v := v5_20) hx hb hr hlocks hP hD hS rfl dL_round_153
      · have hf := iq c_8 hf
        refine lv_aload_n hx hb dL_round_29 rfl (lv_at hl 0 rfl) ?_
        refine lv_aload_n hx hb dL_round_30 rfl (lv_at hl 1 rfl) ?_
        refine lv_iload hx hb dL_round_31 (lv_at hl 7 rfl) ?_
        refine lv_aload_n hx hb dL_round_33 rfl (lv_at hl 3 rfl) ?_
        obtain ⟨r_9, e_9, hf⟩ := bo hf
        refine mcallSv (W0 := (wV g v0 ν ++ (wZ g z0 ζ ++ (wP g p0 ψ_20 ++ (wP g q0 θ_20))))) (Wc := (wV g v0 ν ++ (wZ g z0 ζ ++ (wP g p0 ψ_20)))) (Wr := (wP g q0 θ_20)) (W1 := (wV g v0 ν ++ (wZ g z0 ζ ++ (wP g p0 r_9)))) (W2 := (wV g v0 ν ++ (wZ g z0 ζ ++ (wP g p0 r_9 ++ (wP g q0 θ_20))))) (As := [.ref v0, .ref z0, .int v7_20, .ref p0]) (rest := []) [0, 1, 2] [3] [1, 2, 3, 0] ⟨hx, hb, hml, hown, hts⟩ hP hD hE hZ hS hA (cL_walks_ok l g  v0 z0 p0 ν ζ ψ_20 v7_20 _ e_9) (va_cwS 4 hts gL_round_L_walks rfl rfl rfl hdL_walks.2 ⟨(Nat.le_of_ble_eq_true rfl), (Nat.le_of_ble_eq_true rfl)⟩) rfl rfl rfl (by decide) (by decide) (by decide) (by decide) rfl hl.1 rfl (Nat.le_of_ble_eq_true rfl) ⟨(k3 hn), (k61 hn)⟩ dL_round_34 (fun H locs hP hD hS => ?_)
        refine W.cs (cells' := 3 * n_20) (slots' := 61 * n_20) (Nat.add_zero _) (Nat.add_zero _) ?_
        refine lv_aload_n hx hb dL_round_37 rfl (lv_at hl 0 rfl) ?_
        refine lv_iload hx hb dL_round_38 (lv_at hl 7 rfl) ?_
        refine lv_aload_n hx hb dL_round_40 rfl (lv_at hl 3 rfl) ?_
        refine lv_aload_n hx hb dL_round_41 rfl (lv_at hl 0 rfl) ?_
        refine lv_iconst (v := (4 : Int32)) hx hb dL_round_42 (by decide) ?_
        refine lv_iload_n hx hb dL_round_43 rfl (lv_at hl 2 rfl) ?_
        refine lv_imul hx hb dL_round_44 ?_
        refine lv_iconst (v := (1 : Int32)) hx hb dL_round_45 (by decide) ?_
        refine lv_iadd hx hb dL_round_46 ?_
        obtain ⟨h_10, hf⟩ := ck hf
        refine va_iald hx hb hE.1 hP 0 0 rfl rfl (vin h_10) dL_round_47 ?_
        obtain ⟨r_11, e_11, hf⟩ := bo hf
        refine pcallS (W0 := (wV g v0 ν ++ (wZ g z0 ζ ++ (wP g p0 r_9 ++ (wP g q0 θ_20))))) (As := [.ref v0, .int v7_20, .ref p0, .int (ν (Int32.toNatClampNeg (((4 : Int32) * p2) + (1 : Int32))))]) (rest := []) [0, 2] ⟨hx, hb, hml, hown, hts⟩ hP hE hZ hS (cL_isWithin_ok l g v0 p0 ν r_9 v7_20 (ν (Int32.toNatClampNeg (((4 : Int32) * p2) + (1 : Int32)))) e_11) (va_cwS 4 hts gL_round_L_isWithin rfl rfl rfl hdL_isWithin.2 ⟨(Nat.le_of_ble_eq_true rfl), (Nat.le_of_ble_eq_true rfl)⟩) rfl rfl hl.1 rfl (Nat.le_of_ble_eq_true rfl) ⟨(k3 hn), (k61 hn)⟩ dL_round_48 ?_
        refine lv_beq (tgt := 145) hx hb dL_round_51 (by decide) (fun c_12 => ?_) (fun c_12 => ?_)
        · have hf := iq c_12 hf
          refine lv_iinc (v := (v7_20 + 1)) (lv' := [(7, .int (v7_20 + 1)), (0, .ref v0), (1, .ref z0), (2, .int p2), (3, .ref p0), (4, .ref q0), (5, .int v5_20), (6, .int v6_20)]) hx hb dL_round_145 hl (k := 7) rfl rfl (by decide) rfl (fun ls hl => ?_)
          refine lv_goto (tgt := 20) hx hb dL_round_148 (by decide) ?_
          exact ih20 v5_20 v6_20 (v7_20 + 1) r_9 θ_20 n_20 _ _ hn ls hP hD hS (lv_sub hl [1, 2, 3, 4, 5, 6, 7, 0] rfl) hf
        · have hf := ip c_12 hf
          refine lv_iconst (v := (0 : Int32)) hx hb dL_round_54 (by decide) ?_
          refine lv_istore (lv' := [(8, .int (0 : Int32)), (0, .ref v0), (1, .ref z0), (2, .int p2), (3, .ref p0), (4, .ref q0), (5, .int v5_20), (6, .int v6_20), (7, .int v7_20)]) hx hb dL_round_55 hl (by decide) rfl (fun ls hl => ?_)
          refine lv_iconst (v := (0 : Int32)) hx hb dL_round_57 (by decide) ?_
          refine lv_istore (lv' := [(9, .int (0 : Int32)), (8, .int (0 : Int32)), (0, .ref v0), (1, .ref z0), (2, .int p2), (3, .ref p0), (4, .ref q0), (5, .int v5_20), (6, .int v6_20), (7, .int v7_20)]) hx hb dL_round_58 hl (by decide) rfl (fun ls hl => ?_)
          exact hB60 v5_20 v6_20 v7_20 FU (0 : Int32) (0 : Int32) r_9 θ_20 n_20 _ _ hn ls hP hD hS (lv_sub hl [2, 3, 4, 5, 6, 7, 8, 9, 1, 0] rfl) hf
  unfold fL_round at hf
  refine lv_bipush (v := (61 : Int32)) hx hb dL_round_0 (by decide) ?_
  obtain ⟨h_13, hf⟩ := ck hf
  refine newaI (N' := 61) (W0 := (wV g v0 ν ++ (wZ g z0 ζ))) hx hb (hts _ naL_round) hE hP hD hS hA (by decide) (by decide) (Nat.le_of_ble_eq_true rfl) (ka3 h_13) (ka61 h_13) dL_round_2 (fun p0 H hP hD hS => ?_)
  have hP : va_P g.1 vwCl (wV g v0 ν ++ (wZ g z0 ζ ++ (wP g p0 (fun _ => (0 : Int32))))) H := hP
  have hD : va_D A (wV g v0 ν ++ (wZ g z0 ζ ++ (wP g p0 (fun _ => (0 : Int32))))) := hD
  refine W.widen (k := 3 * (0 + 1)) (n := 61 * (0 + 1)) (by omega) (by omega) ?_
  refine lv_astore_n (lv' := [(3, .ref p0), (0, .ref v0), (1, .ref z0), (2, .int p2)]) hx hb dL_round_4 rfl hl (by decide) rfl (fun ls hl => ?_)
  refine lv_bipush (v := (61 : Int32)) hx hb dL_round_5 (by decide) ?_
  obtain ⟨h_14, hf⟩ := ck hf
  refine newaI (N' := 61) (W0 := (wV g v0 ν ++ (wZ g z0 ζ ++ (wP g p0 (fun _ => (0 : Int32)))))) hx hb (hts _ naL_round) hE hP hD hS hA (by decide) (by decide) (Nat.le_of_ble_eq_true rfl) (ka3 h_14) (ka61 h_14) dL_round_7 (fun q0 H hP hD hS => ?_)
  have hP : va_P g.1 vwCl (wV g v0 ν ++ (wZ g z0 ζ ++ (wP g p0 (fun _ => (0 : Int32)) ++ (wP g q0 (fun _ => (0 : Int32)))))) H := hP
  have hD : va_D A (wV g v0 ν ++ (wZ g z0 ζ ++ (wP g p0 (fun _ => (0 : Int32)) ++ (wP g q0 (fun _ => (0 : Int32)))))) := hD
  refine W.widen (k := 3 * ((0 + 1) + 1)) (n := 61 * ((0 + 1) + 1)) (by omega) (by omega) ?_
  refine lv_astore (lv' := [(4, .ref q0), (3, .ref p0), (0, .ref v0), (1, .ref z0), (2, .int p2)]) hx hb dL_round_9 hl (by decide) rfl (fun ls hl => ?_)
  refine lv_iconst (v := (-1 : Int32)) hx hb dL_round_11 (by decide) ?_
  refine lv_istore (lv' := [(5, .int (-1 : Int32)), (4, .ref q0), (3, .ref p0), (0, .ref v0), (1, .ref z0), (2, .int p2)]) hx hb dL_round_12 hl (by decide) rfl (fun ls hl => ?_)
  refine lv_iconst (v := (-1 : Int32)) hx hb dL_round_14 (by decide) ?_
  refine lv_istore (lv' := [(6, .int (-1 : Int32)), (5, .int (-1 : Int32)), (4, .ref q0), (3, .ref p0), (0, .ref v0), (1, .ref z0), (2, .int p2)]) hx hb dL_round_15 hl (by decide) rfl (fun ls hl => ?_)
  refine lv_iconst (v := (0 : Int32)) hx hb dL_round_17 (by decide) ?_
  refine lv_istore (lv' := [(7, .int (0 : Int32)), (6, .int (-1 : Int32)), (5, .int (-1 : Int32)), (4, .ref q0), (3, .ref p0), (0, .ref v0), (1, .ref z0), (2, .int p2)]) hx hb dL_round_18 hl (by decide) rfl (fun ls hl => ?_)
  exact hB20 p0 q0 FU (-1 : Int32) (-1 : Int32) (0 : Int32) (fun _ => (0 : Int32)) (fun _ => (0 : Int32)) ((0 + 1) + 1) _ _ h_14 ls hP hD hS (lv_sub hl [5, 6, 7, 4, 3, 2, 1, 0] rfl) hf
