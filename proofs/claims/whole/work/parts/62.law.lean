/-! the law's loop -/
section LL
variable {p : Program} {l : Launch} {e : Env} {R : Room} {s : State} {m : MethodId} {args : Array Value} {below : List Frame} {meth : Method} {c : Code} {H : Heap} {locs : List Loc} {cells slots : Nat} {Q : State → Prop}
variable {cc bytes : ByteArray} {pc index maxL nL mc ms n : Nat} {ls : Array Slot} {rest st0 As : List Value} {y : MethodName} {ret : Option FieldType} {ws Ts : List Cond} {rm : Room} {own : String} {g : Gg} {A : Nat → Prop} {W0 Wc W1 W2 Wr : va_W} {r : Int32} {hh : List (Nat × Nat × Nat × Nat)}
theorem lcallS (isC isR isN : List Nat) (S : CallFix p m c cc nL s args Ts own) (hP : va_P g.1 vwCl W0 H) (hD : va_D A W0) (hE : EV g s) (hZ : SZ g A s s.heap) (hS : va_S A s.heap H locs) (hA : ∀ q, s.heap.size ≤ q → A q)
    (hM : vx_Met l y ws rm (va_Pc As (PM g Wc H.size)) (va_Qi (fun r' (_ : Unit) => r' = r) (fun _ t => PQ g W1 (va_A Wc H.size) t) (va_A Wc H.size)) (vx_X (fun _ : Unit => False) (fun _ _ _ => True) (va_A Wc H.size)) mc ms (va_A Wc H.size)) (cw : vx_CSW R s args own index y bytes maxL ret hh ws rm mc ms n)
    (hC : isC.map (fun i => W0[i]?) = Wc.map some) (hR : isR.map (fun i => W0[i]?) = Wr.map some) (hN : isN.map (fun i => (Wr ++ W1)[i]?) = W2.map some) (hnC : va_nd isC = true) (hnR : va_nd isR = true) (hdis : ∀ i ∈ isR, i ∉ isC) (hnN : va_nd isN = true)
    (hn : As.length = n) (hsize : ls.size = nL) (hst : st0 = As.reverse ++ rest) (hW : (rest.map fun v => v.category).sum ≤ 8) (hcl : cells + mc ≤ R.cells ∧ slots + ms ≤ R.slots)
    (hdg : decode cc pc = .ok (.invokestatic index, 3)) (kk : ∀ (H1 : Heap) (locs1 : List Loc), va_P g.1 vwCl W2 H1 → va_D A W2 → va_S A s.heap H1 locs1 → W p l e R s m args below meth c H1 locs1 (cells + mc) (slots + ms) Q (F0 m (pc + 3) ls (.int r :: rest))) : W p l e R s m args below meth c H locs cells slots Q (F0 m pc ls st0) := by
  have hFc := va_free hD hS hA isC hC
  refine vx_calli (vx_runSX (As := As) (rest := rest) S hM cw ⟨fbM, fun U hU hW => ⟨rfl, mPre hP hD hE hZ hS hA isC hC hnC U hU hW⟩⟩ rfl hn hsize hst (lv_room hW) hdg hcl) hS (fun q _ h => hFc q h) hFc (fun q _ h => hFc q h) (fun E ce q9 u t H1 locs1 ht hvm hpx hB hz1 hk1 hS1 hcell hcv hcls => hpx.elim) (fun r' u t H1 locs1 ht hvm hw hB hz1 hk1 hS1 => ?_)
  obtain ⟨hP1, hD1⟩ := hB
  rw [ht] at hP1
  obtain ⟨hP2, hD2⟩ := va_join hP hD isC isR hC hR hnR hdis hk1 hFc hP1 hD1
  rw [hw]
  exact kk H1 locs1 (hP2.sub isN (map_fm hN)) (hD2.sub isN hnN hN) hS1
end LL

set_option maxHeartbeats 40000000 in
set_option maxRecDepth 100000 in
theorem law_loop {p : Program} {l : Launch} {e : Env} {s : State} {m : MethodId} {below : List Frame} {meth : Method} {c : Code} {b L : Nat} {xs : Nat → Int32} (hl0 : l.stackTraces = false) (g : Gg) (hE : EV g s) {A : Nat → Prop} (hA : ∀ q : Nat, s.heap.size ≤ q → A q) (hAl : ∀ q : Nat, A q → s.heap.size ≤ q) (hbA : ¬ A b) (hZ : SZ g A s s.heap) (C0 : lw_At p s m meth c b L xs) (c0 h k0 x0 d0 a1 a2 a3 a4 k1 x1 d1 d2 m0 m1 m2 m3 m4 o0 e0 : Nat) (γ : Nat → Nat → Nat) :
    ∀ (n : Nat) (i : Int32) (σ : Sh) (η : Hi) (τ : Tx) (δ : Dr) (μ : Mo) (ω : (Nat → Int64)) (ε : (Nat → UInt64)) (cl sl : Nat), cl + 20 * n ≤ 601024 → sl + 200 * n ≤ 7293034 → ∀ (H : Heap) (locs : List Loc) (ls : Array Slot), va_P g.1 vwCl (wC c0 h k0 x0 d0 ++ (wS g h a1 a2 a3 a4 σ ++ (wH g k0 k1 γ η ++ (wX g x0 x1 τ ++ (wD g d0 d1 d2 δ ++ (wM g m0 m1 m2 m3 m4 μ ++ (wO g o0 ω ++ (wE g e0 ε)))))))) H → va_D A (wC c0 h k0 x0 d0 ++ (wS g h a1 a2 a3 a4 σ ++ (wH g k0 k1 γ η ++ (wX g x0 x1 τ ++ (wD g d0 d1 d2 δ ++ (wM g m0 m1 m2 m3 m4 μ ++ (wO g o0 ω ++ (wE g e0 ε)))))))) → va_S A s.heap H locs → lv_has ls 9 [(0, .ref b), (1, .ref c0), (2, .ref m0), (3, .ref o0), (4, .ref e0), (5, .int i)] → fL_law_28 L xs n i σ η τ δ μ ω ε = some true → W p l e room_1 s m #[Value.ref b] below meth c H locs cl sl (lw_Z below #[Value.ref b] s) (F0 m 28 ls []) := by
  obtain ⟨hx, hb, hr, hml, hown, hts0, hX, hbl, hlocks, hgv⟩ := C0
  have hts : ∀ w ∈ wsL_law, w.before #[Value.ref b] s = true := fun w h => hts0 w (wsL_law_in w h)
  have hown : s.vm.findClass RL = some m.cls := hown
  intro n
  induction n with
  | zero => intro i σ η τ δ μ ω ε cl sl hc hs H locs ls hP hD hS hl hf; exact nomatch (show (none : Option Bool) = some _ from hf)
  | succ n ih =>
    intro i σ η τ δ μ ω ε cl sl hc hs H locs ls hP hD hS hl hf
    rw [fL_law_28] at hf
    refine lv_iload hx hb dL_law_28 (lv_at hl 5 rfl) ?_
    refine lv_aload_n hx hb dL_law_30 rfl (lv_at hl 0 rfl) ?_
    refine va_slen hx hb hX hbl hbA hS dL_law_31 ?_
    refine lv_iconst (v := (3 : Int32)) hx hb dL_law_32 (by decide) ?_
    refine lv_isub hx hb dL_law_33 ?_
    refine lv_icmp_gt (tgt := 2499) hx hb dL_law_34 (by decide) (fun c_1 => ?_) (fun c_1 => ?_)
    · have hf := ip c_1 hf
      refine lv_iconst (v := (1 : Int32)) hx hb dL_law_2499 (by decide) ?_
      refine va_forget (fun q hq => hAl _ (hS.2.2 q hq)) ?_
      refine W.widen (k := 601024) (n := 7293034) (by omega) (by omega) ?_
      exact lw_ret (Drawn.sameBut.refl s.drawn lw_cs) hx hb hr hlocks dL_law_2500
    · have hf := iq c_1 hf
      refine lv_aload_n hx hb dL_law_37 rfl (lv_at hl 0 rfl) ?_
      refine lv_iload hx hb dL_law_38 (lv_at hl 5 rfl) ?_
      obtain ⟨h_2, hf⟩ := ck hf
      refine va_sld hx hb hX hbl hbA hS (vin h_2) dL_law_40 ?_
      refine lv_bipush (v := (63 : Int32)) hx hb dL_law_41 (by decide) ?_
      refine lv_iand hx hb dL_law_43 ?_
      by_cases s_3 : ((xs (Int32.toNatClampNeg i)) &&& (63 : Int32)) = (0 : Int32)
      · have hf := ip s_3 hf
        refine lv_tableIn (off := 192) (tgt := 236) hx hb dL_law_44 (by rw [s_3]; decide) (by rw [s_3]; decide) (by rw [s_3]; rfl) (by decide) ?_
        refine lv_aload_n hx hb dL_law_236 rfl (lv_at hl 1 rfl) ?_
        refine lv_aload_n hx hb dL_law_237 rfl (lv_at hl 0 rfl) ?_
        refine lv_iload hx hb dL_law_238 (lv_at hl 5 rfl) ?_
        refine lv_iconst (v := (1 : Int32)) hx hb dL_law_240 (by decide) ?_
        refine lv_iadd hx hb dL_law_241 ?_
        obtain ⟨h_4, hf⟩ := ck hf
        refine va_sld hx hb hX hbl hbA hS (vin h_4) dL_law_242 ?_
        refine lv_aload_n hx hb dL_law_243 rfl (lv_at hl 0 rfl) ?_
        refine lv_iload hx hb dL_law_244 (lv_at hl 5 rfl) ?_
        refine lv_iconst (v := (2 : Int32)) hx hb dL_law_246 (by decide) ?_
        refine lv_iadd hx hb dL_law_247 ?_
        obtain ⟨h_5, hf⟩ := ck hf
        refine va_sld hx hb hX hbl hbA hS (vin h_5) dL_law_248 ?_
        refine lv_aload_n hx hb dL_law_249 rfl (lv_at hl 3 rfl) ?_
        obtain ⟨r_6, e_6, hf⟩ := bo hf
        refine lcallS (W0 := (wC c0 h k0 x0 d0 ++ (wS g h a1 a2 a3 a4 σ ++ (wH g k0 k1 γ η ++ (wX g x0 x1 τ ++ (wD g d0 d1 d2 δ ++ (wM g m0 m1 m2 m3 m4 μ ++ (wO g o0 ω ++ (wE g e0 ε))))))))) (Wc := (wC c0 h k0 x0 d0 ++ (wS g h a1 a2 a3 a4 σ ++ (wH g k0 k1 γ η ++ (wO g o0 ω))))) (Wr := (wX g x0 x1 τ ++ (wD g d0 d1 d2 δ ++ (wM g m0 m1 m2 m3 m4 μ ++ (wE g e0 ε))))) (W1 := (wC c0 h k0 x0 d0 ++ (wS g h a1 a2 a3 a4 r_6.2.1 ++ (wH g k0 k1 γ r_6.2.2.1 ++ (wO g o0 r_6.2.2.2))))) (W2 := (wC c0 h k0 x0 d0 ++ (wS g h a1 a2 a3 a4 r_6.2.1 ++ (wH g k0 k1 γ r_6.2.2.1 ++ (wX g x0 x1 τ ++ (wD g d0 d1 d2 δ ++ (wM g m0 m1 m2 m3 m4 μ ++ (wO g o0 r_6.2.2.2 ++ (wE g e0 ε))))))))) (As := [.ref c0, .int (xs (Int32.toNatClampNeg (i + (1 : Int32)))), .int (xs (Int32.toNatClampNeg (i + (2 : Int32)))), .ref o0]) (rest := []) [0, 1, 2, 3, 4, 5, 6, 7, 8, 9, 10, 11, 12, 13, 14, 15, 16, 17, 18, 19, 20, 21, 22, 23, 24, 25, 26, 27, 28, 29, 30, 31, 32, 33, 34, 35, 36, 37, 48] [38, 39, 40, 41, 42, 43, 44, 45, 46, 47, 49] [11, 12, 13, 14, 15, 16, 17, 18, 19, 20, 21, 22, 23, 24, 25, 26, 27, 28, 29, 30, 31, 32, 33, 34, 35, 36, 37, 38, 39, 40, 41, 42, 43, 44, 45, 46, 47, 48, 0, 1, 2, 3, 4, 5, 6, 7, 8, 9, 49, 10] ⟨hx, hb, hml, hown, hts⟩ hP hD hE hZ hS hA (cL_begin_ok l hl0 g c0 h k0 x0 d0 a1 a2 a3 a4 k1 o0 γ σ η ω (xs (Int32.toNatClampNeg (i + (1 : Int32)))) (xs (Int32.toNatClampNeg (i + (2 : Int32)))) _ e_6) (vx_cwSW 4 hts gL_law_L_begin rfl rfl rfl hdL_begin.2 ⟨(Nat.le_of_ble_eq_true rfl), (Nat.le_of_ble_eq_true rfl)⟩) rfl rfl rfl (by decide) (by decide) (by decide) (by decide) rfl hl.1 rfl (Nat.le_of_ble_eq_true rfl) ⟨(by show _ ≤ (601024 : Nat); omega), (by show _ ≤ (7293034 : Nat); omega)⟩ dL_law_250 (fun H locs hP hD hS => ?_)
        refine lv_istore (lv' := [(6, .int r_6.1), (0, .ref b), (1, .ref c0), (2, .ref m0), (3, .ref o0), (4, .ref e0), (5, .int i)]) hx hb dL_law_253 hl (by decide) rfl (fun ls hl => ?_)
        refine lv_aload_n hx hb dL_law_255 rfl (lv_at hl 3 rfl) ?_
        refine lv_aload_n hx hb dL_law_256 rfl (lv_at hl 1 rfl) ?_
        refine lv_iload hx hb dL_law_257 (lv_at hl 6 rfl) ?_
        refine lv_iconst (v := (1 : Int32)) hx hb dL_law_259 (by decide) ?_
        refine lv_iadd hx hb dL_law_260 ?_
        refine va_sld hx hb hX hbl hbA hS (vin h_4) dL_law_261 ?_
        refine lv_aload_n hx hb dL_law_262 rfl (lv_at hl 1 rfl) ?_
        refine lv_iload hx hb dL_law_263 (lv_at hl 6 rfl) ?_
        refine lv_iconst (v := (2 : Int32)) hx hb dL_law_265 (by decide) ?_
        refine lv_iadd hx hb dL_law_266 ?_
        refine va_sld hx hb hX hbl hbA hS (vin h_5) dL_law_267 ?_
        obtain ⟨r_7, e_7, hf⟩ := bo hf
        refine mcallVi (W0 := (wC c0 h k0 x0 d0 ++ (wS g h a1 a2 a3 a4 r_6.2.1 ++ (wH g k0 k1 γ r_6.2.2.1 ++ (wX g x0 x1 τ ++ (wD g d0 d1 d2 δ ++ (wM g m0 m1 m2 m3 m4 μ ++ (wO g o0 r_6.2.2.2 ++ (wE g e0 ε))))))))) (Wc := (wM g m0 m1 m2 m3 m4 μ)) (Wr := (wC c0 h k0 x0 d0 ++ (wS g h a1 a2 a3 a4 r_6.2.1 ++ (wH g k0 k1 γ r_6.2.2.1 ++ (wX g x0 x1 τ ++ (wD g d0 d1 d2 δ ++ (wO g o0 r_6.2.2.2 ++ (wE g e0 ε)))))))) (W1 := (wM g m0 m1 m2 m3 m4 r_7.2)) (W2 := (wC c0 h k0 x0 d0 ++ (wS g h a1 a2 a3 a4 r_6.2.1 ++ (wH g k0 k1 γ r_6.2.2.1 ++ (wX g x0 x1 τ ++ (wD g d0 d1 d2 δ ++ (wM g m0 m1 m2 m3 m4 r_7.2 ++ (wO g o0 r_6.2.2.2 ++ (wE g e0 ε))))))))) (As := [.int (xs (Int32.toNatClampNeg (i + (1 : Int32)))), .int (xs (Int32.toNatClampNeg (i + (2 : Int32))))]) (rest := []) [43, 44, 45, 46, 47] [0, 1, 2, 3, 4, 5, 6, 7, 8, 9, 10, 11, 12, 13, 14, 15, 16, 17, 18, 19, 20, 21, 22, 23, 24, 25, 26, 27, 28, 29, 30, 31, 32, 33, 34, 35, 36, 37, 38, 39, 40, 41, 42, 48, 49] [0, 1, 2, 3, 4, 5, 6, 7, 8, 9, 10, 11, 12, 13, 14, 15, 16, 17, 18, 19, 20, 21, 22, 23, 24, 25, 26, 27, 28, 29, 30, 31, 32, 33, 34, 35, 36, 37, 38, 39, 40, 41, 42, 45, 46, 47, 48, 49, 43, 44] 5 0 ⟨hx, hb, hml, hown, hts⟩ hP hD hE hZ hS hA (cX7_begin_ok l g m0 m1 m2 m3 m4 μ (xs (Int32.toNatClampNeg (i + (1 : Int32)))) (xs (Int32.toNatClampNeg (i + (2 : Int32)))) _ e_7) (cwV 2 hts gL_law_X7_begin rfl rfl rfl hdX7_begin ⟨(Nat.le_of_ble_eq_true rfl), (Nat.le_of_ble_eq_true rfl)⟩) rfl rfl rfl (by decide) (by decide) (by decide) (by decide) rfl rfl rfl rfl hl.1 rfl (Nat.le_of_ble_eq_true rfl) ⟨(by show _ ≤ (601024 : Nat); omega), (by show _ ≤ (7293034 : Nat); omega)⟩ dL_law_268 (fun H locs hP hD hS => ?_)
        refine lv_istore (lv' := [(7, .int r_7.1), (6, .int r_6.1), (0, .ref b), (1, .ref c0), (2, .ref m0), (3, .ref o0), (4, .ref e0), (5, .int i)]) hx hb dL_law_271 hl (by decide) rfl (fun ls hl => ?_)
        refine lv_aload_n hx hb dL_law_273 rfl (lv_at hl 4 rfl) ?_
        obtain ⟨r_8, e_8, hf⟩ := bo hf
        refine pcallV (W0 := (wC c0 h k0 x0 d0 ++ (wS g h a1 a2 a3 a4 r_6.2.1 ++ (wH g k0 k1 γ r_6.2.2.1 ++ (wX g x0 x1 τ ++ (wD g d0 d1 d2 δ ++ (wM g m0 m1 m2 m3 m4 r_7.2 ++ (wO g o0 r_6.2.2.2 ++ (wE g e0 ε))))))))) (As := []) (rest := []) [43, 44, 45, 46, 47] 5 0 ⟨hx, hb, hml, hown, hts⟩ hP hE hZ hS (cX7_thrown_ok l g m0 m1 m2 m3 m4 r_7.2 e_8) (cwV 0 hts gL_law_X7_thrown rfl rfl rfl hdX7_thrown ⟨(Nat.le_of_ble_eq_true rfl), (Nat.le_of_ble_eq_true rfl)⟩) rfl rfl rfl rfl rfl hl.1 rfl (Nat.le_of_ble_eq_true rfl) ⟨(by show _ ≤ (601024 : Nat); omega), (by show _ ≤ (7293034 : Nat); omega)⟩ dL_law_274 ?_
        refine lv_iload hx hb dL_law_277 (lv_at hl 1 rfl) ?_
        refine lv_icmp_eq (tgt := 284) hx hb dL_law_279 (by decide) (fun c_9 => ?_) (fun c_9 => ?_)
        · have hf := ip c_9 hf
          refine lv_iload hx hb dL_law_284 (lv_at hl 1 rfl) ?_
          refine lv_if_ne (tgt := 301) hx hb dL_law_286 (by decide) (fun c_10 => ?_) (fun c_10 => ?_)
          · have hf := iq c_10 hf
            refine lv_goto (tgt := 2493) hx hb dL_law_301 (by decide) ?_
            refine lv_iinc (v := (i + 3)) (lv' := [(5, .int (i + 3)), (7, .int r_7.1), (6, .int r_6.1), (0, .ref b), (1, .ref c0), (2, .ref m0), (3, .ref o0), (4, .ref e0)]) hx hb dL_law_2493 hl (k := 7) rfl rfl (by decide) rfl (fun ls hl => ?_)
            refine lv_goto (tgt := 28) hx hb dL_law_2496 (by decide) ?_
            refine W.cs (cells' := cl + 3) (slots' := sl + 18) (by omega) (by omega) ?_
            exact ih (i + 3) r_6.2.1 r_6.2.2.1 τ δ r_7.2 r_6.2.2.2 ε (cl + 3) (sl + 18) (by omega) (by omega) _ _ ls hP hD hS (lv_sub hl [3, 4, 5, 6, 7, 0] rfl) hf
          · have hf := ip c_10 hf
            refine lv_aload_n hx hb dL_law_289 rfl (lv_at hl 5 rfl) ?_
            refine lv_iconst (v := (0 : Int32)) hx hb dL_law_290 (by decide) ?_
            refine va_lald hx hb hE.1 hP 48 2 rfl rfl (vin (by decide)) dL_law_291 ?_
            refine lv_iload hx hb dL_law_292 (lv_at hl 0 rfl) ?_
            refine lv_i2l hx hb dL_law_294 rfl ?_
            refine W.lcmp hx hb dL_law_295 ?_
            refine lv_if_eq (tgt := 301) hx hb dL_law_296 (by decide) (fun c_11 => ?_) (fun c_11 => ?_)
            · have hf := ip c_11 hf
              refine lv_goto (tgt := 2493) hx hb dL_law_301 (by decide) ?_
              refine lv_iinc (v := (i + 3)) (lv' := [(5, .int (i + 3)), (7, .int r_7.1), (6, .int r_6.1), (0, .ref b), (1, .ref c0), (2, .ref m0), (3, .ref o0), (4, .ref e0)]) hx hb dL_law_2493 hl (k := 7) rfl rfl (by decide) rfl (fun ls hl => ?_)
              refine lv_goto (tgt := 28) hx hb dL_law_2496 (by decide) ?_
              refine W.cs (cells' := cl + 3) (slots' := sl + 18) (by omega) (by omega) ?_
              exact ih (i + 3) r_6.2.1 r_6.2.2.1 τ δ r_7.2 r_6.2.2.2 ε (cl + 3) (sl + 18) (by omega) (by omega) _ _ ls hP hD hS (lv_sub hl [3, 4, 5, 6, 7, 0] rfl) hf
            · have hf := iq c_11 hf
              refine lv_iconst (v := (0 : Int32)) hx hb dL_law_299 (by decide) ?_
              exact absurd (Option.some.inj hf) (by decide)
        · have hf := iq c_9 hf
          refine lv_iconst (v := (0 : Int32)) hx hb dL_law_282 (by decide) ?_
          exact absurd (Option.some.inj hf) (by decide)
      · have hf := iq s_3 hf
        by_cases s_12 : ((xs (Int32.toNatClampNeg i)) &&& (63 : Int32)) = (1 : Int32)
        · have hf := ip s_12 hf
          refine lv_tableIn (off := 260) (tgt := 304) hx hb dL_law_44 (by rw [s_12]; decide) (by rw [s_12]; decide) (by rw [s_12]; rfl) (by decide) ?_
          refine lv_aload_n hx hb dL_law_304 rfl (lv_at hl 1 rfl) ?_
          refine lv_aload_n hx hb dL_law_305 rfl (lv_at hl 0 rfl) ?_
          refine lv_iload hx hb dL_law_306 (lv_at hl 5 rfl) ?_
          refine lv_iconst (v := (1 : Int32)) hx hb dL_law_308 (by decide) ?_
          refine lv_iadd hx hb dL_law_309 ?_
          obtain ⟨h_13, hf⟩ := ck hf
          refine va_sld hx hb hX hbl hbA hS (vin h_13) dL_law_310 ?_
          refine lv_aload_n hx hb dL_law_311 rfl (lv_at hl 0 rfl) ?_
          refine lv_iload hx hb dL_law_312 (lv_at hl 5 rfl) ?_
          refine lv_iconst (v := (2 : Int32)) hx hb dL_law_314 (by decide) ?_
          refine lv_iadd hx hb dL_law_315 ?_
          obtain ⟨h_14, hf⟩ := ck hf
          refine va_sld hx hb hX hbl hbA hS (vin h_14) dL_law_316 ?_
          refine lv_aload_n hx hb dL_law_317 rfl (lv_at hl 3 rfl) ?_
          obtain ⟨r_15, e_15, hf⟩ := bo hf
          refine lcallS (W0 := (wC c0 h k0 x0 d0 ++ (wS g h a1 a2 a3 a4 σ ++ (wH g k0 k1 γ η ++ (wX g x0 x1 τ ++ (wD g d0 d1 d2 δ ++ (wM g m0 m1 m2 m3 m4 μ ++ (wO g o0 ω ++ (wE g e0 ε))))))))) (Wc := (wC c0 h k0 x0 d0 ++ (wS g h a1 a2 a3 a4 σ ++ (wH g k0 k1 γ η ++ (wO g o0 ω))))) (Wr := (wX g x0 x1 τ ++ (wD g d0 d1 d2 δ ++ (wM g m0 m1 m2 m3 m4 μ ++ (wE g e0 ε))))) (W1 := (wC c0 h k0 x0 d0 ++ (wS g h a1 a2 a3 a4 r_15.2.1 ++ (wH g k0 k1 γ r_15.2.2.1 ++ (wO g o0 r_15.2.2.2))))) (W2 := (wC c0 h k0 x0 d0 ++ (wS g h a1 a2 a3 a4 r_15.2.1 ++ (wH g k0 k1 γ r_15.2.2.1 ++ (wX g x0 x1 τ ++ (wD g d0 d1 d2 δ ++ (wM g m0 m1 m2 m3 m4 μ ++ (wO g o0 r_15.2.2.2 ++ (wE g e0 ε))))))))) (As := [.ref c0, .int (xs (Int32.toNatClampNeg (i + (1 : Int32)))), .int (xs (Int32.toNatClampNeg (i + (2 : Int32)))), .ref o0]) (rest := []) [0, 1, 2, 3, 4, 5, 6, 7, 8, 9, 10, 11, 12, 13, 14, 15, 16, 17, 18, 19, 20, 21, 22, 23, 24, 25, 26, 27, 28, 29, 30, 31, 32, 33, 34, 35, 36, 37, 48] [38, 39, 40, 41, 42, 43, 44, 45, 46, 47, 49] [11, 12, 13, 14, 15, 16, 17, 18, 19, 20, 21, 22, 23, 24, 25, 26, 27, 28, 29, 30, 31, 32, 33, 34, 35, 36, 37, 38, 39, 40, 41, 42, 43, 44, 45, 46, 47, 48, 0, 1, 2, 3, 4, 5, 6, 7, 8, 9, 49, 10] ⟨hx, hb, hml, hown, hts⟩ hP hD hE hZ hS hA (cL_step_ok l hl0 g c0 h k0 x0 d0 a1 a2 a3 a4 k1 o0 γ σ η ω (xs (Int32.toNatClampNeg (i + (1 : Int32)))) (xs (Int32.toNatClampNeg (i + (2 : Int32)))) _ e_15) (vx_cwSW 4 hts gL_law_L_step rfl rfl rfl hdL_step.2 ⟨(Nat.le_of_ble_eq_true rfl), (Nat.le_of_ble_eq_true rfl)⟩) rfl rfl rfl (by decide) (by decide) (by decide) (by decide) rfl hl.1 rfl (Nat.le_of_ble_eq_true rfl) ⟨(by show _ ≤ (601024 : Nat); omega), (by show _ ≤ (7293034 : Nat); omega)⟩ dL_law_318 (fun H locs hP hD hS => ?_)
          refine lv_istore (lv' := [(6, .int r_15.1), (0, .ref b), (1, .ref c0), (2, .ref m0), (3, .ref o0), (4, .ref e0), (5, .int i)]) hx hb dL_law_321 hl (by decide) rfl (fun ls hl => ?_)
          refine lv_aload_n hx hb dL_law_323 rfl (lv_at hl 3 rfl) ?_
          refine lv_aload_n hx hb dL_law_324 rfl (lv_at hl 1 rfl) ?_
          refine lv_iload hx hb dL_law_325 (lv_at hl 6 rfl) ?_
          refine lv_iconst (v := (1 : Int32)) hx hb dL_law_327 (by decide) ?_
          refine lv_iadd hx hb dL_law_328 ?_
          refine va_sld hx hb hX hbl hbA hS (vin h_13) dL_law_329 ?_
          refine lv_aload_n hx hb dL_law_330 rfl (lv_at hl 1 rfl) ?_
          refine lv_iload hx hb dL_law_331 (lv_at hl 6 rfl) ?_
          refine lv_iconst (v := (2 : Int32)) hx hb dL_law_333 (by decide) ?_
          refine lv_iadd hx hb dL_law_334 ?_
          refine va_sld hx hb hX hbl hbA hS (vin h_14) dL_law_335 ?_
          obtain ⟨r_16, e_16, hf⟩ := bo hf
          refine mcallVi (W0 := (wC c0 h k0 x0 d0 ++ (wS g h a1 a2 a3 a4 r_15.2.1 ++ (wH g k0 k1 γ r_15.2.2.1 ++ (wX g x0 x1 τ ++ (wD g d0 d1 d2 δ ++ (wM g m0 m1 m2 m3 m4 μ ++ (wO g o0 r_15.2.2.2 ++ (wE g e0 ε))))))))) (Wc := (wM g m0 m1 m2 m3 m4 μ)) (Wr := (wC c0 h k0 x0 d0 ++ (wS g h a1 a2 a3 a4 r_15.2.1 ++ (wH g k0 k1 γ r_15.2.2.1 ++ (wX g x0 x1 τ ++ (wD g d0 d1 d2 δ ++ (wO g o0 r_15.2.2.2 ++ (wE g e0 ε)))))))) (W1 := (wM g m0 m1 m2 m3 m4 r_16.2)) (W2 := (wC c0 h k0 x0 d0 ++ (wS g h a1 a2 a3 a4 r_15.2.1 ++ (wH g k0 k1 γ r_15.2.2.1 ++ (wX g x0 x1 τ ++ (wD g d0 d1 d2 δ ++ (wM g m0 m1 m2 m3 m4 r_16.2 ++ (wO g o0 r_15.2.2.2 ++ (wE g e0 ε))))))))) (As := [.int (xs (Int32.toNatClampNeg (i + (1 : Int32)))), .int (xs (Int32.toNatClampNeg (i + (2 : Int32))))]) (rest := []) [43, 44, 45, 46, 47] [0, 1, 2, 3, 4, 5, 6, 7, 8, 9, 10, 11, 12, 13, 14, 15, 16, 17, 18, 19, 20, 21, 22, 23, 24, 25, 26, 27, 28, 29, 30, 31, 32, 33, 34, 35, 36, 37, 38, 39, 40, 41, 42, 48, 49] [0, 1, 2, 3, 4, 5, 6, 7, 8, 9, 10, 11, 12, 13, 14, 15, 16, 17, 18, 19, 20, 21, 22, 23, 24, 25, 26, 27, 28, 29, 30, 31, 32, 33, 34, 35, 36, 37, 38, 39, 40, 41, 42, 45, 46, 47, 48, 49, 43, 44] 5 0 ⟨hx, hb, hml, hown, hts⟩ hP hD hE hZ hS hA (cX7_step_ok l g m0 m1 m2 m3 m4 μ (xs (Int32.toNatClampNeg (i + (1 : Int32)))) (xs (Int32.toNatClampNeg (i + (2 : Int32)))) _ e_16) (cwV 2 hts gL_law_X7_step rfl rfl rfl hdX7_step ⟨(Nat.le_of_ble_eq_true rfl), (Nat.le_of_ble_eq_true rfl)⟩) rfl rfl rfl (by decide) (by decide) (by decide) (by decide) rfl rfl rfl rfl hl.1 rfl (Nat.le_of_ble_eq_true rfl) ⟨(by show _ ≤ (601024 : Nat); omega), (by show _ ≤ (7293034 : Nat); omega)⟩ dL_law_336 (fun H locs hP hD hS => ?_)
          refine lv_istore (lv' := [(7, .int (b2i r_16.1)), (6, .int r_15.1), (0, .ref b), (1, .ref c0), (2, .ref m0), (3, .ref o0), (4, .ref e0), (5, .int i)]) hx hb dL_law_339 hl (by decide) rfl (fun ls hl => ?_)
          refine lv_aload_n hx hb dL_law_341 rfl (lv_at hl 4 rfl) ?_
          obtain ⟨r_17, e_17, hf⟩ := bo hf
          refine pcallV (W0 := (wC c0 h k0 x0 d0 ++ (wS g h a1 a2 a3 a4 r_15.2.1 ++ (wH g k0 k1 γ r_15.2.2.1 ++ (wX g x0 x1 τ ++ (wD g d0 d1 d2 δ ++ (wM g m0 m1 m2 m3 m4 r_16.2 ++ (wO g o0 r_15.2.2.2 ++ (wE g e0 ε))))))))) (As := []) (rest := []) [43, 44, 45, 46, 47] 5 0 ⟨hx, hb, hml, hown, hts⟩ hP hE hZ hS (cX7_thrown_ok l g m0 m1 m2 m3 m4 r_16.2 e_17) (cwV 0 hts gL_law_X7_thrown rfl rfl rfl hdX7_thrown ⟨(Nat.le_of_ble_eq_true rfl), (Nat.le_of_ble_eq_true rfl)⟩) rfl rfl rfl rfl rfl hl.1 rfl (Nat.le_of_ble_eq_true rfl) ⟨(by show _ ≤ (601024 : Nat); omega), (by show _ ≤ (7293034 : Nat); omega)⟩ dL_law_342 ?_
          refine lv_iload hx hb dL_law_345 (lv_at hl 1 rfl) ?_
          refine lv_icmp_eq (tgt := 352) hx hb dL_law_347 (by decide) (fun c_18 => ?_) (fun c_18 => ?_)
          · have hf := ip c_18 hf
            refine lv_iload hx hb dL_law_352 (lv_at hl 1 rfl) ?_
            refine lv_if_ne (tgt := 376) hx hb dL_law_354 (by decide) (fun c_19 => ?_) (fun c_19 => ?_)
            · have hf := iq c_19 hf
              refine lv_goto (tgt := 2493) hx hb dL_law_376 (by decide) ?_
              refine lv_iinc (v := (i + 3)) (lv' := [(5, .int (i + 3)), (7, .int (b2i r_16.1)), (6, .int r_15.1), (0, .ref b), (1, .ref c0), (2, .ref m0), (3, .ref o0), (4, .ref e0)]) hx hb dL_law_2493 hl (k := 7) rfl rfl (by decide) rfl (fun ls hl => ?_)
              refine lv_goto (tgt := 28) hx hb dL_law_2496 (by decide) ?_
              refine W.cs (cells' := cl + 3) (slots' := sl + 18) (by omega) (by omega) ?_
              exact ih (i + 3) r_15.2.1 r_15.2.2.1 τ δ r_16.2 r_15.2.2.2 ε (cl + 3) (sl + 18) (by omega) (by omega) _ _ ls hP hD hS (lv_sub hl [3, 4, 5, 6, 7, 0] rfl) hf
            · have hf := ip c_19 hf
              refine lv_aload_n hx hb dL_law_357 rfl (lv_at hl 5 rfl) ?_
              refine lv_iconst (v := (0 : Int32)) hx hb dL_law_358 (by decide) ?_
              refine va_lald hx hb hE.1 hP 48 2 rfl rfl (vin (by decide)) dL_law_359 ?_
              refine lv_iload hx hb dL_law_360 (lv_at hl 0 rfl) ?_
              refine lv_beq (tgt := 369) hx hb dL_law_362 (by decide) (fun c_20 => ?_) (fun c_20 => ?_)
              · have hf := iq c_20 hf
                refine lv_lconst (v := 0) hx hb dL_law_369 (by decide) ?_
                refine W.lcmp hx hb dL_law_370 ?_
                refine lv_if_eq (tgt := 376) hx hb dL_law_371 (by decide) (fun c_21 => ?_) (fun c_21 => ?_)
                · have hf := ip c_21 hf
                  refine lv_goto (tgt := 2493) hx hb dL_law_376 (by decide) ?_
                  refine lv_iinc (v := (i + 3)) (lv' := [(5, .int (i + 3)), (7, .int (b2i r_16.1)), (6, .int r_15.1), (0, .ref b), (1, .ref c0), (2, .ref m0), (3, .ref o0), (4, .ref e0)]) hx hb dL_law_2493 hl (k := 7) rfl rfl (by decide) rfl (fun ls hl => ?_)
                  refine lv_goto (tgt := 28) hx hb dL_law_2496 (by decide) ?_
                  refine W.cs (cells' := cl + 3) (slots' := sl + 18) (by omega) (by omega) ?_
                  exact ih (i + 3) r_15.2.1 r_15.2.2.1 τ δ r_16.2 r_15.2.2.2 ε (cl + 3) (sl + 18) (by omega) (by omega) _ _ ls hP hD hS (lv_sub hl [3, 4, 5, 6, 7, 0] rfl) hf
                · have hf := iq c_21 hf
                  refine lv_iconst (v := (0 : Int32)) hx hb dL_law_374 (by decide) ?_
                  exact absurd (Option.some.inj hf) (by decide)
              · have hf := ip c_20 hf
                refine lv_lconst (v := 1) hx hb dL_law_365 (by decide) ?_
                refine lv_goto (tgt := 370) hx hb dL_law_366 (by decide) ?_
                refine W.lcmp hx hb dL_law_370 ?_
                refine lv_if_eq (tgt := 376) hx hb dL_law_371 (by decide) (fun c_22 => ?_) (fun c_22 => ?_)
                · have hf := ip c_22 hf
                  refine lv_goto (tgt := 2493) hx hb dL_law_376 (by decide) ?_
                  refine lv_iinc (v := (i + 3)) (lv' := [(5, .int (i + 3)), (7, .int (b2i r_16.1)), (6, .int r_15.1), (0, .ref b), (1, .ref c0), (2, .ref m0), (3, .ref o0), (4, .ref e0)]) hx hb dL_law_2493 hl (k := 7) rfl rfl (by decide) rfl (fun ls hl => ?_)
                  refine lv_goto (tgt := 28) hx hb dL_law_2496 (by decide) ?_
                  refine W.cs (cells' := cl + 3) (slots' := sl + 18) (by omega) (by omega) ?_
                  exact ih (i + 3) r_15.2.1 r_15.2.2.1 τ δ r_16.2 r_15.2.2.2 ε (cl + 3) (sl + 18) (by omega) (by omega) _ _ ls hP hD hS (lv_sub hl [3, 4, 5, 6, 7, 0] rfl) hf
                · have hf := iq c_22 hf
                  refine lv_iconst (v := (0 : Int32)) hx hb dL_law_374 (by decide) ?_
                  exact absurd (Option.some.inj hf) (by decide)
          · have hf := iq c_18 hf
            refine lv_iconst (v := (0 : Int32)) hx hb dL_law_350 (by decide) ?_
            exact absurd (Option.some.inj hf) (by decide)
        · have hf := iq s_12 hf
          by_cases s_23 : ((xs (Int32.toNatClampNeg i)) &&& (63 : Int32)) = (2 : Int32)
          · have hf := ip s_23 hf
            refine lv_tableIn (off := 335) (tgt := 379) hx hb dL_law_44 (by rw [s_23]; decide) (by rw [s_23]; decide) (by rw [s_23]; rfl) (by decide) ?_
            refine lv_aload_n hx hb dL_law_379 rfl (lv_at hl 1 rfl) ?_
            refine lv_aload_n hx hb dL_law_380 rfl (lv_at hl 0 rfl) ?_
            refine lv_iload hx hb dL_law_381 (lv_at hl 5 rfl) ?_
            refine lv_iconst (v := (1 : Int32)) hx hb dL_law_383 (by decide) ?_
            refine lv_iadd hx hb dL_law_384 ?_
            obtain ⟨h_24, hf⟩ := ck hf
            refine va_sld hx hb hX hbl hbA hS (vin h_24) dL_law_385 ?_
            refine lv_aload_n hx hb dL_law_386 rfl (lv_at hl 3 rfl) ?_
            obtain ⟨r_25, e_25, hf⟩ := bo hf
            refine lcallS (W0 := (wC c0 h k0 x0 d0 ++ (wS g h a1 a2 a3 a4 σ ++ (wH g k0 k1 γ η ++ (wX g x0 x1 τ ++ (wD g d0 d1 d2 δ ++ (wM g m0 m1 m2 m3 m4 μ ++ (wO g o0 ω ++ (wE g e0 ε))))))))) (Wc := (wC c0 h k0 x0 d0 ++ (wS g h a1 a2 a3 a4 σ ++ (wH g k0 k1 γ η ++ (wO g o0 ω))))) (Wr := (wX g x0 x1 τ ++ (wD g d0 d1 d2 δ ++ (wM g m0 m1 m2 m3 m4 μ ++ (wE g e0 ε))))) (W1 := (wC c0 h k0 x0 d0 ++ (wS g h a1 a2 a3 a4 r_25.2.1 ++ (wH g k0 k1 γ r_25.2.2.1 ++ (wO g o0 r_25.2.2.2))))) (W2 := (wC c0 h k0 x0 d0 ++ (wS g h a1 a2 a3 a4 r_25.2.1 ++ (wH g k0 k1 γ r_25.2.2.1 ++ (wX g x0 x1 τ ++ (wD g d0 d1 d2 δ ++ (wM g m0 m1 m2 m3 m4 μ ++ (wO g o0 r_25.2.2.2 ++ (wE g e0 ε))))))))) (As := [.ref c0, .int (xs (Int32.toNatClampNeg (i + (1 : Int32)))), .ref o0]) (rest := []) [0, 1, 2, 3, 4, 5, 6, 7, 8, 9, 10, 11, 12, 13, 14, 15, 16, 17, 18, 19, 20, 21, 22, 23, 24, 25, 26, 27, 28, 29, 30, 31, 32, 33, 34, 35, 36, 37, 48] [38, 39, 40, 41, 42, 43, 44, 45, 46, 47, 49] [11, 12, 13, 14, 15, 16, 17, 18, 19, 20, 21, 22, 23, 24, 25, 26, 27, 28, 29, 30, 31, 32, 33, 34, 35, 36, 37, 38, 39, 40, 41, 42, 43, 44, 45, 46, 47, 48, 0, 1, 2, 3, 4, 5, 6, 7, 8, 9, 49, 10] ⟨hx, hb, hml, hown, hts⟩ hP hD hE hZ hS hA (cL_wipe_ok l hl0 g c0 h k0 x0 d0 a1 a2 a3 a4 k1 o0 γ σ η ω (xs (Int32.toNatClampNeg (i + (1 : Int32)))) _ e_25) (vx_cwSW 3 hts gL_law_L_wipe rfl rfl rfl hdL_wipe.2 ⟨(Nat.le_of_ble_eq_true rfl), (Nat.le_of_ble_eq_true rfl)⟩) rfl rfl rfl (by decide) (by decide) (by decide) (by decide) rfl hl.1 rfl (Nat.le_of_ble_eq_true rfl) ⟨(by show _ ≤ (601024 : Nat); omega), (by show _ ≤ (7293034 : Nat); omega)⟩ dL_law_387 (fun H locs hP hD hS => ?_)
            refine lv_istore (lv' := [(6, .int r_25.1), (0, .ref b), (1, .ref c0), (2, .ref m0), (3, .ref o0), (4, .ref e0), (5, .int i)]) hx hb dL_law_390 hl (by decide) rfl (fun ls hl => ?_)
            refine lv_aload_n hx hb dL_law_392 rfl (lv_at hl 3 rfl) ?_
            refine lv_aload_n hx hb dL_law_393 rfl (lv_at hl 1 rfl) ?_
            refine lv_iload hx hb dL_law_394 (lv_at hl 6 rfl) ?_
            refine lv_iconst (v := (1 : Int32)) hx hb dL_law_396 (by decide) ?_
            refine lv_iadd hx hb dL_law_397 ?_
            refine va_sld hx hb hX hbl hbA hS (vin h_24) dL_law_398 ?_
            obtain ⟨r_26, e_26, hf⟩ := bo hf
            refine mcallVi (W0 := (wC c0 h k0 x0 d0 ++ (wS g h a1 a2 a3 a4 r_25.2.1 ++ (wH g k0 k1 γ r_25.2.2.1 ++ (wX g x0 x1 τ ++ (wD g d0 d1 d2 δ ++ (wM g m0 m1 m2 m3 m4 μ ++ (wO g o0 r_25.2.2.2 ++ (wE g e0 ε))))))))) (Wc := (wM g m0 m1 m2 m3 m4 μ)) (Wr := (wC c0 h k0 x0 d0 ++ (wS g h a1 a2 a3 a4 r_25.2.1 ++ (wH g k0 k1 γ r_25.2.2.1 ++ (wX g x0 x1 τ ++ (wD g d0 d1 d2 δ ++ (wO g o0 r_25.2.2.2 ++ (wE g e0 ε)))))))) (W1 := (wM g m0 m1 m2 m3 m4 r_26.2)) (W2 := (wC c0 h k0 x0 d0 ++ (wS g h a1 a2 a3 a4 r_25.2.1 ++ (wH g k0 k1 γ r_25.2.2.1 ++ (wX g x0 x1 τ ++ (wD g d0 d1 d2 δ ++ (wM g m0 m1 m2 m3 m4 r_26.2 ++ (wO g o0 r_25.2.2.2 ++ (wE g e0 ε))))))))) (As := [.int (xs (Int32.toNatClampNeg (i + (1 : Int32))))]) (rest := []) [43, 44, 45, 46, 47] [0, 1, 2, 3, 4, 5, 6, 7, 8, 9, 10, 11, 12, 13, 14, 15, 16, 17, 18, 19, 20, 21, 22, 23, 24, 25, 26, 27, 28, 29, 30, 31, 32, 33, 34, 35, 36, 37, 38, 39, 40, 41, 42, 48, 49] [0, 1, 2, 3, 4, 5, 6, 7, 8, 9, 10, 11, 12, 13, 14, 15, 16, 17, 18, 19, 20, 21, 22, 23, 24, 25, 26, 27, 28, 29, 30, 31, 32, 33, 34, 35, 36, 37, 38, 39, 40, 41, 42, 45, 46, 47, 48, 49, 43, 44] 5 0 ⟨hx, hb, hml, hown, hts⟩ hP hD hE hZ hS hA (cX7_wipe_ok l g m0 m1 m2 m3 m4 μ (xs (Int32.toNatClampNeg (i + (1 : Int32)))) _ e_26) (cwV 1 hts gL_law_X7_wipe rfl rfl rfl hdX7_wipe ⟨(Nat.le_of_ble_eq_true rfl), (Nat.le_of_ble_eq_true rfl)⟩) rfl rfl rfl (by decide) (by decide) (by decide) (by decide) rfl rfl rfl rfl hl.1 rfl (Nat.le_of_ble_eq_true rfl) ⟨(by show _ ≤ (601024 : Nat); omega), (by show _ ≤ (7293034 : Nat); omega)⟩ dL_law_399 (fun H locs hP hD hS => ?_)
            refine lv_istore (lv' := [(7, .int r_26.1), (6, .int r_25.1), (0, .ref b), (1, .ref c0), (2, .ref m0), (3, .ref o0), (4, .ref e0), (5, .int i)]) hx hb dL_law_402 hl (by decide) rfl (fun ls hl => ?_)
            refine lv_aload_n hx hb dL_law_404 rfl (lv_at hl 4 rfl) ?_
            obtain ⟨r_27, e_27, hf⟩ := bo hf
            refine pcallV (W0 := (wC c0 h k0 x0 d0 ++ (wS g h a1 a2 a3 a4 r_25.2.1 ++ (wH g k0 k1 γ r_25.2.2.1 ++ (wX g x0 x1 τ ++ (wD g d0 d1 d2 δ ++ (wM g m0 m1 m2 m3 m4 r_26.2 ++ (wO g o0 r_25.2.2.2 ++ (wE g e0 ε))))))))) (As := []) (rest := []) [43, 44, 45, 46, 47] 5 0 ⟨hx, hb, hml, hown, hts⟩ hP hE hZ hS (cX7_thrown_ok l g m0 m1 m2 m3 m4 r_26.2 e_27) (cwV 0 hts gL_law_X7_thrown rfl rfl rfl hdX7_thrown ⟨(Nat.le_of_ble_eq_true rfl), (Nat.le_of_ble_eq_true rfl)⟩) rfl rfl rfl rfl rfl hl.1 rfl (Nat.le_of_ble_eq_true rfl) ⟨(by show _ ≤ (601024 : Nat); omega), (by show _ ≤ (7293034 : Nat); omega)⟩ dL_law_405 ?_
            refine lv_iload hx hb dL_law_408 (lv_at hl 1 rfl) ?_
            refine lv_icmp_eq (tgt := 415) hx hb dL_law_410 (by decide) (fun c_28 => ?_) (fun c_28 => ?_)
            · have hf := ip c_28 hf
              refine lv_iload hx hb dL_law_415 (lv_at hl 1 rfl) ?_
              refine lv_if_ne (tgt := 432) hx hb dL_law_417 (by decide) (fun c_29 => ?_) (fun c_29 => ?_)
              · have hf := iq c_29 hf
                refine lv_goto (tgt := 2493) hx hb dL_law_432 (by decide) ?_
                refine lv_iinc (v := (i + 3)) (lv' := [(5, .int (i + 3)), (7, .int r_26.1), (6, .int r_25.1), (0, .ref b), (1, .ref c0), (2, .ref m0), (3, .ref o0), (4, .ref e0)]) hx hb dL_law_2493 hl (k := 7) rfl rfl (by decide) rfl (fun ls hl => ?_)
                refine lv_goto (tgt := 28) hx hb dL_law_2496 (by decide) ?_
                refine W.cs (cells' := cl + 1) (slots' := sl + 6) (by omega) (by omega) ?_
                exact ih (i + 3) r_25.2.1 r_25.2.2.1 τ δ r_26.2 r_25.2.2.2 ε (cl + 1) (sl + 6) (by omega) (by omega) _ _ ls hP hD hS (lv_sub hl [3, 4, 5, 6, 7, 0] rfl) hf
              · have hf := ip c_29 hf
                refine lv_aload_n hx hb dL_law_420 rfl (lv_at hl 5 rfl) ?_
                refine lv_iconst (v := (0 : Int32)) hx hb dL_law_421 (by decide) ?_
                refine va_lald hx hb hE.1 hP 48 2 rfl rfl (vin (by decide)) dL_law_422 ?_
                refine lv_iload hx hb dL_law_423 (lv_at hl 0 rfl) ?_
                refine lv_i2l hx hb dL_law_425 rfl ?_
                refine W.lcmp hx hb dL_law_426 ?_
                refine lv_if_eq (tgt := 432) hx hb dL_law_427 (by decide) (fun c_30 => ?_) (fun c_30 => ?_)
                · have hf := ip c_30 hf
                  refine lv_goto (tgt := 2493) hx hb dL_law_432 (by decide) ?_
                  refine lv_iinc (v := (i + 3)) (lv' := [(5, .int (i + 3)), (7, .int r_26.1), (6, .int r_25.1), (0, .ref b), (1, .ref c0), (2, .ref m0), (3, .ref o0), (4, .ref e0)]) hx hb dL_law_2493 hl (k := 7) rfl rfl (by decide) rfl (fun ls hl => ?_)
                  refine lv_goto (tgt := 28) hx hb dL_law_2496 (by decide) ?_
                  refine W.cs (cells' := cl + 1) (slots' := sl + 6) (by omega) (by omega) ?_
                  exact ih (i + 3) r_25.2.1 r_25.2.2.1 τ δ r_26.2 r_25.2.2.2 ε (cl + 1) (sl + 6) (by omega) (by omega) _ _ ls hP hD hS (lv_sub hl [3, 4, 5, 6, 7, 0] rfl) hf
                · have hf := iq c_30 hf
                  refine lv_iconst (v := (0 : Int32)) hx hb dL_law_430 (by decide) ?_
                  exact absurd (Option.some.inj hf) (by decide)
            · have hf := iq c_28 hf
              refine lv_iconst (v := (0 : Int32)) hx hb dL_law_413 (by decide) ?_
              exact absurd (Option.some.inj hf) (by decide)
          · have hf := iq s_23 hf
            by_cases s_31 : ((xs (Int32.toNatClampNeg i)) &&& (63 : Int32)) = (3 : Int32)
            · have hf := ip s_31 hf
              refine lv_tableIn (off := 391) (tgt := 435) hx hb dL_law_44 (by rw [s_31]; decide) (by rw [s_31]; decide) (by rw [s_31]; rfl) (by decide) ?_
              refine lv_aload_n hx hb dL_law_435 rfl (lv_at hl 1 rfl) ?_
              refine lv_aload_n hx hb dL_law_436 rfl (lv_at hl 0 rfl) ?_
              refine lv_iload hx hb dL_law_437 (lv_at hl 5 rfl) ?_
              refine lv_iconst (v := (1 : Int32)) hx hb dL_law_439 (by decide) ?_
              refine lv_iadd hx hb dL_law_440 ?_
              obtain ⟨h_32, hf⟩ := ck hf
              refine va_sld hx hb hX hbl hbA hS (vin h_32) dL_law_441 ?_
              refine lv_aload_n hx hb dL_law_442 rfl (lv_at hl 0 rfl) ?_
              refine lv_iload hx hb dL_law_443 (lv_at hl 5 rfl) ?_
              refine lv_iconst (v := (2 : Int32)) hx hb dL_law_445 (by decide) ?_
              refine lv_iadd hx hb dL_law_446 ?_
              obtain ⟨h_33, hf⟩ := ck hf
              refine va_sld hx hb hX hbl hbA hS (vin h_33) dL_law_447 ?_
              refine lv_aload_n hx hb dL_law_448 rfl (lv_at hl 3 rfl) ?_
              obtain ⟨r_34, e_34, hf⟩ := bo hf
              refine lcallS (W0 := (wC c0 h k0 x0 d0 ++ (wS g h a1 a2 a3 a4 σ ++ (wH g k0 k1 γ η ++ (wX g x0 x1 τ ++ (wD g d0 d1 d2 δ ++ (wM g m0 m1 m2 m3 m4 μ ++ (wO g o0 ω ++ (wE g e0 ε))))))))) (Wc := (wC c0 h k0 x0 d0 ++ (wS g h a1 a2 a3 a4 σ ++ (wH g k0 k1 γ η ++ (wO g o0 ω))))) (Wr := (wX g x0 x1 τ ++ (wD g d0 d1 d2 δ ++ (wM g m0 m1 m2 m3 m4 μ ++ (wE g e0 ε))))) (W1 := (wC c0 h k0 x0 d0 ++ (wS g h a1 a2 a3 a4 r_34.2.1 ++ (wH g k0 k1 γ r_34.2.2.1 ++ (wO g o0 r_34.2.2.2))))) (W2 := (wC c0 h k0 x0 d0 ++ (wS g h a1 a2 a3 a4 r_34.2.1 ++ (wH g k0 k1 γ r_34.2.2.1 ++ (wX g x0 x1 τ ++ (wD g d0 d1 d2 δ ++ (wM g m0 m1 m2 m3 m4 μ ++ (wO g o0 r_34.2.2.2 ++ (wE g e0 ε))))))))) (As := [.ref c0, .int (xs (Int32.toNatClampNeg (i + (1 : Int32)))), .int (xs (Int32.toNatClampNeg (i + (2 : Int32)))), .ref o0]) (rest := []) [0, 1, 2, 3, 4, 5, 6, 7, 8, 9, 10, 11, 12, 13, 14, 15, 16, 17, 18, 19, 20, 21, 22, 23, 24, 25, 26, 27, 28, 29, 30, 31, 32, 33, 34, 35, 36, 37, 48] [38, 39, 40, 41, 42, 43, 44, 45, 46, 47, 49] [11, 12, 13, 14, 15, 16, 17, 18, 19, 20, 21, 22, 23, 24, 25, 26, 27, 28, 29, 30, 31, 32, 33, 34, 35, 36, 37, 38, 39, 40, 41, 42, 43, 44, 45, 46, 47, 48, 0, 1, 2, 3, 4, 5, 6, 7, 8, 9, 49, 10] ⟨hx, hb, hml, hown, hts⟩ hP hD hE hZ hS hA (cL_setLevel_ok l hl0 g c0 h k0 x0 d0 a1 a2 a3 a4 k1 o0 γ σ η ω (xs (Int32.toNatClampNeg (i + (1 : Int32)))) (xs (Int32.toNatClampNeg (i + (2 : Int32)))) _ e_34) (vx_cwSW 4 hts gL_law_L_setLevel rfl rfl rfl hdL_setLevel.2 ⟨(Nat.le_of_ble_eq_true rfl), (Nat.le_of_ble_eq_true rfl)⟩) rfl rfl rfl (by decide) (by decide) (by decide) (by decide) rfl hl.1 rfl (Nat.le_of_ble_eq_true rfl) ⟨(by show _ ≤ (601024 : Nat); omega), (by show _ ≤ (7293034 : Nat); omega)⟩ dL_law_449 (fun H locs hP hD hS => ?_)
              refine lv_istore (lv' := [(6, .int r_34.1), (0, .ref b), (1, .ref c0), (2, .ref m0), (3, .ref o0), (4, .ref e0), (5, .int i)]) hx hb dL_law_452 hl (by decide) rfl (fun ls hl => ?_)
              refine lv_aload_n hx hb dL_law_454 rfl (lv_at hl 3 rfl) ?_
              refine lv_aload_n hx hb dL_law_455 rfl (lv_at hl 1 rfl) ?_
              refine lv_iload hx hb dL_law_456 (lv_at hl 6 rfl) ?_
              refine lv_iconst (v := (1 : Int32)) hx hb dL_law_458 (by decide) ?_
              refine lv_iadd hx hb dL_law_459 ?_
              refine va_sld hx hb hX hbl hbA hS (vin h_32) dL_law_460 ?_
              refine lv_aload_n hx hb dL_law_461 rfl (lv_at hl 1 rfl) ?_
              refine lv_iload hx hb dL_law_462 (lv_at hl 6 rfl) ?_
              refine lv_iconst (v := (2 : Int32)) hx hb dL_law_464 (by decide) ?_
              refine lv_iadd hx hb dL_law_465 ?_
              refine va_sld hx hb hX hbl hbA hS (vin h_33) dL_law_466 ?_
              obtain ⟨r_35, e_35, hf⟩ := bo hf
              refine mcallVi (W0 := (wC c0 h k0 x0 d0 ++ (wS g h a1 a2 a3 a4 r_34.2.1 ++ (wH g k0 k1 γ r_34.2.2.1 ++ (wX g x0 x1 τ ++ (wD g d0 d1 d2 δ ++ (wM g m0 m1 m2 m3 m4 μ ++ (wO g o0 r_34.2.2.2 ++ (wE g e0 ε))))))))) (Wc := (wM g m0 m1 m2 m3 m4 μ)) (Wr := (wC c0 h k0 x0 d0 ++ (wS g h a1 a2 a3 a4 r_34.2.1 ++ (wH g k0 k1 γ r_34.2.2.1 ++ (wX g x0 x1 τ ++ (wD g d0 d1 d2 δ ++ (wO g o0 r_34.2.2.2 ++ (wE g e0 ε)))))))) (W1 := (wM g m0 m1 m2 m3 m4 r_35.2)) (W2 := (wC c0 h k0 x0 d0 ++ (wS g h a1 a2 a3 a4 r_34.2.1 ++ (wH g k0 k1 γ r_34.2.2.1 ++ (wX g x0 x1 τ ++ (wD g d0 d1 d2 δ ++ (wM g m0 m1 m2 m3 m4 r_35.2 ++ (wO g o0 r_34.2.2.2 ++ (wE g e0 ε))))))))) (As := [.int (xs (Int32.toNatClampNeg (i + (1 : Int32)))), .int (xs (Int32.toNatClampNeg (i + (2 : Int32))))]) (rest := []) [43, 44, 45, 46, 47] [0, 1, 2, 3, 4, 5, 6, 7, 8, 9, 10, 11, 12, 13, 14, 15, 16, 17, 18, 19, 20, 21, 22, 23, 24, 25, 26, 27, 28, 29, 30, 31, 32, 33, 34, 35, 36, 37, 38, 39, 40, 41, 42, 48, 49] [0, 1, 2, 3, 4, 5, 6, 7, 8, 9, 10, 11, 12, 13, 14, 15, 16, 17, 18, 19, 20, 21, 22, 23, 24, 25, 26, 27, 28, 29, 30, 31, 32, 33, 34, 35, 36, 37, 38, 39, 40, 41, 42, 45, 46, 47, 48, 49, 43, 44] 5 0 ⟨hx, hb, hml, hown, hts⟩ hP hD hE hZ hS hA (cX7_setLevel_ok l g m0 m1 m2 m3 m4 μ (xs (Int32.toNatClampNeg (i + (1 : Int32)))) (xs (Int32.toNatClampNeg (i + (2 : Int32)))) _ e_35) (cwV 2 hts gL_law_X7_setLevel rfl rfl rfl hdX7_setLevel ⟨(Nat.le_of_ble_eq_true rfl), (Nat.le_of_ble_eq_true rfl)⟩) rfl rfl rfl (by decide) (by decide) (by decide) (by decide) rfl rfl rfl rfl hl.1 rfl (Nat.le_of_ble_eq_true rfl) ⟨(by show _ ≤ (601024 : Nat); omega), (by show _ ≤ (7293034 : Nat); omega)⟩ dL_law_467 (fun H locs hP hD hS => ?_)
              refine lv_istore (lv' := [(7, .int r_35.1), (6, .int r_34.1), (0, .ref b), (1, .ref c0), (2, .ref m0), (3, .ref o0), (4, .ref e0), (5, .int i)]) hx hb dL_law_470 hl (by decide) rfl (fun ls hl => ?_)
              refine lv_aload_n hx hb dL_law_472 rfl (lv_at hl 4 rfl) ?_
              obtain ⟨r_36, e_36, hf⟩ := bo hf
              refine pcallV (W0 := (wC c0 h k0 x0 d0 ++ (wS g h a1 a2 a3 a4 r_34.2.1 ++ (wH g k0 k1 γ r_34.2.2.1 ++ (wX g x0 x1 τ ++ (wD g d0 d1 d2 δ ++ (wM g m0 m1 m2 m3 m4 r_35.2 ++ (wO g o0 r_34.2.2.2 ++ (wE g e0 ε))))))))) (As := []) (rest := []) [43, 44, 45, 46, 47] 5 0 ⟨hx, hb, hml, hown, hts⟩ hP hE hZ hS (cX7_thrown_ok l g m0 m1 m2 m3 m4 r_35.2 e_36) (cwV 0 hts gL_law_X7_thrown rfl rfl rfl hdX7_thrown ⟨(Nat.le_of_ble_eq_true rfl), (Nat.le_of_ble_eq_true rfl)⟩) rfl rfl rfl rfl rfl hl.1 rfl (Nat.le_of_ble_eq_true rfl) ⟨(by show _ ≤ (601024 : Nat); omega), (by show _ ≤ (7293034 : Nat); omega)⟩ dL_law_473 ?_
              refine lv_iload hx hb dL_law_476 (lv_at hl 1 rfl) ?_
              refine lv_icmp_eq (tgt := 483) hx hb dL_law_478 (by decide) (fun c_37 => ?_) (fun c_37 => ?_)
              · have hf := ip c_37 hf
                refine lv_iload hx hb dL_law_483 (lv_at hl 1 rfl) ?_
                refine lv_if_ne (tgt := 500) hx hb dL_law_485 (by decide) (fun c_38 => ?_) (fun c_38 => ?_)
                · have hf := iq c_38 hf
                  refine lv_goto (tgt := 2493) hx hb dL_law_500 (by decide) ?_
                  refine lv_iinc (v := (i + 3)) (lv' := [(5, .int (i + 3)), (7, .int r_35.1), (6, .int r_34.1), (0, .ref b), (1, .ref c0), (2, .ref m0), (3, .ref o0), (4, .ref e0)]) hx hb dL_law_2493 hl (k := 7) rfl rfl (by decide) rfl (fun ls hl => ?_)
                  refine lv_goto (tgt := 28) hx hb dL_law_2496 (by decide) ?_
                  refine W.cs (cells' := cl + 2) (slots' := sl + 12) (by omega) (by omega) ?_
                  exact ih (i + 3) r_34.2.1 r_34.2.2.1 τ δ r_35.2 r_34.2.2.2 ε (cl + 2) (sl + 12) (by omega) (by omega) _ _ ls hP hD hS (lv_sub hl [3, 4, 5, 6, 7, 0] rfl) hf
                · have hf := ip c_38 hf
                  refine lv_aload_n hx hb dL_law_488 rfl (lv_at hl 5 rfl) ?_
                  refine lv_iconst (v := (0 : Int32)) hx hb dL_law_489 (by decide) ?_
                  refine va_lald hx hb hE.1 hP 48 2 rfl rfl (vin (by decide)) dL_law_490 ?_
                  refine lv_iload hx hb dL_law_491 (lv_at hl 0 rfl) ?_
                  refine lv_i2l hx hb dL_law_493 rfl ?_
                  refine W.lcmp hx hb dL_law_494 ?_
                  refine lv_if_eq (tgt := 500) hx hb dL_law_495 (by decide) (fun c_39 => ?_) (fun c_39 => ?_)
                  · have hf := ip c_39 hf
                    refine lv_goto (tgt := 2493) hx hb dL_law_500 (by decide) ?_
                    refine lv_iinc (v := (i + 3)) (lv' := [(5, .int (i + 3)), (7, .int r_35.1), (6, .int r_34.1), (0, .ref b), (1, .ref c0), (2, .ref m0), (3, .ref o0), (4, .ref e0)]) hx hb dL_law_2493 hl (k := 7) rfl rfl (by decide) rfl (fun ls hl => ?_)
                    refine lv_goto (tgt := 28) hx hb dL_law_2496 (by decide) ?_
                    refine W.cs (cells' := cl + 2) (slots' := sl + 12) (by omega) (by omega) ?_
                    exact ih (i + 3) r_34.2.1 r_34.2.2.1 τ δ r_35.2 r_34.2.2.2 ε (cl + 2) (sl + 12) (by omega) (by omega) _ _ ls hP hD hS (lv_sub hl [3, 4, 5, 6, 7, 0] rfl) hf
                  · have hf := iq c_39 hf
                    refine lv_iconst (v := (0 : Int32)) hx hb dL_law_498 (by decide) ?_
                    exact absurd (Option.some.inj hf) (by decide)
              · have hf := iq c_37 hf
                refine lv_iconst (v := (0 : Int32)) hx hb dL_law_481 (by decide) ?_
                exact absurd (Option.some.inj hf) (by decide)
            · have hf := iq s_31 hf
              by_cases s_40 : ((xs (Int32.toNatClampNeg i)) &&& (63 : Int32)) = (4 : Int32)
              · have hf := ip s_40 hf
                refine lv_tableIn (off := 459) (tgt := 503) hx hb dL_law_44 (by rw [s_40]; decide) (by rw [s_40]; decide) (by rw [s_40]; rfl) (by decide) ?_
                refine lv_aload_n hx hb dL_law_503 rfl (lv_at hl 1 rfl) ?_
                refine lv_aload_n hx hb dL_law_504 rfl (lv_at hl 0 rfl) ?_
                refine lv_iload hx hb dL_law_505 (lv_at hl 5 rfl) ?_
                refine lv_iconst (v := (1 : Int32)) hx hb dL_law_507 (by decide) ?_
                refine lv_iadd hx hb dL_law_508 ?_
                obtain ⟨h_41, hf⟩ := ck hf
                refine va_sld hx hb hX hbl hbA hS (vin h_41) dL_law_509 ?_
                refine lv_aload_n hx hb dL_law_510 rfl (lv_at hl 0 rfl) ?_
                refine lv_iload hx hb dL_law_511 (lv_at hl 5 rfl) ?_
                refine lv_iconst (v := (2 : Int32)) hx hb dL_law_513 (by decide) ?_
                refine lv_iadd hx hb dL_law_514 ?_
                obtain ⟨h_42, hf⟩ := ck hf
                refine va_sld hx hb hX hbl hbA hS (vin h_42) dL_law_515 ?_
                refine lv_aload_n hx hb dL_law_516 rfl (lv_at hl 3 rfl) ?_
                obtain ⟨r_43, e_43, hf⟩ := bo hf
                refine lcallS (W0 := (wC c0 h k0 x0 d0 ++ (wS g h a1 a2 a3 a4 σ ++ (wH g k0 k1 γ η ++ (wX g x0 x1 τ ++ (wD g d0 d1 d2 δ ++ (wM g m0 m1 m2 m3 m4 μ ++ (wO g o0 ω ++ (wE g e0 ε))))))))) (Wc := (wC c0 h k0 x0 d0 ++ (wS g h a1 a2 a3 a4 σ ++ (wH g k0 k1 γ η ++ (wO g o0 ω))))) (Wr := (wX g x0 x1 τ ++ (wD g d0 d1 d2 δ ++ (wM g m0 m1 m2 m3 m4 μ ++ (wE g e0 ε))))) (W1 := (wC c0 h k0 x0 d0 ++ (wS g h a1 a2 a3 a4 r_43.2.1 ++ (wH g k0 k1 γ r_43.2.2.1 ++ (wO g o0 r_43.2.2.2))))) (W2 := (wC c0 h k0 x0 d0 ++ (wS g h a1 a2 a3 a4 r_43.2.1 ++ (wH g k0 k1 γ r_43.2.2.1 ++ (wX g x0 x1 τ ++ (wD g d0 d1 d2 δ ++ (wM g m0 m1 m2 m3 m4 μ ++ (wO g o0 r_43.2.2.2 ++ (wE g e0 ε))))))))) (As := [.ref c0, .int (xs (Int32.toNatClampNeg (i + (1 : Int32)))), .int (xs (Int32.toNatClampNeg (i + (2 : Int32)))), .ref o0]) (rest := []) [0, 1, 2, 3, 4, 5, 6, 7, 8, 9, 10, 11, 12, 13, 14, 15, 16, 17, 18, 19, 20, 21, 22, 23, 24, 25, 26, 27, 28, 29, 30, 31, 32, 33, 34, 35, 36, 37, 48] [38, 39, 40, 41, 42, 43, 44, 45, 46, 47, 49] [11, 12, 13, 14, 15, 16, 17, 18, 19, 20, 21, 22, 23, 24, 25, 26, 27, 28, 29, 30, 31, 32, 33, 34, 35, 36, 37, 38, 39, 40, 41, 42, 43, 44, 45, 46, 47, 48, 0, 1, 2, 3, 4, 5, 6, 7, 8, 9, 49, 10] ⟨hx, hb, hml, hown, hts⟩ hP hD hE hZ hS hA (cL_label_ok l hl0 g c0 h k0 x0 d0 a1 a2 a3 a4 k1 o0 γ σ η ω (xs (Int32.toNatClampNeg (i + (1 : Int32)))) (xs (Int32.toNatClampNeg (i + (2 : Int32)))) _ e_43) (vx_cwSW 4 hts gL_law_L_label rfl rfl rfl hdL_label.2 ⟨(Nat.le_of_ble_eq_true rfl), (Nat.le_of_ble_eq_true rfl)⟩) rfl rfl rfl (by decide) (by decide) (by decide) (by decide) rfl hl.1 rfl (Nat.le_of_ble_eq_true rfl) ⟨(by show _ ≤ (601024 : Nat); omega), (by show _ ≤ (7293034 : Nat); omega)⟩ dL_law_517 (fun H locs hP hD hS => ?_)
                refine lv_istore (lv' := [(6, .int r_43.1), (0, .ref b), (1, .ref c0), (2, .ref m0), (3, .ref o0), (4, .ref e0), (5, .int i)]) hx hb dL_law_520 hl (by decide) rfl (fun ls hl => ?_)
                refine lv_aload_n hx hb dL_law_522 rfl (lv_at hl 3 rfl) ?_
                refine lv_aload_n hx hb dL_law_523 rfl (lv_at hl 1 rfl) ?_
                refine lv_iload hx hb dL_law_524 (lv_at hl 6 rfl) ?_
                refine lv_iconst (v := (1 : Int32)) hx hb dL_law_526 (by decide) ?_
                refine lv_iadd hx hb dL_law_527 ?_
                refine va_sld hx hb hX hbl hbA hS (vin h_41) dL_law_528 ?_
                refine lv_aload_n hx hb dL_law_529 rfl (lv_at hl 1 rfl) ?_
                refine lv_iload hx hb dL_law_530 (lv_at hl 6 rfl) ?_
                refine lv_iconst (v := (2 : Int32)) hx hb dL_law_532 (by decide) ?_
                refine lv_iadd hx hb dL_law_533 ?_
                refine va_sld hx hb hX hbl hbA hS (vin h_42) dL_law_534 ?_
                obtain ⟨r_44, e_44, hf⟩ := bo hf
                refine mcallVi (W0 := (wC c0 h k0 x0 d0 ++ (wS g h a1 a2 a3 a4 r_43.2.1 ++ (wH g k0 k1 γ r_43.2.2.1 ++ (wX g x0 x1 τ ++ (wD g d0 d1 d2 δ ++ (wM g m0 m1 m2 m3 m4 μ ++ (wO g o0 r_43.2.2.2 ++ (wE g e0 ε))))))))) (Wc := (wM g m0 m1 m2 m3 m4 μ)) (Wr := (wC c0 h k0 x0 d0 ++ (wS g h a1 a2 a3 a4 r_43.2.1 ++ (wH g k0 k1 γ r_43.2.2.1 ++ (wX g x0 x1 τ ++ (wD g d0 d1 d2 δ ++ (wO g o0 r_43.2.2.2 ++ (wE g e0 ε)))))))) (W1 := (wM g m0 m1 m2 m3 m4 r_44.2)) (W2 := (wC c0 h k0 x0 d0 ++ (wS g h a1 a2 a3 a4 r_43.2.1 ++ (wH g k0 k1 γ r_43.2.2.1 ++ (wX g x0 x1 τ ++ (wD g d0 d1 d2 δ ++ (wM g m0 m1 m2 m3 m4 r_44.2 ++ (wO g o0 r_43.2.2.2 ++ (wE g e0 ε))))))))) (As := [.int (xs (Int32.toNatClampNeg (i + (1 : Int32)))), .int (xs (Int32.toNatClampNeg (i + (2 : Int32))))]) (rest := []) [43, 44, 45, 46, 47] [0, 1, 2, 3, 4, 5, 6, 7, 8, 9, 10, 11, 12, 13, 14, 15, 16, 17, 18, 19, 20, 21, 22, 23, 24, 25, 26, 27, 28, 29, 30, 31, 32, 33, 34, 35, 36, 37, 38, 39, 40, 41, 42, 48, 49] [0, 1, 2, 3, 4, 5, 6, 7, 8, 9, 10, 11, 12, 13, 14, 15, 16, 17, 18, 19, 20, 21, 22, 23, 24, 25, 26, 27, 28, 29, 30, 31, 32, 33, 34, 35, 36, 37, 38, 39, 40, 41, 42, 45, 46, 47, 48, 49, 43, 44] 5 0 ⟨hx, hb, hml, hown, hts⟩ hP hD hE hZ hS hA (cX7_label_ok l g m0 m1 m2 m3 m4 μ (xs (Int32.toNatClampNeg (i + (1 : Int32)))) (xs (Int32.toNatClampNeg (i + (2 : Int32)))) _ e_44) (cwV 2 hts gL_law_X7_label rfl rfl rfl hdX7_label ⟨(Nat.le_of_ble_eq_true rfl), (Nat.le_of_ble_eq_true rfl)⟩) rfl rfl rfl (by decide) (by decide) (by decide) (by decide) rfl rfl rfl rfl hl.1 rfl (Nat.le_of_ble_eq_true rfl) ⟨(by show _ ≤ (601024 : Nat); omega), (by show _ ≤ (7293034 : Nat); omega)⟩ dL_law_535 (fun H locs hP hD hS => ?_)
                refine lv_istore (lv' := [(7, .int r_44.1), (6, .int r_43.1), (0, .ref b), (1, .ref c0), (2, .ref m0), (3, .ref o0), (4, .ref e0), (5, .int i)]) hx hb dL_law_538 hl (by decide) rfl (fun ls hl => ?_)
                refine lv_aload_n hx hb dL_law_540 rfl (lv_at hl 4 rfl) ?_
                obtain ⟨r_45, e_45, hf⟩ := bo hf
                refine pcallV (W0 := (wC c0 h k0 x0 d0 ++ (wS g h a1 a2 a3 a4 r_43.2.1 ++ (wH g k0 k1 γ r_43.2.2.1 ++ (wX g x0 x1 τ ++ (wD g d0 d1 d2 δ ++ (wM g m0 m1 m2 m3 m4 r_44.2 ++ (wO g o0 r_43.2.2.2 ++ (wE g e0 ε))))))))) (As := []) (rest := []) [43, 44, 45, 46, 47] 5 0 ⟨hx, hb, hml, hown, hts⟩ hP hE hZ hS (cX7_thrown_ok l g m0 m1 m2 m3 m4 r_44.2 e_45) (cwV 0 hts gL_law_X7_thrown rfl rfl rfl hdX7_thrown ⟨(Nat.le_of_ble_eq_true rfl), (Nat.le_of_ble_eq_true rfl)⟩) rfl rfl rfl rfl rfl hl.1 rfl (Nat.le_of_ble_eq_true rfl) ⟨(by show _ ≤ (601024 : Nat); omega), (by show _ ≤ (7293034 : Nat); omega)⟩ dL_law_541 ?_
                refine lv_iload hx hb dL_law_544 (lv_at hl 1 rfl) ?_
                refine lv_icmp_eq (tgt := 551) hx hb dL_law_546 (by decide) (fun c_46 => ?_) (fun c_46 => ?_)
                · have hf := ip c_46 hf
                  refine lv_iload hx hb dL_law_551 (lv_at hl 1 rfl) ?_
                  refine lv_if_ne (tgt := 568) hx hb dL_law_553 (by decide) (fun c_47 => ?_) (fun c_47 => ?_)
                  · have hf := iq c_47 hf
                    refine lv_goto (tgt := 2493) hx hb dL_law_568 (by decide) ?_
                    refine lv_iinc (v := (i + 3)) (lv' := [(5, .int (i + 3)), (7, .int r_44.1), (6, .int r_43.1), (0, .ref b), (1, .ref c0), (2, .ref m0), (3, .ref o0), (4, .ref e0)]) hx hb dL_law_2493 hl (k := 7) rfl rfl (by decide) rfl (fun ls hl => ?_)
                    refine lv_goto (tgt := 28) hx hb dL_law_2496 (by decide) ?_
                    refine W.cs (cells' := cl + 2) (slots' := sl + 12) (by omega) (by omega) ?_
                    exact ih (i + 3) r_43.2.1 r_43.2.2.1 τ δ r_44.2 r_43.2.2.2 ε (cl + 2) (sl + 12) (by omega) (by omega) _ _ ls hP hD hS (lv_sub hl [3, 4, 5, 6, 7, 0] rfl) hf
                  · have hf := ip c_47 hf
                    refine lv_aload_n hx hb dL_law_556 rfl (lv_at hl 5 rfl) ?_
                    refine lv_iconst (v := (0 : Int32)) hx hb dL_law_557 (by decide) ?_
                    refine va_lald hx hb hE.1 hP 48 2 rfl rfl (vin (by decide)) dL_law_558 ?_
                    refine lv_iload hx hb dL_law_559 (lv_at hl 0 rfl) ?_
                    refine lv_i2l hx hb dL_law_561 rfl ?_
                    refine W.lcmp hx hb dL_law_562 ?_
                    refine lv_if_eq (tgt := 568) hx hb dL_law_563 (by decide) (fun c_48 => ?_) (fun c_48 => ?_)
                    · have hf := ip c_48 hf
                      refine lv_goto (tgt := 2493) hx hb dL_law_568 (by decide) ?_
                      refine lv_iinc (v := (i + 3)) (lv' := [(5, .int (i + 3)), (7, .int r_44.1), (6, .int r_43.1), (0, .ref b), (1, .ref c0), (2, .ref m0), (3, .ref o0), (4, .ref e0)]) hx hb dL_law_2493 hl (k := 7) rfl rfl (by decide) rfl (fun ls hl => ?_)
                      refine lv_goto (tgt := 28) hx hb dL_law_2496 (by decide) ?_
                      refine W.cs (cells' := cl + 2) (slots' := sl + 12) (by omega) (by omega) ?_
                      exact ih (i + 3) r_43.2.1 r_43.2.2.1 τ δ r_44.2 r_43.2.2.2 ε (cl + 2) (sl + 12) (by omega) (by omega) _ _ ls hP hD hS (lv_sub hl [3, 4, 5, 6, 7, 0] rfl) hf
                    · have hf := iq c_48 hf
                      refine lv_iconst (v := (0 : Int32)) hx hb dL_law_566 (by decide) ?_
                      exact absurd (Option.some.inj hf) (by decide)
                · have hf := iq c_46 hf
                  refine lv_iconst (v := (0 : Int32)) hx hb dL_law_549 (by decide) ?_
                  exact absurd (Option.some.inj hf) (by decide)
              · have hf := iq s_40 hf
                by_cases s_49 : ((xs (Int32.toNatClampNeg i)) &&& (63 : Int32)) = (5 : Int32)
                · have hf := ip s_49 hf
                  refine lv_tableIn (off := 527) (tgt := 571) hx hb dL_law_44 (by rw [s_49]; decide) (by rw [s_49]; decide) (by rw [s_49]; rfl) (by decide) ?_
                  refine lv_aload_n hx hb dL_law_571 rfl (lv_at hl 1 rfl) ?_
                  refine lv_aload_n hx hb dL_law_572 rfl (lv_at hl 0 rfl) ?_
                  refine lv_iload hx hb dL_law_573 (lv_at hl 5 rfl) ?_
                  refine lv_iconst (v := (1 : Int32)) hx hb dL_law_575 (by decide) ?_
                  refine lv_iadd hx hb dL_law_576 ?_
                  obtain ⟨h_50, hf⟩ := ck hf
                  refine va_sld hx hb hX hbl hbA hS (vin h_50) dL_law_577 ?_
                  refine lv_aload_n hx hb dL_law_578 rfl (lv_at hl 3 rfl) ?_
                  obtain ⟨r_51, e_51, hf⟩ := bo hf
                  refine lcallS (W0 := (wC c0 h k0 x0 d0 ++ (wS g h a1 a2 a3 a4 σ ++ (wH g k0 k1 γ η ++ (wX g x0 x1 τ ++ (wD g d0 d1 d2 δ ++ (wM g m0 m1 m2 m3 m4 μ ++ (wO g o0 ω ++ (wE g e0 ε))))))))) (Wc := (wC c0 h k0 x0 d0 ++ (wS g h a1 a2 a3 a4 σ ++ (wH g k0 k1 γ η ++ (wO g o0 ω))))) (Wr := (wX g x0 x1 τ ++ (wD g d0 d1 d2 δ ++ (wM g m0 m1 m2 m3 m4 μ ++ (wE g e0 ε))))) (W1 := (wC c0 h k0 x0 d0 ++ (wS g h a1 a2 a3 a4 r_51.2.1 ++ (wH g k0 k1 γ r_51.2.2.1 ++ (wO g o0 r_51.2.2.2))))) (W2 := (wC c0 h k0 x0 d0 ++ (wS g h a1 a2 a3 a4 r_51.2.1 ++ (wH g k0 k1 γ r_51.2.2.1 ++ (wX g x0 x1 τ ++ (wD g d0 d1 d2 δ ++ (wM g m0 m1 m2 m3 m4 μ ++ (wO g o0 r_51.2.2.2 ++ (wE g e0 ε))))))))) (As := [.ref c0, .int (xs (Int32.toNatClampNeg (i + (1 : Int32)))), .ref o0]) (rest := []) [0, 1, 2, 3, 4, 5, 6, 7, 8, 9, 10, 11, 12, 13, 14, 15, 16, 17, 18, 19, 20, 21, 22, 23, 24, 25, 26, 27, 28, 29, 30, 31, 32, 33, 34, 35, 36, 37, 48] [38, 39, 40, 41, 42, 43, 44, 45, 46, 47, 49] [11, 12, 13, 14, 15, 16, 17, 18, 19, 20, 21, 22, 23, 24, 25, 26, 27, 28, 29, 30, 31, 32, 33, 34, 35, 36, 37, 38, 39, 40, 41, 42, 43, 44, 45, 46, 47, 48, 0, 1, 2, 3, 4, 5, 6, 7, 8, 9, 49, 10] ⟨hx, hb, hml, hown, hts⟩ hP hD hE hZ hS hA (cL_unlabel_ok l hl0 g c0 h k0 x0 d0 a1 a2 a3 a4 k1 o0 γ σ η ω (xs (Int32.toNatClampNeg (i + (1 : Int32)))) _ e_51) (vx_cwSW 3 hts gL_law_L_unlabel rfl rfl rfl hdL_unlabel.2 ⟨(Nat.le_of_ble_eq_true rfl), (Nat.le_of_ble_eq_true rfl)⟩) rfl rfl rfl (by decide) (by decide) (by decide) (by decide) rfl hl.1 rfl (Nat.le_of_ble_eq_true rfl) ⟨(by show _ ≤ (601024 : Nat); omega), (by show _ ≤ (7293034 : Nat); omega)⟩ dL_law_579 (fun H locs hP hD hS => ?_)
                  refine lv_istore (lv' := [(6, .int r_51.1), (0, .ref b), (1, .ref c0), (2, .ref m0), (3, .ref o0), (4, .ref e0), (5, .int i)]) hx hb dL_law_582 hl (by decide) rfl (fun ls hl => ?_)
                  refine lv_aload_n hx hb dL_law_584 rfl (lv_at hl 3 rfl) ?_
                  refine lv_aload_n hx hb dL_law_585 rfl (lv_at hl 1 rfl) ?_
                  refine lv_iload hx hb dL_law_586 (lv_at hl 6 rfl) ?_
                  refine lv_iconst (v := (1 : Int32)) hx hb dL_law_588 (by decide) ?_
                  refine lv_iadd hx hb dL_law_589 ?_
                  refine va_sld hx hb hX hbl hbA hS (vin h_50) dL_law_590 ?_
                  obtain ⟨r_52, e_52, hf⟩ := bo hf
                  refine mcallVi (W0 := (wC c0 h k0 x0 d0 ++ (wS g h a1 a2 a3 a4 r_51.2.1 ++ (wH g k0 k1 γ r_51.2.2.1 ++ (wX g x0 x1 τ ++ (wD g d0 d1 d2 δ ++ (wM g m0 m1 m2 m3 m4 μ ++ (wO g o0 r_51.2.2.2 ++ (wE g e0 ε))))))))) (Wc := (wM g m0 m1 m2 m3 m4 μ)) (Wr := (wC c0 h k0 x0 d0 ++ (wS g h a1 a2 a3 a4 r_51.2.1 ++ (wH g k0 k1 γ r_51.2.2.1 ++ (wX g x0 x1 τ ++ (wD g d0 d1 d2 δ ++ (wO g o0 r_51.2.2.2 ++ (wE g e0 ε)))))))) (W1 := (wM g m0 m1 m2 m3 m4 r_52.2)) (W2 := (wC c0 h k0 x0 d0 ++ (wS g h a1 a2 a3 a4 r_51.2.1 ++ (wH g k0 k1 γ r_51.2.2.1 ++ (wX g x0 x1 τ ++ (wD g d0 d1 d2 δ ++ (wM g m0 m1 m2 m3 m4 r_52.2 ++ (wO g o0 r_51.2.2.2 ++ (wE g e0 ε))))))))) (As := [.int (xs (Int32.toNatClampNeg (i + (1 : Int32))))]) (rest := []) [43, 44, 45, 46, 47] [0, 1, 2, 3, 4, 5, 6, 7, 8, 9, 10, 11, 12, 13, 14, 15, 16, 17, 18, 19, 20, 21, 22, 23, 24, 25, 26, 27, 28, 29, 30, 31, 32, 33, 34, 35, 36, 37, 38, 39, 40, 41, 42, 48, 49] [0, 1, 2, 3, 4, 5, 6, 7, 8, 9, 10, 11, 12, 13, 14, 15, 16, 17, 18, 19, 20, 21, 22, 23, 24, 25, 26, 27, 28, 29, 30, 31, 32, 33, 34, 35, 36, 37, 38, 39, 40, 41, 42, 45, 46, 47, 48, 49, 43, 44] 5 0 ⟨hx, hb, hml, hown, hts⟩ hP hD hE hZ hS hA (cX7_unlabel_ok l g m0 m1 m2 m3 m4 μ (xs (Int32.toNatClampNeg (i + (1 : Int32)))) _ e_52) (cwV 1 hts gL_law_X7_unlabel rfl rfl rfl hdX7_unlabel ⟨(Nat.le_of_ble_eq_true rfl), (Nat.le_of_ble_eq_true rfl)⟩) rfl rfl rfl (by decide) (by decide) (by decide) (by decide) rfl rfl rfl rfl hl.1 rfl (Nat.le_of_ble_eq_true rfl) ⟨(by show _ ≤ (601024 : Nat); omega), (by show _ ≤ (7293034 : Nat); omega)⟩ dL_law_591 (fun H locs hP hD hS => ?_)
                  refine lv_istore (lv' := [(7, .int r_52.1), (6, .int r_51.1), (0, .ref b), (1, .ref c0), (2, .ref m0), (3, .ref o0), (4, .ref e0), (5, .int i)]) hx hb dL_law_594 hl (by decide) rfl (fun ls hl => ?_)
                  refine lv_aload_n hx hb dL_law_596 rfl (lv_at hl 4 rfl) ?_
                  obtain ⟨r_53, e_53, hf⟩ := bo hf
                  refine pcallV (W0 := (wC c0 h k0 x0 d0 ++ (wS g h a1 a2 a3 a4 r_51.2.1 ++ (wH g k0 k1 γ r_51.2.2.1 ++ (wX g x0 x1 τ ++ (wD g d0 d1 d2 δ ++ (wM g m0 m1 m2 m3 m4 r_52.2 ++ (wO g o0 r_51.2.2.2 ++ (wE g e0 ε))))))))) (As := []) (rest := []) [43, 44, 45, 46, 47] 5 0 ⟨hx, hb, hml, hown, hts⟩ hP hE hZ hS (cX7_thrown_ok l g m0 m1 m2 m3 m4 r_52.2 e_53) (cwV 0 hts gL_law_X7_thrown rfl rfl rfl hdX7_thrown ⟨(Nat.le_of_ble_eq_true rfl), (Nat.le_of_ble_eq_true rfl)⟩) rfl rfl rfl rfl rfl hl.1 rfl (Nat.le_of_ble_eq_true rfl) ⟨(by show _ ≤ (601024 : Nat); omega), (by show _ ≤ (7293034 : Nat); omega)⟩ dL_law_597 ?_
                  refine lv_iload hx hb dL_law_600 (lv_at hl 1 rfl) ?_
                  refine lv_icmp_eq (tgt := 607) hx hb dL_law_602 (by decide) (fun c_54 => ?_) (fun c_54 => ?_)
                  · have hf := ip c_54 hf
                    refine lv_iload hx hb dL_law_607 (lv_at hl 1 rfl) ?_
                    refine lv_if_ne (tgt := 624) hx hb dL_law_609 (by decide) (fun c_55 => ?_) (fun c_55 => ?_)
                    · have hf := iq c_55 hf
                      refine lv_goto (tgt := 2493) hx hb dL_law_624 (by decide) ?_
                      refine lv_iinc (v := (i + 3)) (lv' := [(5, .int (i + 3)), (7, .int r_52.1), (6, .int r_51.1), (0, .ref b), (1, .ref c0), (2, .ref m0), (3, .ref o0), (4, .ref e0)]) hx hb dL_law_2493 hl (k := 7) rfl rfl (by decide) rfl (fun ls hl => ?_)
                      refine lv_goto (tgt := 28) hx hb dL_law_2496 (by decide) ?_
                      refine W.cs (cells' := cl + 2) (slots' := sl + 12) (by omega) (by omega) ?_
                      exact ih (i + 3) r_51.2.1 r_51.2.2.1 τ δ r_52.2 r_51.2.2.2 ε (cl + 2) (sl + 12) (by omega) (by omega) _ _ ls hP hD hS (lv_sub hl [3, 4, 5, 6, 7, 0] rfl) hf
                    · have hf := ip c_55 hf
                      refine lv_aload_n hx hb dL_law_612 rfl (lv_at hl 5 rfl) ?_
                      refine lv_iconst (v := (0 : Int32)) hx hb dL_law_613 (by decide) ?_
                      refine va_lald hx hb hE.1 hP 48 2 rfl rfl (vin (by decide)) dL_law_614 ?_
                      refine lv_iload hx hb dL_law_615 (lv_at hl 0 rfl) ?_
                      refine lv_i2l hx hb dL_law_617 rfl ?_
                      refine W.lcmp hx hb dL_law_618 ?_
                      refine lv_if_eq (tgt := 624) hx hb dL_law_619 (by decide) (fun c_56 => ?_) (fun c_56 => ?_)
                      · have hf := ip c_56 hf
                        refine lv_goto (tgt := 2493) hx hb dL_law_624 (by decide) ?_
                        refine lv_iinc (v := (i + 3)) (lv' := [(5, .int (i + 3)), (7, .int r_52.1), (6, .int r_51.1), (0, .ref b), (1, .ref c0), (2, .ref m0), (3, .ref o0), (4, .ref e0)]) hx hb dL_law_2493 hl (k := 7) rfl rfl (by decide) rfl (fun ls hl => ?_)
                        refine lv_goto (tgt := 28) hx hb dL_law_2496 (by decide) ?_
                        refine W.cs (cells' := cl + 2) (slots' := sl + 12) (by omega) (by omega) ?_
                        exact ih (i + 3) r_51.2.1 r_51.2.2.1 τ δ r_52.2 r_51.2.2.2 ε (cl + 2) (sl + 12) (by omega) (by omega) _ _ ls hP hD hS (lv_sub hl [3, 4, 5, 6, 7, 0] rfl) hf
                      · have hf := iq c_56 hf
                        refine lv_iconst (v := (0 : Int32)) hx hb dL_law_622 (by decide) ?_
                        exact absurd (Option.some.inj hf) (by decide)
                  · have hf := iq c_54 hf
                    refine lv_iconst (v := (0 : Int32)) hx hb dL_law_605 (by decide) ?_
                    exact absurd (Option.some.inj hf) (by decide)
                · have hf := iq s_49 hf
                  by_cases s_57 : ((xs (Int32.toNatClampNeg i)) &&& (63 : Int32)) = (6 : Int32)
                  · have hf := ip s_57 hf
                    refine lv_tableIn (off := 583) (tgt := 627) hx hb dL_law_44 (by rw [s_57]; decide) (by rw [s_57]; decide) (by rw [s_57]; rfl) (by decide) ?_
                    refine lv_aload_n hx hb dL_law_627 rfl (lv_at hl 1 rfl) ?_
                    refine lv_aload_n hx hb dL_law_628 rfl (lv_at hl 0 rfl) ?_
                    refine lv_iload hx hb dL_law_629 (lv_at hl 5 rfl) ?_
                    refine lv_iconst (v := (1 : Int32)) hx hb dL_law_631 (by decide) ?_
                    refine lv_iadd hx hb dL_law_632 ?_
                    obtain ⟨h_58, hf⟩ := ck hf
                    refine va_sld hx hb hX hbl hbA hS (vin h_58) dL_law_633 ?_
                    refine lv_aload_n hx hb dL_law_634 rfl (lv_at hl 3 rfl) ?_
                    obtain ⟨r_59, e_59, hf⟩ := bo hf
                    refine lcallS (W0 := (wC c0 h k0 x0 d0 ++ (wS g h a1 a2 a3 a4 σ ++ (wH g k0 k1 γ η ++ (wX g x0 x1 τ ++ (wD g d0 d1 d2 δ ++ (wM g m0 m1 m2 m3 m4 μ ++ (wO g o0 ω ++ (wE g e0 ε))))))))) (Wc := (wC c0 h k0 x0 d0 ++ (wS g h a1 a2 a3 a4 σ ++ (wH g k0 k1 γ η ++ (wO g o0 ω))))) (Wr := (wX g x0 x1 τ ++ (wD g d0 d1 d2 δ ++ (wM g m0 m1 m2 m3 m4 μ ++ (wE g e0 ε))))) (W1 := (wC c0 h k0 x0 d0 ++ (wS g h a1 a2 a3 a4 r_59.2.1 ++ (wH g k0 k1 γ r_59.2.2.1 ++ (wO g o0 r_59.2.2.2))))) (W2 := (wC c0 h k0 x0 d0 ++ (wS g h a1 a2 a3 a4 r_59.2.1 ++ (wH g k0 k1 γ r_59.2.2.1 ++ (wX g x0 x1 τ ++ (wD g d0 d1 d2 δ ++ (wM g m0 m1 m2 m3 m4 μ ++ (wO g o0 r_59.2.2.2 ++ (wE g e0 ε))))))))) (As := [.ref c0, .int (xs (Int32.toNatClampNeg (i + (1 : Int32)))), .ref o0]) (rest := []) [0, 1, 2, 3, 4, 5, 6, 7, 8, 9, 10, 11, 12, 13, 14, 15, 16, 17, 18, 19, 20, 21, 22, 23, 24, 25, 26, 27, 28, 29, 30, 31, 32, 33, 34, 35, 36, 37, 48] [38, 39, 40, 41, 42, 43, 44, 45, 46, 47, 49] [11, 12, 13, 14, 15, 16, 17, 18, 19, 20, 21, 22, 23, 24, 25, 26, 27, 28, 29, 30, 31, 32, 33, 34, 35, 36, 37, 38, 39, 40, 41, 42, 43, 44, 45, 46, 47, 48, 0, 1, 2, 3, 4, 5, 6, 7, 8, 9, 49, 10] ⟨hx, hb, hml, hown, hts⟩ hP hD hE hZ hS hA (cL_labelBest_ok l hl0 g c0 h k0 x0 d0 a1 a2 a3 a4 k1 o0 γ σ η ω (xs (Int32.toNatClampNeg (i + (1 : Int32)))) _ e_59) (vx_cwSW 3 hts gL_law_L_labelBest rfl rfl rfl hdL_labelBest.2 ⟨(Nat.le_of_ble_eq_true rfl), (Nat.le_of_ble_eq_true rfl)⟩) rfl rfl rfl (by decide) (by decide) (by decide) (by decide) rfl hl.1 rfl (Nat.le_of_ble_eq_true rfl) ⟨(by show _ ≤ (601024 : Nat); omega), (by show _ ≤ (7293034 : Nat); omega)⟩ dL_law_635 (fun H locs hP hD hS => ?_)
                    refine lv_istore (lv' := [(6, .int r_59.1), (0, .ref b), (1, .ref c0), (2, .ref m0), (3, .ref o0), (4, .ref e0), (5, .int i)]) hx hb dL_law_638 hl (by decide) rfl (fun ls hl => ?_)
                    refine lv_aload_n hx hb dL_law_640 rfl (lv_at hl 3 rfl) ?_
                    refine lv_aload_n hx hb dL_law_641 rfl (lv_at hl 1 rfl) ?_
                    refine lv_iload hx hb dL_law_642 (lv_at hl 6 rfl) ?_
                    refine lv_iconst (v := (1 : Int32)) hx hb dL_law_644 (by decide) ?_
                    refine lv_iadd hx hb dL_law_645 ?_
                    refine va_sld hx hb hX hbl hbA hS (vin h_58) dL_law_646 ?_
                    obtain ⟨r_60, e_60, hf⟩ := bo hf
                    refine mcallVi (W0 := (wC c0 h k0 x0 d0 ++ (wS g h a1 a2 a3 a4 r_59.2.1 ++ (wH g k0 k1 γ r_59.2.2.1 ++ (wX g x0 x1 τ ++ (wD g d0 d1 d2 δ ++ (wM g m0 m1 m2 m3 m4 μ ++ (wO g o0 r_59.2.2.2 ++ (wE g e0 ε))))))))) (Wc := (wM g m0 m1 m2 m3 m4 μ)) (Wr := (wC c0 h k0 x0 d0 ++ (wS g h a1 a2 a3 a4 r_59.2.1 ++ (wH g k0 k1 γ r_59.2.2.1 ++ (wX g x0 x1 τ ++ (wD g d0 d1 d2 δ ++ (wO g o0 r_59.2.2.2 ++ (wE g e0 ε)))))))) (W1 := (wM g m0 m1 m2 m3 m4 r_60.2)) (W2 := (wC c0 h k0 x0 d0 ++ (wS g h a1 a2 a3 a4 r_59.2.1 ++ (wH g k0 k1 γ r_59.2.2.1 ++ (wX g x0 x1 τ ++ (wD g d0 d1 d2 δ ++ (wM g m0 m1 m2 m3 m4 r_60.2 ++ (wO g o0 r_59.2.2.2 ++ (wE g e0 ε))))))))) (As := [.int (xs (Int32.toNatClampNeg (i + (1 : Int32))))]) (rest := []) [43, 44, 45, 46, 47] [0, 1, 2, 3, 4, 5, 6, 7, 8, 9, 10, 11, 12, 13, 14, 15, 16, 17, 18, 19, 20, 21, 22, 23, 24, 25, 26, 27, 28, 29, 30, 31, 32, 33, 34, 35, 36, 37, 38, 39, 40, 41, 42, 48, 49] [0, 1, 2, 3, 4, 5, 6, 7, 8, 9, 10, 11, 12, 13, 14, 15, 16, 17, 18, 19, 20, 21, 22, 23, 24, 25, 26, 27, 28, 29, 30, 31, 32, 33, 34, 35, 36, 37, 38, 39, 40, 41, 42, 45, 46, 47, 48, 49, 43, 44] 5 0 ⟨hx, hb, hml, hown, hts⟩ hP hD hE hZ hS hA (cX7_labelBest_ok l g m0 m1 m2 m3 m4 μ (xs (Int32.toNatClampNeg (i + (1 : Int32)))) _ e_60) (cwV 1 hts gL_law_X7_labelBest rfl rfl rfl hdX7_labelBest ⟨(Nat.le_of_ble_eq_true rfl), (Nat.le_of_ble_eq_true rfl)⟩) rfl rfl rfl (by decide) (by decide) (by decide) (by decide) rfl rfl rfl rfl hl.1 rfl (Nat.le_of_ble_eq_true rfl) ⟨(by show _ ≤ (601024 : Nat); omega), (by show _ ≤ (7293034 : Nat); omega)⟩ dL_law_647 (fun H locs hP hD hS => ?_)
                    refine lv_istore (lv' := [(7, .int r_60.1), (6, .int r_59.1), (0, .ref b), (1, .ref c0), (2, .ref m0), (3, .ref o0), (4, .ref e0), (5, .int i)]) hx hb dL_law_650 hl (by decide) rfl (fun ls hl => ?_)
                    refine lv_aload_n hx hb dL_law_652 rfl (lv_at hl 4 rfl) ?_
                    obtain ⟨r_61, e_61, hf⟩ := bo hf
                    refine pcallV (W0 := (wC c0 h k0 x0 d0 ++ (wS g h a1 a2 a3 a4 r_59.2.1 ++ (wH g k0 k1 γ r_59.2.2.1 ++ (wX g x0 x1 τ ++ (wD g d0 d1 d2 δ ++ (wM g m0 m1 m2 m3 m4 r_60.2 ++ (wO g o0 r_59.2.2.2 ++ (wE g e0 ε))))))))) (As := []) (rest := []) [43, 44, 45, 46, 47] 5 0 ⟨hx, hb, hml, hown, hts⟩ hP hE hZ hS (cX7_thrown_ok l g m0 m1 m2 m3 m4 r_60.2 e_61) (cwV 0 hts gL_law_X7_thrown rfl rfl rfl hdX7_thrown ⟨(Nat.le_of_ble_eq_true rfl), (Nat.le_of_ble_eq_true rfl)⟩) rfl rfl rfl rfl rfl hl.1 rfl (Nat.le_of_ble_eq_true rfl) ⟨(by show _ ≤ (601024 : Nat); omega), (by show _ ≤ (7293034 : Nat); omega)⟩ dL_law_653 ?_
                    refine lv_iload hx hb dL_law_656 (lv_at hl 1 rfl) ?_
                    refine lv_icmp_eq (tgt := 663) hx hb dL_law_658 (by decide) (fun c_62 => ?_) (fun c_62 => ?_)
                    · have hf := ip c_62 hf
                      refine lv_iload hx hb dL_law_663 (lv_at hl 1 rfl) ?_
                      refine lv_if_ne (tgt := 680) hx hb dL_law_665 (by decide) (fun c_63 => ?_) (fun c_63 => ?_)
                      · have hf := iq c_63 hf
                        refine lv_goto (tgt := 2493) hx hb dL_law_680 (by decide) ?_
                        refine lv_iinc (v := (i + 3)) (lv' := [(5, .int (i + 3)), (7, .int r_60.1), (6, .int r_59.1), (0, .ref b), (1, .ref c0), (2, .ref m0), (3, .ref o0), (4, .ref e0)]) hx hb dL_law_2493 hl (k := 7) rfl rfl (by decide) rfl (fun ls hl => ?_)
                        refine lv_goto (tgt := 28) hx hb dL_law_2496 (by decide) ?_
                        refine W.cs (cells' := cl + 2) (slots' := sl + 12) (by omega) (by omega) ?_
                        exact ih (i + 3) r_59.2.1 r_59.2.2.1 τ δ r_60.2 r_59.2.2.2 ε (cl + 2) (sl + 12) (by omega) (by omega) _ _ ls hP hD hS (lv_sub hl [3, 4, 5, 6, 7, 0] rfl) hf
                      · have hf := ip c_63 hf
                        refine lv_aload_n hx hb dL_law_668 rfl (lv_at hl 5 rfl) ?_
                        refine lv_iconst (v := (0 : Int32)) hx hb dL_law_669 (by decide) ?_
                        refine va_lald hx hb hE.1 hP 48 2 rfl rfl (vin (by decide)) dL_law_670 ?_
                        refine lv_iload hx hb dL_law_671 (lv_at hl 0 rfl) ?_
                        refine lv_i2l hx hb dL_law_673 rfl ?_
                        refine W.lcmp hx hb dL_law_674 ?_
                        refine lv_if_eq (tgt := 680) hx hb dL_law_675 (by decide) (fun c_64 => ?_) (fun c_64 => ?_)
                        · have hf := ip c_64 hf
                          refine lv_goto (tgt := 2493) hx hb dL_law_680 (by decide) ?_
                          refine lv_iinc (v := (i + 3)) (lv' := [(5, .int (i + 3)), (7, .int r_60.1), (6, .int r_59.1), (0, .ref b), (1, .ref c0), (2, .ref m0), (3, .ref o0), (4, .ref e0)]) hx hb dL_law_2493 hl (k := 7) rfl rfl (by decide) rfl (fun ls hl => ?_)
                          refine lv_goto (tgt := 28) hx hb dL_law_2496 (by decide) ?_
                          refine W.cs (cells' := cl + 2) (slots' := sl + 12) (by omega) (by omega) ?_
                          exact ih (i + 3) r_59.2.1 r_59.2.2.1 τ δ r_60.2 r_59.2.2.2 ε (cl + 2) (sl + 12) (by omega) (by omega) _ _ ls hP hD hS (lv_sub hl [3, 4, 5, 6, 7, 0] rfl) hf
                        · have hf := iq c_64 hf
                          refine lv_iconst (v := (0 : Int32)) hx hb dL_law_678 (by decide) ?_
                          exact absurd (Option.some.inj hf) (by decide)
                    · have hf := iq c_62 hf
                      refine lv_iconst (v := (0 : Int32)) hx hb dL_law_661 (by decide) ?_
                      exact absurd (Option.some.inj hf) (by decide)
                  · have hf := iq s_57 hf
                    by_cases s_65 : ((xs (Int32.toNatClampNeg i)) &&& (63 : Int32)) = (7 : Int32)
                    · have hf := ip s_65 hf
                      refine lv_tableIn (off := 639) (tgt := 683) hx hb dL_law_44 (by rw [s_65]; decide) (by rw [s_65]; decide) (by rw [s_65]; rfl) (by decide) ?_
                      refine lv_aload_n hx hb dL_law_683 rfl (lv_at hl 1 rfl) ?_
                      obtain ⟨r_66, e_66, hf⟩ := bo hf
                      refine mcallVi (W0 := (wC c0 h k0 x0 d0 ++ (wS g h a1 a2 a3 a4 σ ++ (wH g k0 k1 γ η ++ (wX g x0 x1 τ ++ (wD g d0 d1 d2 δ ++ (wM g m0 m1 m2 m3 m4 μ ++ (wO g o0 ω ++ (wE g e0 ε))))))))) (Wc := (wC c0 h k0 x0 d0 ++ (wS g h a1 a2 a3 a4 σ ++ (wH g k0 k1 γ η)))) (Wr := (wX g x0 x1 τ ++ (wD g d0 d1 d2 δ ++ (wM g m0 m1 m2 m3 m4 μ ++ (wO g o0 ω ++ (wE g e0 ε)))))) (W1 := (wC c0 h k0 x0 d0 ++ (wS g h a1 a2 a3 a4 r_66.2.1 ++ (wH g k0 k1 γ r_66.2.2)))) (W2 := (wC c0 h k0 x0 d0 ++ (wS g h a1 a2 a3 a4 r_66.2.1 ++ (wH g k0 k1 γ r_66.2.2 ++ (wX g x0 x1 τ ++ (wD g d0 d1 d2 δ ++ (wM g m0 m1 m2 m3 m4 μ ++ (wO g o0 ω ++ (wE g e0 ε))))))))) (As := []) (rest := []) [0, 1, 2, 3, 4, 5, 6, 7, 8, 9, 10, 11, 12, 13, 14, 15, 16, 17, 18, 19, 20, 21, 22, 23, 24, 25, 26, 27, 28, 29, 30, 31, 32, 33, 34, 35, 36, 37] [38, 39, 40, 41, 42, 43, 44, 45, 46, 47, 48, 49] [12, 13, 14, 15, 16, 17, 18, 19, 20, 21, 22, 23, 24, 25, 26, 27, 28, 29, 30, 31, 32, 33, 34, 35, 36, 37, 38, 39, 40, 41, 42, 43, 44, 45, 46, 47, 48, 49, 0, 1, 2, 3, 4, 5, 6, 7, 8, 9, 10, 11] 4 0 ⟨hx, hb, hml, hown, hts⟩ hP hD hE hZ hS hA (cX6_labelAll_ok l g c0 h k0 x0 d0 a1 a2 a3 a4 k1 γ σ η _ e_66) (cwV 0 hts gL_law_X6_labelAll rfl rfl rfl hdX6_labelAll ⟨(Nat.le_of_ble_eq_true rfl), (Nat.le_of_ble_eq_true rfl)⟩) rfl rfl rfl (by decide) (by decide) (by decide) (by decide) rfl rfl rfl rfl hl.1 rfl (Nat.le_of_ble_eq_true rfl) ⟨(by show _ ≤ (601024 : Nat); omega), (by show _ ≤ (7293034 : Nat); omega)⟩ dL_law_684 (fun H locs hP hD hS => ?_)
                      refine lv_aload_n hx hb dL_law_687 rfl (lv_at hl 2 rfl) ?_
                      obtain ⟨r_67, e_67, hf⟩ := bo hf
                      refine mcallVi (W0 := (wC c0 h k0 x0 d0 ++ (wS g h a1 a2 a3 a4 r_66.2.1 ++ (wH g k0 k1 γ r_66.2.2 ++ (wX g x0 x1 τ ++ (wD g d0 d1 d2 δ ++ (wM g m0 m1 m2 m3 m4 μ ++ (wO g o0 ω ++ (wE g e0 ε))))))))) (Wc := (wM g m0 m1 m2 m3 m4 μ)) (Wr := (wC c0 h k0 x0 d0 ++ (wS g h a1 a2 a3 a4 r_66.2.1 ++ (wH g k0 k1 γ r_66.2.2 ++ (wX g x0 x1 τ ++ (wD g d0 d1 d2 δ ++ (wO g o0 ω ++ (wE g e0 ε)))))))) (W1 := (wM g m0 m1 m2 m3 m4 r_67.2)) (W2 := (wC c0 h k0 x0 d0 ++ (wS g h a1 a2 a3 a4 r_66.2.1 ++ (wH g k0 k1 γ r_66.2.2 ++ (wX g x0 x1 τ ++ (wD g d0 d1 d2 δ ++ (wM g m0 m1 m2 m3 m4 r_67.2 ++ (wO g o0 ω ++ (wE g e0 ε))))))))) (As := []) (rest := [.int r_66.1]) [43, 44, 45, 46, 47] [0, 1, 2, 3, 4, 5, 6, 7, 8, 9, 10, 11, 12, 13, 14, 15, 16, 17, 18, 19, 20, 21, 22, 23, 24, 25, 26, 27, 28, 29, 30, 31, 32, 33, 34, 35, 36, 37, 38, 39, 40, 41, 42, 48, 49] [0, 1, 2, 3, 4, 5, 6, 7, 8, 9, 10, 11, 12, 13, 14, 15, 16, 17, 18, 19, 20, 21, 22, 23, 24, 25, 26, 27, 28, 29, 30, 31, 32, 33, 34, 35, 36, 37, 38, 39, 40, 41, 42, 45, 46, 47, 48, 49, 43, 44] 5 0 ⟨hx, hb, hml, hown, hts⟩ hP hD hE hZ hS hA (cX7_labelAll_ok l g m0 m1 m2 m3 m4 μ _ e_67) (cwV 0 hts gL_law_X7_labelAll rfl rfl rfl hdX7_labelAll ⟨(Nat.le_of_ble_eq_true rfl), (Nat.le_of_ble_eq_true rfl)⟩) rfl rfl rfl (by decide) (by decide) (by decide) (by decide) rfl rfl rfl rfl hl.1 rfl (Nat.le_of_ble_eq_true rfl) ⟨(by show _ ≤ (601024 : Nat); omega), (by show _ ≤ (7293034 : Nat); omega)⟩ dL_law_688 (fun H locs hP hD hS => ?_)
                      refine lv_icmp_eq (tgt := 2493) hx hb dL_law_691 (by decide) (fun c_68 => ?_) (fun c_68 => ?_)
                      · have hf := ip c_68 hf
                        refine lv_iinc (v := (i + 3)) (lv' := [(5, .int (i + 3)), (0, .ref b), (1, .ref c0), (2, .ref m0), (3, .ref o0), (4, .ref e0)]) hx hb dL_law_2493 hl (k := 5) rfl rfl (by decide) rfl (fun ls hl => ?_)
                        refine lv_goto (tgt := 28) hx hb dL_law_2496 (by decide) ?_
                        refine W.cs (cells' := cl + 0) (slots' := sl + 0) (by omega) (by omega) ?_
                        exact ih (i + 3) r_66.2.1 r_66.2.2 τ δ r_67.2 ω ε (cl + 0) (sl + 0) (by omega) (by omega) _ _ ls hP hD hS (lv_sub hl [1, 2, 3, 4, 5, 0] rfl) hf
                      · have hf := iq c_68 hf
                        refine lv_iconst (v := (0 : Int32)) hx hb dL_law_694 (by decide) ?_
                        exact absurd (Option.some.inj hf) (by decide)
                    · have hf := iq s_65 hf
                      by_cases s_69 : ((xs (Int32.toNatClampNeg i)) &&& (63 : Int32)) = (8 : Int32)
                      · have hf := ip s_69 hf
                        refine lv_tableIn (off := 652) (tgt := 696) hx hb dL_law_44 (by rw [s_69]; decide) (by rw [s_69]; decide) (by rw [s_69]; rfl) (by decide) ?_
                        refine lv_aload_n hx hb dL_law_696 rfl (lv_at hl 1 rfl) ?_
                        refine lv_aload_n hx hb dL_law_697 rfl (lv_at hl 0 rfl) ?_
                        refine lv_iload hx hb dL_law_698 (lv_at hl 5 rfl) ?_
                        refine lv_iconst (v := (1 : Int32)) hx hb dL_law_700 (by decide) ?_
                        refine lv_iadd hx hb dL_law_701 ?_
                        obtain ⟨h_70, hf⟩ := ck hf
                        refine va_sld hx hb hX hbl hbA hS (vin h_70) dL_law_702 ?_
                        refine lv_aload_n hx hb dL_law_703 rfl (lv_at hl 3 rfl) ?_
                        obtain ⟨r_71, e_71, hf⟩ := bo hf
                        refine lcallS (W0 := (wC c0 h k0 x0 d0 ++ (wS g h a1 a2 a3 a4 σ ++ (wH g k0 k1 γ η ++ (wX g x0 x1 τ ++ (wD g d0 d1 d2 δ ++ (wM g m0 m1 m2 m3 m4 μ ++ (wO g o0 ω ++ (wE g e0 ε))))))))) (Wc := (wC c0 h k0 x0 d0 ++ (wS g h a1 a2 a3 a4 σ ++ (wH g k0 k1 γ η ++ (wO g o0 ω))))) (Wr := (wX g x0 x1 τ ++ (wD g d0 d1 d2 δ ++ (wM g m0 m1 m2 m3 m4 μ ++ (wE g e0 ε))))) (W1 := (wC c0 h k0 x0 d0 ++ (wS g h a1 a2 a3 a4 r_71.2.1 ++ (wH g k0 k1 γ r_71.2.2.1 ++ (wO g o0 r_71.2.2.2))))) (W2 := (wC c0 h k0 x0 d0 ++ (wS g h a1 a2 a3 a4 r_71.2.1 ++ (wH g k0 k1 γ r_71.2.2.1 ++ (wX g x0 x1 τ ++ (wD g d0 d1 d2 δ ++ (wM g m0 m1 m2 m3 m4 μ ++ (wO g o0 r_71.2.2.2 ++ (wE g e0 ε))))))))) (As := [.ref c0, .int (xs (Int32.toNatClampNeg (i + (1 : Int32)))), .ref o0]) (rest := []) [0, 1, 2, 3, 4, 5, 6, 7, 8, 9, 10, 11, 12, 13, 14, 15, 16, 17, 18, 19, 20, 21, 22, 23, 24, 25, 26, 27, 28, 29, 30, 31, 32, 33, 34, 35, 36, 37, 48] [38, 39, 40, 41, 42, 43, 44, 45, 46, 47, 49] [11, 12, 13, 14, 15, 16, 17, 18, 19, 20, 21, 22, 23, 24, 25, 26, 27, 28, 29, 30, 31, 32, 33, 34, 35, 36, 37, 38, 39, 40, 41, 42, 43, 44, 45, 46, 47, 48, 0, 1, 2, 3, 4, 5, 6, 7, 8, 9, 49, 10] ⟨hx, hb, hml, hown, hts⟩ hP hD hE hZ hS hA (cL_setGap_ok l hl0 g c0 h k0 x0 d0 a1 a2 a3 a4 k1 o0 γ σ η ω (xs (Int32.toNatClampNeg (i + (1 : Int32)))) _ e_71) (vx_cwSW 3 hts gL_law_L_setGap rfl rfl rfl hdL_setGap.2 ⟨(Nat.le_of_ble_eq_true rfl), (Nat.le_of_ble_eq_true rfl)⟩) rfl rfl rfl (by decide) (by decide) (by decide) (by decide) rfl hl.1 rfl (Nat.le_of_ble_eq_true rfl) ⟨(by show _ ≤ (601024 : Nat); omega), (by show _ ≤ (7293034 : Nat); omega)⟩ dL_law_704 (fun H locs hP hD hS => ?_)
                        refine lv_istore (lv' := [(6, .int r_71.1), (0, .ref b), (1, .ref c0), (2, .ref m0), (3, .ref o0), (4, .ref e0), (5, .int i)]) hx hb dL_law_707 hl (by decide) rfl (fun ls hl => ?_)
                        refine lv_aload_n hx hb dL_law_709 rfl (lv_at hl 3 rfl) ?_
                        refine lv_aload_n hx hb dL_law_710 rfl (lv_at hl 1 rfl) ?_
                        refine lv_iload hx hb dL_law_711 (lv_at hl 6 rfl) ?_
                        refine lv_iconst (v := (1 : Int32)) hx hb dL_law_713 (by decide) ?_
                        refine lv_iadd hx hb dL_law_714 ?_
                        refine va_sld hx hb hX hbl hbA hS (vin h_70) dL_law_715 ?_
                        obtain ⟨r_72, e_72, hf⟩ := bo hf
                        refine mcallVi (W0 := (wC c0 h k0 x0 d0 ++ (wS g h a1 a2 a3 a4 r_71.2.1 ++ (wH g k0 k1 γ r_71.2.2.1 ++ (wX g x0 x1 τ ++ (wD g d0 d1 d2 δ ++ (wM g m0 m1 m2 m3 m4 μ ++ (wO g o0 r_71.2.2.2 ++ (wE g e0 ε))))))))) (Wc := (wM g m0 m1 m2 m3 m4 μ)) (Wr := (wC c0 h k0 x0 d0 ++ (wS g h a1 a2 a3 a4 r_71.2.1 ++ (wH g k0 k1 γ r_71.2.2.1 ++ (wX g x0 x1 τ ++ (wD g d0 d1 d2 δ ++ (wO g o0 r_71.2.2.2 ++ (wE g e0 ε)))))))) (W1 := (wM g m0 m1 m2 m3 m4 r_72.2)) (W2 := (wC c0 h k0 x0 d0 ++ (wS g h a1 a2 a3 a4 r_71.2.1 ++ (wH g k0 k1 γ r_71.2.2.1 ++ (wX g x0 x1 τ ++ (wD g d0 d1 d2 δ ++ (wM g m0 m1 m2 m3 m4 r_72.2 ++ (wO g o0 r_71.2.2.2 ++ (wE g e0 ε))))))))) (As := [.int (xs (Int32.toNatClampNeg (i + (1 : Int32))))]) (rest := []) [43, 44, 45, 46, 47] [0, 1, 2, 3, 4, 5, 6, 7, 8, 9, 10, 11, 12, 13, 14, 15, 16, 17, 18, 19, 20, 21, 22, 23, 24, 25, 26, 27, 28, 29, 30, 31, 32, 33, 34, 35, 36, 37, 38, 39, 40, 41, 42, 48, 49] [0, 1, 2, 3, 4, 5, 6, 7, 8, 9, 10, 11, 12, 13, 14, 15, 16, 17, 18, 19, 20, 21, 22, 23, 24, 25, 26, 27, 28, 29, 30, 31, 32, 33, 34, 35, 36, 37, 38, 39, 40, 41, 42, 45, 46, 47, 48, 49, 43, 44] 5 0 ⟨hx, hb, hml, hown, hts⟩ hP hD hE hZ hS hA (cX7_setGap_ok l g m0 m1 m2 m3 m4 μ (xs (Int32.toNatClampNeg (i + (1 : Int32)))) _ e_72) (cwV 1 hts gL_law_X7_setGap rfl rfl rfl hdX7_setGap ⟨(Nat.le_of_ble_eq_true rfl), (Nat.le_of_ble_eq_true rfl)⟩) rfl rfl rfl (by decide) (by decide) (by decide) (by decide) rfl rfl rfl rfl hl.1 rfl (Nat.le_of_ble_eq_true rfl) ⟨(by show _ ≤ (601024 : Nat); omega), (by show _ ≤ (7293034 : Nat); omega)⟩ dL_law_716 (fun H locs hP hD hS => ?_)
                        refine lv_istore (lv' := [(7, .int r_72.1), (6, .int r_71.1), (0, .ref b), (1, .ref c0), (2, .ref m0), (3, .ref o0), (4, .ref e0), (5, .int i)]) hx hb dL_law_719 hl (by decide) rfl (fun ls hl => ?_)
                        refine lv_aload_n hx hb dL_law_721 rfl (lv_at hl 4 rfl) ?_
                        obtain ⟨r_73, e_73, hf⟩ := bo hf
                        refine pcallV (W0 := (wC c0 h k0 x0 d0 ++ (wS g h a1 a2 a3 a4 r_71.2.1 ++ (wH g k0 k1 γ r_71.2.2.1 ++ (wX g x0 x1 τ ++ (wD g d0 d1 d2 δ ++ (wM g m0 m1 m2 m3 m4 r_72.2 ++ (wO g o0 r_71.2.2.2 ++ (wE g e0 ε))))))))) (As := []) (rest := []) [43, 44, 45, 46, 47] 5 0 ⟨hx, hb, hml, hown, hts⟩ hP hE hZ hS (cX7_thrown_ok l g m0 m1 m2 m3 m4 r_72.2 e_73) (cwV 0 hts gL_law_X7_thrown rfl rfl rfl hdX7_thrown ⟨(Nat.le_of_ble_eq_true rfl), (Nat.le_of_ble_eq_true rfl)⟩) rfl rfl rfl rfl rfl hl.1 rfl (Nat.le_of_ble_eq_true rfl) ⟨(by show _ ≤ (601024 : Nat); omega), (by show _ ≤ (7293034 : Nat); omega)⟩ dL_law_722 ?_
                        refine lv_iload hx hb dL_law_725 (lv_at hl 1 rfl) ?_
                        refine lv_icmp_eq (tgt := 732) hx hb dL_law_727 (by decide) (fun c_74 => ?_) (fun c_74 => ?_)
                        · have hf := ip c_74 hf
                          refine lv_iload hx hb dL_law_732 (lv_at hl 1 rfl) ?_
                          refine lv_if_ne (tgt := 749) hx hb dL_law_734 (by decide) (fun c_75 => ?_) (fun c_75 => ?_)
                          · have hf := iq c_75 hf
                            refine lv_goto (tgt := 2493) hx hb dL_law_749 (by decide) ?_
                            refine lv_iinc (v := (i + 3)) (lv' := [(5, .int (i + 3)), (7, .int r_72.1), (6, .int r_71.1), (0, .ref b), (1, .ref c0), (2, .ref m0), (3, .ref o0), (4, .ref e0)]) hx hb dL_law_2493 hl (k := 7) rfl rfl (by decide) rfl (fun ls hl => ?_)
                            refine lv_goto (tgt := 28) hx hb dL_law_2496 (by decide) ?_
                            refine W.cs (cells' := cl + 1) (slots' := sl + 6) (by omega) (by omega) ?_
                            exact ih (i + 3) r_71.2.1 r_71.2.2.1 τ δ r_72.2 r_71.2.2.2 ε (cl + 1) (sl + 6) (by omega) (by omega) _ _ ls hP hD hS (lv_sub hl [3, 4, 5, 6, 7, 0] rfl) hf
                          · have hf := ip c_75 hf
                            refine lv_aload_n hx hb dL_law_737 rfl (lv_at hl 5 rfl) ?_
                            refine lv_iconst (v := (0 : Int32)) hx hb dL_law_738 (by decide) ?_
                            refine va_lald hx hb hE.1 hP 48 2 rfl rfl (vin (by decide)) dL_law_739 ?_
                            refine lv_iload hx hb dL_law_740 (lv_at hl 0 rfl) ?_
                            refine lv_i2l hx hb dL_law_742 rfl ?_
                            refine W.lcmp hx hb dL_law_743 ?_
                            refine lv_if_eq (tgt := 749) hx hb dL_law_744 (by decide) (fun c_76 => ?_) (fun c_76 => ?_)
                            · have hf := ip c_76 hf
                              refine lv_goto (tgt := 2493) hx hb dL_law_749 (by decide) ?_
                              refine lv_iinc (v := (i + 3)) (lv' := [(5, .int (i + 3)), (7, .int r_72.1), (6, .int r_71.1), (0, .ref b), (1, .ref c0), (2, .ref m0), (3, .ref o0), (4, .ref e0)]) hx hb dL_law_2493 hl (k := 7) rfl rfl (by decide) rfl (fun ls hl => ?_)
                              refine lv_goto (tgt := 28) hx hb dL_law_2496 (by decide) ?_
                              refine W.cs (cells' := cl + 1) (slots' := sl + 6) (by omega) (by omega) ?_
                              exact ih (i + 3) r_71.2.1 r_71.2.2.1 τ δ r_72.2 r_71.2.2.2 ε (cl + 1) (sl + 6) (by omega) (by omega) _ _ ls hP hD hS (lv_sub hl [3, 4, 5, 6, 7, 0] rfl) hf
                            · have hf := iq c_76 hf
                              refine lv_iconst (v := (0 : Int32)) hx hb dL_law_747 (by decide) ?_
                              exact absurd (Option.some.inj hf) (by decide)
                        · have hf := iq c_74 hf
                          refine lv_iconst (v := (0 : Int32)) hx hb dL_law_730 (by decide) ?_
                          exact absurd (Option.some.inj hf) (by decide)
                      · have hf := iq s_69 hf
                        by_cases s_77 : ((xs (Int32.toNatClampNeg i)) &&& (63 : Int32)) = (9 : Int32)
                        · have hf := ip s_77 hf
                          refine lv_tableIn (off := 708) (tgt := 752) hx hb dL_law_44 (by rw [s_77]; decide) (by rw [s_77]; decide) (by rw [s_77]; rfl) (by decide) ?_
                          refine lv_aload_n hx hb dL_law_752 rfl (lv_at hl 1 rfl) ?_
                          obtain ⟨r_78, e_78, hf⟩ := bo hf
                          refine pcallV (W0 := (wC c0 h k0 x0 d0 ++ (wS g h a1 a2 a3 a4 σ ++ (wH g k0 k1 γ η ++ (wX g x0 x1 τ ++ (wD g d0 d1 d2 δ ++ (wM g m0 m1 m2 m3 m4 μ ++ (wO g o0 ω ++ (wE g e0 ε))))))))) (As := []) (rest := []) [0, 1, 2, 3, 4, 5] 4 0 ⟨hx, hb, hml, hown, hts⟩ hP hE hZ hS (cX6_lines_ok l g c0 h k0 x0 d0 a1 a2 a3 a4 σ e_78) (cwV 0 hts gL_law_X6_lines rfl rfl rfl hdX6_lines ⟨(Nat.le_of_ble_eq_true rfl), (Nat.le_of_ble_eq_true rfl)⟩) rfl rfl rfl rfl rfl hl.1 rfl (Nat.le_of_ble_eq_true rfl) ⟨(by show _ ≤ (601024 : Nat); omega), (by show _ ≤ (7293034 : Nat); omega)⟩ dL_law_753 ?_
                          refine lv_aload_n hx hb dL_law_756 rfl (lv_at hl 2 rfl) ?_
                          obtain ⟨r_79, e_79, hf⟩ := bo hf
                          refine mcallVi (W0 := (wC c0 h k0 x0 d0 ++ (wS g h a1 a2 a3 a4 σ ++ (wH g k0 k1 γ η ++ (wX g x0 x1 τ ++ (wD g d0 d1 d2 δ ++ (wM g m0 m1 m2 m3 m4 μ ++ (wO g o0 ω ++ (wE g e0 ε))))))))) (Wc := (wM g m0 m1 m2 m3 m4 μ)) (Wr := (wC c0 h k0 x0 d0 ++ (wS g h a1 a2 a3 a4 σ ++ (wH g k0 k1 γ η ++ (wX g x0 x1 τ ++ (wD g d0 d1 d2 δ ++ (wO g o0 ω ++ (wE g e0 ε)))))))) (W1 := (wM g m0 m1 m2 m3 m4 r_79.2)) (W2 := (wC c0 h k0 x0 d0 ++ (wS g h a1 a2 a3 a4 σ ++ (wH g k0 k1 γ η ++ (wX g x0 x1 τ ++ (wD g d0 d1 d2 δ ++ (wM g m0 m1 m2 m3 m4 r_79.2 ++ (wO g o0 ω ++ (wE g e0 ε))))))))) (As := []) (rest := [.int r_78]) [43, 44, 45, 46, 47] [0, 1, 2, 3, 4, 5, 6, 7, 8, 9, 10, 11, 12, 13, 14, 15, 16, 17, 18, 19, 20, 21, 22, 23, 24, 25, 26, 27, 28, 29, 30, 31, 32, 33, 34, 35, 36, 37, 38, 39, 40, 41, 42, 48, 49] [0, 1, 2, 3, 4, 5, 6, 7, 8, 9, 10, 11, 12, 13, 14, 15, 16, 17, 18, 19, 20, 21, 22, 23, 24, 25, 26, 27, 28, 29, 30, 31, 32, 33, 34, 35, 36, 37, 38, 39, 40, 41, 42, 45, 46, 47, 48, 49, 43, 44] 5 0 ⟨hx, hb, hml, hown, hts⟩ hP hD hE hZ hS hA (cX7_lines_ok l g m0 m1 m2 m3 m4 μ _ e_79) (cwV 0 hts gL_law_X7_lines rfl rfl rfl hdX7_lines ⟨(Nat.le_of_ble_eq_true rfl), (Nat.le_of_ble_eq_true rfl)⟩) rfl rfl rfl (by decide) (by decide) (by decide) (by decide) rfl rfl rfl rfl hl.1 rfl (Nat.le_of_ble_eq_true rfl) ⟨(by show _ ≤ (601024 : Nat); omega), (by show _ ≤ (7293034 : Nat); omega)⟩ dL_law_757 (fun H locs hP hD hS => ?_)
                          refine lv_icmp_eq (tgt := 2493) hx hb dL_law_760 (by decide) (fun c_80 => ?_) (fun c_80 => ?_)
                          · have hf := ip c_80 hf
                            refine lv_iinc (v := (i + 3)) (lv' := [(5, .int (i + 3)), (0, .ref b), (1, .ref c0), (2, .ref m0), (3, .ref o0), (4, .ref e0)]) hx hb dL_law_2493 hl (k := 5) rfl rfl (by decide) rfl (fun ls hl => ?_)
                            refine lv_goto (tgt := 28) hx hb dL_law_2496 (by decide) ?_
                            refine W.cs (cells' := cl + 0) (slots' := sl + 0) (by omega) (by omega) ?_
                            exact ih (i + 3) σ η τ δ r_79.2 ω ε (cl + 0) (sl + 0) (by omega) (by omega) _ _ ls hP hD hS (lv_sub hl [1, 2, 3, 4, 5, 0] rfl) hf
                          · have hf := iq c_80 hf
                            refine lv_iconst (v := (0 : Int32)) hx hb dL_law_763 (by decide) ?_
                            exact absurd (Option.some.inj hf) (by decide)
                        · have hf := iq s_77 hf
                          by_cases s_81 : ((xs (Int32.toNatClampNeg i)) &&& (63 : Int32)) = (10 : Int32)
                          · have hf := ip s_81 hf
                            refine lv_tableIn (off := 721) (tgt := 765) hx hb dL_law_44 (by rw [s_81]; decide) (by rw [s_81]; decide) (by rw [s_81]; rfl) (by decide) ?_
                            refine lv_aload_n hx hb dL_law_765 rfl (lv_at hl 1 rfl) ?_
                            refine lv_aload_n hx hb dL_law_766 rfl (lv_at hl 0 rfl) ?_
                            refine lv_iload hx hb dL_law_767 (lv_at hl 5 rfl) ?_
                            refine lv_iconst (v := (1 : Int32)) hx hb dL_law_769 (by decide) ?_
                            refine lv_iadd hx hb dL_law_770 ?_
                            obtain ⟨h_82, hf⟩ := ck hf
                            refine va_sld hx hb hX hbl hbA hS (vin h_82) dL_law_771 ?_
                            refine lv_aload_n hx hb dL_law_772 rfl (lv_at hl 3 rfl) ?_
                            obtain ⟨r_83, e_83, hf⟩ := bo hf
                            refine lcallS (W0 := (wC c0 h k0 x0 d0 ++ (wS g h a1 a2 a3 a4 σ ++ (wH g k0 k1 γ η ++ (wX g x0 x1 τ ++ (wD g d0 d1 d2 δ ++ (wM g m0 m1 m2 m3 m4 μ ++ (wO g o0 ω ++ (wE g e0 ε))))))))) (Wc := (wC c0 h k0 x0 d0 ++ (wS g h a1 a2 a3 a4 σ ++ (wO g o0 ω)))) (Wr := (wH g k0 k1 γ η ++ (wX g x0 x1 τ ++ (wD g d0 d1 d2 δ ++ (wM g m0 m1 m2 m3 m4 μ ++ (wE g e0 ε)))))) (W1 := (wC c0 h k0 x0 d0 ++ (wS g h a1 a2 a3 a4 σ ++ (wO g o0 r_83.2)))) (W2 := (wC c0 h k0 x0 d0 ++ (wS g h a1 a2 a3 a4 σ ++ (wH g k0 k1 γ η ++ (wX g x0 x1 τ ++ (wD g d0 d1 d2 δ ++ (wM g m0 m1 m2 m3 m4 μ ++ (wO g o0 r_83.2 ++ (wE g e0 ε))))))))) (As := [.ref c0, .int (xs (Int32.toNatClampNeg (i + (1 : Int32)))), .ref o0]) (rest := []) [0, 1, 2, 3, 4, 5, 48] [6, 7, 8, 9, 10, 11, 12, 13, 14, 15, 16, 17, 18, 19, 20, 21, 22, 23, 24, 25, 26, 27, 28, 29, 30, 31, 32, 33, 34, 35, 36, 37, 38, 39, 40, 41, 42, 43, 44, 45, 46, 47, 49] [43, 44, 45, 46, 47, 48, 0, 1, 2, 3, 4, 5, 6, 7, 8, 9, 10, 11, 12, 13, 14, 15, 16, 17, 18, 19, 20, 21, 22, 23, 24, 25, 26, 27, 28, 29, 30, 31, 32, 33, 34, 35, 36, 37, 38, 39, 40, 41, 49, 42] ⟨hx, hb, hml, hown, hts⟩ hP hD hE hZ hS hA (cL_levelOf_ok l hl0 g c0 h k0 x0 d0 a1 a2 a3 a4 o0 σ ω (xs (Int32.toNatClampNeg (i + (1 : Int32)))) _ e_83) (vx_cwSW 3 hts gL_law_L_levelOf rfl rfl rfl hdL_levelOf.2 ⟨(Nat.le_of_ble_eq_true rfl), (Nat.le_of_ble_eq_true rfl)⟩) rfl rfl rfl (by decide) (by decide) (by decide) (by decide) rfl hl.1 rfl (Nat.le_of_ble_eq_true rfl) ⟨(by show _ ≤ (601024 : Nat); omega), (by show _ ≤ (7293034 : Nat); omega)⟩ dL_law_773 (fun H locs hP hD hS => ?_)
                            refine lv_istore (lv' := [(6, .int r_83.1), (0, .ref b), (1, .ref c0), (2, .ref m0), (3, .ref o0), (4, .ref e0), (5, .int i)]) hx hb dL_law_776 hl (by decide) rfl (fun ls hl => ?_)
                            refine lv_aload_n hx hb dL_law_778 rfl (lv_at hl 3 rfl) ?_
                            refine lv_aload_n hx hb dL_law_779 rfl (lv_at hl 1 rfl) ?_
                            refine lv_iload hx hb dL_law_780 (lv_at hl 6 rfl) ?_
                            refine lv_iconst (v := (1 : Int32)) hx hb dL_law_782 (by decide) ?_
                            refine lv_iadd hx hb dL_law_783 ?_
                            refine va_sld hx hb hX hbl hbA hS (vin h_82) dL_law_784 ?_
                            obtain ⟨r_84, e_84, hf⟩ := bo hf
                            refine mcallVi (W0 := (wC c0 h k0 x0 d0 ++ (wS g h a1 a2 a3 a4 σ ++ (wH g k0 k1 γ η ++ (wX g x0 x1 τ ++ (wD g d0 d1 d2 δ ++ (wM g m0 m1 m2 m3 m4 μ ++ (wO g o0 r_83.2 ++ (wE g e0 ε))))))))) (Wc := (wM g m0 m1 m2 m3 m4 μ)) (Wr := (wC c0 h k0 x0 d0 ++ (wS g h a1 a2 a3 a4 σ ++ (wH g k0 k1 γ η ++ (wX g x0 x1 τ ++ (wD g d0 d1 d2 δ ++ (wO g o0 r_83.2 ++ (wE g e0 ε)))))))) (W1 := (wM g m0 m1 m2 m3 m4 r_84.2)) (W2 := (wC c0 h k0 x0 d0 ++ (wS g h a1 a2 a3 a4 σ ++ (wH g k0 k1 γ η ++ (wX g x0 x1 τ ++ (wD g d0 d1 d2 δ ++ (wM g m0 m1 m2 m3 m4 r_84.2 ++ (wO g o0 r_83.2 ++ (wE g e0 ε))))))))) (As := [.int (xs (Int32.toNatClampNeg (i + (1 : Int32))))]) (rest := []) [43, 44, 45, 46, 47] [0, 1, 2, 3, 4, 5, 6, 7, 8, 9, 10, 11, 12, 13, 14, 15, 16, 17, 18, 19, 20, 21, 22, 23, 24, 25, 26, 27, 28, 29, 30, 31, 32, 33, 34, 35, 36, 37, 38, 39, 40, 41, 42, 48, 49] [0, 1, 2, 3, 4, 5, 6, 7, 8, 9, 10, 11, 12, 13, 14, 15, 16, 17, 18, 19, 20, 21, 22, 23, 24, 25, 26, 27, 28, 29, 30, 31, 32, 33, 34, 35, 36, 37, 38, 39, 40, 41, 42, 45, 46, 47, 48, 49, 43, 44] 5 0 ⟨hx, hb, hml, hown, hts⟩ hP hD hE hZ hS hA (cX7_levelOf_ok l g m0 m1 m2 m3 m4 μ (xs (Int32.toNatClampNeg (i + (1 : Int32)))) _ e_84) (cwV 1 hts gL_law_X7_levelOf rfl rfl rfl hdX7_levelOf ⟨(Nat.le_of_ble_eq_true rfl), (Nat.le_of_ble_eq_true rfl)⟩) rfl rfl rfl (by decide) (by decide) (by decide) (by decide) rfl rfl rfl rfl hl.1 rfl (Nat.le_of_ble_eq_true rfl) ⟨(by show _ ≤ (601024 : Nat); omega), (by show _ ≤ (7293034 : Nat); omega)⟩ dL_law_785 (fun H locs hP hD hS => ?_)
                            refine lv_istore (lv' := [(7, .int r_84.1), (6, .int r_83.1), (0, .ref b), (1, .ref c0), (2, .ref m0), (3, .ref o0), (4, .ref e0), (5, .int i)]) hx hb dL_law_788 hl (by decide) rfl (fun ls hl => ?_)
                            refine lv_aload_n hx hb dL_law_790 rfl (lv_at hl 4 rfl) ?_
                            obtain ⟨r_85, e_85, hf⟩ := bo hf
                            refine pcallV (W0 := (wC c0 h k0 x0 d0 ++ (wS g h a1 a2 a3 a4 σ ++ (wH g k0 k1 γ η ++ (wX g x0 x1 τ ++ (wD g d0 d1 d2 δ ++ (wM g m0 m1 m2 m3 m4 r_84.2 ++ (wO g o0 r_83.2 ++ (wE g e0 ε))))))))) (As := []) (rest := []) [43, 44, 45, 46, 47] 5 0 ⟨hx, hb, hml, hown, hts⟩ hP hE hZ hS (cX7_thrown_ok l g m0 m1 m2 m3 m4 r_84.2 e_85) (cwV 0 hts gL_law_X7_thrown rfl rfl rfl hdX7_thrown ⟨(Nat.le_of_ble_eq_true rfl), (Nat.le_of_ble_eq_true rfl)⟩) rfl rfl rfl rfl rfl hl.1 rfl (Nat.le_of_ble_eq_true rfl) ⟨(by show _ ≤ (601024 : Nat); omega), (by show _ ≤ (7293034 : Nat); omega)⟩ dL_law_791 ?_
                            refine lv_iload hx hb dL_law_794 (lv_at hl 1 rfl) ?_
                            refine lv_icmp_eq (tgt := 801) hx hb dL_law_796 (by decide) (fun c_86 => ?_) (fun c_86 => ?_)
                            · have hf := ip c_86 hf
                              refine lv_iload hx hb dL_law_801 (lv_at hl 1 rfl) ?_
                              refine lv_if_ne (tgt := 818) hx hb dL_law_803 (by decide) (fun c_87 => ?_) (fun c_87 => ?_)
                              · have hf := iq c_87 hf
                                refine lv_goto (tgt := 2493) hx hb dL_law_818 (by decide) ?_
                                refine lv_iinc (v := (i + 3)) (lv' := [(5, .int (i + 3)), (7, .int r_84.1), (6, .int r_83.1), (0, .ref b), (1, .ref c0), (2, .ref m0), (3, .ref o0), (4, .ref e0)]) hx hb dL_law_2493 hl (k := 7) rfl rfl (by decide) rfl (fun ls hl => ?_)
                                refine lv_goto (tgt := 28) hx hb dL_law_2496 (by decide) ?_
                                refine W.cs (cells' := cl + 1) (slots' := sl + 6) (by omega) (by omega) ?_
                                exact ih (i + 3) σ η τ δ r_84.2 r_83.2 ε (cl + 1) (sl + 6) (by omega) (by omega) _ _ ls hP hD hS (lv_sub hl [3, 4, 5, 6, 7, 0] rfl) hf
                              · have hf := ip c_87 hf
                                refine lv_aload_n hx hb dL_law_806 rfl (lv_at hl 5 rfl) ?_
                                refine lv_iconst (v := (0 : Int32)) hx hb dL_law_807 (by decide) ?_
                                refine va_lald hx hb hE.1 hP 48 2 rfl rfl (vin (by decide)) dL_law_808 ?_
                                refine lv_iload hx hb dL_law_809 (lv_at hl 0 rfl) ?_
                                refine lv_i2l hx hb dL_law_811 rfl ?_
                                refine W.lcmp hx hb dL_law_812 ?_
                                refine lv_if_eq (tgt := 818) hx hb dL_law_813 (by decide) (fun c_88 => ?_) (fun c_88 => ?_)
                                · have hf := ip c_88 hf
                                  refine lv_goto (tgt := 2493) hx hb dL_law_818 (by decide) ?_
                                  refine lv_iinc (v := (i + 3)) (lv' := [(5, .int (i + 3)), (7, .int r_84.1), (6, .int r_83.1), (0, .ref b), (1, .ref c0), (2, .ref m0), (3, .ref o0), (4, .ref e0)]) hx hb dL_law_2493 hl (k := 7) rfl rfl (by decide) rfl (fun ls hl => ?_)
                                  refine lv_goto (tgt := 28) hx hb dL_law_2496 (by decide) ?_
                                  refine W.cs (cells' := cl + 1) (slots' := sl + 6) (by omega) (by omega) ?_
                                  exact ih (i + 3) σ η τ δ r_84.2 r_83.2 ε (cl + 1) (sl + 6) (by omega) (by omega) _ _ ls hP hD hS (lv_sub hl [3, 4, 5, 6, 7, 0] rfl) hf
                                · have hf := iq c_88 hf
                                  refine lv_iconst (v := (0 : Int32)) hx hb dL_law_816 (by decide) ?_
                                  exact absurd (Option.some.inj hf) (by decide)
                            · have hf := iq c_86 hf
                              refine lv_iconst (v := (0 : Int32)) hx hb dL_law_799 (by decide) ?_
                              exact absurd (Option.some.inj hf) (by decide)
                          · have hf := iq s_81 hf
                            by_cases s_89 : ((xs (Int32.toNatClampNeg i)) &&& (63 : Int32)) = (11 : Int32)
                            · have hf := ip s_89 hf
                              refine lv_tableIn (off := 777) (tgt := 821) hx hb dL_law_44 (by rw [s_89]; decide) (by rw [s_89]; decide) (by rw [s_89]; rfl) (by decide) ?_
                              refine lv_aload_n hx hb dL_law_821 rfl (lv_at hl 1 rfl) ?_
                              refine lv_aload_n hx hb dL_law_822 rfl (lv_at hl 0 rfl) ?_
                              refine lv_iload hx hb dL_law_823 (lv_at hl 5 rfl) ?_
                              refine lv_iconst (v := (1 : Int32)) hx hb dL_law_825 (by decide) ?_
                              refine lv_iadd hx hb dL_law_826 ?_
                              obtain ⟨h_90, hf⟩ := ck hf
                              refine va_sld hx hb hX hbl hbA hS (vin h_90) dL_law_827 ?_
                              refine lv_aload_n hx hb dL_law_828 rfl (lv_at hl 3 rfl) ?_
                              obtain ⟨r_91, e_91, hf⟩ := bo hf
                              refine lcallS (W0 := (wC c0 h k0 x0 d0 ++ (wS g h a1 a2 a3 a4 σ ++ (wH g k0 k1 γ η ++ (wX g x0 x1 τ ++ (wD g d0 d1 d2 δ ++ (wM g m0 m1 m2 m3 m4 μ ++ (wO g o0 ω ++ (wE g e0 ε))))))))) (Wc := (wC c0 h k0 x0 d0 ++ (wS g h a1 a2 a3 a4 σ ++ (wO g o0 ω)))) (Wr := (wH g k0 k1 γ η ++ (wX g x0 x1 τ ++ (wD g d0 d1 d2 δ ++ (wM g m0 m1 m2 m3 m4 μ ++ (wE g e0 ε)))))) (W1 := (wC c0 h k0 x0 d0 ++ (wS g h a1 a2 a3 a4 σ ++ (wO g o0 r_91.2)))) (W2 := (wC c0 h k0 x0 d0 ++ (wS g h a1 a2 a3 a4 σ ++ (wH g k0 k1 γ η ++ (wX g x0 x1 τ ++ (wD g d0 d1 d2 δ ++ (wM g m0 m1 m2 m3 m4 μ ++ (wO g o0 r_91.2 ++ (wE g e0 ε))))))))) (As := [.ref c0, .int (xs (Int32.toNatClampNeg (i + (1 : Int32)))), .ref o0]) (rest := []) [0, 1, 2, 3, 4, 5, 48] [6, 7, 8, 9, 10, 11, 12, 13, 14, 15, 16, 17, 18, 19, 20, 21, 22, 23, 24, 25, 26, 27, 28, 29, 30, 31, 32, 33, 34, 35, 36, 37, 38, 39, 40, 41, 42, 43, 44, 45, 46, 47, 49] [43, 44, 45, 46, 47, 48, 0, 1, 2, 3, 4, 5, 6, 7, 8, 9, 10, 11, 12, 13, 14, 15, 16, 17, 18, 19, 20, 21, 22, 23, 24, 25, 26, 27, 28, 29, 30, 31, 32, 33, 34, 35, 36, 37, 38, 39, 40, 41, 49, 42] ⟨hx, hb, hml, hown, hts⟩ hP hD hE hZ hS hA (cL_stepsOf_ok l hl0 g c0 h k0 x0 d0 a1 a2 a3 a4 o0 σ ω (xs (Int32.toNatClampNeg (i + (1 : Int32)))) _ e_91) (vx_cwSW 3 hts gL_law_L_stepsOf rfl rfl rfl hdL_stepsOf.2 ⟨(Nat.le_of_ble_eq_true rfl), (Nat.le_of_ble_eq_true rfl)⟩) rfl rfl rfl (by decide) (by decide) (by decide) (by decide) rfl hl.1 rfl (Nat.le_of_ble_eq_true rfl) ⟨(by show _ ≤ (601024 : Nat); omega), (by show _ ≤ (7293034 : Nat); omega)⟩ dL_law_829 (fun H locs hP hD hS => ?_)
                              refine lv_istore (lv' := [(6, .int r_91.1), (0, .ref b), (1, .ref c0), (2, .ref m0), (3, .ref o0), (4, .ref e0), (5, .int i)]) hx hb dL_law_832 hl (by decide) rfl (fun ls hl => ?_)
                              refine lv_aload_n hx hb dL_law_834 rfl (lv_at hl 3 rfl) ?_
                              refine lv_aload_n hx hb dL_law_835 rfl (lv_at hl 1 rfl) ?_
                              refine lv_iload hx hb dL_law_836 (lv_at hl 6 rfl) ?_
                              refine lv_iconst (v := (1 : Int32)) hx hb dL_law_838 (by decide) ?_
                              refine lv_iadd hx hb dL_law_839 ?_
                              refine va_sld hx hb hX hbl hbA hS (vin h_90) dL_law_840 ?_
                              obtain ⟨r_92, e_92, hf⟩ := bo hf
                              refine mcallVi (W0 := (wC c0 h k0 x0 d0 ++ (wS g h a1 a2 a3 a4 σ ++ (wH g k0 k1 γ η ++ (wX g x0 x1 τ ++ (wD g d0 d1 d2 δ ++ (wM g m0 m1 m2 m3 m4 μ ++ (wO g o0 r_91.2 ++ (wE g e0 ε))))))))) (Wc := (wM g m0 m1 m2 m3 m4 μ)) (Wr := (wC c0 h k0 x0 d0 ++ (wS g h a1 a2 a3 a4 σ ++ (wH g k0 k1 γ η ++ (wX g x0 x1 τ ++ (wD g d0 d1 d2 δ ++ (wO g o0 r_91.2 ++ (wE g e0 ε)))))))) (W1 := (wM g m0 m1 m2 m3 m4 r_92.2)) (W2 := (wC c0 h k0 x0 d0 ++ (wS g h a1 a2 a3 a4 σ ++ (wH g k0 k1 γ η ++ (wX g x0 x1 τ ++ (wD g d0 d1 d2 δ ++ (wM g m0 m1 m2 m3 m4 r_92.2 ++ (wO g o0 r_91.2 ++ (wE g e0 ε))))))))) (As := [.int (xs (Int32.toNatClampNeg (i + (1 : Int32))))]) (rest := []) [43, 44, 45, 46, 47] [0, 1, 2, 3, 4, 5, 6, 7, 8, 9, 10, 11, 12, 13, 14, 15, 16, 17, 18, 19, 20, 21, 22, 23, 24, 25, 26, 27, 28, 29, 30, 31, 32, 33, 34, 35, 36, 37, 38, 39, 40, 41, 42, 48, 49] [0, 1, 2, 3, 4, 5, 6, 7, 8, 9, 10, 11, 12, 13, 14, 15, 16, 17, 18, 19, 20, 21, 22, 23, 24, 25, 26, 27, 28, 29, 30, 31, 32, 33, 34, 35, 36, 37, 38, 39, 40, 41, 42, 45, 46, 47, 48, 49, 43, 44] 5 0 ⟨hx, hb, hml, hown, hts⟩ hP hD hE hZ hS hA (cX7_stepsOf_ok l g m0 m1 m2 m3 m4 μ (xs (Int32.toNatClampNeg (i + (1 : Int32)))) _ e_92) (cwV 1 hts gL_law_X7_stepsOf rfl rfl rfl hdX7_stepsOf ⟨(Nat.le_of_ble_eq_true rfl), (Nat.le_of_ble_eq_true rfl)⟩) rfl rfl rfl (by decide) (by decide) (by decide) (by decide) rfl rfl rfl rfl hl.1 rfl (Nat.le_of_ble_eq_true rfl) ⟨(by show _ ≤ (601024 : Nat); omega), (by show _ ≤ (7293034 : Nat); omega)⟩ dL_law_841 (fun H locs hP hD hS => ?_)
                              refine lv_istore (lv' := [(7, .int r_92.1), (6, .int r_91.1), (0, .ref b), (1, .ref c0), (2, .ref m0), (3, .ref o0), (4, .ref e0), (5, .int i)]) hx hb dL_law_844 hl (by decide) rfl (fun ls hl => ?_)
                              refine lv_aload_n hx hb dL_law_846 rfl (lv_at hl 4 rfl) ?_
                              obtain ⟨r_93, e_93, hf⟩ := bo hf
                              refine pcallV (W0 := (wC c0 h k0 x0 d0 ++ (wS g h a1 a2 a3 a4 σ ++ (wH g k0 k1 γ η ++ (wX g x0 x1 τ ++ (wD g d0 d1 d2 δ ++ (wM g m0 m1 m2 m3 m4 r_92.2 ++ (wO g o0 r_91.2 ++ (wE g e0 ε))))))))) (As := []) (rest := []) [43, 44, 45, 46, 47] 5 0 ⟨hx, hb, hml, hown, hts⟩ hP hE hZ hS (cX7_thrown_ok l g m0 m1 m2 m3 m4 r_92.2 e_93) (cwV 0 hts gL_law_X7_thrown rfl rfl rfl hdX7_thrown ⟨(Nat.le_of_ble_eq_true rfl), (Nat.le_of_ble_eq_true rfl)⟩) rfl rfl rfl rfl rfl hl.1 rfl (Nat.le_of_ble_eq_true rfl) ⟨(by show _ ≤ (601024 : Nat); omega), (by show _ ≤ (7293034 : Nat); omega)⟩ dL_law_847 ?_
                              refine lv_iload hx hb dL_law_850 (lv_at hl 1 rfl) ?_
                              refine lv_icmp_eq (tgt := 857) hx hb dL_law_852 (by decide) (fun c_94 => ?_) (fun c_94 => ?_)
                              · have hf := ip c_94 hf
                                refine lv_iload hx hb dL_law_857 (lv_at hl 1 rfl) ?_
                                refine lv_if_ne (tgt := 874) hx hb dL_law_859 (by decide) (fun c_95 => ?_) (fun c_95 => ?_)
                                · have hf := iq c_95 hf
                                  refine lv_goto (tgt := 2493) hx hb dL_law_874 (by decide) ?_
                                  refine lv_iinc (v := (i + 3)) (lv' := [(5, .int (i + 3)), (7, .int r_92.1), (6, .int r_91.1), (0, .ref b), (1, .ref c0), (2, .ref m0), (3, .ref o0), (4, .ref e0)]) hx hb dL_law_2493 hl (k := 7) rfl rfl (by decide) rfl (fun ls hl => ?_)
                                  refine lv_goto (tgt := 28) hx hb dL_law_2496 (by decide) ?_
                                  refine W.cs (cells' := cl + 1) (slots' := sl + 6) (by omega) (by omega) ?_
                                  exact ih (i + 3) σ η τ δ r_92.2 r_91.2 ε (cl + 1) (sl + 6) (by omega) (by omega) _ _ ls hP hD hS (lv_sub hl [3, 4, 5, 6, 7, 0] rfl) hf
                                · have hf := ip c_95 hf
                                  refine lv_aload_n hx hb dL_law_862 rfl (lv_at hl 5 rfl) ?_
                                  refine lv_iconst (v := (0 : Int32)) hx hb dL_law_863 (by decide) ?_
                                  refine va_lald hx hb hE.1 hP 48 2 rfl rfl (vin (by decide)) dL_law_864 ?_
                                  refine lv_iload hx hb dL_law_865 (lv_at hl 0 rfl) ?_
                                  refine lv_i2l hx hb dL_law_867 rfl ?_
                                  refine W.lcmp hx hb dL_law_868 ?_
                                  refine lv_if_eq (tgt := 874) hx hb dL_law_869 (by decide) (fun c_96 => ?_) (fun c_96 => ?_)
                                  · have hf := ip c_96 hf
                                    refine lv_goto (tgt := 2493) hx hb dL_law_874 (by decide) ?_
                                    refine lv_iinc (v := (i + 3)) (lv' := [(5, .int (i + 3)), (7, .int r_92.1), (6, .int r_91.1), (0, .ref b), (1, .ref c0), (2, .ref m0), (3, .ref o0), (4, .ref e0)]) hx hb dL_law_2493 hl (k := 7) rfl rfl (by decide) rfl (fun ls hl => ?_)
                                    refine lv_goto (tgt := 28) hx hb dL_law_2496 (by decide) ?_
                                    refine W.cs (cells' := cl + 1) (slots' := sl + 6) (by omega) (by omega) ?_
                                    exact ih (i + 3) σ η τ δ r_92.2 r_91.2 ε (cl + 1) (sl + 6) (by omega) (by omega) _ _ ls hP hD hS (lv_sub hl [3, 4, 5, 6, 7, 0] rfl) hf
                                  · have hf := iq c_96 hf
                                    refine lv_iconst (v := (0 : Int32)) hx hb dL_law_872 (by decide) ?_
                                    exact absurd (Option.some.inj hf) (by decide)
                              · have hf := iq c_94 hf
                                refine lv_iconst (v := (0 : Int32)) hx hb dL_law_855 (by decide) ?_
                                exact absurd (Option.some.inj hf) (by decide)
                            · have hf := iq s_89 hf
                              by_cases s_97 : ((xs (Int32.toNatClampNeg i)) &&& (63 : Int32)) = (12 : Int32)
                              · have hf := ip s_97 hf
                                refine lv_tableIn (off := 833) (tgt := 877) hx hb dL_law_44 (by rw [s_97]; decide) (by rw [s_97]; decide) (by rw [s_97]; rfl) (by decide) ?_
                                refine lv_aload_n hx hb dL_law_877 rfl (lv_at hl 1 rfl) ?_
                                refine lv_aload_n hx hb dL_law_878 rfl (lv_at hl 0 rfl) ?_
                                refine lv_iload hx hb dL_law_879 (lv_at hl 5 rfl) ?_
                                refine lv_iconst (v := (1 : Int32)) hx hb dL_law_881 (by decide) ?_
                                refine lv_iadd hx hb dL_law_882 ?_
                                obtain ⟨h_98, hf⟩ := ck hf
                                refine va_sld hx hb hX hbl hbA hS (vin h_98) dL_law_883 ?_
                                refine lv_aload_n hx hb dL_law_884 rfl (lv_at hl 0 rfl) ?_
                                refine lv_iload hx hb dL_law_885 (lv_at hl 5 rfl) ?_
                                refine lv_iconst (v := (2 : Int32)) hx hb dL_law_887 (by decide) ?_
                                refine lv_iadd hx hb dL_law_888 ?_
                                obtain ⟨h_99, hf⟩ := ck hf
                                refine va_sld hx hb hX hbl hbA hS (vin h_99) dL_law_889 ?_
                                refine lv_aload_n hx hb dL_law_890 rfl (lv_at hl 3 rfl) ?_
                                obtain ⟨r_100, e_100, hf⟩ := bo hf
                                refine lcallS (W0 := (wC c0 h k0 x0 d0 ++ (wS g h a1 a2 a3 a4 σ ++ (wH g k0 k1 γ η ++ (wX g x0 x1 τ ++ (wD g d0 d1 d2 δ ++ (wM g m0 m1 m2 m3 m4 μ ++ (wO g o0 ω ++ (wE g e0 ε))))))))) (Wc := (wC c0 h k0 x0 d0 ++ (wS g h a1 a2 a3 a4 σ ++ (wO g o0 ω)))) (Wr := (wH g k0 k1 γ η ++ (wX g x0 x1 τ ++ (wD g d0 d1 d2 δ ++ (wM g m0 m1 m2 m3 m4 μ ++ (wE g e0 ε)))))) (W1 := (wC c0 h k0 x0 d0 ++ (wS g h a1 a2 a3 a4 σ ++ (wO g o0 r_100.2)))) (W2 := (wC c0 h k0 x0 d0 ++ (wS g h a1 a2 a3 a4 σ ++ (wH g k0 k1 γ η ++ (wX g x0 x1 τ ++ (wD g d0 d1 d2 δ ++ (wM g m0 m1 m2 m3 m4 μ ++ (wO g o0 r_100.2 ++ (wE g e0 ε))))))))) (As := [.ref c0, .int (xs (Int32.toNatClampNeg (i + (1 : Int32)))), .int (xs (Int32.toNatClampNeg (i + (2 : Int32)))), .ref o0]) (rest := []) [0, 1, 2, 3, 4, 5, 48] [6, 7, 8, 9, 10, 11, 12, 13, 14, 15, 16, 17, 18, 19, 20, 21, 22, 23, 24, 25, 26, 27, 28, 29, 30, 31, 32, 33, 34, 35, 36, 37, 38, 39, 40, 41, 42, 43, 44, 45, 46, 47, 49] [43, 44, 45, 46, 47, 48, 0, 1, 2, 3, 4, 5, 6, 7, 8, 9, 10, 11, 12, 13, 14, 15, 16, 17, 18, 19, 20, 21, 22, 23, 24, 25, 26, 27, 28, 29, 30, 31, 32, 33, 34, 35, 36, 37, 38, 39, 40, 41, 49, 42] ⟨hx, hb, hml, hown, hts⟩ hP hD hE hZ hS hA (cL_pointOf_ok l hl0 g c0 h k0 x0 d0 a1 a2 a3 a4 o0 σ ω (xs (Int32.toNatClampNeg (i + (1 : Int32)))) (xs (Int32.toNatClampNeg (i + (2 : Int32)))) _ e_100) (vx_cwSW 4 hts gL_law_L_pointOf rfl rfl rfl hdL_pointOf.2 ⟨(Nat.le_of_ble_eq_true rfl), (Nat.le_of_ble_eq_true rfl)⟩) rfl rfl rfl (by decide) (by decide) (by decide) (by decide) rfl hl.1 rfl (Nat.le_of_ble_eq_true rfl) ⟨(by show _ ≤ (601024 : Nat); omega), (by show _ ≤ (7293034 : Nat); omega)⟩ dL_law_891 (fun H locs hP hD hS => ?_)
                                refine lv_istore (lv' := [(6, .int r_100.1), (0, .ref b), (1, .ref c0), (2, .ref m0), (3, .ref o0), (4, .ref e0), (5, .int i)]) hx hb dL_law_894 hl (by decide) rfl (fun ls hl => ?_)
                                refine lv_aload_n hx hb dL_law_896 rfl (lv_at hl 3 rfl) ?_
                                refine lv_aload_n hx hb dL_law_897 rfl (lv_at hl 1 rfl) ?_
                                refine lv_iload hx hb dL_law_898 (lv_at hl 6 rfl) ?_
                                refine lv_iconst (v := (1 : Int32)) hx hb dL_law_900 (by decide) ?_
                                refine lv_iadd hx hb dL_law_901 ?_
                                refine va_sld hx hb hX hbl hbA hS (vin h_98) dL_law_902 ?_
                                refine lv_aload_n hx hb dL_law_903 rfl (lv_at hl 1 rfl) ?_
                                refine lv_iload hx hb dL_law_904 (lv_at hl 6 rfl) ?_
                                refine lv_iconst (v := (2 : Int32)) hx hb dL_law_906 (by decide) ?_
                                refine lv_iadd hx hb dL_law_907 ?_
                                refine va_sld hx hb hX hbl hbA hS (vin h_99) dL_law_908 ?_
                                obtain ⟨r_101, e_101, hf⟩ := bo hf
                                refine mcallVi (W0 := (wC c0 h k0 x0 d0 ++ (wS g h a1 a2 a3 a4 σ ++ (wH g k0 k1 γ η ++ (wX g x0 x1 τ ++ (wD g d0 d1 d2 δ ++ (wM g m0 m1 m2 m3 m4 μ ++ (wO g o0 r_100.2 ++ (wE g e0 ε))))))))) (Wc := (wM g m0 m1 m2 m3 m4 μ)) (Wr := (wC c0 h k0 x0 d0 ++ (wS g h a1 a2 a3 a4 σ ++ (wH g k0 k1 γ η ++ (wX g x0 x1 τ ++ (wD g d0 d1 d2 δ ++ (wO g o0 r_100.2 ++ (wE g e0 ε)))))))) (W1 := (wM g m0 m1 m2 m3 m4 r_101.2)) (W2 := (wC c0 h k0 x0 d0 ++ (wS g h a1 a2 a3 a4 σ ++ (wH g k0 k1 γ η ++ (wX g x0 x1 τ ++ (wD g d0 d1 d2 δ ++ (wM g m0 m1 m2 m3 m4 r_101.2 ++ (wO g o0 r_100.2 ++ (wE g e0 ε))))))))) (As := [.int (xs (Int32.toNatClampNeg (i + (1 : Int32)))), .int (xs (Int32.toNatClampNeg (i + (2 : Int32))))]) (rest := []) [43, 44, 45, 46, 47] [0, 1, 2, 3, 4, 5, 6, 7, 8, 9, 10, 11, 12, 13, 14, 15, 16, 17, 18, 19, 20, 21, 22, 23, 24, 25, 26, 27, 28, 29, 30, 31, 32, 33, 34, 35, 36, 37, 38, 39, 40, 41, 42, 48, 49] [0, 1, 2, 3, 4, 5, 6, 7, 8, 9, 10, 11, 12, 13, 14, 15, 16, 17, 18, 19, 20, 21, 22, 23, 24, 25, 26, 27, 28, 29, 30, 31, 32, 33, 34, 35, 36, 37, 38, 39, 40, 41, 42, 45, 46, 47, 48, 49, 43, 44] 5 0 ⟨hx, hb, hml, hown, hts⟩ hP hD hE hZ hS hA (cX7_pointOf_ok l g m0 m1 m2 m3 m4 μ (xs (Int32.toNatClampNeg (i + (1 : Int32)))) (xs (Int32.toNatClampNeg (i + (2 : Int32)))) _ e_101) (cwV 2 hts gL_law_X7_pointOf rfl rfl rfl hdX7_pointOf ⟨(Nat.le_of_ble_eq_true rfl), (Nat.le_of_ble_eq_true rfl)⟩) rfl rfl rfl (by decide) (by decide) (by decide) (by decide) rfl rfl rfl rfl hl.1 rfl (Nat.le_of_ble_eq_true rfl) ⟨(by show _ ≤ (601024 : Nat); omega), (by show _ ≤ (7293034 : Nat); omega)⟩ dL_law_909 (fun H locs hP hD hS => ?_)
                                refine lv_istore (lv' := [(7, .int r_101.1), (6, .int r_100.1), (0, .ref b), (1, .ref c0), (2, .ref m0), (3, .ref o0), (4, .ref e0), (5, .int i)]) hx hb dL_law_912 hl (by decide) rfl (fun ls hl => ?_)
                                refine lv_aload_n hx hb dL_law_914 rfl (lv_at hl 4 rfl) ?_
                                obtain ⟨r_102, e_102, hf⟩ := bo hf
                                refine pcallV (W0 := (wC c0 h k0 x0 d0 ++ (wS g h a1 a2 a3 a4 σ ++ (wH g k0 k1 γ η ++ (wX g x0 x1 τ ++ (wD g d0 d1 d2 δ ++ (wM g m0 m1 m2 m3 m4 r_101.2 ++ (wO g o0 r_100.2 ++ (wE g e0 ε))))))))) (As := []) (rest := []) [43, 44, 45, 46, 47] 5 0 ⟨hx, hb, hml, hown, hts⟩ hP hE hZ hS (cX7_thrown_ok l g m0 m1 m2 m3 m4 r_101.2 e_102) (cwV 0 hts gL_law_X7_thrown rfl rfl rfl hdX7_thrown ⟨(Nat.le_of_ble_eq_true rfl), (Nat.le_of_ble_eq_true rfl)⟩) rfl rfl rfl rfl rfl hl.1 rfl (Nat.le_of_ble_eq_true rfl) ⟨(by show _ ≤ (601024 : Nat); omega), (by show _ ≤ (7293034 : Nat); omega)⟩ dL_law_915 ?_
                                refine lv_iload hx hb dL_law_918 (lv_at hl 1 rfl) ?_
                                refine lv_icmp_eq (tgt := 925) hx hb dL_law_920 (by decide) (fun c_103 => ?_) (fun c_103 => ?_)
                                · have hf := ip c_103 hf
                                  refine lv_iload hx hb dL_law_925 (lv_at hl 1 rfl) ?_
                                  refine lv_if_ne (tgt := 942) hx hb dL_law_927 (by decide) (fun c_104 => ?_) (fun c_104 => ?_)
                                  · have hf := iq c_104 hf
                                    refine lv_goto (tgt := 2493) hx hb dL_law_942 (by decide) ?_
                                    refine lv_iinc (v := (i + 3)) (lv' := [(5, .int (i + 3)), (7, .int r_101.1), (6, .int r_100.1), (0, .ref b), (1, .ref c0), (2, .ref m0), (3, .ref o0), (4, .ref e0)]) hx hb dL_law_2493 hl (k := 7) rfl rfl (by decide) rfl (fun ls hl => ?_)
                                    refine lv_goto (tgt := 28) hx hb dL_law_2496 (by decide) ?_
                                    refine W.cs (cells' := cl + 1) (slots' := sl + 6) (by omega) (by omega) ?_
                                    exact ih (i + 3) σ η τ δ r_101.2 r_100.2 ε (cl + 1) (sl + 6) (by omega) (by omega) _ _ ls hP hD hS (lv_sub hl [3, 4, 5, 6, 7, 0] rfl) hf
                                  · have hf := ip c_104 hf
                                    refine lv_aload_n hx hb dL_law_930 rfl (lv_at hl 5 rfl) ?_
                                    refine lv_iconst (v := (0 : Int32)) hx hb dL_law_931 (by decide) ?_
                                    refine va_lald hx hb hE.1 hP 48 2 rfl rfl (vin (by decide)) dL_law_932 ?_
                                    refine lv_iload hx hb dL_law_933 (lv_at hl 0 rfl) ?_
                                    refine lv_i2l hx hb dL_law_935 rfl ?_
                                    refine W.lcmp hx hb dL_law_936 ?_
                                    refine lv_if_eq (tgt := 942) hx hb dL_law_937 (by decide) (fun c_105 => ?_) (fun c_105 => ?_)
                                    · have hf := ip c_105 hf
                                      refine lv_goto (tgt := 2493) hx hb dL_law_942 (by decide) ?_
                                      refine lv_iinc (v := (i + 3)) (lv' := [(5, .int (i + 3)), (7, .int r_101.1), (6, .int r_100.1), (0, .ref b), (1, .ref c0), (2, .ref m0), (3, .ref o0), (4, .ref e0)]) hx hb dL_law_2493 hl (k := 7) rfl rfl (by decide) rfl (fun ls hl => ?_)
                                      refine lv_goto (tgt := 28) hx hb dL_law_2496 (by decide) ?_
                                      refine W.cs (cells' := cl + 1) (slots' := sl + 6) (by omega) (by omega) ?_
                                      exact ih (i + 3) σ η τ δ r_101.2 r_100.2 ε (cl + 1) (sl + 6) (by omega) (by omega) _ _ ls hP hD hS (lv_sub hl [3, 4, 5, 6, 7, 0] rfl) hf
                                    · have hf := iq c_105 hf
                                      refine lv_iconst (v := (0 : Int32)) hx hb dL_law_940 (by decide) ?_
                                      exact absurd (Option.some.inj hf) (by decide)
                                · have hf := iq c_103 hf
                                  refine lv_iconst (v := (0 : Int32)) hx hb dL_law_923 (by decide) ?_
                                  exact absurd (Option.some.inj hf) (by decide)
                              · have hf := iq s_97 hf
                                by_cases s_106 : ((xs (Int32.toNatClampNeg i)) &&& (63 : Int32)) = (13 : Int32)
                                · have hf := ip s_106 hf
                                  refine lv_tableIn (off := 901) (tgt := 945) hx hb dL_law_44 (by rw [s_106]; decide) (by rw [s_106]; decide) (by rw [s_106]; rfl) (by decide) ?_
                                  refine lv_aload_n hx hb dL_law_945 rfl (lv_at hl 1 rfl) ?_
                                  refine lv_aload_n hx hb dL_law_946 rfl (lv_at hl 0 rfl) ?_
                                  refine lv_iload hx hb dL_law_947 (lv_at hl 5 rfl) ?_
                                  refine lv_iconst (v := (1 : Int32)) hx hb dL_law_949 (by decide) ?_
                                  refine lv_iadd hx hb dL_law_950 ?_
                                  obtain ⟨h_107, hf⟩ := ck hf
                                  refine va_sld hx hb hX hbl hbA hS (vin h_107) dL_law_951 ?_
                                  refine lv_aload_n hx hb dL_law_952 rfl (lv_at hl 3 rfl) ?_
                                  obtain ⟨r_108, e_108, hf⟩ := bo hf
                                  refine lcallS (W0 := (wC c0 h k0 x0 d0 ++ (wS g h a1 a2 a3 a4 σ ++ (wH g k0 k1 γ η ++ (wX g x0 x1 τ ++ (wD g d0 d1 d2 δ ++ (wM g m0 m1 m2 m3 m4 μ ++ (wO g o0 ω ++ (wE g e0 ε))))))))) (Wc := (wC c0 h k0 x0 d0 ++ (wS g h a1 a2 a3 a4 σ ++ (wO g o0 ω)))) (Wr := (wH g k0 k1 γ η ++ (wX g x0 x1 τ ++ (wD g d0 d1 d2 δ ++ (wM g m0 m1 m2 m3 m4 μ ++ (wE g e0 ε)))))) (W1 := (wC c0 h k0 x0 d0 ++ (wS g h a1 a2 a3 a4 σ ++ (wO g o0 r_108.2)))) (W2 := (wC c0 h k0 x0 d0 ++ (wS g h a1 a2 a3 a4 σ ++ (wH g k0 k1 γ η ++ (wX g x0 x1 τ ++ (wD g d0 d1 d2 δ ++ (wM g m0 m1 m2 m3 m4 μ ++ (wO g o0 r_108.2 ++ (wE g e0 ε))))))))) (As := [.ref c0, .int (xs (Int32.toNatClampNeg (i + (1 : Int32)))), .ref o0]) (rest := []) [0, 1, 2, 3, 4, 5, 48] [6, 7, 8, 9, 10, 11, 12, 13, 14, 15, 16, 17, 18, 19, 20, 21, 22, 23, 24, 25, 26, 27, 28, 29, 30, 31, 32, 33, 34, 35, 36, 37, 38, 39, 40, 41, 42, 43, 44, 45, 46, 47, 49] [43, 44, 45, 46, 47, 48, 0, 1, 2, 3, 4, 5, 6, 7, 8, 9, 10, 11, 12, 13, 14, 15, 16, 17, 18, 19, 20, 21, 22, 23, 24, 25, 26, 27, 28, 29, 30, 31, 32, 33, 34, 35, 36, 37, 38, 39, 40, 41, 49, 42] ⟨hx, hb, hml, hown, hts⟩ hP hD hE hZ hS hA (cL_lineAt_ok l hl0 g c0 h k0 x0 d0 a1 a2 a3 a4 o0 σ ω (xs (Int32.toNatClampNeg (i + (1 : Int32)))) _ e_108) (vx_cwSW 3 hts gL_law_L_lineAt rfl rfl rfl hdL_lineAt.2 ⟨(Nat.le_of_ble_eq_true rfl), (Nat.le_of_ble_eq_true rfl)⟩) rfl rfl rfl (by decide) (by decide) (by decide) (by decide) rfl hl.1 rfl (Nat.le_of_ble_eq_true rfl) ⟨(by show _ ≤ (601024 : Nat); omega), (by show _ ≤ (7293034 : Nat); omega)⟩ dL_law_953 (fun H locs hP hD hS => ?_)
                                  refine lv_istore (lv' := [(6, .int r_108.1), (0, .ref b), (1, .ref c0), (2, .ref m0), (3, .ref o0), (4, .ref e0), (5, .int i)]) hx hb dL_law_956 hl (by decide) rfl (fun ls hl => ?_)
                                  refine lv_aload_n hx hb dL_law_958 rfl (lv_at hl 3 rfl) ?_
                                  refine lv_aload_n hx hb dL_law_959 rfl (lv_at hl 1 rfl) ?_
                                  refine lv_iload hx hb dL_law_960 (lv_at hl 6 rfl) ?_
                                  refine lv_iconst (v := (1 : Int32)) hx hb dL_law_962 (by decide) ?_
                                  refine lv_iadd hx hb dL_law_963 ?_
                                  refine va_sld hx hb hX hbl hbA hS (vin h_107) dL_law_964 ?_
                                  obtain ⟨r_109, e_109, hf⟩ := bo hf
                                  refine mcallVi (W0 := (wC c0 h k0 x0 d0 ++ (wS g h a1 a2 a3 a4 σ ++ (wH g k0 k1 γ η ++ (wX g x0 x1 τ ++ (wD g d0 d1 d2 δ ++ (wM g m0 m1 m2 m3 m4 μ ++ (wO g o0 r_108.2 ++ (wE g e0 ε))))))))) (Wc := (wM g m0 m1 m2 m3 m4 μ)) (Wr := (wC c0 h k0 x0 d0 ++ (wS g h a1 a2 a3 a4 σ ++ (wH g k0 k1 γ η ++ (wX g x0 x1 τ ++ (wD g d0 d1 d2 δ ++ (wO g o0 r_108.2 ++ (wE g e0 ε)))))))) (W1 := (wM g m0 m1 m2 m3 m4 r_109.2)) (W2 := (wC c0 h k0 x0 d0 ++ (wS g h a1 a2 a3 a4 σ ++ (wH g k0 k1 γ η ++ (wX g x0 x1 τ ++ (wD g d0 d1 d2 δ ++ (wM g m0 m1 m2 m3 m4 r_109.2 ++ (wO g o0 r_108.2 ++ (wE g e0 ε))))))))) (As := [.int (xs (Int32.toNatClampNeg (i + (1 : Int32))))]) (rest := []) [43, 44, 45, 46, 47] [0, 1, 2, 3, 4, 5, 6, 7, 8, 9, 10, 11, 12, 13, 14, 15, 16, 17, 18, 19, 20, 21, 22, 23, 24, 25, 26, 27, 28, 29, 30, 31, 32, 33, 34, 35, 36, 37, 38, 39, 40, 41, 42, 48, 49] [0, 1, 2, 3, 4, 5, 6, 7, 8, 9, 10, 11, 12, 13, 14, 15, 16, 17, 18, 19, 20, 21, 22, 23, 24, 25, 26, 27, 28, 29, 30, 31, 32, 33, 34, 35, 36, 37, 38, 39, 40, 41, 42, 45, 46, 47, 48, 49, 43, 44] 5 0 ⟨hx, hb, hml, hown, hts⟩ hP hD hE hZ hS hA (cX7_lineAt_ok l g m0 m1 m2 m3 m4 μ (xs (Int32.toNatClampNeg (i + (1 : Int32)))) _ e_109) (cwV 1 hts gL_law_X7_lineAt rfl rfl rfl hdX7_lineAt ⟨(Nat.le_of_ble_eq_true rfl), (Nat.le_of_ble_eq_true rfl)⟩) rfl rfl rfl (by decide) (by decide) (by decide) (by decide) rfl rfl rfl rfl hl.1 rfl (Nat.le_of_ble_eq_true rfl) ⟨(by show _ ≤ (601024 : Nat); omega), (by show _ ≤ (7293034 : Nat); omega)⟩ dL_law_965 (fun H locs hP hD hS => ?_)
                                  refine lv_istore (lv' := [(7, .int r_109.1), (6, .int r_108.1), (0, .ref b), (1, .ref c0), (2, .ref m0), (3, .ref o0), (4, .ref e0), (5, .int i)]) hx hb dL_law_968 hl (by decide) rfl (fun ls hl => ?_)
                                  refine lv_aload_n hx hb dL_law_970 rfl (lv_at hl 4 rfl) ?_
                                  obtain ⟨r_110, e_110, hf⟩ := bo hf
                                  refine pcallV (W0 := (wC c0 h k0 x0 d0 ++ (wS g h a1 a2 a3 a4 σ ++ (wH g k0 k1 γ η ++ (wX g x0 x1 τ ++ (wD g d0 d1 d2 δ ++ (wM g m0 m1 m2 m3 m4 r_109.2 ++ (wO g o0 r_108.2 ++ (wE g e0 ε))))))))) (As := []) (rest := []) [43, 44, 45, 46, 47] 5 0 ⟨hx, hb, hml, hown, hts⟩ hP hE hZ hS (cX7_thrown_ok l g m0 m1 m2 m3 m4 r_109.2 e_110) (cwV 0 hts gL_law_X7_thrown rfl rfl rfl hdX7_thrown ⟨(Nat.le_of_ble_eq_true rfl), (Nat.le_of_ble_eq_true rfl)⟩) rfl rfl rfl rfl rfl hl.1 rfl (Nat.le_of_ble_eq_true rfl) ⟨(by show _ ≤ (601024 : Nat); omega), (by show _ ≤ (7293034 : Nat); omega)⟩ dL_law_971 ?_
                                  refine lv_iload hx hb dL_law_974 (lv_at hl 1 rfl) ?_
                                  refine lv_icmp_eq (tgt := 981) hx hb dL_law_976 (by decide) (fun c_111 => ?_) (fun c_111 => ?_)
                                  · have hf := ip c_111 hf
                                    refine lv_iload hx hb dL_law_981 (lv_at hl 1 rfl) ?_
                                    refine lv_if_ne (tgt := 998) hx hb dL_law_983 (by decide) (fun c_112 => ?_) (fun c_112 => ?_)
                                    · have hf := iq c_112 hf
                                      refine lv_goto (tgt := 2493) hx hb dL_law_998 (by decide) ?_
                                      refine lv_iinc (v := (i + 3)) (lv' := [(5, .int (i + 3)), (7, .int r_109.1), (6, .int r_108.1), (0, .ref b), (1, .ref c0), (2, .ref m0), (3, .ref o0), (4, .ref e0)]) hx hb dL_law_2493 hl (k := 7) rfl rfl (by decide) rfl (fun ls hl => ?_)
                                      refine lv_goto (tgt := 28) hx hb dL_law_2496 (by decide) ?_
                                      refine W.cs (cells' := cl + 1) (slots' := sl + 6) (by omega) (by omega) ?_
                                      exact ih (i + 3) σ η τ δ r_109.2 r_108.2 ε (cl + 1) (sl + 6) (by omega) (by omega) _ _ ls hP hD hS (lv_sub hl [3, 4, 5, 6, 7, 0] rfl) hf
                                    · have hf := ip c_112 hf
                                      refine lv_aload_n hx hb dL_law_986 rfl (lv_at hl 5 rfl) ?_
                                      refine lv_iconst (v := (0 : Int32)) hx hb dL_law_987 (by decide) ?_
                                      refine va_lald hx hb hE.1 hP 48 2 rfl rfl (vin (by decide)) dL_law_988 ?_
                                      refine lv_iload hx hb dL_law_989 (lv_at hl 0 rfl) ?_
                                      refine lv_i2l hx hb dL_law_991 rfl ?_
                                      refine W.lcmp hx hb dL_law_992 ?_
                                      refine lv_if_eq (tgt := 998) hx hb dL_law_993 (by decide) (fun c_113 => ?_) (fun c_113 => ?_)
                                      · have hf := ip c_113 hf
                                        refine lv_goto (tgt := 2493) hx hb dL_law_998 (by decide) ?_
                                        refine lv_iinc (v := (i + 3)) (lv' := [(5, .int (i + 3)), (7, .int r_109.1), (6, .int r_108.1), (0, .ref b), (1, .ref c0), (2, .ref m0), (3, .ref o0), (4, .ref e0)]) hx hb dL_law_2493 hl (k := 7) rfl rfl (by decide) rfl (fun ls hl => ?_)
                                        refine lv_goto (tgt := 28) hx hb dL_law_2496 (by decide) ?_
                                        refine W.cs (cells' := cl + 1) (slots' := sl + 6) (by omega) (by omega) ?_
                                        exact ih (i + 3) σ η τ δ r_109.2 r_108.2 ε (cl + 1) (sl + 6) (by omega) (by omega) _ _ ls hP hD hS (lv_sub hl [3, 4, 5, 6, 7, 0] rfl) hf
                                      · have hf := iq c_113 hf
                                        refine lv_iconst (v := (0 : Int32)) hx hb dL_law_996 (by decide) ?_
                                        exact absurd (Option.some.inj hf) (by decide)
                                  · have hf := iq c_111 hf
                                    refine lv_iconst (v := (0 : Int32)) hx hb dL_law_979 (by decide) ?_
                                    exact absurd (Option.some.inj hf) (by decide)
                                · have hf := iq s_106 hf
                                  by_cases s_114 : ((xs (Int32.toNatClampNeg i)) &&& (63 : Int32)) = (14 : Int32)
                                  · have hf := ip s_114 hf
                                    refine lv_tableIn (off := 957) (tgt := 1001) hx hb dL_law_44 (by rw [s_114]; decide) (by rw [s_114]; decide) (by rw [s_114]; rfl) (by decide) ?_
                                    refine lv_aload_n hx hb dL_law_1001 rfl (lv_at hl 1 rfl) ?_
                                    refine lv_aload_n hx hb dL_law_1002 rfl (lv_at hl 0 rfl) ?_
                                    refine lv_iload hx hb dL_law_1003 (lv_at hl 5 rfl) ?_
                                    refine lv_iconst (v := (1 : Int32)) hx hb dL_law_1005 (by decide) ?_
                                    refine lv_iadd hx hb dL_law_1006 ?_
                                    obtain ⟨h_115, hf⟩ := ck hf
                                    refine va_sld hx hb hX hbl hbA hS (vin h_115) dL_law_1007 ?_
                                    refine lv_aload_n hx hb dL_law_1008 rfl (lv_at hl 3 rfl) ?_
                                    obtain ⟨r_116, e_116, hf⟩ := bo hf
                                    refine lcallS (W0 := (wC c0 h k0 x0 d0 ++ (wS g h a1 a2 a3 a4 σ ++ (wH g k0 k1 γ η ++ (wX g x0 x1 τ ++ (wD g d0 d1 d2 δ ++ (wM g m0 m1 m2 m3 m4 μ ++ (wO g o0 ω ++ (wE g e0 ε))))))))) (Wc := (wC c0 h k0 x0 d0 ++ (wS g h a1 a2 a3 a4 σ ++ (wO g o0 ω)))) (Wr := (wH g k0 k1 γ η ++ (wX g x0 x1 τ ++ (wD g d0 d1 d2 δ ++ (wM g m0 m1 m2 m3 m4 μ ++ (wE g e0 ε)))))) (W1 := (wC c0 h k0 x0 d0 ++ (wS g h a1 a2 a3 a4 σ ++ (wO g o0 r_116.2)))) (W2 := (wC c0 h k0 x0 d0 ++ (wS g h a1 a2 a3 a4 σ ++ (wH g k0 k1 γ η ++ (wX g x0 x1 τ ++ (wD g d0 d1 d2 δ ++ (wM g m0 m1 m2 m3 m4 μ ++ (wO g o0 r_116.2 ++ (wE g e0 ε))))))))) (As := [.ref c0, .int (xs (Int32.toNatClampNeg (i + (1 : Int32)))), .ref o0]) (rest := []) [0, 1, 2, 3, 4, 5, 48] [6, 7, 8, 9, 10, 11, 12, 13, 14, 15, 16, 17, 18, 19, 20, 21, 22, 23, 24, 25, 26, 27, 28, 29, 30, 31, 32, 33, 34, 35, 36, 37, 38, 39, 40, 41, 42, 43, 44, 45, 46, 47, 49] [43, 44, 45, 46, 47, 48, 0, 1, 2, 3, 4, 5, 6, 7, 8, 9, 10, 11, 12, 13, 14, 15, 16, 17, 18, 19, 20, 21, 22, 23, 24, 25, 26, 27, 28, 29, 30, 31, 32, 33, 34, 35, 36, 37, 38, 39, 40, 41, 49, 42] ⟨hx, hb, hml, hown, hts⟩ hP hD hE hZ hS hA (cL_isClosed_ok l hl0 g c0 h k0 x0 d0 a1 a2 a3 a4 o0 σ ω (xs (Int32.toNatClampNeg (i + (1 : Int32)))) _ e_116) (vx_cwSW 3 hts gL_law_L_isClosed rfl rfl rfl hdL_isClosed.2 ⟨(Nat.le_of_ble_eq_true rfl), (Nat.le_of_ble_eq_true rfl)⟩) rfl rfl rfl (by decide) (by decide) (by decide) (by decide) rfl hl.1 rfl (Nat.le_of_ble_eq_true rfl) ⟨(by show _ ≤ (601024 : Nat); omega), (by show _ ≤ (7293034 : Nat); omega)⟩ dL_law_1009 (fun H locs hP hD hS => ?_)
                                    refine lv_istore (lv' := [(6, .int r_116.1), (0, .ref b), (1, .ref c0), (2, .ref m0), (3, .ref o0), (4, .ref e0), (5, .int i)]) hx hb dL_law_1012 hl (by decide) rfl (fun ls hl => ?_)
                                    refine lv_aload_n hx hb dL_law_1014 rfl (lv_at hl 3 rfl) ?_
                                    refine lv_aload_n hx hb dL_law_1015 rfl (lv_at hl 1 rfl) ?_
                                    refine lv_iload hx hb dL_law_1016 (lv_at hl 6 rfl) ?_
                                    refine lv_iconst (v := (1 : Int32)) hx hb dL_law_1018 (by decide) ?_
                                    refine lv_iadd hx hb dL_law_1019 ?_
                                    refine va_sld hx hb hX hbl hbA hS (vin h_115) dL_law_1020 ?_
                                    obtain ⟨r_117, e_117, hf⟩ := bo hf
                                    refine mcallVi (W0 := (wC c0 h k0 x0 d0 ++ (wS g h a1 a2 a3 a4 σ ++ (wH g k0 k1 γ η ++ (wX g x0 x1 τ ++ (wD g d0 d1 d2 δ ++ (wM g m0 m1 m2 m3 m4 μ ++ (wO g o0 r_116.2 ++ (wE g e0 ε))))))))) (Wc := (wM g m0 m1 m2 m3 m4 μ)) (Wr := (wC c0 h k0 x0 d0 ++ (wS g h a1 a2 a3 a4 σ ++ (wH g k0 k1 γ η ++ (wX g x0 x1 τ ++ (wD g d0 d1 d2 δ ++ (wO g o0 r_116.2 ++ (wE g e0 ε)))))))) (W1 := (wM g m0 m1 m2 m3 m4 r_117.2)) (W2 := (wC c0 h k0 x0 d0 ++ (wS g h a1 a2 a3 a4 σ ++ (wH g k0 k1 γ η ++ (wX g x0 x1 τ ++ (wD g d0 d1 d2 δ ++ (wM g m0 m1 m2 m3 m4 r_117.2 ++ (wO g o0 r_116.2 ++ (wE g e0 ε))))))))) (As := [.int (xs (Int32.toNatClampNeg (i + (1 : Int32))))]) (rest := []) [43, 44, 45, 46, 47] [0, 1, 2, 3, 4, 5, 6, 7, 8, 9, 10, 11, 12, 13, 14, 15, 16, 17, 18, 19, 20, 21, 22, 23, 24, 25, 26, 27, 28, 29, 30, 31, 32, 33, 34, 35, 36, 37, 38, 39, 40, 41, 42, 48, 49] [0, 1, 2, 3, 4, 5, 6, 7, 8, 9, 10, 11, 12, 13, 14, 15, 16, 17, 18, 19, 20, 21, 22, 23, 24, 25, 26, 27, 28, 29, 30, 31, 32, 33, 34, 35, 36, 37, 38, 39, 40, 41, 42, 45, 46, 47, 48, 49, 43, 44] 5 0 ⟨hx, hb, hml, hown, hts⟩ hP hD hE hZ hS hA (cX7_isClosed_ok l g m0 m1 m2 m3 m4 μ (xs (Int32.toNatClampNeg (i + (1 : Int32)))) _ e_117) (cwV 1 hts gL_law_X7_isClosed rfl rfl rfl hdX7_isClosed ⟨(Nat.le_of_ble_eq_true rfl), (Nat.le_of_ble_eq_true rfl)⟩) rfl rfl rfl (by decide) (by decide) (by decide) (by decide) rfl rfl rfl rfl hl.1 rfl (Nat.le_of_ble_eq_true rfl) ⟨(by show _ ≤ (601024 : Nat); omega), (by show _ ≤ (7293034 : Nat); omega)⟩ dL_law_1021 (fun H locs hP hD hS => ?_)
                                    refine lv_istore (lv' := [(7, .int (b2i r_117.1)), (6, .int r_116.1), (0, .ref b), (1, .ref c0), (2, .ref m0), (3, .ref o0), (4, .ref e0), (5, .int i)]) hx hb dL_law_1024 hl (by decide) rfl (fun ls hl => ?_)
                                    refine lv_aload_n hx hb dL_law_1026 rfl (lv_at hl 4 rfl) ?_
                                    obtain ⟨r_118, e_118, hf⟩ := bo hf
                                    refine pcallV (W0 := (wC c0 h k0 x0 d0 ++ (wS g h a1 a2 a3 a4 σ ++ (wH g k0 k1 γ η ++ (wX g x0 x1 τ ++ (wD g d0 d1 d2 δ ++ (wM g m0 m1 m2 m3 m4 r_117.2 ++ (wO g o0 r_116.2 ++ (wE g e0 ε))))))))) (As := []) (rest := []) [43, 44, 45, 46, 47] 5 0 ⟨hx, hb, hml, hown, hts⟩ hP hE hZ hS (cX7_thrown_ok l g m0 m1 m2 m3 m4 r_117.2 e_118) (cwV 0 hts gL_law_X7_thrown rfl rfl rfl hdX7_thrown ⟨(Nat.le_of_ble_eq_true rfl), (Nat.le_of_ble_eq_true rfl)⟩) rfl rfl rfl rfl rfl hl.1 rfl (Nat.le_of_ble_eq_true rfl) ⟨(by show _ ≤ (601024 : Nat); omega), (by show _ ≤ (7293034 : Nat); omega)⟩ dL_law_1027 ?_
                                    refine lv_iload hx hb dL_law_1030 (lv_at hl 1 rfl) ?_
                                    refine lv_icmp_eq (tgt := 1037) hx hb dL_law_1032 (by decide) (fun c_119 => ?_) (fun c_119 => ?_)
                                    · have hf := ip c_119 hf
                                      refine lv_iload hx hb dL_law_1037 (lv_at hl 1 rfl) ?_
                                      refine lv_if_ne (tgt := 1061) hx hb dL_law_1039 (by decide) (fun c_120 => ?_) (fun c_120 => ?_)
                                      · have hf := iq c_120 hf
                                        refine lv_goto (tgt := 2493) hx hb dL_law_1061 (by decide) ?_
                                        refine lv_iinc (v := (i + 3)) (lv' := [(5, .int (i + 3)), (7, .int (b2i r_117.1)), (6, .int r_116.1), (0, .ref b), (1, .ref c0), (2, .ref m0), (3, .ref o0), (4, .ref e0)]) hx hb dL_law_2493 hl (k := 7) rfl rfl (by decide) rfl (fun ls hl => ?_)
                                        refine lv_goto (tgt := 28) hx hb dL_law_2496 (by decide) ?_
                                        refine W.cs (cells' := cl + 1) (slots' := sl + 6) (by omega) (by omega) ?_
                                        exact ih (i + 3) σ η τ δ r_117.2 r_116.2 ε (cl + 1) (sl + 6) (by omega) (by omega) _ _ ls hP hD hS (lv_sub hl [3, 4, 5, 6, 7, 0] rfl) hf
                                      · have hf := ip c_120 hf
                                        refine lv_aload_n hx hb dL_law_1042 rfl (lv_at hl 5 rfl) ?_
                                        refine lv_iconst (v := (0 : Int32)) hx hb dL_law_1043 (by decide) ?_
                                        refine va_lald hx hb hE.1 hP 48 2 rfl rfl (vin (by decide)) dL_law_1044 ?_
                                        refine lv_iload hx hb dL_law_1045 (lv_at hl 0 rfl) ?_
                                        refine lv_beq (tgt := 1054) hx hb dL_law_1047 (by decide) (fun c_121 => ?_) (fun c_121 => ?_)
                                        · have hf := iq c_121 hf
                                          refine lv_lconst (v := 0) hx hb dL_law_1054 (by decide) ?_
                                          refine W.lcmp hx hb dL_law_1055 ?_
                                          refine lv_if_eq (tgt := 1061) hx hb dL_law_1056 (by decide) (fun c_122 => ?_) (fun c_122 => ?_)
                                          · have hf := ip c_122 hf
                                            refine lv_goto (tgt := 2493) hx hb dL_law_1061 (by decide) ?_
                                            refine lv_iinc (v := (i + 3)) (lv' := [(5, .int (i + 3)), (7, .int (b2i r_117.1)), (6, .int r_116.1), (0, .ref b), (1, .ref c0), (2, .ref m0), (3, .ref o0), (4, .ref e0)]) hx hb dL_law_2493 hl (k := 7) rfl rfl (by decide) rfl (fun ls hl => ?_)
                                            refine lv_goto (tgt := 28) hx hb dL_law_2496 (by decide) ?_
                                            refine W.cs (cells' := cl + 1) (slots' := sl + 6) (by omega) (by omega) ?_
                                            exact ih (i + 3) σ η τ δ r_117.2 r_116.2 ε (cl + 1) (sl + 6) (by omega) (by omega) _ _ ls hP hD hS (lv_sub hl [3, 4, 5, 6, 7, 0] rfl) hf
                                          · have hf := iq c_122 hf
                                            refine lv_iconst (v := (0 : Int32)) hx hb dL_law_1059 (by decide) ?_
                                            exact absurd (Option.some.inj hf) (by decide)
                                        · have hf := ip c_121 hf
                                          refine lv_lconst (v := 1) hx hb dL_law_1050 (by decide) ?_
                                          refine lv_goto (tgt := 1055) hx hb dL_law_1051 (by decide) ?_
                                          refine W.lcmp hx hb dL_law_1055 ?_
                                          refine lv_if_eq (tgt := 1061) hx hb dL_law_1056 (by decide) (fun c_123 => ?_) (fun c_123 => ?_)
                                          · have hf := ip c_123 hf
                                            refine lv_goto (tgt := 2493) hx hb dL_law_1061 (by decide) ?_
                                            refine lv_iinc (v := (i + 3)) (lv' := [(5, .int (i + 3)), (7, .int (b2i r_117.1)), (6, .int r_116.1), (0, .ref b), (1, .ref c0), (2, .ref m0), (3, .ref o0), (4, .ref e0)]) hx hb dL_law_2493 hl (k := 7) rfl rfl (by decide) rfl (fun ls hl => ?_)
                                            refine lv_goto (tgt := 28) hx hb dL_law_2496 (by decide) ?_
                                            refine W.cs (cells' := cl + 1) (slots' := sl + 6) (by omega) (by omega) ?_
                                            exact ih (i + 3) σ η τ δ r_117.2 r_116.2 ε (cl + 1) (sl + 6) (by omega) (by omega) _ _ ls hP hD hS (lv_sub hl [3, 4, 5, 6, 7, 0] rfl) hf
                                          · have hf := iq c_123 hf
                                            refine lv_iconst (v := (0 : Int32)) hx hb dL_law_1059 (by decide) ?_
                                            exact absurd (Option.some.inj hf) (by decide)
                                    · have hf := iq c_119 hf
                                      refine lv_iconst (v := (0 : Int32)) hx hb dL_law_1035 (by decide) ?_
                                      exact absurd (Option.some.inj hf) (by decide)
                                  · have hf := iq s_114 hf
                                    by_cases s_124 : ((xs (Int32.toNatClampNeg i)) &&& (63 : Int32)) = (15 : Int32)
                                    · have hf := ip s_124 hf
                                      refine lv_tableIn (off := 1020) (tgt := 1064) hx hb dL_law_44 (by rw [s_124]; decide) (by rw [s_124]; decide) (by rw [s_124]; rfl) (by decide) ?_
                                      refine lv_aload_n hx hb dL_law_1064 rfl (lv_at hl 1 rfl) ?_
                                      refine lv_aload_n hx hb dL_law_1065 rfl (lv_at hl 0 rfl) ?_
                                      refine lv_iload hx hb dL_law_1066 (lv_at hl 5 rfl) ?_
                                      refine lv_iconst (v := (1 : Int32)) hx hb dL_law_1068 (by decide) ?_
                                      refine lv_iadd hx hb dL_law_1069 ?_
                                      obtain ⟨h_125, hf⟩ := ck hf
                                      refine va_sld hx hb hX hbl hbA hS (vin h_125) dL_law_1070 ?_
                                      refine lv_aload_n hx hb dL_law_1071 rfl (lv_at hl 0 rfl) ?_
                                      refine lv_iload hx hb dL_law_1072 (lv_at hl 5 rfl) ?_
                                      refine lv_iconst (v := (2 : Int32)) hx hb dL_law_1074 (by decide) ?_
                                      refine lv_iadd hx hb dL_law_1075 ?_
                                      obtain ⟨h_126, hf⟩ := ck hf
                                      refine va_sld hx hb hX hbl hbA hS (vin h_126) dL_law_1076 ?_
                                      refine lv_aload_n hx hb dL_law_1077 rfl (lv_at hl 3 rfl) ?_
                                      obtain ⟨r_127, e_127, hf⟩ := bo hf
                                      refine lcallS (W0 := (wC c0 h k0 x0 d0 ++ (wS g h a1 a2 a3 a4 σ ++ (wH g k0 k1 γ η ++ (wX g x0 x1 τ ++ (wD g d0 d1 d2 δ ++ (wM g m0 m1 m2 m3 m4 μ ++ (wO g o0 ω ++ (wE g e0 ε))))))))) (Wc := (wC c0 h k0 x0 d0 ++ (wS g h a1 a2 a3 a4 σ ++ (wO g o0 ω)))) (Wr := (wH g k0 k1 γ η ++ (wX g x0 x1 τ ++ (wD g d0 d1 d2 δ ++ (wM g m0 m1 m2 m3 m4 μ ++ (wE g e0 ε)))))) (W1 := (wC c0 h k0 x0 d0 ++ (wS g h a1 a2 a3 a4 σ ++ (wO g o0 r_127.2)))) (W2 := (wC c0 h k0 x0 d0 ++ (wS g h a1 a2 a3 a4 σ ++ (wH g k0 k1 γ η ++ (wX g x0 x1 τ ++ (wD g d0 d1 d2 δ ++ (wM g m0 m1 m2 m3 m4 μ ++ (wO g o0 r_127.2 ++ (wE g e0 ε))))))))) (As := [.ref c0, .int (xs (Int32.toNatClampNeg (i + (1 : Int32)))), .int (xs (Int32.toNatClampNeg (i + (2 : Int32)))), .ref o0]) (rest := []) [0, 1, 2, 3, 4, 5, 48] [6, 7, 8, 9, 10, 11, 12, 13, 14, 15, 16, 17, 18, 19, 20, 21, 22, 23, 24, 25, 26, 27, 28, 29, 30, 31, 32, 33, 34, 35, 36, 37, 38, 39, 40, 41, 42, 43, 44, 45, 46, 47, 49] [43, 44, 45, 46, 47, 48, 0, 1, 2, 3, 4, 5, 6, 7, 8, 9, 10, 11, 12, 13, 14, 15, 16, 17, 18, 19, 20, 21, 22, 23, 24, 25, 26, 27, 28, 29, 30, 31, 32, 33, 34, 35, 36, 37, 38, 39, 40, 41, 49, 42] ⟨hx, hb, hml, hown, hts⟩ hP hD hE hZ hS hA (cL_whyNotStepped_ok l hl0 g c0 h k0 x0 d0 a1 a2 a3 a4 o0 σ ω (xs (Int32.toNatClampNeg (i + (1 : Int32)))) (xs (Int32.toNatClampNeg (i + (2 : Int32)))) _ e_127) (vx_cwSW 4 hts gL_law_L_whyNotStepped rfl rfl rfl hdL_whyNotStepped.2 ⟨(Nat.le_of_ble_eq_true rfl), (Nat.le_of_ble_eq_true rfl)⟩) rfl rfl rfl (by decide) (by decide) (by decide) (by decide) rfl hl.1 rfl (Nat.le_of_ble_eq_true rfl) ⟨(by show _ ≤ (601024 : Nat); omega), (by show _ ≤ (7293034 : Nat); omega)⟩ dL_law_1078 (fun H locs hP hD hS => ?_)
                                      refine lv_istore (lv' := [(6, .int r_127.1), (0, .ref b), (1, .ref c0), (2, .ref m0), (3, .ref o0), (4, .ref e0), (5, .int i)]) hx hb dL_law_1081 hl (by decide) rfl (fun ls hl => ?_)
                                      refine lv_aload_n hx hb dL_law_1083 rfl (lv_at hl 3 rfl) ?_
                                      refine lv_aload_n hx hb dL_law_1084 rfl (lv_at hl 1 rfl) ?_
                                      refine lv_iload hx hb dL_law_1085 (lv_at hl 6 rfl) ?_
                                      refine lv_iconst (v := (1 : Int32)) hx hb dL_law_1087 (by decide) ?_
                                      refine lv_iadd hx hb dL_law_1088 ?_
                                      refine va_sld hx hb hX hbl hbA hS (vin h_125) dL_law_1089 ?_
                                      refine lv_aload_n hx hb dL_law_1090 rfl (lv_at hl 1 rfl) ?_
                                      refine lv_iload hx hb dL_law_1091 (lv_at hl 6 rfl) ?_
                                      refine lv_iconst (v := (2 : Int32)) hx hb dL_law_1093 (by decide) ?_
                                      refine lv_iadd hx hb dL_law_1094 ?_
                                      refine va_sld hx hb hX hbl hbA hS (vin h_126) dL_law_1095 ?_
                                      obtain ⟨r_128, e_128, hf⟩ := bo hf
                                      refine mcallVi (W0 := (wC c0 h k0 x0 d0 ++ (wS g h a1 a2 a3 a4 σ ++ (wH g k0 k1 γ η ++ (wX g x0 x1 τ ++ (wD g d0 d1 d2 δ ++ (wM g m0 m1 m2 m3 m4 μ ++ (wO g o0 r_127.2 ++ (wE g e0 ε))))))))) (Wc := (wM g m0 m1 m2 m3 m4 μ)) (Wr := (wC c0 h k0 x0 d0 ++ (wS g h a1 a2 a3 a4 σ ++ (wH g k0 k1 γ η ++ (wX g x0 x1 τ ++ (wD g d0 d1 d2 δ ++ (wO g o0 r_127.2 ++ (wE g e0 ε)))))))) (W1 := (wM g m0 m1 m2 m3 m4 r_128.2)) (W2 := (wC c0 h k0 x0 d0 ++ (wS g h a1 a2 a3 a4 σ ++ (wH g k0 k1 γ η ++ (wX g x0 x1 τ ++ (wD g d0 d1 d2 δ ++ (wM g m0 m1 m2 m3 m4 r_128.2 ++ (wO g o0 r_127.2 ++ (wE g e0 ε))))))))) (As := [.int (xs (Int32.toNatClampNeg (i + (1 : Int32)))), .int (xs (Int32.toNatClampNeg (i + (2 : Int32))))]) (rest := []) [43, 44, 45, 46, 47] [0, 1, 2, 3, 4, 5, 6, 7, 8, 9, 10, 11, 12, 13, 14, 15, 16, 17, 18, 19, 20, 21, 22, 23, 24, 25, 26, 27, 28, 29, 30, 31, 32, 33, 34, 35, 36, 37, 38, 39, 40, 41, 42, 48, 49] [0, 1, 2, 3, 4, 5, 6, 7, 8, 9, 10, 11, 12, 13, 14, 15, 16, 17, 18, 19, 20, 21, 22, 23, 24, 25, 26, 27, 28, 29, 30, 31, 32, 33, 34, 35, 36, 37, 38, 39, 40, 41, 42, 45, 46, 47, 48, 49, 43, 44] 5 0 ⟨hx, hb, hml, hown, hts⟩ hP hD hE hZ hS hA (cX7_whyNotStepped_ok l g m0 m1 m2 m3 m4 μ (xs (Int32.toNatClampNeg (i + (1 : Int32)))) (xs (Int32.toNatClampNeg (i + (2 : Int32)))) _ e_128) (cwV 2 hts gL_law_X7_whyNotStepped rfl rfl rfl hdX7_whyNotStepped ⟨(Nat.le_of_ble_eq_true rfl), (Nat.le_of_ble_eq_true rfl)⟩) rfl rfl rfl (by decide) (by decide) (by decide) (by decide) rfl rfl rfl rfl hl.1 rfl (Nat.le_of_ble_eq_true rfl) ⟨(by show _ ≤ (601024 : Nat); omega), (by show _ ≤ (7293034 : Nat); omega)⟩ dL_law_1096 (fun H locs hP hD hS => ?_)
                                      refine lv_istore (lv' := [(7, .int r_128.1), (6, .int r_127.1), (0, .ref b), (1, .ref c0), (2, .ref m0), (3, .ref o0), (4, .ref e0), (5, .int i)]) hx hb dL_law_1099 hl (by decide) rfl (fun ls hl => ?_)
                                      refine lv_aload_n hx hb dL_law_1101 rfl (lv_at hl 4 rfl) ?_
                                      obtain ⟨r_129, e_129, hf⟩ := bo hf
                                      refine pcallV (W0 := (wC c0 h k0 x0 d0 ++ (wS g h a1 a2 a3 a4 σ ++ (wH g k0 k1 γ η ++ (wX g x0 x1 τ ++ (wD g d0 d1 d2 δ ++ (wM g m0 m1 m2 m3 m4 r_128.2 ++ (wO g o0 r_127.2 ++ (wE g e0 ε))))))))) (As := []) (rest := []) [43, 44, 45, 46, 47] 5 0 ⟨hx, hb, hml, hown, hts⟩ hP hE hZ hS (cX7_thrown_ok l g m0 m1 m2 m3 m4 r_128.2 e_129) (cwV 0 hts gL_law_X7_thrown rfl rfl rfl hdX7_thrown ⟨(Nat.le_of_ble_eq_true rfl), (Nat.le_of_ble_eq_true rfl)⟩) rfl rfl rfl rfl rfl hl.1 rfl (Nat.le_of_ble_eq_true rfl) ⟨(by show _ ≤ (601024 : Nat); omega), (by show _ ≤ (7293034 : Nat); omega)⟩ dL_law_1102 ?_
                                      refine lv_iload hx hb dL_law_1105 (lv_at hl 1 rfl) ?_
                                      refine lv_icmp_eq (tgt := 1112) hx hb dL_law_1107 (by decide) (fun c_130 => ?_) (fun c_130 => ?_)
                                      · have hf := ip c_130 hf
                                        refine lv_iload hx hb dL_law_1112 (lv_at hl 1 rfl) ?_
                                        refine lv_if_ne (tgt := 1129) hx hb dL_law_1114 (by decide) (fun c_131 => ?_) (fun c_131 => ?_)
                                        · have hf := iq c_131 hf
                                          refine lv_goto (tgt := 2493) hx hb dL_law_1129 (by decide) ?_
                                          refine lv_iinc (v := (i + 3)) (lv' := [(5, .int (i + 3)), (7, .int r_128.1), (6, .int r_127.1), (0, .ref b), (1, .ref c0), (2, .ref m0), (3, .ref o0), (4, .ref e0)]) hx hb dL_law_2493 hl (k := 7) rfl rfl (by decide) rfl (fun ls hl => ?_)
                                          refine lv_goto (tgt := 28) hx hb dL_law_2496 (by decide) ?_
                                          refine W.cs (cells' := cl + 2) (slots' := sl + 12) (by omega) (by omega) ?_
                                          exact ih (i + 3) σ η τ δ r_128.2 r_127.2 ε (cl + 2) (sl + 12) (by omega) (by omega) _ _ ls hP hD hS (lv_sub hl [3, 4, 5, 6, 7, 0] rfl) hf
                                        · have hf := ip c_131 hf
                                          refine lv_aload_n hx hb dL_law_1117 rfl (lv_at hl 5 rfl) ?_
                                          refine lv_iconst (v := (0 : Int32)) hx hb dL_law_1118 (by decide) ?_
                                          refine va_lald hx hb hE.1 hP 48 2 rfl rfl (vin (by decide)) dL_law_1119 ?_
                                          refine lv_iload hx hb dL_law_1120 (lv_at hl 0 rfl) ?_
                                          refine lv_i2l hx hb dL_law_1122 rfl ?_
                                          refine W.lcmp hx hb dL_law_1123 ?_
                                          refine lv_if_eq (tgt := 1129) hx hb dL_law_1124 (by decide) (fun c_132 => ?_) (fun c_132 => ?_)
                                          · have hf := ip c_132 hf
                                            refine lv_goto (tgt := 2493) hx hb dL_law_1129 (by decide) ?_
                                            refine lv_iinc (v := (i + 3)) (lv' := [(5, .int (i + 3)), (7, .int r_128.1), (6, .int r_127.1), (0, .ref b), (1, .ref c0), (2, .ref m0), (3, .ref o0), (4, .ref e0)]) hx hb dL_law_2493 hl (k := 7) rfl rfl (by decide) rfl (fun ls hl => ?_)
                                            refine lv_goto (tgt := 28) hx hb dL_law_2496 (by decide) ?_
                                            refine W.cs (cells' := cl + 2) (slots' := sl + 12) (by omega) (by omega) ?_
                                            exact ih (i + 3) σ η τ δ r_128.2 r_127.2 ε (cl + 2) (sl + 12) (by omega) (by omega) _ _ ls hP hD hS (lv_sub hl [3, 4, 5, 6, 7, 0] rfl) hf
                                          · have hf := iq c_132 hf
                                            refine lv_iconst (v := (0 : Int32)) hx hb dL_law_1127 (by decide) ?_
                                            exact absurd (Option.some.inj hf) (by decide)
                                      · have hf := iq c_130 hf
                                        refine lv_iconst (v := (0 : Int32)) hx hb dL_law_1110 (by decide) ?_
                                        exact absurd (Option.some.inj hf) (by decide)
                                    · have hf := iq s_124 hf
                                      by_cases s_133 : ((xs (Int32.toNatClampNeg i)) &&& (63 : Int32)) = (16 : Int32)
                                      · have hf := ip s_133 hf
                                        refine lv_tableIn (off := 1088) (tgt := 1132) hx hb dL_law_44 (by rw [s_133]; decide) (by rw [s_133]; decide) (by rw [s_133]; rfl) (by decide) ?_
                                        refine lv_aload_n hx hb dL_law_1132 rfl (lv_at hl 1 rfl) ?_
                                        refine lv_aload_n hx hb dL_law_1133 rfl (lv_at hl 0 rfl) ?_
                                        refine lv_iload hx hb dL_law_1134 (lv_at hl 5 rfl) ?_
                                        refine lv_iconst (v := (1 : Int32)) hx hb dL_law_1136 (by decide) ?_
                                        refine lv_iadd hx hb dL_law_1137 ?_
                                        obtain ⟨h_134, hf⟩ := ck hf
                                        refine va_sld hx hb hX hbl hbA hS (vin h_134) dL_law_1138 ?_
                                        refine lv_aload_n hx hb dL_law_1139 rfl (lv_at hl 0 rfl) ?_
                                        refine lv_iload hx hb dL_law_1140 (lv_at hl 5 rfl) ?_
                                        refine lv_iconst (v := (2 : Int32)) hx hb dL_law_1142 (by decide) ?_
                                        refine lv_iadd hx hb dL_law_1143 ?_
                                        obtain ⟨h_135, hf⟩ := ck hf
                                        refine va_sld hx hb hX hbl hbA hS (vin h_135) dL_law_1144 ?_
                                        refine lv_aload_n hx hb dL_law_1145 rfl (lv_at hl 3 rfl) ?_
                                        obtain ⟨r_136, e_136, hf⟩ := bo hf
                                        refine lcallS (W0 := (wC c0 h k0 x0 d0 ++ (wS g h a1 a2 a3 a4 σ ++ (wH g k0 k1 γ η ++ (wX g x0 x1 τ ++ (wD g d0 d1 d2 δ ++ (wM g m0 m1 m2 m3 m4 μ ++ (wO g o0 ω ++ (wE g e0 ε))))))))) (Wc := (wC c0 h k0 x0 d0 ++ (wS g h a1 a2 a3 a4 σ ++ (wO g o0 ω)))) (Wr := (wH g k0 k1 γ η ++ (wX g x0 x1 τ ++ (wD g d0 d1 d2 δ ++ (wM g m0 m1 m2 m3 m4 μ ++ (wE g e0 ε)))))) (W1 := (wC c0 h k0 x0 d0 ++ (wS g h a1 a2 a3 a4 σ ++ (wO g o0 r_136.2)))) (W2 := (wC c0 h k0 x0 d0 ++ (wS g h a1 a2 a3 a4 σ ++ (wH g k0 k1 γ η ++ (wX g x0 x1 τ ++ (wD g d0 d1 d2 δ ++ (wM g m0 m1 m2 m3 m4 μ ++ (wO g o0 r_136.2 ++ (wE g e0 ε))))))))) (As := [.ref c0, .int (xs (Int32.toNatClampNeg (i + (1 : Int32)))), .int (xs (Int32.toNatClampNeg (i + (2 : Int32)))), .ref o0]) (rest := []) [0, 1, 2, 3, 4, 5, 48] [6, 7, 8, 9, 10, 11, 12, 13, 14, 15, 16, 17, 18, 19, 20, 21, 22, 23, 24, 25, 26, 27, 28, 29, 30, 31, 32, 33, 34, 35, 36, 37, 38, 39, 40, 41, 42, 43, 44, 45, 46, 47, 49] [43, 44, 45, 46, 47, 48, 0, 1, 2, 3, 4, 5, 6, 7, 8, 9, 10, 11, 12, 13, 14, 15, 16, 17, 18, 19, 20, 21, 22, 23, 24, 25, 26, 27, 28, 29, 30, 31, 32, 33, 34, 35, 36, 37, 38, 39, 40, 41, 49, 42] ⟨hx, hb, hml, hown, hts⟩ hP hD hE hZ hS hA (cL_bendAt_ok l hl0 g c0 h k0 x0 d0 a1 a2 a3 a4 o0 σ ω (xs (Int32.toNatClampNeg (i + (1 : Int32)))) (xs (Int32.toNatClampNeg (i + (2 : Int32)))) _ e_136) (vx_cwSW 4 hts gL_law_L_bendAt rfl rfl rfl hdL_bendAt.2 ⟨(Nat.le_of_ble_eq_true rfl), (Nat.le_of_ble_eq_true rfl)⟩) rfl rfl rfl (by decide) (by decide) (by decide) (by decide) rfl hl.1 rfl (Nat.le_of_ble_eq_true rfl) ⟨(by show _ ≤ (601024 : Nat); omega), (by show _ ≤ (7293034 : Nat); omega)⟩ dL_law_1146 (fun H locs hP hD hS => ?_)
                                        refine lv_istore (lv' := [(6, .int r_136.1), (0, .ref b), (1, .ref c0), (2, .ref m0), (3, .ref o0), (4, .ref e0), (5, .int i)]) hx hb dL_law_1149 hl (by decide) rfl (fun ls hl => ?_)
                                        refine lv_aload_n hx hb dL_law_1151 rfl (lv_at hl 3 rfl) ?_
                                        refine lv_aload_n hx hb dL_law_1152 rfl (lv_at hl 1 rfl) ?_
                                        refine lv_iload hx hb dL_law_1153 (lv_at hl 6 rfl) ?_
                                        refine lv_iconst (v := (1 : Int32)) hx hb dL_law_1155 (by decide) ?_
                                        refine lv_iadd hx hb dL_law_1156 ?_
                                        refine va_sld hx hb hX hbl hbA hS (vin h_134) dL_law_1157 ?_
                                        refine lv_aload_n hx hb dL_law_1158 rfl (lv_at hl 1 rfl) ?_
                                        refine lv_iload hx hb dL_law_1159 (lv_at hl 6 rfl) ?_
                                        refine lv_iconst (v := (2 : Int32)) hx hb dL_law_1161 (by decide) ?_
                                        refine lv_iadd hx hb dL_law_1162 ?_
                                        refine va_sld hx hb hX hbl hbA hS (vin h_135) dL_law_1163 ?_
                                        obtain ⟨r_137, e_137, hf⟩ := bo hf
                                        refine mcallVi (W0 := (wC c0 h k0 x0 d0 ++ (wS g h a1 a2 a3 a4 σ ++ (wH g k0 k1 γ η ++ (wX g x0 x1 τ ++ (wD g d0 d1 d2 δ ++ (wM g m0 m1 m2 m3 m4 μ ++ (wO g o0 r_136.2 ++ (wE g e0 ε))))))))) (Wc := (wM g m0 m1 m2 m3 m4 μ)) (Wr := (wC c0 h k0 x0 d0 ++ (wS g h a1 a2 a3 a4 σ ++ (wH g k0 k1 γ η ++ (wX g x0 x1 τ ++ (wD g d0 d1 d2 δ ++ (wO g o0 r_136.2 ++ (wE g e0 ε)))))))) (W1 := (wM g m0 m1 m2 m3 m4 r_137.2)) (W2 := (wC c0 h k0 x0 d0 ++ (wS g h a1 a2 a3 a4 σ ++ (wH g k0 k1 γ η ++ (wX g x0 x1 τ ++ (wD g d0 d1 d2 δ ++ (wM g m0 m1 m2 m3 m4 r_137.2 ++ (wO g o0 r_136.2 ++ (wE g e0 ε))))))))) (As := [.int (xs (Int32.toNatClampNeg (i + (1 : Int32)))), .int (xs (Int32.toNatClampNeg (i + (2 : Int32))))]) (rest := []) [43, 44, 45, 46, 47] [0, 1, 2, 3, 4, 5, 6, 7, 8, 9, 10, 11, 12, 13, 14, 15, 16, 17, 18, 19, 20, 21, 22, 23, 24, 25, 26, 27, 28, 29, 30, 31, 32, 33, 34, 35, 36, 37, 38, 39, 40, 41, 42, 48, 49] [0, 1, 2, 3, 4, 5, 6, 7, 8, 9, 10, 11, 12, 13, 14, 15, 16, 17, 18, 19, 20, 21, 22, 23, 24, 25, 26, 27, 28, 29, 30, 31, 32, 33, 34, 35, 36, 37, 38, 39, 40, 41, 42, 45, 46, 47, 48, 49, 43, 44] 5 0 ⟨hx, hb, hml, hown, hts⟩ hP hD hE hZ hS hA (cX7_bendAt_ok l g m0 m1 m2 m3 m4 μ (xs (Int32.toNatClampNeg (i + (1 : Int32)))) (xs (Int32.toNatClampNeg (i + (2 : Int32)))) _ e_137) (cwV 2 hts gL_law_X7_bendAt rfl rfl rfl hdX7_bendAt ⟨(Nat.le_of_ble_eq_true rfl), (Nat.le_of_ble_eq_true rfl)⟩) rfl rfl rfl (by decide) (by decide) (by decide) (by decide) rfl rfl rfl rfl hl.1 rfl (Nat.le_of_ble_eq_true rfl) ⟨(by show _ ≤ (601024 : Nat); omega), (by show _ ≤ (7293034 : Nat); omega)⟩ dL_law_1164 (fun H locs hP hD hS => ?_)
                                        refine lv_istore (lv' := [(7, .int r_137.1), (6, .int r_136.1), (0, .ref b), (1, .ref c0), (2, .ref m0), (3, .ref o0), (4, .ref e0), (5, .int i)]) hx hb dL_law_1167 hl (by decide) rfl (fun ls hl => ?_)
                                        refine lv_aload_n hx hb dL_law_1169 rfl (lv_at hl 4 rfl) ?_
                                        obtain ⟨r_138, e_138, hf⟩ := bo hf
                                        refine pcallV (W0 := (wC c0 h k0 x0 d0 ++ (wS g h a1 a2 a3 a4 σ ++ (wH g k0 k1 γ η ++ (wX g x0 x1 τ ++ (wD g d0 d1 d2 δ ++ (wM g m0 m1 m2 m3 m4 r_137.2 ++ (wO g o0 r_136.2 ++ (wE g e0 ε))))))))) (As := []) (rest := []) [43, 44, 45, 46, 47] 5 0 ⟨hx, hb, hml, hown, hts⟩ hP hE hZ hS (cX7_thrown_ok l g m0 m1 m2 m3 m4 r_137.2 e_138) (cwV 0 hts gL_law_X7_thrown rfl rfl rfl hdX7_thrown ⟨(Nat.le_of_ble_eq_true rfl), (Nat.le_of_ble_eq_true rfl)⟩) rfl rfl rfl rfl rfl hl.1 rfl (Nat.le_of_ble_eq_true rfl) ⟨(by show _ ≤ (601024 : Nat); omega), (by show _ ≤ (7293034 : Nat); omega)⟩ dL_law_1170 ?_
                                        refine lv_iload hx hb dL_law_1173 (lv_at hl 1 rfl) ?_
                                        refine lv_icmp_eq (tgt := 1180) hx hb dL_law_1175 (by decide) (fun c_139 => ?_) (fun c_139 => ?_)
                                        · have hf := ip c_139 hf
                                          refine lv_iload hx hb dL_law_1180 (lv_at hl 1 rfl) ?_
                                          refine lv_if_ne (tgt := 1197) hx hb dL_law_1182 (by decide) (fun c_140 => ?_) (fun c_140 => ?_)
                                          · have hf := iq c_140 hf
                                            refine lv_goto (tgt := 2493) hx hb dL_law_1197 (by decide) ?_
                                            refine lv_iinc (v := (i + 3)) (lv' := [(5, .int (i + 3)), (7, .int r_137.1), (6, .int r_136.1), (0, .ref b), (1, .ref c0), (2, .ref m0), (3, .ref o0), (4, .ref e0)]) hx hb dL_law_2493 hl (k := 7) rfl rfl (by decide) rfl (fun ls hl => ?_)
                                            refine lv_goto (tgt := 28) hx hb dL_law_2496 (by decide) ?_
                                            refine W.cs (cells' := cl + 1) (slots' := sl + 6) (by omega) (by omega) ?_
                                            exact ih (i + 3) σ η τ δ r_137.2 r_136.2 ε (cl + 1) (sl + 6) (by omega) (by omega) _ _ ls hP hD hS (lv_sub hl [3, 4, 5, 6, 7, 0] rfl) hf
                                          · have hf := ip c_140 hf
                                            refine lv_aload_n hx hb dL_law_1185 rfl (lv_at hl 5 rfl) ?_
                                            refine lv_iconst (v := (0 : Int32)) hx hb dL_law_1186 (by decide) ?_
                                            refine va_lald hx hb hE.1 hP 48 2 rfl rfl (vin (by decide)) dL_law_1187 ?_
                                            refine lv_iload hx hb dL_law_1188 (lv_at hl 0 rfl) ?_
                                            refine lv_i2l hx hb dL_law_1190 rfl ?_
                                            refine W.lcmp hx hb dL_law_1191 ?_
                                            refine lv_if_eq (tgt := 1197) hx hb dL_law_1192 (by decide) (fun c_141 => ?_) (fun c_141 => ?_)
                                            · have hf := ip c_141 hf
                                              refine lv_goto (tgt := 2493) hx hb dL_law_1197 (by decide) ?_
                                              refine lv_iinc (v := (i + 3)) (lv' := [(5, .int (i + 3)), (7, .int r_137.1), (6, .int r_136.1), (0, .ref b), (1, .ref c0), (2, .ref m0), (3, .ref o0), (4, .ref e0)]) hx hb dL_law_2493 hl (k := 7) rfl rfl (by decide) rfl (fun ls hl => ?_)
                                              refine lv_goto (tgt := 28) hx hb dL_law_2496 (by decide) ?_
                                              refine W.cs (cells' := cl + 1) (slots' := sl + 6) (by omega) (by omega) ?_
                                              exact ih (i + 3) σ η τ δ r_137.2 r_136.2 ε (cl + 1) (sl + 6) (by omega) (by omega) _ _ ls hP hD hS (lv_sub hl [3, 4, 5, 6, 7, 0] rfl) hf
                                            · have hf := iq c_141 hf
                                              refine lv_iconst (v := (0 : Int32)) hx hb dL_law_1195 (by decide) ?_
                                              exact absurd (Option.some.inj hf) (by decide)
                                        · have hf := iq c_139 hf
                                          refine lv_iconst (v := (0 : Int32)) hx hb dL_law_1178 (by decide) ?_
                                          exact absurd (Option.some.inj hf) (by decide)
                                      · have hf := iq s_133 hf
                                        by_cases s_142 : ((xs (Int32.toNatClampNeg i)) &&& (63 : Int32)) = (17 : Int32)
                                        · have hf := ip s_142 hf
                                          refine lv_tableIn (off := 1156) (tgt := 1200) hx hb dL_law_44 (by rw [s_142]; decide) (by rw [s_142]; decide) (by rw [s_142]; rfl) (by decide) ?_
                                          refine lv_aload_n hx hb dL_law_1200 rfl (lv_at hl 1 rfl) ?_
                                          refine lv_aload_n hx hb dL_law_1201 rfl (lv_at hl 0 rfl) ?_
                                          refine lv_iload hx hb dL_law_1202 (lv_at hl 5 rfl) ?_
                                          refine lv_iconst (v := (1 : Int32)) hx hb dL_law_1204 (by decide) ?_
                                          refine lv_iadd hx hb dL_law_1205 ?_
                                          obtain ⟨h_143, hf⟩ := ck hf
                                          refine va_sld hx hb hX hbl hbA hS (vin h_143) dL_law_1206 ?_
                                          refine lv_aload hx hb dL_law_1207 (lv_at hl 4 rfl) ?_
                                          obtain ⟨r_144, e_144, hf⟩ := bo hf
                                          refine lcallS (W0 := (wC c0 h k0 x0 d0 ++ (wS g h a1 a2 a3 a4 σ ++ (wH g k0 k1 γ η ++ (wX g x0 x1 τ ++ (wD g d0 d1 d2 δ ++ (wM g m0 m1 m2 m3 m4 μ ++ (wO g o0 ω ++ (wE g e0 ε))))))))) (Wc := (wC c0 h k0 x0 d0 ++ (wS g h a1 a2 a3 a4 σ ++ (wE g e0 ε)))) (Wr := (wH g k0 k1 γ η ++ (wX g x0 x1 τ ++ (wD g d0 d1 d2 δ ++ (wM g m0 m1 m2 m3 m4 μ ++ (wO g o0 ω)))))) (W1 := (wC c0 h k0 x0 d0 ++ (wS g h a1 a2 a3 a4 σ ++ (wE g e0 r_144.2)))) (W2 := (wC c0 h k0 x0 d0 ++ (wS g h a1 a2 a3 a4 σ ++ (wH g k0 k1 γ η ++ (wX g x0 x1 τ ++ (wD g d0 d1 d2 δ ++ (wM g m0 m1 m2 m3 m4 μ ++ (wO g o0 ω ++ (wE g e0 r_144.2))))))))) (As := [.ref c0, .int (xs (Int32.toNatClampNeg (i + (1 : Int32)))), .ref e0]) (rest := []) [0, 1, 2, 3, 4, 5, 49] [6, 7, 8, 9, 10, 11, 12, 13, 14, 15, 16, 17, 18, 19, 20, 21, 22, 23, 24, 25, 26, 27, 28, 29, 30, 31, 32, 33, 34, 35, 36, 37, 38, 39, 40, 41, 42, 43, 44, 45, 46, 47, 48] [43, 44, 45, 46, 47, 48, 0, 1, 2, 3, 4, 5, 6, 7, 8, 9, 10, 11, 12, 13, 14, 15, 16, 17, 18, 19, 20, 21, 22, 23, 24, 25, 26, 27, 28, 29, 30, 31, 32, 33, 34, 35, 36, 37, 38, 39, 40, 41, 42, 49] ⟨hx, hb, hml, hown, hts⟩ hP hD hE hZ hS hA (cL_lengthByKinds_ok l hl0 g c0 h k0 x0 d0 a1 a2 a3 a4 e0 σ ε (xs (Int32.toNatClampNeg (i + (1 : Int32)))) _ e_144) (vx_cwSW 3 hts gL_law_L_lengthByKinds rfl rfl rfl hdL_lengthByKinds.2 ⟨(Nat.le_of_ble_eq_true rfl), (Nat.le_of_ble_eq_true rfl)⟩) rfl rfl rfl (by decide) (by decide) (by decide) (by decide) rfl hl.1 rfl (Nat.le_of_ble_eq_true rfl) ⟨(by show _ ≤ (601024 : Nat); omega), (by show _ ≤ (7293034 : Nat); omega)⟩ dL_law_1209 (fun H locs hP hD hS => ?_)
                                          refine lv_istore (lv' := [(6, .int r_144.1), (0, .ref b), (1, .ref c0), (2, .ref m0), (3, .ref o0), (4, .ref e0), (5, .int i)]) hx hb dL_law_1212 hl (by decide) rfl (fun ls hl => ?_)
                                          refine lv_aload_n hx hb dL_law_1214 rfl (lv_at hl 3 rfl) ?_
                                          refine lv_aload_n hx hb dL_law_1215 rfl (lv_at hl 1 rfl) ?_
                                          refine lv_iload hx hb dL_law_1216 (lv_at hl 6 rfl) ?_
                                          refine lv_iconst (v := (1 : Int32)) hx hb dL_law_1218 (by decide) ?_
                                          refine lv_iadd hx hb dL_law_1219 ?_
                                          refine va_sld hx hb hX hbl hbA hS (vin h_143) dL_law_1220 ?_
                                          obtain ⟨r_145, e_145, hf⟩ := bo hf
                                          refine mcallVd (W0 := (wC c0 h k0 x0 d0 ++ (wS g h a1 a2 a3 a4 σ ++ (wH g k0 k1 γ η ++ (wX g x0 x1 τ ++ (wD g d0 d1 d2 δ ++ (wM g m0 m1 m2 m3 m4 μ ++ (wO g o0 ω ++ (wE g e0 r_144.2))))))))) (Wc := (wM g m0 m1 m2 m3 m4 μ)) (Wr := (wC c0 h k0 x0 d0 ++ (wS g h a1 a2 a3 a4 σ ++ (wH g k0 k1 γ η ++ (wX g x0 x1 τ ++ (wD g d0 d1 d2 δ ++ (wO g o0 ω ++ (wE g e0 r_144.2)))))))) (W1 := (wM g m0 m1 m2 m3 m4 r_145.2)) (W2 := (wC c0 h k0 x0 d0 ++ (wS g h a1 a2 a3 a4 σ ++ (wH g k0 k1 γ η ++ (wX g x0 x1 τ ++ (wD g d0 d1 d2 δ ++ (wM g m0 m1 m2 m3 m4 r_145.2 ++ (wO g o0 ω ++ (wE g e0 r_144.2))))))))) (As := [.int (xs (Int32.toNatClampNeg (i + (1 : Int32))))]) (rest := []) [43, 44, 45, 46, 47] [0, 1, 2, 3, 4, 5, 6, 7, 8, 9, 10, 11, 12, 13, 14, 15, 16, 17, 18, 19, 20, 21, 22, 23, 24, 25, 26, 27, 28, 29, 30, 31, 32, 33, 34, 35, 36, 37, 38, 39, 40, 41, 42, 48, 49] [0, 1, 2, 3, 4, 5, 6, 7, 8, 9, 10, 11, 12, 13, 14, 15, 16, 17, 18, 19, 20, 21, 22, 23, 24, 25, 26, 27, 28, 29, 30, 31, 32, 33, 34, 35, 36, 37, 38, 39, 40, 41, 42, 45, 46, 47, 48, 49, 43, 44] 5 0 ⟨hx, hb, hml, hown, hts⟩ hP hD hE hZ hS hA (cX7_lengthByKinds_ok l g m0 m1 m2 m3 m4 μ (xs (Int32.toNatClampNeg (i + (1 : Int32)))) _ e_145) (cwV 1 hts gL_law_X7_lengthByKinds rfl rfl rfl hdX7_lengthByKinds ⟨(Nat.le_of_ble_eq_true rfl), (Nat.le_of_ble_eq_true rfl)⟩) rfl rfl rfl (by decide) (by decide) (by decide) (by decide) rfl rfl rfl rfl hl.1 rfl (Nat.le_of_ble_eq_true rfl) ⟨(by show _ ≤ (601024 : Nat); omega), (by show _ ≤ (7293034 : Nat); omega)⟩ dL_law_1221 (fun H locs hP hD hS => ?_)
                                          refine lv_dstore (lv' := [(7, .double r_145.1), (6, .int r_144.1), (0, .ref b), (1, .ref c0), (2, .ref m0), (3, .ref o0), (4, .ref e0), (5, .int i)]) hx hb dL_law_1224 hl (by decide) rfl (fun ls hl => ?_)
                                          refine lv_aload_n hx hb dL_law_1226 rfl (lv_at hl 4 rfl) ?_
                                          obtain ⟨r_146, e_146, hf⟩ := bo hf
                                          refine pcallV (W0 := (wC c0 h k0 x0 d0 ++ (wS g h a1 a2 a3 a4 σ ++ (wH g k0 k1 γ η ++ (wX g x0 x1 τ ++ (wD g d0 d1 d2 δ ++ (wM g m0 m1 m2 m3 m4 r_145.2 ++ (wO g o0 ω ++ (wE g e0 r_144.2))))))))) (As := []) (rest := []) [43, 44, 45, 46, 47] 5 0 ⟨hx, hb, hml, hown, hts⟩ hP hE hZ hS (cX7_thrown_ok l g m0 m1 m2 m3 m4 r_145.2 e_146) (cwV 0 hts gL_law_X7_thrown rfl rfl rfl hdX7_thrown ⟨(Nat.le_of_ble_eq_true rfl), (Nat.le_of_ble_eq_true rfl)⟩) rfl rfl rfl rfl rfl hl.1 rfl (Nat.le_of_ble_eq_true rfl) ⟨(by show _ ≤ (601024 : Nat); omega), (by show _ ≤ (7293034 : Nat); omega)⟩ dL_law_1227 ?_
                                          refine lv_iload hx hb dL_law_1230 (lv_at hl 1 rfl) ?_
                                          refine lv_icmp_eq (tgt := 1237) hx hb dL_law_1232 (by decide) (fun c_147 => ?_) (fun c_147 => ?_)
                                          · have hf := ip c_147 hf
                                            refine lv_iload hx hb dL_law_1237 (lv_at hl 1 rfl) ?_
                                            refine lv_if_ne (tgt := 1274) hx hb dL_law_1239 (by decide) (fun c_148 => ?_) (fun c_148 => ?_)
                                            · have hf := iq c_148 hf
                                              refine lv_goto (tgt := 2493) hx hb dL_law_1274 (by decide) ?_
                                              refine lv_iinc (v := (i + 3)) (lv' := [(5, .int (i + 3)), (7, .double r_145.1), (6, .int r_144.1), (0, .ref b), (1, .ref c0), (2, .ref m0), (3, .ref o0), (4, .ref e0)]) hx hb dL_law_2493 hl (k := 7) rfl rfl (by decide) rfl (fun ls hl => ?_)
                                              refine lv_goto (tgt := 28) hx hb dL_law_2496 (by decide) ?_
                                              refine W.cs (cells' := cl + 1) (slots' := sl + 6) (by omega) (by omega) ?_
                                              exact ih (i + 3) σ η τ δ r_145.2 ω r_144.2 (cl + 1) (sl + 6) (by omega) (by omega) _ _ ls hP hD hS (lv_sub hl [3, 4, 5, 6, 7, 0] rfl) hf
                                            · have hf := ip c_148 hf
                                              refine lv_aload hx hb dL_law_1242 (lv_at hl 6 rfl) ?_
                                              refine lv_iconst (v := (0 : Int32)) hx hb dL_law_1244 (by decide) ?_
                                              refine va_dald hx hb hE.1 hP 49 3 rfl rfl (vin (by decide)) dL_law_1245 ?_
                                              refine lv_dload hx hb dL_law_1246 (lv_at hl 0 rfl) ?_
                                              refine lv_dcmp hx hb dL_law_1248 ?_
                                              refine lv_if_eq (tgt := 1274) hx hb dL_law_1249 (by decide) (fun c_149 => ?_) (fun c_149 => ?_)
                                              · have hf := ip c_149 hf
                                                refine lv_goto (tgt := 2493) hx hb dL_law_1274 (by decide) ?_
                                                refine lv_iinc (v := (i + 3)) (lv' := [(5, .int (i + 3)), (7, .double r_145.1), (6, .int r_144.1), (0, .ref b), (1, .ref c0), (2, .ref m0), (3, .ref o0), (4, .ref e0)]) hx hb dL_law_2493 hl (k := 7) rfl rfl (by decide) rfl (fun ls hl => ?_)
                                                refine lv_goto (tgt := 28) hx hb dL_law_2496 (by decide) ?_
                                                refine W.cs (cells' := cl + 1) (slots' := sl + 6) (by omega) (by omega) ?_
                                                exact ih (i + 3) σ η τ δ r_145.2 ω r_144.2 (cl + 1) (sl + 6) (by omega) (by omega) _ _ ls hP hD hS (lv_sub hl [3, 4, 5, 6, 7, 0] rfl) hf
                                              · have hf := iq c_149 hf
                                                refine lv_aload hx hb dL_law_1252 (lv_at hl 6 rfl) ?_
                                                refine lv_iconst (v := (0 : Int32)) hx hb dL_law_1254 (by decide) ?_
                                                refine va_dald hx hb hE.1 hP 49 3 rfl rfl (vin (by decide)) dL_law_1255 ?_
                                                refine lv_aload hx hb dL_law_1256 (lv_at hl 6 rfl) ?_
                                                refine lv_iconst (v := (0 : Int32)) hx hb dL_law_1258 (by decide) ?_
                                                refine va_dald hx hb hE.1 hP 49 3 rfl rfl (vin (by decide)) dL_law_1259 ?_
                                                refine lv_dcmp hx hb dL_law_1260 ?_
                                                refine lv_if_eq (tgt := 1272) hx hb dL_law_1261 (by decide) (fun c_150 => ?_) (fun c_150 => ?_)
                                                · have hf := ip c_150 hf
                                                  refine lv_iconst (v := (0 : Int32)) hx hb dL_law_1272 (by decide) ?_
                                                  exact absurd (Option.some.inj hf) (by decide)
                                                · have hf := iq c_150 hf
                                                  refine lv_dload hx hb dL_law_1264 (lv_at hl 0 rfl) ?_
                                                  refine lv_dload hx hb dL_law_1266 (lv_at hl 0 rfl) ?_
                                                  refine lv_dcmp hx hb dL_law_1268 ?_
                                                  refine lv_if_ne (tgt := 1274) hx hb dL_law_1269 (by decide) (fun c_151 => ?_) (fun c_151 => ?_)
                                                  · have hf := iq c_151 hf
                                                    refine lv_goto (tgt := 2493) hx hb dL_law_1274 (by decide) ?_
                                                    refine lv_iinc (v := (i + 3)) (lv' := [(5, .int (i + 3)), (7, .double r_145.1), (6, .int r_144.1), (0, .ref b), (1, .ref c0), (2, .ref m0), (3, .ref o0), (4, .ref e0)]) hx hb dL_law_2493 hl (k := 7) rfl rfl (by decide) rfl (fun ls hl => ?_)
                                                    refine lv_goto (tgt := 28) hx hb dL_law_2496 (by decide) ?_
                                                    refine W.cs (cells' := cl + 1) (slots' := sl + 6) (by omega) (by omega) ?_
                                                    exact ih (i + 3) σ η τ δ r_145.2 ω r_144.2 (cl + 1) (sl + 6) (by omega) (by omega) _ _ ls hP hD hS (lv_sub hl [3, 4, 5, 6, 7, 0] rfl) hf
                                                  · have hf := ip c_151 hf
                                                    refine lv_iconst (v := (0 : Int32)) hx hb dL_law_1272 (by decide) ?_
                                                    exact absurd (Option.some.inj hf) (by decide)
                                          · have hf := iq c_147 hf
                                            refine lv_iconst (v := (0 : Int32)) hx hb dL_law_1235 (by decide) ?_
                                            exact absurd (Option.some.inj hf) (by decide)
                                        · have hf := iq s_142 hf
                                          by_cases s_152 : ((xs (Int32.toNatClampNeg i)) &&& (63 : Int32)) = (18 : Int32)
                                          · have hf := ip s_152 hf
                                            refine lv_tableIn (off := 1233) (tgt := 1277) hx hb dL_law_44 (by rw [s_152]; decide) (by rw [s_152]; decide) (by rw [s_152]; rfl) (by decide) ?_
                                            refine lv_aload_n hx hb dL_law_1277 rfl (lv_at hl 1 rfl) ?_
                                            refine lv_aload_n hx hb dL_law_1278 rfl (lv_at hl 0 rfl) ?_
                                            refine lv_iload hx hb dL_law_1279 (lv_at hl 5 rfl) ?_
                                            refine lv_iconst (v := (1 : Int32)) hx hb dL_law_1281 (by decide) ?_
                                            refine lv_iadd hx hb dL_law_1282 ?_
                                            obtain ⟨h_153, hf⟩ := ck hf
                                            refine va_sld hx hb hX hbl hbA hS (vin h_153) dL_law_1283 ?_
                                            refine lv_aload hx hb dL_law_1284 (lv_at hl 4 rfl) ?_
                                            obtain ⟨r_154, e_154, hf⟩ := bo hf
                                            refine lcallS (W0 := (wC c0 h k0 x0 d0 ++ (wS g h a1 a2 a3 a4 σ ++ (wH g k0 k1 γ η ++ (wX g x0 x1 τ ++ (wD g d0 d1 d2 δ ++ (wM g m0 m1 m2 m3 m4 μ ++ (wO g o0 ω ++ (wE g e0 ε))))))))) (Wc := (wC c0 h k0 x0 d0 ++ (wS g h a1 a2 a3 a4 σ ++ (wE g e0 ε)))) (Wr := (wH g k0 k1 γ η ++ (wX g x0 x1 τ ++ (wD g d0 d1 d2 δ ++ (wM g m0 m1 m2 m3 m4 μ ++ (wO g o0 ω)))))) (W1 := (wC c0 h k0 x0 d0 ++ (wS g h a1 a2 a3 a4 σ ++ (wE g e0 r_154.2)))) (W2 := (wC c0 h k0 x0 d0 ++ (wS g h a1 a2 a3 a4 σ ++ (wH g k0 k1 γ η ++ (wX g x0 x1 τ ++ (wD g d0 d1 d2 δ ++ (wM g m0 m1 m2 m3 m4 μ ++ (wO g o0 ω ++ (wE g e0 r_154.2))))))))) (As := [.ref c0, .int (xs (Int32.toNatClampNeg (i + (1 : Int32)))), .ref e0]) (rest := []) [0, 1, 2, 3, 4, 5, 49] [6, 7, 8, 9, 10, 11, 12, 13, 14, 15, 16, 17, 18, 19, 20, 21, 22, 23, 24, 25, 26, 27, 28, 29, 30, 31, 32, 33, 34, 35, 36, 37, 38, 39, 40, 41, 42, 43, 44, 45, 46, 47, 48] [43, 44, 45, 46, 47, 48, 0, 1, 2, 3, 4, 5, 6, 7, 8, 9, 10, 11, 12, 13, 14, 15, 16, 17, 18, 19, 20, 21, 22, 23, 24, 25, 26, 27, 28, 29, 30, 31, 32, 33, 34, 35, 36, 37, 38, 39, 40, 41, 42, 49] ⟨hx, hb, hml, hown, hts⟩ hP hD hE hZ hS hA (cL_lengthBySteps_ok l hl0 g c0 h k0 x0 d0 a1 a2 a3 a4 e0 σ ε (xs (Int32.toNatClampNeg (i + (1 : Int32)))) _ e_154) (vx_cwSW 3 hts gL_law_L_lengthBySteps rfl rfl rfl hdL_lengthBySteps.2 ⟨(Nat.le_of_ble_eq_true rfl), (Nat.le_of_ble_eq_true rfl)⟩) rfl rfl rfl (by decide) (by decide) (by decide) (by decide) rfl hl.1 rfl (Nat.le_of_ble_eq_true rfl) ⟨(by show _ ≤ (601024 : Nat); omega), (by show _ ≤ (7293034 : Nat); omega)⟩ dL_law_1286 (fun H locs hP hD hS => ?_)
                                            refine lv_istore (lv' := [(6, .int r_154.1), (0, .ref b), (1, .ref c0), (2, .ref m0), (3, .ref o0), (4, .ref e0), (5, .int i)]) hx hb dL_law_1289 hl (by decide) rfl (fun ls hl => ?_)
                                            refine lv_aload_n hx hb dL_law_1291 rfl (lv_at hl 3 rfl) ?_
                                            refine lv_aload_n hx hb dL_law_1292 rfl (lv_at hl 1 rfl) ?_
                                            refine lv_iload hx hb dL_law_1293 (lv_at hl 6 rfl) ?_
                                            refine lv_iconst (v := (1 : Int32)) hx hb dL_law_1295 (by decide) ?_
                                            refine lv_iadd hx hb dL_law_1296 ?_
                                            refine va_sld hx hb hX hbl hbA hS (vin h_153) dL_law_1297 ?_
                                            obtain ⟨r_155, e_155, hf⟩ := bo hf
                                            refine mcallVd (W0 := (wC c0 h k0 x0 d0 ++ (wS g h a1 a2 a3 a4 σ ++ (wH g k0 k1 γ η ++ (wX g x0 x1 τ ++ (wD g d0 d1 d2 δ ++ (wM g m0 m1 m2 m3 m4 μ ++ (wO g o0 ω ++ (wE g e0 r_154.2))))))))) (Wc := (wM g m0 m1 m2 m3 m4 μ)) (Wr := (wC c0 h k0 x0 d0 ++ (wS g h a1 a2 a3 a4 σ ++ (wH g k0 k1 γ η ++ (wX g x0 x1 τ ++ (wD g d0 d1 d2 δ ++ (wO g o0 ω ++ (wE g e0 r_154.2)))))))) (W1 := (wM g m0 m1 m2 m3 m4 r_155.2)) (W2 := (wC c0 h k0 x0 d0 ++ (wS g h a1 a2 a3 a4 σ ++ (wH g k0 k1 γ η ++ (wX g x0 x1 τ ++ (wD g d0 d1 d2 δ ++ (wM g m0 m1 m2 m3 m4 r_155.2 ++ (wO g o0 ω ++ (wE g e0 r_154.2))))))))) (As := [.int (xs (Int32.toNatClampNeg (i + (1 : Int32))))]) (rest := []) [43, 44, 45, 46, 47] [0, 1, 2, 3, 4, 5, 6, 7, 8, 9, 10, 11, 12, 13, 14, 15, 16, 17, 18, 19, 20, 21, 22, 23, 24, 25, 26, 27, 28, 29, 30, 31, 32, 33, 34, 35, 36, 37, 38, 39, 40, 41, 42, 48, 49] [0, 1, 2, 3, 4, 5, 6, 7, 8, 9, 10, 11, 12, 13, 14, 15, 16, 17, 18, 19, 20, 21, 22, 23, 24, 25, 26, 27, 28, 29, 30, 31, 32, 33, 34, 35, 36, 37, 38, 39, 40, 41, 42, 45, 46, 47, 48, 49, 43, 44] 5 0 ⟨hx, hb, hml, hown, hts⟩ hP hD hE hZ hS hA (cX7_lengthBySteps_ok l g m0 m1 m2 m3 m4 μ (xs (Int32.toNatClampNeg (i + (1 : Int32)))) _ e_155) (cwV 1 hts gL_law_X7_lengthBySteps rfl rfl rfl hdX7_lengthBySteps ⟨(Nat.le_of_ble_eq_true rfl), (Nat.le_of_ble_eq_true rfl)⟩) rfl rfl rfl (by decide) (by decide) (by decide) (by decide) rfl rfl rfl rfl hl.1 rfl (Nat.le_of_ble_eq_true rfl) ⟨(by show _ ≤ (601024 : Nat); omega), (by show _ ≤ (7293034 : Nat); omega)⟩ dL_law_1298 (fun H locs hP hD hS => ?_)
                                            refine lv_dstore (lv' := [(7, .double r_155.1), (6, .int r_154.1), (0, .ref b), (1, .ref c0), (2, .ref m0), (3, .ref o0), (4, .ref e0), (5, .int i)]) hx hb dL_law_1301 hl (by decide) rfl (fun ls hl => ?_)
                                            refine lv_aload_n hx hb dL_law_1303 rfl (lv_at hl 4 rfl) ?_
                                            obtain ⟨r_156, e_156, hf⟩ := bo hf
                                            refine pcallV (W0 := (wC c0 h k0 x0 d0 ++ (wS g h a1 a2 a3 a4 σ ++ (wH g k0 k1 γ η ++ (wX g x0 x1 τ ++ (wD g d0 d1 d2 δ ++ (wM g m0 m1 m2 m3 m4 r_155.2 ++ (wO g o0 ω ++ (wE g e0 r_154.2))))))))) (As := []) (rest := []) [43, 44, 45, 46, 47] 5 0 ⟨hx, hb, hml, hown, hts⟩ hP hE hZ hS (cX7_thrown_ok l g m0 m1 m2 m3 m4 r_155.2 e_156) (cwV 0 hts gL_law_X7_thrown rfl rfl rfl hdX7_thrown ⟨(Nat.le_of_ble_eq_true rfl), (Nat.le_of_ble_eq_true rfl)⟩) rfl rfl rfl rfl rfl hl.1 rfl (Nat.le_of_ble_eq_true rfl) ⟨(by show _ ≤ (601024 : Nat); omega), (by show _ ≤ (7293034 : Nat); omega)⟩ dL_law_1304 ?_
                                            refine lv_iload hx hb dL_law_1307 (lv_at hl 1 rfl) ?_
                                            refine lv_icmp_eq (tgt := 1314) hx hb dL_law_1309 (by decide) (fun c_157 => ?_) (fun c_157 => ?_)
                                            · have hf := ip c_157 hf
                                              refine lv_iload hx hb dL_law_1314 (lv_at hl 1 rfl) ?_
                                              refine lv_if_ne (tgt := 1351) hx hb dL_law_1316 (by decide) (fun c_158 => ?_) (fun c_158 => ?_)
                                              · have hf := iq c_158 hf
                                                refine lv_goto (tgt := 2493) hx hb dL_law_1351 (by decide) ?_
                                                refine lv_iinc (v := (i + 3)) (lv' := [(5, .int (i + 3)), (7, .double r_155.1), (6, .int r_154.1), (0, .ref b), (1, .ref c0), (2, .ref m0), (3, .ref o0), (4, .ref e0)]) hx hb dL_law_2493 hl (k := 7) rfl rfl (by decide) rfl (fun ls hl => ?_)
                                                refine lv_goto (tgt := 28) hx hb dL_law_2496 (by decide) ?_
                                                refine W.cs (cells' := cl + 1) (slots' := sl + 6) (by omega) (by omega) ?_
                                                exact ih (i + 3) σ η τ δ r_155.2 ω r_154.2 (cl + 1) (sl + 6) (by omega) (by omega) _ _ ls hP hD hS (lv_sub hl [3, 4, 5, 6, 7, 0] rfl) hf
                                              · have hf := ip c_158 hf
                                                refine lv_aload hx hb dL_law_1319 (lv_at hl 6 rfl) ?_
                                                refine lv_iconst (v := (0 : Int32)) hx hb dL_law_1321 (by decide) ?_
                                                refine va_dald hx hb hE.1 hP 49 3 rfl rfl (vin (by decide)) dL_law_1322 ?_
                                                refine lv_dload hx hb dL_law_1323 (lv_at hl 0 rfl) ?_
                                                refine lv_dcmp hx hb dL_law_1325 ?_
                                                refine lv_if_eq (tgt := 1351) hx hb dL_law_1326 (by decide) (fun c_159 => ?_) (fun c_159 => ?_)
                                                · have hf := ip c_159 hf
                                                  refine lv_goto (tgt := 2493) hx hb dL_law_1351 (by decide) ?_
                                                  refine lv_iinc (v := (i + 3)) (lv' := [(5, .int (i + 3)), (7, .double r_155.1), (6, .int r_154.1), (0, .ref b), (1, .ref c0), (2, .ref m0), (3, .ref o0), (4, .ref e0)]) hx hb dL_law_2493 hl (k := 7) rfl rfl (by decide) rfl (fun ls hl => ?_)
                                                  refine lv_goto (tgt := 28) hx hb dL_law_2496 (by decide) ?_
                                                  refine W.cs (cells' := cl + 1) (slots' := sl + 6) (by omega) (by omega) ?_
                                                  exact ih (i + 3) σ η τ δ r_155.2 ω r_154.2 (cl + 1) (sl + 6) (by omega) (by omega) _ _ ls hP hD hS (lv_sub hl [3, 4, 5, 6, 7, 0] rfl) hf
                                                · have hf := iq c_159 hf
                                                  refine lv_aload hx hb dL_law_1329 (lv_at hl 6 rfl) ?_
                                                  refine lv_iconst (v := (0 : Int32)) hx hb dL_law_1331 (by decide) ?_
                                                  refine va_dald hx hb hE.1 hP 49 3 rfl rfl (vin (by decide)) dL_law_1332 ?_
                                                  refine lv_aload hx hb dL_law_1333 (lv_at hl 6 rfl) ?_
                                                  refine lv_iconst (v := (0 : Int32)) hx hb dL_law_1335 (by decide) ?_
                                                  refine va_dald hx hb hE.1 hP 49 3 rfl rfl (vin (by decide)) dL_law_1336 ?_
                                                  refine lv_dcmp hx hb dL_law_1337 ?_
                                                  refine lv_if_eq (tgt := 1349) hx hb dL_law_1338 (by decide) (fun c_160 => ?_) (fun c_160 => ?_)
                                                  · have hf := ip c_160 hf
                                                    refine lv_iconst (v := (0 : Int32)) hx hb dL_law_1349 (by decide) ?_
                                                    exact absurd (Option.some.inj hf) (by decide)
                                                  · have hf := iq c_160 hf
                                                    refine lv_dload hx hb dL_law_1341 (lv_at hl 0 rfl) ?_
                                                    refine lv_dload hx hb dL_law_1343 (lv_at hl 0 rfl) ?_
                                                    refine lv_dcmp hx hb dL_law_1345 ?_
                                                    refine lv_if_ne (tgt := 1351) hx hb dL_law_1346 (by decide) (fun c_161 => ?_) (fun c_161 => ?_)
                                                    · have hf := iq c_161 hf
                                                      refine lv_goto (tgt := 2493) hx hb dL_law_1351 (by decide) ?_
                                                      refine lv_iinc (v := (i + 3)) (lv' := [(5, .int (i + 3)), (7, .double r_155.1), (6, .int r_154.1), (0, .ref b), (1, .ref c0), (2, .ref m0), (3, .ref o0), (4, .ref e0)]) hx hb dL_law_2493 hl (k := 7) rfl rfl (by decide) rfl (fun ls hl => ?_)
                                                      refine lv_goto (tgt := 28) hx hb dL_law_2496 (by decide) ?_
                                                      refine W.cs (cells' := cl + 1) (slots' := sl + 6) (by omega) (by omega) ?_
                                                      exact ih (i + 3) σ η τ δ r_155.2 ω r_154.2 (cl + 1) (sl + 6) (by omega) (by omega) _ _ ls hP hD hS (lv_sub hl [3, 4, 5, 6, 7, 0] rfl) hf
                                                    · have hf := ip c_161 hf
                                                      refine lv_iconst (v := (0 : Int32)) hx hb dL_law_1349 (by decide) ?_
                                                      exact absurd (Option.some.inj hf) (by decide)
                                            · have hf := iq c_157 hf
                                              refine lv_iconst (v := (0 : Int32)) hx hb dL_law_1312 (by decide) ?_
                                              exact absurd (Option.some.inj hf) (by decide)
                                          · have hf := iq s_152 hf
                                            by_cases s_162 : ((xs (Int32.toNatClampNeg i)) &&& (63 : Int32)) = (19 : Int32)
                                            · have hf := ip s_162 hf
                                              refine lv_tableIn (off := 1310) (tgt := 1354) hx hb dL_law_44 (by rw [s_162]; decide) (by rw [s_162]; decide) (by rw [s_162]; rfl) (by decide) ?_
                                              refine lv_aload_n hx hb dL_law_1354 rfl (lv_at hl 1 rfl) ?_
                                              obtain ⟨r_163, e_163, hf⟩ := bo hf
                                              refine pcallV (W0 := (wC c0 h k0 x0 d0 ++ (wS g h a1 a2 a3 a4 σ ++ (wH g k0 k1 γ η ++ (wX g x0 x1 τ ++ (wD g d0 d1 d2 δ ++ (wM g m0 m1 m2 m3 m4 μ ++ (wO g o0 ω ++ (wE g e0 ε))))))))) (As := []) (rest := []) [0, 1, 2, 3, 4, 5] 4 0 ⟨hx, hb, hml, hown, hts⟩ hP hE hZ hS (cX6_gap_ok l g c0 h k0 x0 d0 a1 a2 a3 a4 σ e_163) (cwV 0 hts gL_law_X6_gap rfl rfl rfl hdX6_gap ⟨(Nat.le_of_ble_eq_true rfl), (Nat.le_of_ble_eq_true rfl)⟩) rfl rfl rfl rfl rfl hl.1 rfl (Nat.le_of_ble_eq_true rfl) ⟨(by show _ ≤ (601024 : Nat); omega), (by show _ ≤ (7293034 : Nat); omega)⟩ dL_law_1355 ?_
                                              refine lv_aload_n hx hb dL_law_1358 rfl (lv_at hl 2 rfl) ?_
                                              obtain ⟨r_164, e_164, hf⟩ := bo hf
                                              refine mcallVi (W0 := (wC c0 h k0 x0 d0 ++ (wS g h a1 a2 a3 a4 σ ++ (wH g k0 k1 γ η ++ (wX g x0 x1 τ ++ (wD g d0 d1 d2 δ ++ (wM g m0 m1 m2 m3 m4 μ ++ (wO g o0 ω ++ (wE g e0 ε))))))))) (Wc := (wM g m0 m1 m2 m3 m4 μ)) (Wr := (wC c0 h k0 x0 d0 ++ (wS g h a1 a2 a3 a4 σ ++ (wH g k0 k1 γ η ++ (wX g x0 x1 τ ++ (wD g d0 d1 d2 δ ++ (wO g o0 ω ++ (wE g e0 ε)))))))) (W1 := (wM g m0 m1 m2 m3 m4 r_164.2)) (W2 := (wC c0 h k0 x0 d0 ++ (wS g h a1 a2 a3 a4 σ ++ (wH g k0 k1 γ η ++ (wX g x0 x1 τ ++ (wD g d0 d1 d2 δ ++ (wM g m0 m1 m2 m3 m4 r_164.2 ++ (wO g o0 ω ++ (wE g e0 ε))))))))) (As := []) (rest := [.int r_163]) [43, 44, 45, 46, 47] [0, 1, 2, 3, 4, 5, 6, 7, 8, 9, 10, 11, 12, 13, 14, 15, 16, 17, 18, 19, 20, 21, 22, 23, 24, 25, 26, 27, 28, 29, 30, 31, 32, 33, 34, 35, 36, 37, 38, 39, 40, 41, 42, 48, 49] [0, 1, 2, 3, 4, 5, 6, 7, 8, 9, 10, 11, 12, 13, 14, 15, 16, 17, 18, 19, 20, 21, 22, 23, 24, 25, 26, 27, 28, 29, 30, 31, 32, 33, 34, 35, 36, 37, 38, 39, 40, 41, 42, 45, 46, 47, 48, 49, 43, 44] 5 0 ⟨hx, hb, hml, hown, hts⟩ hP hD hE hZ hS hA (cX7_gap_ok l g m0 m1 m2 m3 m4 μ _ e_164) (cwV 0 hts gL_law_X7_gap rfl rfl rfl hdX7_gap ⟨(Nat.le_of_ble_eq_true rfl), (Nat.le_of_ble_eq_true rfl)⟩) rfl rfl rfl (by decide) (by decide) (by decide) (by decide) rfl rfl rfl rfl hl.1 rfl (Nat.le_of_ble_eq_true rfl) ⟨(by show _ ≤ (601024 : Nat); omega), (by show _ ≤ (7293034 : Nat); omega)⟩ dL_law_1359 (fun H locs hP hD hS => ?_)
                                              refine lv_icmp_eq (tgt := 2493) hx hb dL_law_1362 (by decide) (fun c_165 => ?_) (fun c_165 => ?_)
                                              · have hf := ip c_165 hf
                                                refine lv_iinc (v := (i + 3)) (lv' := [(5, .int (i + 3)), (0, .ref b), (1, .ref c0), (2, .ref m0), (3, .ref o0), (4, .ref e0)]) hx hb dL_law_2493 hl (k := 5) rfl rfl (by decide) rfl (fun ls hl => ?_)
                                                refine lv_goto (tgt := 28) hx hb dL_law_2496 (by decide) ?_
                                                refine W.cs (cells' := cl + 0) (slots' := sl + 0) (by omega) (by omega) ?_
                                                exact ih (i + 3) σ η τ δ r_164.2 ω ε (cl + 0) (sl + 0) (by omega) (by omega) _ _ ls hP hD hS (lv_sub hl [1, 2, 3, 4, 5, 0] rfl) hf
                                              · have hf := iq c_165 hf
                                                refine lv_iconst (v := (0 : Int32)) hx hb dL_law_1365 (by decide) ?_
                                                exact absurd (Option.some.inj hf) (by decide)
                                            · have hf := iq s_162 hf
                                              by_cases s_166 : ((xs (Int32.toNatClampNeg i)) &&& (63 : Int32)) = (20 : Int32)
                                              · have hf := ip s_166 hf
                                                refine lv_tableIn (off := 1323) (tgt := 1367) hx hb dL_law_44 (by rw [s_166]; decide) (by rw [s_166]; decide) (by rw [s_166]; rfl) (by decide) ?_
                                                refine lv_aload_n hx hb dL_law_1367 rfl (lv_at hl 1 rfl) ?_
                                                obtain ⟨r_167, e_167, hf⟩ := bo hf
                                                refine pcallV (W0 := (wC c0 h k0 x0 d0 ++ (wS g h a1 a2 a3 a4 σ ++ (wH g k0 k1 γ η ++ (wX g x0 x1 τ ++ (wD g d0 d1 d2 δ ++ (wM g m0 m1 m2 m3 m4 μ ++ (wO g o0 ω ++ (wE g e0 ε))))))))) (As := []) (rest := []) [0, 1, 2, 3, 4, 5] 4 0 ⟨hx, hb, hml, hown, hts⟩ hP hE hZ hS (cX6_labels_ok l g c0 h k0 x0 d0 a1 a2 a3 a4 σ e_167) (cwV 0 hts gL_law_X6_labels rfl rfl rfl hdX6_labels ⟨(Nat.le_of_ble_eq_true rfl), (Nat.le_of_ble_eq_true rfl)⟩) rfl rfl rfl rfl rfl hl.1 rfl (Nat.le_of_ble_eq_true rfl) ⟨(by show _ ≤ (601024 : Nat); omega), (by show _ ≤ (7293034 : Nat); omega)⟩ dL_law_1368 ?_
                                                refine lv_aload_n hx hb dL_law_1371 rfl (lv_at hl 2 rfl) ?_
                                                obtain ⟨r_168, e_168, hf⟩ := bo hf
                                                refine mcallVi (W0 := (wC c0 h k0 x0 d0 ++ (wS g h a1 a2 a3 a4 σ ++ (wH g k0 k1 γ η ++ (wX g x0 x1 τ ++ (wD g d0 d1 d2 δ ++ (wM g m0 m1 m2 m3 m4 μ ++ (wO g o0 ω ++ (wE g e0 ε))))))))) (Wc := (wM g m0 m1 m2 m3 m4 μ)) (Wr := (wC c0 h k0 x0 d0 ++ (wS g h a1 a2 a3 a4 σ ++ (wH g k0 k1 γ η ++ (wX g x0 x1 τ ++ (wD g d0 d1 d2 δ ++ (wO g o0 ω ++ (wE g e0 ε)))))))) (W1 := (wM g m0 m1 m2 m3 m4 r_168.2)) (W2 := (wC c0 h k0 x0 d0 ++ (wS g h a1 a2 a3 a4 σ ++ (wH g k0 k1 γ η ++ (wX g x0 x1 τ ++ (wD g d0 d1 d2 δ ++ (wM g m0 m1 m2 m3 m4 r_168.2 ++ (wO g o0 ω ++ (wE g e0 ε))))))))) (As := []) (rest := [.int r_167]) [43, 44, 45, 46, 47] [0, 1, 2, 3, 4, 5, 6, 7, 8, 9, 10, 11, 12, 13, 14, 15, 16, 17, 18, 19, 20, 21, 22, 23, 24, 25, 26, 27, 28, 29, 30, 31, 32, 33, 34, 35, 36, 37, 38, 39, 40, 41, 42, 48, 49] [0, 1, 2, 3, 4, 5, 6, 7, 8, 9, 10, 11, 12, 13, 14, 15, 16, 17, 18, 19, 20, 21, 22, 23, 24, 25, 26, 27, 28, 29, 30, 31, 32, 33, 34, 35, 36, 37, 38, 39, 40, 41, 42, 45, 46, 47, 48, 49, 43, 44] 5 0 ⟨hx, hb, hml, hown, hts⟩ hP hD hE hZ hS hA (cX7_labels_ok l g m0 m1 m2 m3 m4 μ _ e_168) (cwV 0 hts gL_law_X7_labels rfl rfl rfl hdX7_labels ⟨(Nat.le_of_ble_eq_true rfl), (Nat.le_of_ble_eq_true rfl)⟩) rfl rfl rfl (by decide) (by decide) (by decide) (by decide) rfl rfl rfl rfl hl.1 rfl (Nat.le_of_ble_eq_true rfl) ⟨(by show _ ≤ (601024 : Nat); omega), (by show _ ≤ (7293034 : Nat); omega)⟩ dL_law_1372 (fun H locs hP hD hS => ?_)
                                                refine lv_icmp_eq (tgt := 2493) hx hb dL_law_1375 (by decide) (fun c_169 => ?_) (fun c_169 => ?_)
                                                · have hf := ip c_169 hf
                                                  refine lv_iinc (v := (i + 3)) (lv' := [(5, .int (i + 3)), (0, .ref b), (1, .ref c0), (2, .ref m0), (3, .ref o0), (4, .ref e0)]) hx hb dL_law_2493 hl (k := 5) rfl rfl (by decide) rfl (fun ls hl => ?_)
                                                  refine lv_goto (tgt := 28) hx hb dL_law_2496 (by decide) ?_
                                                  refine W.cs (cells' := cl + 0) (slots' := sl + 0) (by omega) (by omega) ?_
                                                  exact ih (i + 3) σ η τ δ r_168.2 ω ε (cl + 0) (sl + 0) (by omega) (by omega) _ _ ls hP hD hS (lv_sub hl [1, 2, 3, 4, 5, 0] rfl) hf
                                                · have hf := iq c_169 hf
                                                  refine lv_iconst (v := (0 : Int32)) hx hb dL_law_1378 (by decide) ?_
                                                  exact absurd (Option.some.inj hf) (by decide)
                                              · have hf := iq s_166 hf
                                                by_cases s_170 : ((xs (Int32.toNatClampNeg i)) &&& (63 : Int32)) = (21 : Int32)
                                                · have hf := ip s_170 hf
                                                  refine lv_tableIn (off := 1336) (tgt := 1380) hx hb dL_law_44 (by rw [s_170]; decide) (by rw [s_170]; decide) (by rw [s_170]; rfl) (by decide) ?_
                                                  refine lv_aload_n hx hb dL_law_1380 rfl (lv_at hl 1 rfl) ?_
                                                  refine lv_aload_n hx hb dL_law_1381 rfl (lv_at hl 0 rfl) ?_
                                                  refine lv_iload hx hb dL_law_1382 (lv_at hl 5 rfl) ?_
                                                  refine lv_iconst (v := (1 : Int32)) hx hb dL_law_1384 (by decide) ?_
                                                  refine lv_iadd hx hb dL_law_1385 ?_
                                                  obtain ⟨h_171, hf⟩ := ck hf
                                                  refine va_sld hx hb hX hbl hbA hS (vin h_171) dL_law_1386 ?_
                                                  refine lv_aload_n hx hb dL_law_1387 rfl (lv_at hl 3 rfl) ?_
                                                  obtain ⟨r_172, e_172, hf⟩ := bo hf
                                                  refine lcallS (W0 := (wC c0 h k0 x0 d0 ++ (wS g h a1 a2 a3 a4 σ ++ (wH g k0 k1 γ η ++ (wX g x0 x1 τ ++ (wD g d0 d1 d2 δ ++ (wM g m0 m1 m2 m3 m4 μ ++ (wO g o0 ω ++ (wE g e0 ε))))))))) (Wc := (wC c0 h k0 x0 d0 ++ (wS g h a1 a2 a3 a4 σ ++ (wO g o0 ω)))) (Wr := (wH g k0 k1 γ η ++ (wX g x0 x1 τ ++ (wD g d0 d1 d2 δ ++ (wM g m0 m1 m2 m3 m4 μ ++ (wE g e0 ε)))))) (W1 := (wC c0 h k0 x0 d0 ++ (wS g h a1 a2 a3 a4 σ ++ (wO g o0 r_172.2)))) (W2 := (wC c0 h k0 x0 d0 ++ (wS g h a1 a2 a3 a4 σ ++ (wH g k0 k1 γ η ++ (wX g x0 x1 τ ++ (wD g d0 d1 d2 δ ++ (wM g m0 m1 m2 m3 m4 μ ++ (wO g o0 r_172.2 ++ (wE g e0 ε))))))))) (As := [.ref c0, .int (xs (Int32.toNatClampNeg (i + (1 : Int32)))), .ref o0]) (rest := []) [0, 1, 2, 3, 4, 5, 48] [6, 7, 8, 9, 10, 11, 12, 13, 14, 15, 16, 17, 18, 19, 20, 21, 22, 23, 24, 25, 26, 27, 28, 29, 30, 31, 32, 33, 34, 35, 36, 37, 38, 39, 40, 41, 42, 43, 44, 45, 46, 47, 49] [43, 44, 45, 46, 47, 48, 0, 1, 2, 3, 4, 5, 6, 7, 8, 9, 10, 11, 12, 13, 14, 15, 16, 17, 18, 19, 20, 21, 22, 23, 24, 25, 26, 27, 28, 29, 30, 31, 32, 33, 34, 35, 36, 37, 38, 39, 40, 41, 49, 42] ⟨hx, hb, hml, hown, hts⟩ hP hD hE hZ hS hA (cL_labelOf_ok l hl0 g c0 h k0 x0 d0 a1 a2 a3 a4 o0 σ ω (xs (Int32.toNatClampNeg (i + (1 : Int32)))) _ e_172) (vx_cwSW 3 hts gL_law_L_labelOf rfl rfl rfl hdL_labelOf.2 ⟨(Nat.le_of_ble_eq_true rfl), (Nat.le_of_ble_eq_true rfl)⟩) rfl rfl rfl (by decide) (by decide) (by decide) (by decide) rfl hl.1 rfl (Nat.le_of_ble_eq_true rfl) ⟨(by show _ ≤ (601024 : Nat); omega), (by show _ ≤ (7293034 : Nat); omega)⟩ dL_law_1388 (fun H locs hP hD hS => ?_)
                                                  refine lv_istore (lv' := [(6, .int r_172.1), (0, .ref b), (1, .ref c0), (2, .ref m0), (3, .ref o0), (4, .ref e0), (5, .int i)]) hx hb dL_law_1391 hl (by decide) rfl (fun ls hl => ?_)
                                                  refine lv_aload_n hx hb dL_law_1393 rfl (lv_at hl 3 rfl) ?_
                                                  refine lv_aload_n hx hb dL_law_1394 rfl (lv_at hl 1 rfl) ?_
                                                  refine lv_iload hx hb dL_law_1395 (lv_at hl 6 rfl) ?_
                                                  refine lv_iconst (v := (1 : Int32)) hx hb dL_law_1397 (by decide) ?_
                                                  refine lv_iadd hx hb dL_law_1398 ?_
                                                  refine va_sld hx hb hX hbl hbA hS (vin h_171) dL_law_1399 ?_
                                                  obtain ⟨r_173, e_173, hf⟩ := bo hf
                                                  refine mcallVi (W0 := (wC c0 h k0 x0 d0 ++ (wS g h a1 a2 a3 a4 σ ++ (wH g k0 k1 γ η ++ (wX g x0 x1 τ ++ (wD g d0 d1 d2 δ ++ (wM g m0 m1 m2 m3 m4 μ ++ (wO g o0 r_172.2 ++ (wE g e0 ε))))))))) (Wc := (wM g m0 m1 m2 m3 m4 μ)) (Wr := (wC c0 h k0 x0 d0 ++ (wS g h a1 a2 a3 a4 σ ++ (wH g k0 k1 γ η ++ (wX g x0 x1 τ ++ (wD g d0 d1 d2 δ ++ (wO g o0 r_172.2 ++ (wE g e0 ε)))))))) (W1 := (wM g m0 m1 m2 m3 m4 r_173.2)) (W2 := (wC c0 h k0 x0 d0 ++ (wS g h a1 a2 a3 a4 σ ++ (wH g k0 k1 γ η ++ (wX g x0 x1 τ ++ (wD g d0 d1 d2 δ ++ (wM g m0 m1 m2 m3 m4 r_173.2 ++ (wO g o0 r_172.2 ++ (wE g e0 ε))))))))) (As := [.int (xs (Int32.toNatClampNeg (i + (1 : Int32))))]) (rest := []) [43, 44, 45, 46, 47] [0, 1, 2, 3, 4, 5, 6, 7, 8, 9, 10, 11, 12, 13, 14, 15, 16, 17, 18, 19, 20, 21, 22, 23, 24, 25, 26, 27, 28, 29, 30, 31, 32, 33, 34, 35, 36, 37, 38, 39, 40, 41, 42, 48, 49] [0, 1, 2, 3, 4, 5, 6, 7, 8, 9, 10, 11, 12, 13, 14, 15, 16, 17, 18, 19, 20, 21, 22, 23, 24, 25, 26, 27, 28, 29, 30, 31, 32, 33, 34, 35, 36, 37, 38, 39, 40, 41, 42, 45, 46, 47, 48, 49, 43, 44] 5 0 ⟨hx, hb, hml, hown, hts⟩ hP hD hE hZ hS hA (cX7_labelOf_ok l g m0 m1 m2 m3 m4 μ (xs (Int32.toNatClampNeg (i + (1 : Int32)))) _ e_173) (cwV 1 hts gL_law_X7_labelOf rfl rfl rfl hdX7_labelOf ⟨(Nat.le_of_ble_eq_true rfl), (Nat.le_of_ble_eq_true rfl)⟩) rfl rfl rfl (by decide) (by decide) (by decide) (by decide) rfl rfl rfl rfl hl.1 rfl (Nat.le_of_ble_eq_true rfl) ⟨(by show _ ≤ (601024 : Nat); omega), (by show _ ≤ (7293034 : Nat); omega)⟩ dL_law_1400 (fun H locs hP hD hS => ?_)
                                                  refine lv_istore (lv' := [(7, .int r_173.1), (6, .int r_172.1), (0, .ref b), (1, .ref c0), (2, .ref m0), (3, .ref o0), (4, .ref e0), (5, .int i)]) hx hb dL_law_1403 hl (by decide) rfl (fun ls hl => ?_)
                                                  refine lv_aload_n hx hb dL_law_1405 rfl (lv_at hl 4 rfl) ?_
                                                  obtain ⟨r_174, e_174, hf⟩ := bo hf
                                                  refine pcallV (W0 := (wC c0 h k0 x0 d0 ++ (wS g h a1 a2 a3 a4 σ ++ (wH g k0 k1 γ η ++ (wX g x0 x1 τ ++ (wD g d0 d1 d2 δ ++ (wM g m0 m1 m2 m3 m4 r_173.2 ++ (wO g o0 r_172.2 ++ (wE g e0 ε))))))))) (As := []) (rest := []) [43, 44, 45, 46, 47] 5 0 ⟨hx, hb, hml, hown, hts⟩ hP hE hZ hS (cX7_thrown_ok l g m0 m1 m2 m3 m4 r_173.2 e_174) (cwV 0 hts gL_law_X7_thrown rfl rfl rfl hdX7_thrown ⟨(Nat.le_of_ble_eq_true rfl), (Nat.le_of_ble_eq_true rfl)⟩) rfl rfl rfl rfl rfl hl.1 rfl (Nat.le_of_ble_eq_true rfl) ⟨(by show _ ≤ (601024 : Nat); omega), (by show _ ≤ (7293034 : Nat); omega)⟩ dL_law_1406 ?_
                                                  refine lv_iload hx hb dL_law_1409 (lv_at hl 1 rfl) ?_
                                                  refine lv_icmp_eq (tgt := 1416) hx hb dL_law_1411 (by decide) (fun c_175 => ?_) (fun c_175 => ?_)
                                                  · have hf := ip c_175 hf
                                                    refine lv_iload hx hb dL_law_1416 (lv_at hl 1 rfl) ?_
                                                    refine lv_if_ne (tgt := 1433) hx hb dL_law_1418 (by decide) (fun c_176 => ?_) (fun c_176 => ?_)
                                                    · have hf := iq c_176 hf
                                                      refine lv_goto (tgt := 2493) hx hb dL_law_1433 (by decide) ?_
                                                      refine lv_iinc (v := (i + 3)) (lv' := [(5, .int (i + 3)), (7, .int r_173.1), (6, .int r_172.1), (0, .ref b), (1, .ref c0), (2, .ref m0), (3, .ref o0), (4, .ref e0)]) hx hb dL_law_2493 hl (k := 7) rfl rfl (by decide) rfl (fun ls hl => ?_)
                                                      refine lv_goto (tgt := 28) hx hb dL_law_2496 (by decide) ?_
                                                      refine W.cs (cells' := cl + 1) (slots' := sl + 6) (by omega) (by omega) ?_
                                                      exact ih (i + 3) σ η τ δ r_173.2 r_172.2 ε (cl + 1) (sl + 6) (by omega) (by omega) _ _ ls hP hD hS (lv_sub hl [3, 4, 5, 6, 7, 0] rfl) hf
                                                    · have hf := ip c_176 hf
                                                      refine lv_aload_n hx hb dL_law_1421 rfl (lv_at hl 5 rfl) ?_
                                                      refine lv_iconst (v := (0 : Int32)) hx hb dL_law_1422 (by decide) ?_
                                                      refine va_lald hx hb hE.1 hP 48 2 rfl rfl (vin (by decide)) dL_law_1423 ?_
                                                      refine lv_iload hx hb dL_law_1424 (lv_at hl 0 rfl) ?_
                                                      refine lv_i2l hx hb dL_law_1426 rfl ?_
                                                      refine W.lcmp hx hb dL_law_1427 ?_
                                                      refine lv_if_eq (tgt := 1433) hx hb dL_law_1428 (by decide) (fun c_177 => ?_) (fun c_177 => ?_)
                                                      · have hf := ip c_177 hf
                                                        refine lv_goto (tgt := 2493) hx hb dL_law_1433 (by decide) ?_
                                                        refine lv_iinc (v := (i + 3)) (lv' := [(5, .int (i + 3)), (7, .int r_173.1), (6, .int r_172.1), (0, .ref b), (1, .ref c0), (2, .ref m0), (3, .ref o0), (4, .ref e0)]) hx hb dL_law_2493 hl (k := 7) rfl rfl (by decide) rfl (fun ls hl => ?_)
                                                        refine lv_goto (tgt := 28) hx hb dL_law_2496 (by decide) ?_
                                                        refine W.cs (cells' := cl + 1) (slots' := sl + 6) (by omega) (by omega) ?_
                                                        exact ih (i + 3) σ η τ δ r_173.2 r_172.2 ε (cl + 1) (sl + 6) (by omega) (by omega) _ _ ls hP hD hS (lv_sub hl [3, 4, 5, 6, 7, 0] rfl) hf
                                                      · have hf := iq c_177 hf
                                                        refine lv_iconst (v := (0 : Int32)) hx hb dL_law_1431 (by decide) ?_
                                                        exact absurd (Option.some.inj hf) (by decide)
                                                  · have hf := iq c_175 hf
                                                    refine lv_iconst (v := (0 : Int32)) hx hb dL_law_1414 (by decide) ?_
                                                    exact absurd (Option.some.inj hf) (by decide)
                                                · have hf := iq s_170 hf
                                                  by_cases s_178 : ((xs (Int32.toNatClampNeg i)) &&& (63 : Int32)) = (22 : Int32)
                                                  · have hf := ip s_178 hf
                                                    refine lv_tableIn (off := 1392) (tgt := 1436) hx hb dL_law_44 (by rw [s_178]; decide) (by rw [s_178]; decide) (by rw [s_178]; rfl) (by decide) ?_
                                                    refine lv_aload_n hx hb dL_law_1436 rfl (lv_at hl 1 rfl) ?_
                                                    refine lv_aload_n hx hb dL_law_1437 rfl (lv_at hl 0 rfl) ?_
                                                    refine lv_iload hx hb dL_law_1438 (lv_at hl 5 rfl) ?_
                                                    refine lv_iconst (v := (1 : Int32)) hx hb dL_law_1440 (by decide) ?_
                                                    refine lv_iadd hx hb dL_law_1441 ?_
                                                    obtain ⟨h_179, hf⟩ := ck hf
                                                    refine va_sld hx hb hX hbl hbA hS (vin h_179) dL_law_1442 ?_
                                                    refine lv_aload_n hx hb dL_law_1443 rfl (lv_at hl 3 rfl) ?_
                                                    obtain ⟨r_180, e_180, hf⟩ := bo hf
                                                    refine lcallS (W0 := (wC c0 h k0 x0 d0 ++ (wS g h a1 a2 a3 a4 σ ++ (wH g k0 k1 γ η ++ (wX g x0 x1 τ ++ (wD g d0 d1 d2 δ ++ (wM g m0 m1 m2 m3 m4 μ ++ (wO g o0 ω ++ (wE g e0 ε))))))))) (Wc := (wC c0 h k0 x0 d0 ++ (wS g h a1 a2 a3 a4 σ ++ (wO g o0 ω)))) (Wr := (wH g k0 k1 γ η ++ (wX g x0 x1 τ ++ (wD g d0 d1 d2 δ ++ (wM g m0 m1 m2 m3 m4 μ ++ (wE g e0 ε)))))) (W1 := (wC c0 h k0 x0 d0 ++ (wS g h a1 a2 a3 a4 σ ++ (wO g o0 r_180.2)))) (W2 := (wC c0 h k0 x0 d0 ++ (wS g h a1 a2 a3 a4 σ ++ (wH g k0 k1 γ η ++ (wX g x0 x1 τ ++ (wD g d0 d1 d2 δ ++ (wM g m0 m1 m2 m3 m4 μ ++ (wO g o0 r_180.2 ++ (wE g e0 ε))))))))) (As := [.ref c0, .int (xs (Int32.toNatClampNeg (i + (1 : Int32)))), .ref o0]) (rest := []) [0, 1, 2, 3, 4, 5, 48] [6, 7, 8, 9, 10, 11, 12, 13, 14, 15, 16, 17, 18, 19, 20, 21, 22, 23, 24, 25, 26, 27, 28, 29, 30, 31, 32, 33, 34, 35, 36, 37, 38, 39, 40, 41, 42, 43, 44, 45, 46, 47, 49] [43, 44, 45, 46, 47, 48, 0, 1, 2, 3, 4, 5, 6, 7, 8, 9, 10, 11, 12, 13, 14, 15, 16, 17, 18, 19, 20, 21, 22, 23, 24, 25, 26, 27, 28, 29, 30, 31, 32, 33, 34, 35, 36, 37, 38, 39, 40, 41, 49, 42] ⟨hx, hb, hml, hown, hts⟩ hP hD hE hZ hS hA (cL_isTurned_ok l hl0 g c0 h k0 x0 d0 a1 a2 a3 a4 o0 σ ω (xs (Int32.toNatClampNeg (i + (1 : Int32)))) _ e_180) (vx_cwSW 3 hts gL_law_L_isTurned rfl rfl rfl hdL_isTurned.2 ⟨(Nat.le_of_ble_eq_true rfl), (Nat.le_of_ble_eq_true rfl)⟩) rfl rfl rfl (by decide) (by decide) (by decide) (by decide) rfl hl.1 rfl (Nat.le_of_ble_eq_true rfl) ⟨(by show _ ≤ (601024 : Nat); omega), (by show _ ≤ (7293034 : Nat); omega)⟩ dL_law_1444 (fun H locs hP hD hS => ?_)
                                                    refine lv_istore (lv' := [(6, .int r_180.1), (0, .ref b), (1, .ref c0), (2, .ref m0), (3, .ref o0), (4, .ref e0), (5, .int i)]) hx hb dL_law_1447 hl (by decide) rfl (fun ls hl => ?_)
                                                    refine lv_aload_n hx hb dL_law_1449 rfl (lv_at hl 3 rfl) ?_
                                                    refine lv_aload_n hx hb dL_law_1450 rfl (lv_at hl 1 rfl) ?_
                                                    refine lv_iload hx hb dL_law_1451 (lv_at hl 6 rfl) ?_
                                                    refine lv_iconst (v := (1 : Int32)) hx hb dL_law_1453 (by decide) ?_
                                                    refine lv_iadd hx hb dL_law_1454 ?_
                                                    refine va_sld hx hb hX hbl hbA hS (vin h_179) dL_law_1455 ?_
                                                    obtain ⟨r_181, e_181, hf⟩ := bo hf
                                                    refine mcallVi (W0 := (wC c0 h k0 x0 d0 ++ (wS g h a1 a2 a3 a4 σ ++ (wH g k0 k1 γ η ++ (wX g x0 x1 τ ++ (wD g d0 d1 d2 δ ++ (wM g m0 m1 m2 m3 m4 μ ++ (wO g o0 r_180.2 ++ (wE g e0 ε))))))))) (Wc := (wM g m0 m1 m2 m3 m4 μ)) (Wr := (wC c0 h k0 x0 d0 ++ (wS g h a1 a2 a3 a4 σ ++ (wH g k0 k1 γ η ++ (wX g x0 x1 τ ++ (wD g d0 d1 d2 δ ++ (wO g o0 r_180.2 ++ (wE g e0 ε)))))))) (W1 := (wM g m0 m1 m2 m3 m4 r_181.2)) (W2 := (wC c0 h k0 x0 d0 ++ (wS g h a1 a2 a3 a4 σ ++ (wH g k0 k1 γ η ++ (wX g x0 x1 τ ++ (wD g d0 d1 d2 δ ++ (wM g m0 m1 m2 m3 m4 r_181.2 ++ (wO g o0 r_180.2 ++ (wE g e0 ε))))))))) (As := [.int (xs (Int32.toNatClampNeg (i + (1 : Int32))))]) (rest := []) [43, 44, 45, 46, 47] [0, 1, 2, 3, 4, 5, 6, 7, 8, 9, 10, 11, 12, 13, 14, 15, 16, 17, 18, 19, 20, 21, 22, 23, 24, 25, 26, 27, 28, 29, 30, 31, 32, 33, 34, 35, 36, 37, 38, 39, 40, 41, 42, 48, 49] [0, 1, 2, 3, 4, 5, 6, 7, 8, 9, 10, 11, 12, 13, 14, 15, 16, 17, 18, 19, 20, 21, 22, 23, 24, 25, 26, 27, 28, 29, 30, 31, 32, 33, 34, 35, 36, 37, 38, 39, 40, 41, 42, 45, 46, 47, 48, 49, 43, 44] 5 0 ⟨hx, hb, hml, hown, hts⟩ hP hD hE hZ hS hA (cX7_isTurned_ok l g m0 m1 m2 m3 m4 μ (xs (Int32.toNatClampNeg (i + (1 : Int32)))) _ e_181) (cwV 1 hts gL_law_X7_isTurned rfl rfl rfl hdX7_isTurned ⟨(Nat.le_of_ble_eq_true rfl), (Nat.le_of_ble_eq_true rfl)⟩) rfl rfl rfl (by decide) (by decide) (by decide) (by decide) rfl rfl rfl rfl hl.1 rfl (Nat.le_of_ble_eq_true rfl) ⟨(by show _ ≤ (601024 : Nat); omega), (by show _ ≤ (7293034 : Nat); omega)⟩ dL_law_1456 (fun H locs hP hD hS => ?_)
                                                    refine lv_istore (lv' := [(7, .int (b2i r_181.1)), (6, .int r_180.1), (0, .ref b), (1, .ref c0), (2, .ref m0), (3, .ref o0), (4, .ref e0), (5, .int i)]) hx hb dL_law_1459 hl (by decide) rfl (fun ls hl => ?_)
                                                    refine lv_aload_n hx hb dL_law_1461 rfl (lv_at hl 4 rfl) ?_
                                                    obtain ⟨r_182, e_182, hf⟩ := bo hf
                                                    refine pcallV (W0 := (wC c0 h k0 x0 d0 ++ (wS g h a1 a2 a3 a4 σ ++ (wH g k0 k1 γ η ++ (wX g x0 x1 τ ++ (wD g d0 d1 d2 δ ++ (wM g m0 m1 m2 m3 m4 r_181.2 ++ (wO g o0 r_180.2 ++ (wE g e0 ε))))))))) (As := []) (rest := []) [43, 44, 45, 46, 47] 5 0 ⟨hx, hb, hml, hown, hts⟩ hP hE hZ hS (cX7_thrown_ok l g m0 m1 m2 m3 m4 r_181.2 e_182) (cwV 0 hts gL_law_X7_thrown rfl rfl rfl hdX7_thrown ⟨(Nat.le_of_ble_eq_true rfl), (Nat.le_of_ble_eq_true rfl)⟩) rfl rfl rfl rfl rfl hl.1 rfl (Nat.le_of_ble_eq_true rfl) ⟨(by show _ ≤ (601024 : Nat); omega), (by show _ ≤ (7293034 : Nat); omega)⟩ dL_law_1462 ?_
                                                    refine lv_iload hx hb dL_law_1465 (lv_at hl 1 rfl) ?_
                                                    refine lv_icmp_eq (tgt := 1472) hx hb dL_law_1467 (by decide) (fun c_183 => ?_) (fun c_183 => ?_)
                                                    · have hf := ip c_183 hf
                                                      refine lv_iload hx hb dL_law_1472 (lv_at hl 1 rfl) ?_
                                                      refine lv_if_ne (tgt := 1496) hx hb dL_law_1474 (by decide) (fun c_184 => ?_) (fun c_184 => ?_)
                                                      · have hf := iq c_184 hf
                                                        refine lv_goto (tgt := 2493) hx hb dL_law_1496 (by decide) ?_
                                                        refine lv_iinc (v := (i + 3)) (lv' := [(5, .int (i + 3)), (7, .int (b2i r_181.1)), (6, .int r_180.1), (0, .ref b), (1, .ref c0), (2, .ref m0), (3, .ref o0), (4, .ref e0)]) hx hb dL_law_2493 hl (k := 7) rfl rfl (by decide) rfl (fun ls hl => ?_)
                                                        refine lv_goto (tgt := 28) hx hb dL_law_2496 (by decide) ?_
                                                        refine W.cs (cells' := cl + 1) (slots' := sl + 6) (by omega) (by omega) ?_
                                                        exact ih (i + 3) σ η τ δ r_181.2 r_180.2 ε (cl + 1) (sl + 6) (by omega) (by omega) _ _ ls hP hD hS (lv_sub hl [3, 4, 5, 6, 7, 0] rfl) hf
                                                      · have hf := ip c_184 hf
                                                        refine lv_aload_n hx hb dL_law_1477 rfl (lv_at hl 5 rfl) ?_
                                                        refine lv_iconst (v := (0 : Int32)) hx hb dL_law_1478 (by decide) ?_
                                                        refine va_lald hx hb hE.1 hP 48 2 rfl rfl (vin (by decide)) dL_law_1479 ?_
                                                        refine lv_iload hx hb dL_law_1480 (lv_at hl 0 rfl) ?_
                                                        refine lv_beq (tgt := 1489) hx hb dL_law_1482 (by decide) (fun c_185 => ?_) (fun c_185 => ?_)
                                                        · have hf := iq c_185 hf
                                                          refine lv_lconst (v := 0) hx hb dL_law_1489 (by decide) ?_
                                                          refine W.lcmp hx hb dL_law_1490 ?_
                                                          refine lv_if_eq (tgt := 1496) hx hb dL_law_1491 (by decide) (fun c_186 => ?_) (fun c_186 => ?_)
                                                          · have hf := ip c_186 hf
                                                            refine lv_goto (tgt := 2493) hx hb dL_law_1496 (by decide) ?_
                                                            refine lv_iinc (v := (i + 3)) (lv' := [(5, .int (i + 3)), (7, .int (b2i r_181.1)), (6, .int r_180.1), (0, .ref b), (1, .ref c0), (2, .ref m0), (3, .ref o0), (4, .ref e0)]) hx hb dL_law_2493 hl (k := 7) rfl rfl (by decide) rfl (fun ls hl => ?_)
                                                            refine lv_goto (tgt := 28) hx hb dL_law_2496 (by decide) ?_
                                                            refine W.cs (cells' := cl + 1) (slots' := sl + 6) (by omega) (by omega) ?_
                                                            exact ih (i + 3) σ η τ δ r_181.2 r_180.2 ε (cl + 1) (sl + 6) (by omega) (by omega) _ _ ls hP hD hS (lv_sub hl [3, 4, 5, 6, 7, 0] rfl) hf
                                                          · have hf := iq c_186 hf
                                                            refine lv_iconst (v := (0 : Int32)) hx hb dL_law_1494 (by decide) ?_
                                                            exact absurd (Option.some.inj hf) (by decide)
                                                        · have hf := ip c_185 hf
                                                          refine lv_lconst (v := 1) hx hb dL_law_1485 (by decide) ?_
                                                          refine lv_goto (tgt := 1490) hx hb dL_law_1486 (by decide) ?_
                                                          refine W.lcmp hx hb dL_law_1490 ?_
                                                          refine lv_if_eq (tgt := 1496) hx hb dL_law_1491 (by decide) (fun c_187 => ?_) (fun c_187 => ?_)
                                                          · have hf := ip c_187 hf
                                                            refine lv_goto (tgt := 2493) hx hb dL_law_1496 (by decide) ?_
                                                            refine lv_iinc (v := (i + 3)) (lv' := [(5, .int (i + 3)), (7, .int (b2i r_181.1)), (6, .int r_180.1), (0, .ref b), (1, .ref c0), (2, .ref m0), (3, .ref o0), (4, .ref e0)]) hx hb dL_law_2493 hl (k := 7) rfl rfl (by decide) rfl (fun ls hl => ?_)
                                                            refine lv_goto (tgt := 28) hx hb dL_law_2496 (by decide) ?_
                                                            refine W.cs (cells' := cl + 1) (slots' := sl + 6) (by omega) (by omega) ?_
                                                            exact ih (i + 3) σ η τ δ r_181.2 r_180.2 ε (cl + 1) (sl + 6) (by omega) (by omega) _ _ ls hP hD hS (lv_sub hl [3, 4, 5, 6, 7, 0] rfl) hf
                                                          · have hf := iq c_187 hf
                                                            refine lv_iconst (v := (0 : Int32)) hx hb dL_law_1494 (by decide) ?_
                                                            exact absurd (Option.some.inj hf) (by decide)
                                                    · have hf := iq c_183 hf
                                                      refine lv_iconst (v := (0 : Int32)) hx hb dL_law_1470 (by decide) ?_
                                                      exact absurd (Option.some.inj hf) (by decide)
                                                  · have hf := iq s_178 hf
                                                    by_cases s_188 : ((xs (Int32.toNatClampNeg i)) &&& (63 : Int32)) = (23 : Int32)
                                                    · have hf := ip s_188 hf
                                                      refine lv_tableIn (off := 1455) (tgt := 1499) hx hb dL_law_44 (by rw [s_188]; decide) (by rw [s_188]; decide) (by rw [s_188]; rfl) (by decide) ?_
                                                      refine lv_aload_n hx hb dL_law_1499 rfl (lv_at hl 1 rfl) ?_
                                                      refine lv_aload_n hx hb dL_law_1500 rfl (lv_at hl 0 rfl) ?_
                                                      refine lv_iload hx hb dL_law_1501 (lv_at hl 5 rfl) ?_
                                                      refine lv_iconst (v := (1 : Int32)) hx hb dL_law_1503 (by decide) ?_
                                                      refine lv_iadd hx hb dL_law_1504 ?_
                                                      obtain ⟨h_189, hf⟩ := ck hf
                                                      refine va_sld hx hb hX hbl hbA hS (vin h_189) dL_law_1505 ?_
                                                      refine lv_aload_n hx hb dL_law_1506 rfl (lv_at hl 3 rfl) ?_
                                                      obtain ⟨r_190, e_190, hf⟩ := bo hf
                                                      refine lcallS (W0 := (wC c0 h k0 x0 d0 ++ (wS g h a1 a2 a3 a4 σ ++ (wH g k0 k1 γ η ++ (wX g x0 x1 τ ++ (wD g d0 d1 d2 δ ++ (wM g m0 m1 m2 m3 m4 μ ++ (wO g o0 ω ++ (wE g e0 ε))))))))) (Wc := (wC c0 h k0 x0 d0 ++ (wS g h a1 a2 a3 a4 σ ++ (wO g o0 ω)))) (Wr := (wH g k0 k1 γ η ++ (wX g x0 x1 τ ++ (wD g d0 d1 d2 δ ++ (wM g m0 m1 m2 m3 m4 μ ++ (wE g e0 ε)))))) (W1 := (wC c0 h k0 x0 d0 ++ (wS g h a1 a2 a3 a4 σ ++ (wO g o0 r_190.2)))) (W2 := (wC c0 h k0 x0 d0 ++ (wS g h a1 a2 a3 a4 σ ++ (wH g k0 k1 γ η ++ (wX g x0 x1 τ ++ (wD g d0 d1 d2 δ ++ (wM g m0 m1 m2 m3 m4 μ ++ (wO g o0 r_190.2 ++ (wE g e0 ε))))))))) (As := [.ref c0, .int (xs (Int32.toNatClampNeg (i + (1 : Int32)))), .ref o0]) (rest := []) [0, 1, 2, 3, 4, 5, 48] [6, 7, 8, 9, 10, 11, 12, 13, 14, 15, 16, 17, 18, 19, 20, 21, 22, 23, 24, 25, 26, 27, 28, 29, 30, 31, 32, 33, 34, 35, 36, 37, 38, 39, 40, 41, 42, 43, 44, 45, 46, 47, 49] [43, 44, 45, 46, 47, 48, 0, 1, 2, 3, 4, 5, 6, 7, 8, 9, 10, 11, 12, 13, 14, 15, 16, 17, 18, 19, 20, 21, 22, 23, 24, 25, 26, 27, 28, 29, 30, 31, 32, 33, 34, 35, 36, 37, 38, 39, 40, 41, 49, 42] ⟨hx, hb, hml, hown, hts⟩ hP hD hE hZ hS hA (cL_readFrom_ok l hl0 g c0 h k0 x0 d0 a1 a2 a3 a4 o0 σ ω (xs (Int32.toNatClampNeg (i + (1 : Int32)))) _ e_190) (vx_cwSW 3 hts gL_law_L_readFrom rfl rfl rfl hdL_readFrom.2 ⟨(Nat.le_of_ble_eq_true rfl), (Nat.le_of_ble_eq_true rfl)⟩) rfl rfl rfl (by decide) (by decide) (by decide) (by decide) rfl hl.1 rfl (Nat.le_of_ble_eq_true rfl) ⟨(by show _ ≤ (601024 : Nat); omega), (by show _ ≤ (7293034 : Nat); omega)⟩ dL_law_1507 (fun H locs hP hD hS => ?_)
                                                      refine lv_istore (lv' := [(6, .int r_190.1), (0, .ref b), (1, .ref c0), (2, .ref m0), (3, .ref o0), (4, .ref e0), (5, .int i)]) hx hb dL_law_1510 hl (by decide) rfl (fun ls hl => ?_)
                                                      refine lv_aload_n hx hb dL_law_1512 rfl (lv_at hl 3 rfl) ?_
                                                      refine lv_aload_n hx hb dL_law_1513 rfl (lv_at hl 1 rfl) ?_
                                                      refine lv_iload hx hb dL_law_1514 (lv_at hl 6 rfl) ?_
                                                      refine lv_iconst (v := (1 : Int32)) hx hb dL_law_1516 (by decide) ?_
                                                      refine lv_iadd hx hb dL_law_1517 ?_
                                                      refine va_sld hx hb hX hbl hbA hS (vin h_189) dL_law_1518 ?_
                                                      obtain ⟨r_191, e_191, hf⟩ := bo hf
                                                      refine mcallVi (W0 := (wC c0 h k0 x0 d0 ++ (wS g h a1 a2 a3 a4 σ ++ (wH g k0 k1 γ η ++ (wX g x0 x1 τ ++ (wD g d0 d1 d2 δ ++ (wM g m0 m1 m2 m3 m4 μ ++ (wO g o0 r_190.2 ++ (wE g e0 ε))))))))) (Wc := (wM g m0 m1 m2 m3 m4 μ)) (Wr := (wC c0 h k0 x0 d0 ++ (wS g h a1 a2 a3 a4 σ ++ (wH g k0 k1 γ η ++ (wX g x0 x1 τ ++ (wD g d0 d1 d2 δ ++ (wO g o0 r_190.2 ++ (wE g e0 ε)))))))) (W1 := (wM g m0 m1 m2 m3 m4 r_191.2)) (W2 := (wC c0 h k0 x0 d0 ++ (wS g h a1 a2 a3 a4 σ ++ (wH g k0 k1 γ η ++ (wX g x0 x1 τ ++ (wD g d0 d1 d2 δ ++ (wM g m0 m1 m2 m3 m4 r_191.2 ++ (wO g o0 r_190.2 ++ (wE g e0 ε))))))))) (As := [.int (xs (Int32.toNatClampNeg (i + (1 : Int32))))]) (rest := []) [43, 44, 45, 46, 47] [0, 1, 2, 3, 4, 5, 6, 7, 8, 9, 10, 11, 12, 13, 14, 15, 16, 17, 18, 19, 20, 21, 22, 23, 24, 25, 26, 27, 28, 29, 30, 31, 32, 33, 34, 35, 36, 37, 38, 39, 40, 41, 42, 48, 49] [0, 1, 2, 3, 4, 5, 6, 7, 8, 9, 10, 11, 12, 13, 14, 15, 16, 17, 18, 19, 20, 21, 22, 23, 24, 25, 26, 27, 28, 29, 30, 31, 32, 33, 34, 35, 36, 37, 38, 39, 40, 41, 42, 45, 46, 47, 48, 49, 43, 44] 5 0 ⟨hx, hb, hml, hown, hts⟩ hP hD hE hZ hS hA (cX7_readFrom_ok l g m0 m1 m2 m3 m4 μ (xs (Int32.toNatClampNeg (i + (1 : Int32)))) _ e_191) (cwV 1 hts gL_law_X7_readFrom rfl rfl rfl hdX7_readFrom ⟨(Nat.le_of_ble_eq_true rfl), (Nat.le_of_ble_eq_true rfl)⟩) rfl rfl rfl (by decide) (by decide) (by decide) (by decide) rfl rfl rfl rfl hl.1 rfl (Nat.le_of_ble_eq_true rfl) ⟨(by show _ ≤ (601024 : Nat); omega), (by show _ ≤ (7293034 : Nat); omega)⟩ dL_law_1519 (fun H locs hP hD hS => ?_)
                                                      refine lv_istore (lv' := [(7, .int r_191.1), (6, .int r_190.1), (0, .ref b), (1, .ref c0), (2, .ref m0), (3, .ref o0), (4, .ref e0), (5, .int i)]) hx hb dL_law_1522 hl (by decide) rfl (fun ls hl => ?_)
                                                      refine lv_aload_n hx hb dL_law_1524 rfl (lv_at hl 4 rfl) ?_
                                                      obtain ⟨r_192, e_192, hf⟩ := bo hf
                                                      refine pcallV (W0 := (wC c0 h k0 x0 d0 ++ (wS g h a1 a2 a3 a4 σ ++ (wH g k0 k1 γ η ++ (wX g x0 x1 τ ++ (wD g d0 d1 d2 δ ++ (wM g m0 m1 m2 m3 m4 r_191.2 ++ (wO g o0 r_190.2 ++ (wE g e0 ε))))))))) (As := []) (rest := []) [43, 44, 45, 46, 47] 5 0 ⟨hx, hb, hml, hown, hts⟩ hP hE hZ hS (cX7_thrown_ok l g m0 m1 m2 m3 m4 r_191.2 e_192) (cwV 0 hts gL_law_X7_thrown rfl rfl rfl hdX7_thrown ⟨(Nat.le_of_ble_eq_true rfl), (Nat.le_of_ble_eq_true rfl)⟩) rfl rfl rfl rfl rfl hl.1 rfl (Nat.le_of_ble_eq_true rfl) ⟨(by show _ ≤ (601024 : Nat); omega), (by show _ ≤ (7293034 : Nat); omega)⟩ dL_law_1525 ?_
                                                      refine lv_iload hx hb dL_law_1528 (lv_at hl 1 rfl) ?_
                                                      refine lv_icmp_eq (tgt := 1535) hx hb dL_law_1530 (by decide) (fun c_193 => ?_) (fun c_193 => ?_)
                                                      · have hf := ip c_193 hf
                                                        refine lv_iload hx hb dL_law_1535 (lv_at hl 1 rfl) ?_
                                                        refine lv_if_ne (tgt := 1552) hx hb dL_law_1537 (by decide) (fun c_194 => ?_) (fun c_194 => ?_)
                                                        · have hf := iq c_194 hf
                                                          refine lv_goto (tgt := 2493) hx hb dL_law_1552 (by decide) ?_
                                                          refine lv_iinc (v := (i + 3)) (lv' := [(5, .int (i + 3)), (7, .int r_191.1), (6, .int r_190.1), (0, .ref b), (1, .ref c0), (2, .ref m0), (3, .ref o0), (4, .ref e0)]) hx hb dL_law_2493 hl (k := 7) rfl rfl (by decide) rfl (fun ls hl => ?_)
                                                          refine lv_goto (tgt := 28) hx hb dL_law_2496 (by decide) ?_
                                                          refine W.cs (cells' := cl + 1) (slots' := sl + 6) (by omega) (by omega) ?_
                                                          exact ih (i + 3) σ η τ δ r_191.2 r_190.2 ε (cl + 1) (sl + 6) (by omega) (by omega) _ _ ls hP hD hS (lv_sub hl [3, 4, 5, 6, 7, 0] rfl) hf
                                                        · have hf := ip c_194 hf
                                                          refine lv_aload_n hx hb dL_law_1540 rfl (lv_at hl 5 rfl) ?_
                                                          refine lv_iconst (v := (0 : Int32)) hx hb dL_law_1541 (by decide) ?_
                                                          refine va_lald hx hb hE.1 hP 48 2 rfl rfl (vin (by decide)) dL_law_1542 ?_
                                                          refine lv_iload hx hb dL_law_1543 (lv_at hl 0 rfl) ?_
                                                          refine lv_i2l hx hb dL_law_1545 rfl ?_
                                                          refine W.lcmp hx hb dL_law_1546 ?_
                                                          refine lv_if_eq (tgt := 1552) hx hb dL_law_1547 (by decide) (fun c_195 => ?_) (fun c_195 => ?_)
                                                          · have hf := ip c_195 hf
                                                            refine lv_goto (tgt := 2493) hx hb dL_law_1552 (by decide) ?_
                                                            refine lv_iinc (v := (i + 3)) (lv' := [(5, .int (i + 3)), (7, .int r_191.1), (6, .int r_190.1), (0, .ref b), (1, .ref c0), (2, .ref m0), (3, .ref o0), (4, .ref e0)]) hx hb dL_law_2493 hl (k := 7) rfl rfl (by decide) rfl (fun ls hl => ?_)
                                                            refine lv_goto (tgt := 28) hx hb dL_law_2496 (by decide) ?_
                                                            refine W.cs (cells' := cl + 1) (slots' := sl + 6) (by omega) (by omega) ?_
                                                            exact ih (i + 3) σ η τ δ r_191.2 r_190.2 ε (cl + 1) (sl + 6) (by omega) (by omega) _ _ ls hP hD hS (lv_sub hl [3, 4, 5, 6, 7, 0] rfl) hf
                                                          · have hf := iq c_195 hf
                                                            refine lv_iconst (v := (0 : Int32)) hx hb dL_law_1550 (by decide) ?_
                                                            exact absurd (Option.some.inj hf) (by decide)
                                                      · have hf := iq c_193 hf
                                                        refine lv_iconst (v := (0 : Int32)) hx hb dL_law_1533 (by decide) ?_
                                                        exact absurd (Option.some.inj hf) (by decide)
                                                    · have hf := iq s_188 hf
                                                      by_cases s_196 : ((xs (Int32.toNatClampNeg i)) &&& (63 : Int32)) = (24 : Int32)
                                                      · have hf := ip s_196 hf
                                                        refine lv_tableIn (off := 1511) (tgt := 1555) hx hb dL_law_44 (by rw [s_196]; decide) (by rw [s_196]; decide) (by rw [s_196]; rfl) (by decide) ?_
                                                        refine lv_aload_n hx hb dL_law_1555 rfl (lv_at hl 1 rfl) ?_
                                                        refine lv_aload_n hx hb dL_law_1556 rfl (lv_at hl 0 rfl) ?_
                                                        refine lv_iload hx hb dL_law_1557 (lv_at hl 5 rfl) ?_
                                                        refine lv_iconst (v := (1 : Int32)) hx hb dL_law_1559 (by decide) ?_
                                                        refine lv_iadd hx hb dL_law_1560 ?_
                                                        obtain ⟨h_197, hf⟩ := ck hf
                                                        refine va_sld hx hb hX hbl hbA hS (vin h_197) dL_law_1561 ?_
                                                        refine lv_aload_n hx hb dL_law_1562 rfl (lv_at hl 3 rfl) ?_
                                                        obtain ⟨r_198, e_198, hf⟩ := bo hf
                                                        refine lcallS (W0 := (wC c0 h k0 x0 d0 ++ (wS g h a1 a2 a3 a4 σ ++ (wH g k0 k1 γ η ++ (wX g x0 x1 τ ++ (wD g d0 d1 d2 δ ++ (wM g m0 m1 m2 m3 m4 μ ++ (wO g o0 ω ++ (wE g e0 ε))))))))) (Wc := (wC c0 h k0 x0 d0 ++ (wS g h a1 a2 a3 a4 σ ++ (wO g o0 ω)))) (Wr := (wH g k0 k1 γ η ++ (wX g x0 x1 τ ++ (wD g d0 d1 d2 δ ++ (wM g m0 m1 m2 m3 m4 μ ++ (wE g e0 ε)))))) (W1 := (wC c0 h k0 x0 d0 ++ (wS g h a1 a2 a3 a4 σ ++ (wO g o0 r_198.2)))) (W2 := (wC c0 h k0 x0 d0 ++ (wS g h a1 a2 a3 a4 σ ++ (wH g k0 k1 γ η ++ (wX g x0 x1 τ ++ (wD g d0 d1 d2 δ ++ (wM g m0 m1 m2 m3 m4 μ ++ (wO g o0 r_198.2 ++ (wE g e0 ε))))))))) (As := [.ref c0, .int (xs (Int32.toNatClampNeg (i + (1 : Int32)))), .ref o0]) (rest := []) [0, 1, 2, 3, 4, 5, 48] [6, 7, 8, 9, 10, 11, 12, 13, 14, 15, 16, 17, 18, 19, 20, 21, 22, 23, 24, 25, 26, 27, 28, 29, 30, 31, 32, 33, 34, 35, 36, 37, 38, 39, 40, 41, 42, 43, 44, 45, 46, 47, 49] [43, 44, 45, 46, 47, 48, 0, 1, 2, 3, 4, 5, 6, 7, 8, 9, 10, 11, 12, 13, 14, 15, 16, 17, 18, 19, 20, 21, 22, 23, 24, 25, 26, 27, 28, 29, 30, 31, 32, 33, 34, 35, 36, 37, 38, 39, 40, 41, 49, 42] ⟨hx, hb, hml, hown, hts⟩ hP hD hE hZ hS hA (cL_sizeOf_ok l hl0 g c0 h k0 x0 d0 a1 a2 a3 a4 o0 σ ω (xs (Int32.toNatClampNeg (i + (1 : Int32)))) _ e_198) (vx_cwSW 3 hts gL_law_L_sizeOf rfl rfl rfl hdL_sizeOf.2 ⟨(Nat.le_of_ble_eq_true rfl), (Nat.le_of_ble_eq_true rfl)⟩) rfl rfl rfl (by decide) (by decide) (by decide) (by decide) rfl hl.1 rfl (Nat.le_of_ble_eq_true rfl) ⟨(by show _ ≤ (601024 : Nat); omega), (by show _ ≤ (7293034 : Nat); omega)⟩ dL_law_1563 (fun H locs hP hD hS => ?_)
                                                        refine lv_istore (lv' := [(6, .int r_198.1), (0, .ref b), (1, .ref c0), (2, .ref m0), (3, .ref o0), (4, .ref e0), (5, .int i)]) hx hb dL_law_1566 hl (by decide) rfl (fun ls hl => ?_)
                                                        refine lv_aload_n hx hb dL_law_1568 rfl (lv_at hl 3 rfl) ?_
                                                        refine lv_aload_n hx hb dL_law_1569 rfl (lv_at hl 1 rfl) ?_
                                                        refine lv_iload hx hb dL_law_1570 (lv_at hl 6 rfl) ?_
                                                        refine lv_iconst (v := (1 : Int32)) hx hb dL_law_1572 (by decide) ?_
                                                        refine lv_iadd hx hb dL_law_1573 ?_
                                                        refine va_sld hx hb hX hbl hbA hS (vin h_197) dL_law_1574 ?_
                                                        obtain ⟨r_199, e_199, hf⟩ := bo hf
                                                        refine mcallVi (W0 := (wC c0 h k0 x0 d0 ++ (wS g h a1 a2 a3 a4 σ ++ (wH g k0 k1 γ η ++ (wX g x0 x1 τ ++ (wD g d0 d1 d2 δ ++ (wM g m0 m1 m2 m3 m4 μ ++ (wO g o0 r_198.2 ++ (wE g e0 ε))))))))) (Wc := (wM g m0 m1 m2 m3 m4 μ)) (Wr := (wC c0 h k0 x0 d0 ++ (wS g h a1 a2 a3 a4 σ ++ (wH g k0 k1 γ η ++ (wX g x0 x1 τ ++ (wD g d0 d1 d2 δ ++ (wO g o0 r_198.2 ++ (wE g e0 ε)))))))) (W1 := (wM g m0 m1 m2 m3 m4 r_199.2)) (W2 := (wC c0 h k0 x0 d0 ++ (wS g h a1 a2 a3 a4 σ ++ (wH g k0 k1 γ η ++ (wX g x0 x1 τ ++ (wD g d0 d1 d2 δ ++ (wM g m0 m1 m2 m3 m4 r_199.2 ++ (wO g o0 r_198.2 ++ (wE g e0 ε))))))))) (As := [.int (xs (Int32.toNatClampNeg (i + (1 : Int32))))]) (rest := []) [43, 44, 45, 46, 47] [0, 1, 2, 3, 4, 5, 6, 7, 8, 9, 10, 11, 12, 13, 14, 15, 16, 17, 18, 19, 20, 21, 22, 23, 24, 25, 26, 27, 28, 29, 30, 31, 32, 33, 34, 35, 36, 37, 38, 39, 40, 41, 42, 48, 49] [0, 1, 2, 3, 4, 5, 6, 7, 8, 9, 10, 11, 12, 13, 14, 15, 16, 17, 18, 19, 20, 21, 22, 23, 24, 25, 26, 27, 28, 29, 30, 31, 32, 33, 34, 35, 36, 37, 38, 39, 40, 41, 42, 45, 46, 47, 48, 49, 43, 44] 5 0 ⟨hx, hb, hml, hown, hts⟩ hP hD hE hZ hS hA (cX7_sizeOf_ok l g m0 m1 m2 m3 m4 μ (xs (Int32.toNatClampNeg (i + (1 : Int32)))) _ e_199) (cwV 1 hts gL_law_X7_sizeOf rfl rfl rfl hdX7_sizeOf ⟨(Nat.le_of_ble_eq_true rfl), (Nat.le_of_ble_eq_true rfl)⟩) rfl rfl rfl (by decide) (by decide) (by decide) (by decide) rfl rfl rfl rfl hl.1 rfl (Nat.le_of_ble_eq_true rfl) ⟨(by show _ ≤ (601024 : Nat); omega), (by show _ ≤ (7293034 : Nat); omega)⟩ dL_law_1575 (fun H locs hP hD hS => ?_)
                                                        refine lv_istore (lv' := [(7, .int r_199.1), (6, .int r_198.1), (0, .ref b), (1, .ref c0), (2, .ref m0), (3, .ref o0), (4, .ref e0), (5, .int i)]) hx hb dL_law_1578 hl (by decide) rfl (fun ls hl => ?_)
                                                        refine lv_aload_n hx hb dL_law_1580 rfl (lv_at hl 4 rfl) ?_
                                                        obtain ⟨r_200, e_200, hf⟩ := bo hf
                                                        refine pcallV (W0 := (wC c0 h k0 x0 d0 ++ (wS g h a1 a2 a3 a4 σ ++ (wH g k0 k1 γ η ++ (wX g x0 x1 τ ++ (wD g d0 d1 d2 δ ++ (wM g m0 m1 m2 m3 m4 r_199.2 ++ (wO g o0 r_198.2 ++ (wE g e0 ε))))))))) (As := []) (rest := []) [43, 44, 45, 46, 47] 5 0 ⟨hx, hb, hml, hown, hts⟩ hP hE hZ hS (cX7_thrown_ok l g m0 m1 m2 m3 m4 r_199.2 e_200) (cwV 0 hts gL_law_X7_thrown rfl rfl rfl hdX7_thrown ⟨(Nat.le_of_ble_eq_true rfl), (Nat.le_of_ble_eq_true rfl)⟩) rfl rfl rfl rfl rfl hl.1 rfl (Nat.le_of_ble_eq_true rfl) ⟨(by show _ ≤ (601024 : Nat); omega), (by show _ ≤ (7293034 : Nat); omega)⟩ dL_law_1581 ?_
                                                        refine lv_iload hx hb dL_law_1584 (lv_at hl 1 rfl) ?_
                                                        refine lv_icmp_eq (tgt := 1591) hx hb dL_law_1586 (by decide) (fun c_201 => ?_) (fun c_201 => ?_)
                                                        · have hf := ip c_201 hf
                                                          refine lv_iload hx hb dL_law_1591 (lv_at hl 1 rfl) ?_
                                                          refine lv_if_ne (tgt := 1608) hx hb dL_law_1593 (by decide) (fun c_202 => ?_) (fun c_202 => ?_)
                                                          · have hf := iq c_202 hf
                                                            refine lv_goto (tgt := 2493) hx hb dL_law_1608 (by decide) ?_
                                                            refine lv_iinc (v := (i + 3)) (lv' := [(5, .int (i + 3)), (7, .int r_199.1), (6, .int r_198.1), (0, .ref b), (1, .ref c0), (2, .ref m0), (3, .ref o0), (4, .ref e0)]) hx hb dL_law_2493 hl (k := 7) rfl rfl (by decide) rfl (fun ls hl => ?_)
                                                            refine lv_goto (tgt := 28) hx hb dL_law_2496 (by decide) ?_
                                                            refine W.cs (cells' := cl + 1) (slots' := sl + 6) (by omega) (by omega) ?_
                                                            exact ih (i + 3) σ η τ δ r_199.2 r_198.2 ε (cl + 1) (sl + 6) (by omega) (by omega) _ _ ls hP hD hS (lv_sub hl [3, 4, 5, 6, 7, 0] rfl) hf
                                                          · have hf := ip c_202 hf
                                                            refine lv_aload_n hx hb dL_law_1596 rfl (lv_at hl 5 rfl) ?_
                                                            refine lv_iconst (v := (0 : Int32)) hx hb dL_law_1597 (by decide) ?_
                                                            refine va_lald hx hb hE.1 hP 48 2 rfl rfl (vin (by decide)) dL_law_1598 ?_
                                                            refine lv_iload hx hb dL_law_1599 (lv_at hl 0 rfl) ?_
                                                            refine lv_i2l hx hb dL_law_1601 rfl ?_
                                                            refine W.lcmp hx hb dL_law_1602 ?_
                                                            refine lv_if_eq (tgt := 1608) hx hb dL_law_1603 (by decide) (fun c_203 => ?_) (fun c_203 => ?_)
                                                            · have hf := ip c_203 hf
                                                              refine lv_goto (tgt := 2493) hx hb dL_law_1608 (by decide) ?_
                                                              refine lv_iinc (v := (i + 3)) (lv' := [(5, .int (i + 3)), (7, .int r_199.1), (6, .int r_198.1), (0, .ref b), (1, .ref c0), (2, .ref m0), (3, .ref o0), (4, .ref e0)]) hx hb dL_law_2493 hl (k := 7) rfl rfl (by decide) rfl (fun ls hl => ?_)
                                                              refine lv_goto (tgt := 28) hx hb dL_law_2496 (by decide) ?_
                                                              refine W.cs (cells' := cl + 1) (slots' := sl + 6) (by omega) (by omega) ?_
                                                              exact ih (i + 3) σ η τ δ r_199.2 r_198.2 ε (cl + 1) (sl + 6) (by omega) (by omega) _ _ ls hP hD hS (lv_sub hl [3, 4, 5, 6, 7, 0] rfl) hf
                                                            · have hf := iq c_203 hf
                                                              refine lv_iconst (v := (0 : Int32)) hx hb dL_law_1606 (by decide) ?_
                                                              exact absurd (Option.some.inj hf) (by decide)
                                                        · have hf := iq c_201 hf
                                                          refine lv_iconst (v := (0 : Int32)) hx hb dL_law_1589 (by decide) ?_
                                                          exact absurd (Option.some.inj hf) (by decide)
                                                      · have hf := iq s_196 hf
                                                        by_cases s_204 : ((xs (Int32.toNatClampNeg i)) &&& (63 : Int32)) = (25 : Int32)
                                                        · have hf := ip s_204 hf
                                                          refine lv_tableIn (off := 1567) (tgt := 1611) hx hb dL_law_44 (by rw [s_204]; decide) (by rw [s_204]; decide) (by rw [s_204]; rfl) (by decide) ?_
                                                          refine lv_aload_n hx hb dL_law_1611 rfl (lv_at hl 1 rfl) ?_
                                                          refine lv_aload_n hx hb dL_law_1612 rfl (lv_at hl 0 rfl) ?_
                                                          refine lv_iload hx hb dL_law_1613 (lv_at hl 5 rfl) ?_
                                                          refine lv_iconst (v := (1 : Int32)) hx hb dL_law_1615 (by decide) ?_
                                                          refine lv_iadd hx hb dL_law_1616 ?_
                                                          obtain ⟨h_205, hf⟩ := ck hf
                                                          refine va_sld hx hb hX hbl hbA hS (vin h_205) dL_law_1617 ?_
                                                          refine lv_aload_n hx hb dL_law_1618 rfl (lv_at hl 0 rfl) ?_
                                                          refine lv_iload hx hb dL_law_1619 (lv_at hl 5 rfl) ?_
                                                          refine lv_iconst (v := (2 : Int32)) hx hb dL_law_1621 (by decide) ?_
                                                          refine lv_iadd hx hb dL_law_1622 ?_
                                                          obtain ⟨h_206, hf⟩ := ck hf
                                                          refine va_sld hx hb hX hbl hbA hS (vin h_206) dL_law_1623 ?_
                                                          refine lv_aload_n hx hb dL_law_1624 rfl (lv_at hl 3 rfl) ?_
                                                          obtain ⟨r_207, e_207, hf⟩ := bo hf
                                                          refine lcallS (W0 := (wC c0 h k0 x0 d0 ++ (wS g h a1 a2 a3 a4 σ ++ (wH g k0 k1 γ η ++ (wX g x0 x1 τ ++ (wD g d0 d1 d2 δ ++ (wM g m0 m1 m2 m3 m4 μ ++ (wO g o0 ω ++ (wE g e0 ε))))))))) (Wc := (wC c0 h k0 x0 d0 ++ (wS g h a1 a2 a3 a4 σ ++ (wO g o0 ω)))) (Wr := (wH g k0 k1 γ η ++ (wX g x0 x1 τ ++ (wD g d0 d1 d2 δ ++ (wM g m0 m1 m2 m3 m4 μ ++ (wE g e0 ε)))))) (W1 := (wC c0 h k0 x0 d0 ++ (wS g h a1 a2 a3 a4 σ ++ (wO g o0 r_207.2)))) (W2 := (wC c0 h k0 x0 d0 ++ (wS g h a1 a2 a3 a4 σ ++ (wH g k0 k1 γ η ++ (wX g x0 x1 τ ++ (wD g d0 d1 d2 δ ++ (wM g m0 m1 m2 m3 m4 μ ++ (wO g o0 r_207.2 ++ (wE g e0 ε))))))))) (As := [.ref c0, .int (xs (Int32.toNatClampNeg (i + (1 : Int32)))), .int (xs (Int32.toNatClampNeg (i + (2 : Int32)))), .ref o0]) (rest := []) [0, 1, 2, 3, 4, 5, 48] [6, 7, 8, 9, 10, 11, 12, 13, 14, 15, 16, 17, 18, 19, 20, 21, 22, 23, 24, 25, 26, 27, 28, 29, 30, 31, 32, 33, 34, 35, 36, 37, 38, 39, 40, 41, 42, 43, 44, 45, 46, 47, 49] [43, 44, 45, 46, 47, 48, 0, 1, 2, 3, 4, 5, 6, 7, 8, 9, 10, 11, 12, 13, 14, 15, 16, 17, 18, 19, 20, 21, 22, 23, 24, 25, 26, 27, 28, 29, 30, 31, 32, 33, 34, 35, 36, 37, 38, 39, 40, 41, 49, 42] ⟨hx, hb, hml, hown, hts⟩ hP hD hE hZ hS hA (cL_bendOf_ok l hl0 g c0 h k0 x0 d0 a1 a2 a3 a4 o0 σ ω (xs (Int32.toNatClampNeg (i + (1 : Int32)))) (xs (Int32.toNatClampNeg (i + (2 : Int32)))) _ e_207) (vx_cwSW 4 hts gL_law_L_bendOf rfl rfl rfl hdL_bendOf.2 ⟨(Nat.le_of_ble_eq_true rfl), (Nat.le_of_ble_eq_true rfl)⟩) rfl rfl rfl (by decide) (by decide) (by decide) (by decide) rfl hl.1 rfl (Nat.le_of_ble_eq_true rfl) ⟨(by show _ ≤ (601024 : Nat); omega), (by show _ ≤ (7293034 : Nat); omega)⟩ dL_law_1625 (fun H locs hP hD hS => ?_)
                                                          refine lv_istore (lv' := [(6, .int r_207.1), (0, .ref b), (1, .ref c0), (2, .ref m0), (3, .ref o0), (4, .ref e0), (5, .int i)]) hx hb dL_law_1628 hl (by decide) rfl (fun ls hl => ?_)
                                                          refine lv_aload_n hx hb dL_law_1630 rfl (lv_at hl 3 rfl) ?_
                                                          refine lv_aload_n hx hb dL_law_1631 rfl (lv_at hl 1 rfl) ?_
                                                          refine lv_iload hx hb dL_law_1632 (lv_at hl 6 rfl) ?_
                                                          refine lv_iconst (v := (1 : Int32)) hx hb dL_law_1634 (by decide) ?_
                                                          refine lv_iadd hx hb dL_law_1635 ?_
                                                          refine va_sld hx hb hX hbl hbA hS (vin h_205) dL_law_1636 ?_
                                                          refine lv_aload_n hx hb dL_law_1637 rfl (lv_at hl 1 rfl) ?_
                                                          refine lv_iload hx hb dL_law_1638 (lv_at hl 6 rfl) ?_
                                                          refine lv_iconst (v := (2 : Int32)) hx hb dL_law_1640 (by decide) ?_
                                                          refine lv_iadd hx hb dL_law_1641 ?_
                                                          refine va_sld hx hb hX hbl hbA hS (vin h_206) dL_law_1642 ?_
                                                          obtain ⟨r_208, e_208, hf⟩ := bo hf
                                                          refine mcallVi (W0 := (wC c0 h k0 x0 d0 ++ (wS g h a1 a2 a3 a4 σ ++ (wH g k0 k1 γ η ++ (wX g x0 x1 τ ++ (wD g d0 d1 d2 δ ++ (wM g m0 m1 m2 m3 m4 μ ++ (wO g o0 r_207.2 ++ (wE g e0 ε))))))))) (Wc := (wM g m0 m1 m2 m3 m4 μ)) (Wr := (wC c0 h k0 x0 d0 ++ (wS g h a1 a2 a3 a4 σ ++ (wH g k0 k1 γ η ++ (wX g x0 x1 τ ++ (wD g d0 d1 d2 δ ++ (wO g o0 r_207.2 ++ (wE g e0 ε)))))))) (W1 := (wM g m0 m1 m2 m3 m4 r_208.2)) (W2 := (wC c0 h k0 x0 d0 ++ (wS g h a1 a2 a3 a4 σ ++ (wH g k0 k1 γ η ++ (wX g x0 x1 τ ++ (wD g d0 d1 d2 δ ++ (wM g m0 m1 m2 m3 m4 r_208.2 ++ (wO g o0 r_207.2 ++ (wE g e0 ε))))))))) (As := [.int (xs (Int32.toNatClampNeg (i + (1 : Int32)))), .int (xs (Int32.toNatClampNeg (i + (2 : Int32))))]) (rest := []) [43, 44, 45, 46, 47] [0, 1, 2, 3, 4, 5, 6, 7, 8, 9, 10, 11, 12, 13, 14, 15, 16, 17, 18, 19, 20, 21, 22, 23, 24, 25, 26, 27, 28, 29, 30, 31, 32, 33, 34, 35, 36, 37, 38, 39, 40, 41, 42, 48, 49] [0, 1, 2, 3, 4, 5, 6, 7, 8, 9, 10, 11, 12, 13, 14, 15, 16, 17, 18, 19, 20, 21, 22, 23, 24, 25, 26, 27, 28, 29, 30, 31, 32, 33, 34, 35, 36, 37, 38, 39, 40, 41, 42, 45, 46, 47, 48, 49, 43, 44] 5 0 ⟨hx, hb, hml, hown, hts⟩ hP hD hE hZ hS hA (cX7_bendOf_ok l g m0 m1 m2 m3 m4 μ (xs (Int32.toNatClampNeg (i + (1 : Int32)))) (xs (Int32.toNatClampNeg (i + (2 : Int32)))) _ e_208) (cwV 2 hts gL_law_X7_bendOf rfl rfl rfl hdX7_bendOf ⟨(Nat.le_of_ble_eq_true rfl), (Nat.le_of_ble_eq_true rfl)⟩) rfl rfl rfl (by decide) (by decide) (by decide) (by decide) rfl rfl rfl rfl hl.1 rfl (Nat.le_of_ble_eq_true rfl) ⟨(by show _ ≤ (601024 : Nat); omega), (by show _ ≤ (7293034 : Nat); omega)⟩ dL_law_1643 (fun H locs hP hD hS => ?_)
                                                          refine lv_istore (lv' := [(7, .int r_208.1), (6, .int r_207.1), (0, .ref b), (1, .ref c0), (2, .ref m0), (3, .ref o0), (4, .ref e0), (5, .int i)]) hx hb dL_law_1646 hl (by decide) rfl (fun ls hl => ?_)
                                                          refine lv_aload_n hx hb dL_law_1648 rfl (lv_at hl 4 rfl) ?_
                                                          obtain ⟨r_209, e_209, hf⟩ := bo hf
                                                          refine pcallV (W0 := (wC c0 h k0 x0 d0 ++ (wS g h a1 a2 a3 a4 σ ++ (wH g k0 k1 γ η ++ (wX g x0 x1 τ ++ (wD g d0 d1 d2 δ ++ (wM g m0 m1 m2 m3 m4 r_208.2 ++ (wO g o0 r_207.2 ++ (wE g e0 ε))))))))) (As := []) (rest := []) [43, 44, 45, 46, 47] 5 0 ⟨hx, hb, hml, hown, hts⟩ hP hE hZ hS (cX7_thrown_ok l g m0 m1 m2 m3 m4 r_208.2 e_209) (cwV 0 hts gL_law_X7_thrown rfl rfl rfl hdX7_thrown ⟨(Nat.le_of_ble_eq_true rfl), (Nat.le_of_ble_eq_true rfl)⟩) rfl rfl rfl rfl rfl hl.1 rfl (Nat.le_of_ble_eq_true rfl) ⟨(by show _ ≤ (601024 : Nat); omega), (by show _ ≤ (7293034 : Nat); omega)⟩ dL_law_1649 ?_
                                                          refine lv_iload hx hb dL_law_1652 (lv_at hl 1 rfl) ?_
                                                          refine lv_icmp_eq (tgt := 1659) hx hb dL_law_1654 (by decide) (fun c_210 => ?_) (fun c_210 => ?_)
                                                          · have hf := ip c_210 hf
                                                            refine lv_iload hx hb dL_law_1659 (lv_at hl 1 rfl) ?_
                                                            refine lv_if_ne (tgt := 1676) hx hb dL_law_1661 (by decide) (fun c_211 => ?_) (fun c_211 => ?_)
                                                            · have hf := iq c_211 hf
                                                              refine lv_goto (tgt := 2493) hx hb dL_law_1676 (by decide) ?_
                                                              refine lv_iinc (v := (i + 3)) (lv' := [(5, .int (i + 3)), (7, .int r_208.1), (6, .int r_207.1), (0, .ref b), (1, .ref c0), (2, .ref m0), (3, .ref o0), (4, .ref e0)]) hx hb dL_law_2493 hl (k := 7) rfl rfl (by decide) rfl (fun ls hl => ?_)
                                                              refine lv_goto (tgt := 28) hx hb dL_law_2496 (by decide) ?_
                                                              refine W.cs (cells' := cl + 1) (slots' := sl + 6) (by omega) (by omega) ?_
                                                              exact ih (i + 3) σ η τ δ r_208.2 r_207.2 ε (cl + 1) (sl + 6) (by omega) (by omega) _ _ ls hP hD hS (lv_sub hl [3, 4, 5, 6, 7, 0] rfl) hf
                                                            · have hf := ip c_211 hf
                                                              refine lv_aload_n hx hb dL_law_1664 rfl (lv_at hl 5 rfl) ?_
                                                              refine lv_iconst (v := (0 : Int32)) hx hb dL_law_1665 (by decide) ?_
                                                              refine va_lald hx hb hE.1 hP 48 2 rfl rfl (vin (by decide)) dL_law_1666 ?_
                                                              refine lv_iload hx hb dL_law_1667 (lv_at hl 0 rfl) ?_
                                                              refine lv_i2l hx hb dL_law_1669 rfl ?_
                                                              refine W.lcmp hx hb dL_law_1670 ?_
                                                              refine lv_if_eq (tgt := 1676) hx hb dL_law_1671 (by decide) (fun c_212 => ?_) (fun c_212 => ?_)
                                                              · have hf := ip c_212 hf
                                                                refine lv_goto (tgt := 2493) hx hb dL_law_1676 (by decide) ?_
                                                                refine lv_iinc (v := (i + 3)) (lv' := [(5, .int (i + 3)), (7, .int r_208.1), (6, .int r_207.1), (0, .ref b), (1, .ref c0), (2, .ref m0), (3, .ref o0), (4, .ref e0)]) hx hb dL_law_2493 hl (k := 7) rfl rfl (by decide) rfl (fun ls hl => ?_)
                                                                refine lv_goto (tgt := 28) hx hb dL_law_2496 (by decide) ?_
                                                                refine W.cs (cells' := cl + 1) (slots' := sl + 6) (by omega) (by omega) ?_
                                                                exact ih (i + 3) σ η τ δ r_208.2 r_207.2 ε (cl + 1) (sl + 6) (by omega) (by omega) _ _ ls hP hD hS (lv_sub hl [3, 4, 5, 6, 7, 0] rfl) hf
                                                              · have hf := iq c_212 hf
                                                                refine lv_iconst (v := (0 : Int32)) hx hb dL_law_1674 (by decide) ?_
                                                                exact absurd (Option.some.inj hf) (by decide)
                                                          · have hf := iq c_210 hf
                                                            refine lv_iconst (v := (0 : Int32)) hx hb dL_law_1657 (by decide) ?_
                                                            exact absurd (Option.some.inj hf) (by decide)
                                                        · have hf := iq s_204 hf
                                                          by_cases s_213 : ((xs (Int32.toNatClampNeg i)) &&& (63 : Int32)) = (26 : Int32)
                                                          · have hf := ip s_213 hf
                                                            refine lv_tableIn (off := 1635) (tgt := 1679) hx hb dL_law_44 (by rw [s_213]; decide) (by rw [s_213]; decide) (by rw [s_213]; rfl) (by decide) ?_
                                                            refine lv_aload_n hx hb dL_law_1679 rfl (lv_at hl 1 rfl) ?_
                                                            refine lv_aload_n hx hb dL_law_1680 rfl (lv_at hl 0 rfl) ?_
                                                            refine lv_iload hx hb dL_law_1681 (lv_at hl 5 rfl) ?_
                                                            refine lv_iconst (v := (1 : Int32)) hx hb dL_law_1683 (by decide) ?_
                                                            refine lv_iadd hx hb dL_law_1684 ?_
                                                            obtain ⟨h_214, hf⟩ := ck hf
                                                            refine va_sld hx hb hX hbl hbA hS (vin h_214) dL_law_1685 ?_
                                                            refine lv_aload_n hx hb dL_law_1686 rfl (lv_at hl 0 rfl) ?_
                                                            refine lv_iload hx hb dL_law_1687 (lv_at hl 5 rfl) ?_
                                                            refine lv_iconst (v := (2 : Int32)) hx hb dL_law_1689 (by decide) ?_
                                                            refine lv_iadd hx hb dL_law_1690 ?_
                                                            obtain ⟨h_215, hf⟩ := ck hf
                                                            refine va_sld hx hb hX hbl hbA hS (vin h_215) dL_law_1691 ?_
                                                            refine lv_aload_n hx hb dL_law_1692 rfl (lv_at hl 3 rfl) ?_
                                                            obtain ⟨r_216, e_216, hf⟩ := bo hf
                                                            refine lcallS (W0 := (wC c0 h k0 x0 d0 ++ (wS g h a1 a2 a3 a4 σ ++ (wH g k0 k1 γ η ++ (wX g x0 x1 τ ++ (wD g d0 d1 d2 δ ++ (wM g m0 m1 m2 m3 m4 μ ++ (wO g o0 ω ++ (wE g e0 ε))))))))) (Wc := (wC c0 h k0 x0 d0 ++ (wS g h a1 a2 a3 a4 σ ++ (wO g o0 ω)))) (Wr := (wH g k0 k1 γ η ++ (wX g x0 x1 τ ++ (wD g d0 d1 d2 δ ++ (wM g m0 m1 m2 m3 m4 μ ++ (wE g e0 ε)))))) (W1 := (wC c0 h k0 x0 d0 ++ (wS g h a1 a2 a3 a4 σ ++ (wO g o0 r_216.2)))) (W2 := (wC c0 h k0 x0 d0 ++ (wS g h a1 a2 a3 a4 σ ++ (wH g k0 k1 γ η ++ (wX g x0 x1 τ ++ (wD g d0 d1 d2 δ ++ (wM g m0 m1 m2 m3 m4 μ ++ (wO g o0 r_216.2 ++ (wE g e0 ε))))))))) (As := [.ref c0, .int (xs (Int32.toNatClampNeg (i + (1 : Int32)))), .int (xs (Int32.toNatClampNeg (i + (2 : Int32)))), .ref o0]) (rest := []) [0, 1, 2, 3, 4, 5, 48] [6, 7, 8, 9, 10, 11, 12, 13, 14, 15, 16, 17, 18, 19, 20, 21, 22, 23, 24, 25, 26, 27, 28, 29, 30, 31, 32, 33, 34, 35, 36, 37, 38, 39, 40, 41, 42, 43, 44, 45, 46, 47, 49] [43, 44, 45, 46, 47, 48, 0, 1, 2, 3, 4, 5, 6, 7, 8, 9, 10, 11, 12, 13, 14, 15, 16, 17, 18, 19, 20, 21, 22, 23, 24, 25, 26, 27, 28, 29, 30, 31, 32, 33, 34, 35, 36, 37, 38, 39, 40, 41, 49, 42] ⟨hx, hb, hml, hown, hts⟩ hP hD hE hZ hS hA (cL_whyNotLabelled_ok l hl0 g c0 h k0 x0 d0 a1 a2 a3 a4 o0 σ ω (xs (Int32.toNatClampNeg (i + (1 : Int32)))) (xs (Int32.toNatClampNeg (i + (2 : Int32)))) _ e_216) (vx_cwSW 4 hts gL_law_L_whyNotLabelled rfl rfl rfl hdL_whyNotLabelled.2 ⟨(Nat.le_of_ble_eq_true rfl), (Nat.le_of_ble_eq_true rfl)⟩) rfl rfl rfl (by decide) (by decide) (by decide) (by decide) rfl hl.1 rfl (Nat.le_of_ble_eq_true rfl) ⟨(by show _ ≤ (601024 : Nat); omega), (by show _ ≤ (7293034 : Nat); omega)⟩ dL_law_1693 (fun H locs hP hD hS => ?_)
                                                            refine lv_istore (lv' := [(6, .int r_216.1), (0, .ref b), (1, .ref c0), (2, .ref m0), (3, .ref o0), (4, .ref e0), (5, .int i)]) hx hb dL_law_1696 hl (by decide) rfl (fun ls hl => ?_)
                                                            refine lv_aload_n hx hb dL_law_1698 rfl (lv_at hl 3 rfl) ?_
                                                            refine lv_aload_n hx hb dL_law_1699 rfl (lv_at hl 1 rfl) ?_
                                                            refine lv_iload hx hb dL_law_1700 (lv_at hl 6 rfl) ?_
                                                            refine lv_iconst (v := (1 : Int32)) hx hb dL_law_1702 (by decide) ?_
                                                            refine lv_iadd hx hb dL_law_1703 ?_
                                                            refine va_sld hx hb hX hbl hbA hS (vin h_214) dL_law_1704 ?_
                                                            refine lv_aload_n hx hb dL_law_1705 rfl (lv_at hl 1 rfl) ?_
                                                            refine lv_iload hx hb dL_law_1706 (lv_at hl 6 rfl) ?_
                                                            refine lv_iconst (v := (2 : Int32)) hx hb dL_law_1708 (by decide) ?_
                                                            refine lv_iadd hx hb dL_law_1709 ?_
                                                            refine va_sld hx hb hX hbl hbA hS (vin h_215) dL_law_1710 ?_
                                                            obtain ⟨r_217, e_217, hf⟩ := bo hf
                                                            refine mcallVi (W0 := (wC c0 h k0 x0 d0 ++ (wS g h a1 a2 a3 a4 σ ++ (wH g k0 k1 γ η ++ (wX g x0 x1 τ ++ (wD g d0 d1 d2 δ ++ (wM g m0 m1 m2 m3 m4 μ ++ (wO g o0 r_216.2 ++ (wE g e0 ε))))))))) (Wc := (wM g m0 m1 m2 m3 m4 μ)) (Wr := (wC c0 h k0 x0 d0 ++ (wS g h a1 a2 a3 a4 σ ++ (wH g k0 k1 γ η ++ (wX g x0 x1 τ ++ (wD g d0 d1 d2 δ ++ (wO g o0 r_216.2 ++ (wE g e0 ε)))))))) (W1 := (wM g m0 m1 m2 m3 m4 r_217.2)) (W2 := (wC c0 h k0 x0 d0 ++ (wS g h a1 a2 a3 a4 σ ++ (wH g k0 k1 γ η ++ (wX g x0 x1 τ ++ (wD g d0 d1 d2 δ ++ (wM g m0 m1 m2 m3 m4 r_217.2 ++ (wO g o0 r_216.2 ++ (wE g e0 ε))))))))) (As := [.int (xs (Int32.toNatClampNeg (i + (1 : Int32)))), .int (xs (Int32.toNatClampNeg (i + (2 : Int32))))]) (rest := []) [43, 44, 45, 46, 47] [0, 1, 2, 3, 4, 5, 6, 7, 8, 9, 10, 11, 12, 13, 14, 15, 16, 17, 18, 19, 20, 21, 22, 23, 24, 25, 26, 27, 28, 29, 30, 31, 32, 33, 34, 35, 36, 37, 38, 39, 40, 41, 42, 48, 49] [0, 1, 2, 3, 4, 5, 6, 7, 8, 9, 10, 11, 12, 13, 14, 15, 16, 17, 18, 19, 20, 21, 22, 23, 24, 25, 26, 27, 28, 29, 30, 31, 32, 33, 34, 35, 36, 37, 38, 39, 40, 41, 42, 45, 46, 47, 48, 49, 43, 44] 5 0 ⟨hx, hb, hml, hown, hts⟩ hP hD hE hZ hS hA (cX7_whyNotLabelled_ok l g m0 m1 m2 m3 m4 μ (xs (Int32.toNatClampNeg (i + (1 : Int32)))) (xs (Int32.toNatClampNeg (i + (2 : Int32)))) _ e_217) (cwV 2 hts gL_law_X7_whyNotLabelled rfl rfl rfl hdX7_whyNotLabelled ⟨(Nat.le_of_ble_eq_true rfl), (Nat.le_of_ble_eq_true rfl)⟩) rfl rfl rfl (by decide) (by decide) (by decide) (by decide) rfl rfl rfl rfl hl.1 rfl (Nat.le_of_ble_eq_true rfl) ⟨(by show _ ≤ (601024 : Nat); omega), (by show _ ≤ (7293034 : Nat); omega)⟩ dL_law_1711 (fun H locs hP hD hS => ?_)
                                                            refine lv_istore (lv' := [(7, .int r_217.1), (6, .int r_216.1), (0, .ref b), (1, .ref c0), (2, .ref m0), (3, .ref o0), (4, .ref e0), (5, .int i)]) hx hb dL_law_1714 hl (by decide) rfl (fun ls hl => ?_)
                                                            refine lv_aload_n hx hb dL_law_1716 rfl (lv_at hl 4 rfl) ?_
                                                            obtain ⟨r_218, e_218, hf⟩ := bo hf
                                                            refine pcallV (W0 := (wC c0 h k0 x0 d0 ++ (wS g h a1 a2 a3 a4 σ ++ (wH g k0 k1 γ η ++ (wX g x0 x1 τ ++ (wD g d0 d1 d2 δ ++ (wM g m0 m1 m2 m3 m4 r_217.2 ++ (wO g o0 r_216.2 ++ (wE g e0 ε))))))))) (As := []) (rest := []) [43, 44, 45, 46, 47] 5 0 ⟨hx, hb, hml, hown, hts⟩ hP hE hZ hS (cX7_thrown_ok l g m0 m1 m2 m3 m4 r_217.2 e_218) (cwV 0 hts gL_law_X7_thrown rfl rfl rfl hdX7_thrown ⟨(Nat.le_of_ble_eq_true rfl), (Nat.le_of_ble_eq_true rfl)⟩) rfl rfl rfl rfl rfl hl.1 rfl (Nat.le_of_ble_eq_true rfl) ⟨(by show _ ≤ (601024 : Nat); omega), (by show _ ≤ (7293034 : Nat); omega)⟩ dL_law_1717 ?_
                                                            refine lv_iload hx hb dL_law_1720 (lv_at hl 1 rfl) ?_
                                                            refine lv_icmp_eq (tgt := 1727) hx hb dL_law_1722 (by decide) (fun c_219 => ?_) (fun c_219 => ?_)
                                                            · have hf := ip c_219 hf
                                                              refine lv_iload hx hb dL_law_1727 (lv_at hl 1 rfl) ?_
                                                              refine lv_if_ne (tgt := 1744) hx hb dL_law_1729 (by decide) (fun c_220 => ?_) (fun c_220 => ?_)
                                                              · have hf := iq c_220 hf
                                                                refine lv_goto (tgt := 2493) hx hb dL_law_1744 (by decide) ?_
                                                                refine lv_iinc (v := (i + 3)) (lv' := [(5, .int (i + 3)), (7, .int r_217.1), (6, .int r_216.1), (0, .ref b), (1, .ref c0), (2, .ref m0), (3, .ref o0), (4, .ref e0)]) hx hb dL_law_2493 hl (k := 7) rfl rfl (by decide) rfl (fun ls hl => ?_)
                                                                refine lv_goto (tgt := 28) hx hb dL_law_2496 (by decide) ?_
                                                                refine W.cs (cells' := cl + 1) (slots' := sl + 6) (by omega) (by omega) ?_
                                                                exact ih (i + 3) σ η τ δ r_217.2 r_216.2 ε (cl + 1) (sl + 6) (by omega) (by omega) _ _ ls hP hD hS (lv_sub hl [3, 4, 5, 6, 7, 0] rfl) hf
                                                              · have hf := ip c_220 hf
                                                                refine lv_aload_n hx hb dL_law_1732 rfl (lv_at hl 5 rfl) ?_
                                                                refine lv_iconst (v := (0 : Int32)) hx hb dL_law_1733 (by decide) ?_
                                                                refine va_lald hx hb hE.1 hP 48 2 rfl rfl (vin (by decide)) dL_law_1734 ?_
                                                                refine lv_iload hx hb dL_law_1735 (lv_at hl 0 rfl) ?_
                                                                refine lv_i2l hx hb dL_law_1737 rfl ?_
                                                                refine W.lcmp hx hb dL_law_1738 ?_
                                                                refine lv_if_eq (tgt := 1744) hx hb dL_law_1739 (by decide) (fun c_221 => ?_) (fun c_221 => ?_)
                                                                · have hf := ip c_221 hf
                                                                  refine lv_goto (tgt := 2493) hx hb dL_law_1744 (by decide) ?_
                                                                  refine lv_iinc (v := (i + 3)) (lv' := [(5, .int (i + 3)), (7, .int r_217.1), (6, .int r_216.1), (0, .ref b), (1, .ref c0), (2, .ref m0), (3, .ref o0), (4, .ref e0)]) hx hb dL_law_2493 hl (k := 7) rfl rfl (by decide) rfl (fun ls hl => ?_)
                                                                  refine lv_goto (tgt := 28) hx hb dL_law_2496 (by decide) ?_
                                                                  refine W.cs (cells' := cl + 1) (slots' := sl + 6) (by omega) (by omega) ?_
                                                                  exact ih (i + 3) σ η τ δ r_217.2 r_216.2 ε (cl + 1) (sl + 6) (by omega) (by omega) _ _ ls hP hD hS (lv_sub hl [3, 4, 5, 6, 7, 0] rfl) hf
                                                                · have hf := iq c_221 hf
                                                                  refine lv_iconst (v := (0 : Int32)) hx hb dL_law_1742 (by decide) ?_
                                                                  exact absurd (Option.some.inj hf) (by decide)
                                                            · have hf := iq c_219 hf
                                                              refine lv_iconst (v := (0 : Int32)) hx hb dL_law_1725 (by decide) ?_
                                                              exact absurd (Option.some.inj hf) (by decide)
                                                          · have hf := iq s_213 hf
                                                            by_cases s_222 : ((xs (Int32.toNatClampNeg i)) &&& (63 : Int32)) = (27 : Int32)
                                                            · have hf := ip s_222 hf
                                                              refine lv_tableIn (off := 1703) (tgt := 1747) hx hb dL_law_44 (by rw [s_222]; decide) (by rw [s_222]; decide) (by rw [s_222]; rfl) (by decide) ?_
                                                              refine lv_aload_n hx hb dL_law_1747 rfl (lv_at hl 1 rfl) ?_
                                                              refine lv_aload_n hx hb dL_law_1748 rfl (lv_at hl 0 rfl) ?_
                                                              refine lv_iload hx hb dL_law_1749 (lv_at hl 5 rfl) ?_
                                                              refine lv_iconst (v := (1 : Int32)) hx hb dL_law_1751 (by decide) ?_
                                                              refine lv_iadd hx hb dL_law_1752 ?_
                                                              obtain ⟨h_223, hf⟩ := ck hf
                                                              refine va_sld hx hb hX hbl hbA hS (vin h_223) dL_law_1753 ?_
                                                              refine lv_aload_n hx hb dL_law_1754 rfl (lv_at hl 3 rfl) ?_
                                                              obtain ⟨r_224, e_224, hf⟩ := bo hf
                                                              refine lcallS (W0 := (wC c0 h k0 x0 d0 ++ (wS g h a1 a2 a3 a4 σ ++ (wH g k0 k1 γ η ++ (wX g x0 x1 τ ++ (wD g d0 d1 d2 δ ++ (wM g m0 m1 m2 m3 m4 μ ++ (wO g o0 ω ++ (wE g e0 ε))))))))) (Wc := (wC c0 h k0 x0 d0 ++ (wS g h a1 a2 a3 a4 σ ++ (wO g o0 ω)))) (Wr := (wH g k0 k1 γ η ++ (wX g x0 x1 τ ++ (wD g d0 d1 d2 δ ++ (wM g m0 m1 m2 m3 m4 μ ++ (wE g e0 ε)))))) (W1 := (wC c0 h k0 x0 d0 ++ (wS g h a1 a2 a3 a4 σ ++ (wO g o0 r_224.2)))) (W2 := (wC c0 h k0 x0 d0 ++ (wS g h a1 a2 a3 a4 σ ++ (wH g k0 k1 γ η ++ (wX g x0 x1 τ ++ (wD g d0 d1 d2 δ ++ (wM g m0 m1 m2 m3 m4 μ ++ (wO g o0 r_224.2 ++ (wE g e0 ε))))))))) (As := [.ref c0, .int (xs (Int32.toNatClampNeg (i + (1 : Int32)))), .ref o0]) (rest := []) [0, 1, 2, 3, 4, 5, 48] [6, 7, 8, 9, 10, 11, 12, 13, 14, 15, 16, 17, 18, 19, 20, 21, 22, 23, 24, 25, 26, 27, 28, 29, 30, 31, 32, 33, 34, 35, 36, 37, 38, 39, 40, 41, 42, 43, 44, 45, 46, 47, 49] [43, 44, 45, 46, 47, 48, 0, 1, 2, 3, 4, 5, 6, 7, 8, 9, 10, 11, 12, 13, 14, 15, 16, 17, 18, 19, 20, 21, 22, 23, 24, 25, 26, 27, 28, 29, 30, 31, 32, 33, 34, 35, 36, 37, 38, 39, 40, 41, 49, 42] ⟨hx, hb, hml, hown, hts⟩ hP hD hE hZ hS hA (cL_placesOf_ok l hl0 g c0 h k0 x0 d0 a1 a2 a3 a4 o0 σ ω (xs (Int32.toNatClampNeg (i + (1 : Int32)))) _ e_224) (vx_cwSW 3 hts gL_law_L_placesOf rfl rfl rfl hdL_placesOf.2 ⟨(Nat.le_of_ble_eq_true rfl), (Nat.le_of_ble_eq_true rfl)⟩) rfl rfl rfl (by decide) (by decide) (by decide) (by decide) rfl hl.1 rfl (Nat.le_of_ble_eq_true rfl) ⟨(by show _ ≤ (601024 : Nat); omega), (by show _ ≤ (7293034 : Nat); omega)⟩ dL_law_1755 (fun H locs hP hD hS => ?_)
                                                              refine lv_istore (lv' := [(6, .int r_224.1), (0, .ref b), (1, .ref c0), (2, .ref m0), (3, .ref o0), (4, .ref e0), (5, .int i)]) hx hb dL_law_1758 hl (by decide) rfl (fun ls hl => ?_)
                                                              refine lv_aload_n hx hb dL_law_1760 rfl (lv_at hl 3 rfl) ?_
                                                              refine lv_aload_n hx hb dL_law_1761 rfl (lv_at hl 1 rfl) ?_
                                                              refine lv_iload hx hb dL_law_1762 (lv_at hl 6 rfl) ?_
                                                              refine lv_iconst (v := (1 : Int32)) hx hb dL_law_1764 (by decide) ?_
                                                              refine lv_iadd hx hb dL_law_1765 ?_
                                                              refine va_sld hx hb hX hbl hbA hS (vin h_223) dL_law_1766 ?_
                                                              obtain ⟨r_225, e_225, hf⟩ := bo hf
                                                              refine mcallVi (W0 := (wC c0 h k0 x0 d0 ++ (wS g h a1 a2 a3 a4 σ ++ (wH g k0 k1 γ η ++ (wX g x0 x1 τ ++ (wD g d0 d1 d2 δ ++ (wM g m0 m1 m2 m3 m4 μ ++ (wO g o0 r_224.2 ++ (wE g e0 ε))))))))) (Wc := (wM g m0 m1 m2 m3 m4 μ)) (Wr := (wC c0 h k0 x0 d0 ++ (wS g h a1 a2 a3 a4 σ ++ (wH g k0 k1 γ η ++ (wX g x0 x1 τ ++ (wD g d0 d1 d2 δ ++ (wO g o0 r_224.2 ++ (wE g e0 ε)))))))) (W1 := (wM g m0 m1 m2 m3 m4 r_225.2)) (W2 := (wC c0 h k0 x0 d0 ++ (wS g h a1 a2 a3 a4 σ ++ (wH g k0 k1 γ η ++ (wX g x0 x1 τ ++ (wD g d0 d1 d2 δ ++ (wM g m0 m1 m2 m3 m4 r_225.2 ++ (wO g o0 r_224.2 ++ (wE g e0 ε))))))))) (As := [.int (xs (Int32.toNatClampNeg (i + (1 : Int32))))]) (rest := []) [43, 44, 45, 46, 47] [0, 1, 2, 3, 4, 5, 6, 7, 8, 9, 10, 11, 12, 13, 14, 15, 16, 17, 18, 19, 20, 21, 22, 23, 24, 25, 26, 27, 28, 29, 30, 31, 32, 33, 34, 35, 36, 37, 38, 39, 40, 41, 42, 48, 49] [0, 1, 2, 3, 4, 5, 6, 7, 8, 9, 10, 11, 12, 13, 14, 15, 16, 17, 18, 19, 20, 21, 22, 23, 24, 25, 26, 27, 28, 29, 30, 31, 32, 33, 34, 35, 36, 37, 38, 39, 40, 41, 42, 45, 46, 47, 48, 49, 43, 44] 5 0 ⟨hx, hb, hml, hown, hts⟩ hP hD hE hZ hS hA (cX7_placesOf_ok l g m0 m1 m2 m3 m4 μ (xs (Int32.toNatClampNeg (i + (1 : Int32)))) _ e_225) (cwV 1 hts gL_law_X7_placesOf rfl rfl rfl hdX7_placesOf ⟨(Nat.le_of_ble_eq_true rfl), (Nat.le_of_ble_eq_true rfl)⟩) rfl rfl rfl (by decide) (by decide) (by decide) (by decide) rfl rfl rfl rfl hl.1 rfl (Nat.le_of_ble_eq_true rfl) ⟨(by show _ ≤ (601024 : Nat); omega), (by show _ ≤ (7293034 : Nat); omega)⟩ dL_law_1767 (fun H locs hP hD hS => ?_)
                                                              refine lv_istore (lv' := [(7, .int r_225.1), (6, .int r_224.1), (0, .ref b), (1, .ref c0), (2, .ref m0), (3, .ref o0), (4, .ref e0), (5, .int i)]) hx hb dL_law_1770 hl (by decide) rfl (fun ls hl => ?_)
                                                              refine lv_aload_n hx hb dL_law_1772 rfl (lv_at hl 4 rfl) ?_
                                                              obtain ⟨r_226, e_226, hf⟩ := bo hf
                                                              refine pcallV (W0 := (wC c0 h k0 x0 d0 ++ (wS g h a1 a2 a3 a4 σ ++ (wH g k0 k1 γ η ++ (wX g x0 x1 τ ++ (wD g d0 d1 d2 δ ++ (wM g m0 m1 m2 m3 m4 r_225.2 ++ (wO g o0 r_224.2 ++ (wE g e0 ε))))))))) (As := []) (rest := []) [43, 44, 45, 46, 47] 5 0 ⟨hx, hb, hml, hown, hts⟩ hP hE hZ hS (cX7_thrown_ok l g m0 m1 m2 m3 m4 r_225.2 e_226) (cwV 0 hts gL_law_X7_thrown rfl rfl rfl hdX7_thrown ⟨(Nat.le_of_ble_eq_true rfl), (Nat.le_of_ble_eq_true rfl)⟩) rfl rfl rfl rfl rfl hl.1 rfl (Nat.le_of_ble_eq_true rfl) ⟨(by show _ ≤ (601024 : Nat); omega), (by show _ ≤ (7293034 : Nat); omega)⟩ dL_law_1773 ?_
                                                              refine lv_iload hx hb dL_law_1776 (lv_at hl 1 rfl) ?_
                                                              refine lv_icmp_eq (tgt := 1783) hx hb dL_law_1778 (by decide) (fun c_227 => ?_) (fun c_227 => ?_)
                                                              · have hf := ip c_227 hf
                                                                refine lv_iload hx hb dL_law_1783 (lv_at hl 1 rfl) ?_
                                                                refine lv_if_ne (tgt := 1800) hx hb dL_law_1785 (by decide) (fun c_228 => ?_) (fun c_228 => ?_)
                                                                · have hf := iq c_228 hf
                                                                  refine lv_goto (tgt := 2493) hx hb dL_law_1800 (by decide) ?_
                                                                  refine lv_iinc (v := (i + 3)) (lv' := [(5, .int (i + 3)), (7, .int r_225.1), (6, .int r_224.1), (0, .ref b), (1, .ref c0), (2, .ref m0), (3, .ref o0), (4, .ref e0)]) hx hb dL_law_2493 hl (k := 7) rfl rfl (by decide) rfl (fun ls hl => ?_)
                                                                  refine lv_goto (tgt := 28) hx hb dL_law_2496 (by decide) ?_
                                                                  refine W.cs (cells' := cl + 1) (slots' := sl + 6) (by omega) (by omega) ?_
                                                                  exact ih (i + 3) σ η τ δ r_225.2 r_224.2 ε (cl + 1) (sl + 6) (by omega) (by omega) _ _ ls hP hD hS (lv_sub hl [3, 4, 5, 6, 7, 0] rfl) hf
                                                                · have hf := ip c_228 hf
                                                                  refine lv_aload_n hx hb dL_law_1788 rfl (lv_at hl 5 rfl) ?_
                                                                  refine lv_iconst (v := (0 : Int32)) hx hb dL_law_1789 (by decide) ?_
                                                                  refine va_lald hx hb hE.1 hP 48 2 rfl rfl (vin (by decide)) dL_law_1790 ?_
                                                                  refine lv_iload hx hb dL_law_1791 (lv_at hl 0 rfl) ?_
                                                                  refine lv_i2l hx hb dL_law_1793 rfl ?_
                                                                  refine W.lcmp hx hb dL_law_1794 ?_
                                                                  refine lv_if_eq (tgt := 1800) hx hb dL_law_1795 (by decide) (fun c_229 => ?_) (fun c_229 => ?_)
                                                                  · have hf := ip c_229 hf
                                                                    refine lv_goto (tgt := 2493) hx hb dL_law_1800 (by decide) ?_
                                                                    refine lv_iinc (v := (i + 3)) (lv' := [(5, .int (i + 3)), (7, .int r_225.1), (6, .int r_224.1), (0, .ref b), (1, .ref c0), (2, .ref m0), (3, .ref o0), (4, .ref e0)]) hx hb dL_law_2493 hl (k := 7) rfl rfl (by decide) rfl (fun ls hl => ?_)
                                                                    refine lv_goto (tgt := 28) hx hb dL_law_2496 (by decide) ?_
                                                                    refine W.cs (cells' := cl + 1) (slots' := sl + 6) (by omega) (by omega) ?_
                                                                    exact ih (i + 3) σ η τ δ r_225.2 r_224.2 ε (cl + 1) (sl + 6) (by omega) (by omega) _ _ ls hP hD hS (lv_sub hl [3, 4, 5, 6, 7, 0] rfl) hf
                                                                  · have hf := iq c_229 hf
                                                                    refine lv_iconst (v := (0 : Int32)) hx hb dL_law_1798 (by decide) ?_
                                                                    exact absurd (Option.some.inj hf) (by decide)
                                                              · have hf := iq c_227 hf
                                                                refine lv_iconst (v := (0 : Int32)) hx hb dL_law_1781 (by decide) ?_
                                                                exact absurd (Option.some.inj hf) (by decide)
                                                            · have hf := iq s_222 hf
                                                              by_cases s_230 : ((xs (Int32.toNatClampNeg i)) &&& (63 : Int32)) = (28 : Int32)
                                                              · have hf := ip s_230 hf
                                                                refine lv_tableIn (off := 1759) (tgt := 1803) hx hb dL_law_44 (by rw [s_230]; decide) (by rw [s_230]; decide) (by rw [s_230]; rfl) (by decide) ?_
                                                                refine lv_aload_n hx hb dL_law_1803 rfl (lv_at hl 1 rfl) ?_
                                                                refine lv_aload_n hx hb dL_law_1804 rfl (lv_at hl 0 rfl) ?_
                                                                refine lv_iload hx hb dL_law_1805 (lv_at hl 5 rfl) ?_
                                                                refine lv_iconst (v := (1 : Int32)) hx hb dL_law_1807 (by decide) ?_
                                                                refine lv_iadd hx hb dL_law_1808 ?_
                                                                obtain ⟨h_231, hf⟩ := ck hf
                                                                refine va_sld hx hb hX hbl hbA hS (vin h_231) dL_law_1809 ?_
                                                                refine lv_aload_n hx hb dL_law_1810 rfl (lv_at hl 3 rfl) ?_
                                                                obtain ⟨r_232, e_232, hf⟩ := bo hf
                                                                refine lcallS (W0 := (wC c0 h k0 x0 d0 ++ (wS g h a1 a2 a3 a4 σ ++ (wH g k0 k1 γ η ++ (wX g x0 x1 τ ++ (wD g d0 d1 d2 δ ++ (wM g m0 m1 m2 m3 m4 μ ++ (wO g o0 ω ++ (wE g e0 ε))))))))) (Wc := (wC c0 h k0 x0 d0 ++ (wS g h a1 a2 a3 a4 σ ++ (wO g o0 ω)))) (Wr := (wH g k0 k1 γ η ++ (wX g x0 x1 τ ++ (wD g d0 d1 d2 δ ++ (wM g m0 m1 m2 m3 m4 μ ++ (wE g e0 ε)))))) (W1 := (wC c0 h k0 x0 d0 ++ (wS g h a1 a2 a3 a4 σ ++ (wO g o0 r_232.2)))) (W2 := (wC c0 h k0 x0 d0 ++ (wS g h a1 a2 a3 a4 σ ++ (wH g k0 k1 γ η ++ (wX g x0 x1 τ ++ (wD g d0 d1 d2 δ ++ (wM g m0 m1 m2 m3 m4 μ ++ (wO g o0 r_232.2 ++ (wE g e0 ε))))))))) (As := [.ref c0, .int (xs (Int32.toNatClampNeg (i + (1 : Int32)))), .ref o0]) (rest := []) [0, 1, 2, 3, 4, 5, 48] [6, 7, 8, 9, 10, 11, 12, 13, 14, 15, 16, 17, 18, 19, 20, 21, 22, 23, 24, 25, 26, 27, 28, 29, 30, 31, 32, 33, 34, 35, 36, 37, 38, 39, 40, 41, 42, 43, 44, 45, 46, 47, 49] [43, 44, 45, 46, 47, 48, 0, 1, 2, 3, 4, 5, 6, 7, 8, 9, 10, 11, 12, 13, 14, 15, 16, 17, 18, 19, 20, 21, 22, 23, 24, 25, 26, 27, 28, 29, 30, 31, 32, 33, 34, 35, 36, 37, 38, 39, 40, 41, 49, 42] ⟨hx, hb, hml, hown, hts⟩ hP hD hE hZ hS hA (cL_bestPlace_ok l hl0 g c0 h k0 x0 d0 a1 a2 a3 a4 o0 σ ω (xs (Int32.toNatClampNeg (i + (1 : Int32)))) _ e_232) (vx_cwSW 3 hts gL_law_L_bestPlace rfl rfl rfl hdL_bestPlace.2 ⟨(Nat.le_of_ble_eq_true rfl), (Nat.le_of_ble_eq_true rfl)⟩) rfl rfl rfl (by decide) (by decide) (by decide) (by decide) rfl hl.1 rfl (Nat.le_of_ble_eq_true rfl) ⟨(by show _ ≤ (601024 : Nat); omega), (by show _ ≤ (7293034 : Nat); omega)⟩ dL_law_1811 (fun H locs hP hD hS => ?_)
                                                                refine lv_istore (lv' := [(6, .int r_232.1), (0, .ref b), (1, .ref c0), (2, .ref m0), (3, .ref o0), (4, .ref e0), (5, .int i)]) hx hb dL_law_1814 hl (by decide) rfl (fun ls hl => ?_)
                                                                refine lv_aload_n hx hb dL_law_1816 rfl (lv_at hl 3 rfl) ?_
                                                                refine lv_aload_n hx hb dL_law_1817 rfl (lv_at hl 1 rfl) ?_
                                                                refine lv_iload hx hb dL_law_1818 (lv_at hl 6 rfl) ?_
                                                                refine lv_iconst (v := (1 : Int32)) hx hb dL_law_1820 (by decide) ?_
                                                                refine lv_iadd hx hb dL_law_1821 ?_
                                                                refine va_sld hx hb hX hbl hbA hS (vin h_231) dL_law_1822 ?_
                                                                obtain ⟨r_233, e_233, hf⟩ := bo hf
                                                                refine mcallVi (W0 := (wC c0 h k0 x0 d0 ++ (wS g h a1 a2 a3 a4 σ ++ (wH g k0 k1 γ η ++ (wX g x0 x1 τ ++ (wD g d0 d1 d2 δ ++ (wM g m0 m1 m2 m3 m4 μ ++ (wO g o0 r_232.2 ++ (wE g e0 ε))))))))) (Wc := (wM g m0 m1 m2 m3 m4 μ)) (Wr := (wC c0 h k0 x0 d0 ++ (wS g h a1 a2 a3 a4 σ ++ (wH g k0 k1 γ η ++ (wX g x0 x1 τ ++ (wD g d0 d1 d2 δ ++ (wO g o0 r_232.2 ++ (wE g e0 ε)))))))) (W1 := (wM g m0 m1 m2 m3 m4 r_233.2)) (W2 := (wC c0 h k0 x0 d0 ++ (wS g h a1 a2 a3 a4 σ ++ (wH g k0 k1 γ η ++ (wX g x0 x1 τ ++ (wD g d0 d1 d2 δ ++ (wM g m0 m1 m2 m3 m4 r_233.2 ++ (wO g o0 r_232.2 ++ (wE g e0 ε))))))))) (As := [.int (xs (Int32.toNatClampNeg (i + (1 : Int32))))]) (rest := []) [43, 44, 45, 46, 47] [0, 1, 2, 3, 4, 5, 6, 7, 8, 9, 10, 11, 12, 13, 14, 15, 16, 17, 18, 19, 20, 21, 22, 23, 24, 25, 26, 27, 28, 29, 30, 31, 32, 33, 34, 35, 36, 37, 38, 39, 40, 41, 42, 48, 49] [0, 1, 2, 3, 4, 5, 6, 7, 8, 9, 10, 11, 12, 13, 14, 15, 16, 17, 18, 19, 20, 21, 22, 23, 24, 25, 26, 27, 28, 29, 30, 31, 32, 33, 34, 35, 36, 37, 38, 39, 40, 41, 42, 45, 46, 47, 48, 49, 43, 44] 5 0 ⟨hx, hb, hml, hown, hts⟩ hP hD hE hZ hS hA (cX7_bestPlace_ok l g m0 m1 m2 m3 m4 μ (xs (Int32.toNatClampNeg (i + (1 : Int32)))) _ e_233) (cwV 1 hts gL_law_X7_bestPlace rfl rfl rfl hdX7_bestPlace ⟨(Nat.le_of_ble_eq_true rfl), (Nat.le_of_ble_eq_true rfl)⟩) rfl rfl rfl (by decide) (by decide) (by decide) (by decide) rfl rfl rfl rfl hl.1 rfl (Nat.le_of_ble_eq_true rfl) ⟨(by show _ ≤ (601024 : Nat); omega), (by show _ ≤ (7293034 : Nat); omega)⟩ dL_law_1823 (fun H locs hP hD hS => ?_)
                                                                refine lv_istore (lv' := [(7, .int r_233.1), (6, .int r_232.1), (0, .ref b), (1, .ref c0), (2, .ref m0), (3, .ref o0), (4, .ref e0), (5, .int i)]) hx hb dL_law_1826 hl (by decide) rfl (fun ls hl => ?_)
                                                                refine lv_aload_n hx hb dL_law_1828 rfl (lv_at hl 4 rfl) ?_
                                                                obtain ⟨r_234, e_234, hf⟩ := bo hf
                                                                refine pcallV (W0 := (wC c0 h k0 x0 d0 ++ (wS g h a1 a2 a3 a4 σ ++ (wH g k0 k1 γ η ++ (wX g x0 x1 τ ++ (wD g d0 d1 d2 δ ++ (wM g m0 m1 m2 m3 m4 r_233.2 ++ (wO g o0 r_232.2 ++ (wE g e0 ε))))))))) (As := []) (rest := []) [43, 44, 45, 46, 47] 5 0 ⟨hx, hb, hml, hown, hts⟩ hP hE hZ hS (cX7_thrown_ok l g m0 m1 m2 m3 m4 r_233.2 e_234) (cwV 0 hts gL_law_X7_thrown rfl rfl rfl hdX7_thrown ⟨(Nat.le_of_ble_eq_true rfl), (Nat.le_of_ble_eq_true rfl)⟩) rfl rfl rfl rfl rfl hl.1 rfl (Nat.le_of_ble_eq_true rfl) ⟨(by show _ ≤ (601024 : Nat); omega), (by show _ ≤ (7293034 : Nat); omega)⟩ dL_law_1829 ?_
                                                                refine lv_iload hx hb dL_law_1832 (lv_at hl 1 rfl) ?_
                                                                refine lv_icmp_eq (tgt := 1839) hx hb dL_law_1834 (by decide) (fun c_235 => ?_) (fun c_235 => ?_)
                                                                · have hf := ip c_235 hf
                                                                  refine lv_iload hx hb dL_law_1839 (lv_at hl 1 rfl) ?_
                                                                  refine lv_if_ne (tgt := 1856) hx hb dL_law_1841 (by decide) (fun c_236 => ?_) (fun c_236 => ?_)
                                                                  · have hf := iq c_236 hf
                                                                    refine lv_goto (tgt := 2493) hx hb dL_law_1856 (by decide) ?_
                                                                    refine lv_iinc (v := (i + 3)) (lv' := [(5, .int (i + 3)), (7, .int r_233.1), (6, .int r_232.1), (0, .ref b), (1, .ref c0), (2, .ref m0), (3, .ref o0), (4, .ref e0)]) hx hb dL_law_2493 hl (k := 7) rfl rfl (by decide) rfl (fun ls hl => ?_)
                                                                    refine lv_goto (tgt := 28) hx hb dL_law_2496 (by decide) ?_
                                                                    refine W.cs (cells' := cl + 1) (slots' := sl + 6) (by omega) (by omega) ?_
                                                                    exact ih (i + 3) σ η τ δ r_233.2 r_232.2 ε (cl + 1) (sl + 6) (by omega) (by omega) _ _ ls hP hD hS (lv_sub hl [3, 4, 5, 6, 7, 0] rfl) hf
                                                                  · have hf := ip c_236 hf
                                                                    refine lv_aload_n hx hb dL_law_1844 rfl (lv_at hl 5 rfl) ?_
                                                                    refine lv_iconst (v := (0 : Int32)) hx hb dL_law_1845 (by decide) ?_
                                                                    refine va_lald hx hb hE.1 hP 48 2 rfl rfl (vin (by decide)) dL_law_1846 ?_
                                                                    refine lv_iload hx hb dL_law_1847 (lv_at hl 0 rfl) ?_
                                                                    refine lv_i2l hx hb dL_law_1849 rfl ?_
                                                                    refine W.lcmp hx hb dL_law_1850 ?_
                                                                    refine lv_if_eq (tgt := 1856) hx hb dL_law_1851 (by decide) (fun c_237 => ?_) (fun c_237 => ?_)
                                                                    · have hf := ip c_237 hf
                                                                      refine lv_goto (tgt := 2493) hx hb dL_law_1856 (by decide) ?_
                                                                      refine lv_iinc (v := (i + 3)) (lv' := [(5, .int (i + 3)), (7, .int r_233.1), (6, .int r_232.1), (0, .ref b), (1, .ref c0), (2, .ref m0), (3, .ref o0), (4, .ref e0)]) hx hb dL_law_2493 hl (k := 7) rfl rfl (by decide) rfl (fun ls hl => ?_)
                                                                      refine lv_goto (tgt := 28) hx hb dL_law_2496 (by decide) ?_
                                                                      refine W.cs (cells' := cl + 1) (slots' := sl + 6) (by omega) (by omega) ?_
                                                                      exact ih (i + 3) σ η τ δ r_233.2 r_232.2 ε (cl + 1) (sl + 6) (by omega) (by omega) _ _ ls hP hD hS (lv_sub hl [3, 4, 5, 6, 7, 0] rfl) hf
                                                                    · have hf := iq c_237 hf
                                                                      refine lv_iconst (v := (0 : Int32)) hx hb dL_law_1854 (by decide) ?_
                                                                      exact absurd (Option.some.inj hf) (by decide)
                                                                · have hf := iq c_235 hf
                                                                  refine lv_iconst (v := (0 : Int32)) hx hb dL_law_1837 (by decide) ?_
                                                                  exact absurd (Option.some.inj hf) (by decide)
                                                              · have hf := iq s_230 hf
                                                                by_cases s_238 : ((xs (Int32.toNatClampNeg i)) &&& (63 : Int32)) = (29 : Int32)
                                                                · have hf := ip s_238 hf
                                                                  refine lv_tableIn (off := 1815) (tgt := 1859) hx hb dL_law_44 (by rw [s_238]; decide) (by rw [s_238]; decide) (by rw [s_238]; rfl) (by decide) ?_
                                                                  refine lv_aload_n hx hb dL_law_1859 rfl (lv_at hl 1 rfl) ?_
                                                                  obtain ⟨r_239, e_239, hf⟩ := bo hf
                                                                  refine pcallV (W0 := (wC c0 h k0 x0 d0 ++ (wS g h a1 a2 a3 a4 σ ++ (wH g k0 k1 γ η ++ (wX g x0 x1 τ ++ (wD g d0 d1 d2 δ ++ (wM g m0 m1 m2 m3 m4 μ ++ (wO g o0 ω ++ (wE g e0 ε))))))))) (As := []) (rest := []) [0, 1, 2, 3, 4, 5] 4 0 ⟨hx, hb, hml, hown, hts⟩ hP hE hZ hS (cX6_tooNear_ok l g c0 h k0 x0 d0 a1 a2 a3 a4 σ e_239) (cwV 0 hts gL_law_X6_tooNear rfl rfl rfl hdX6_tooNear ⟨(Nat.le_of_ble_eq_true rfl), (Nat.le_of_ble_eq_true rfl)⟩) rfl rfl rfl rfl rfl hl.1 rfl (Nat.le_of_ble_eq_true rfl) ⟨(by show _ ≤ (601024 : Nat); omega), (by show _ ≤ (7293034 : Nat); omega)⟩ dL_law_1860 ?_
                                                                  refine lv_aload_n hx hb dL_law_1863 rfl (lv_at hl 2 rfl) ?_
                                                                  obtain ⟨r_240, e_240, hf⟩ := bo hf
                                                                  refine mcallVi (W0 := (wC c0 h k0 x0 d0 ++ (wS g h a1 a2 a3 a4 σ ++ (wH g k0 k1 γ η ++ (wX g x0 x1 τ ++ (wD g d0 d1 d2 δ ++ (wM g m0 m1 m2 m3 m4 μ ++ (wO g o0 ω ++ (wE g e0 ε))))))))) (Wc := (wM g m0 m1 m2 m3 m4 μ)) (Wr := (wC c0 h k0 x0 d0 ++ (wS g h a1 a2 a3 a4 σ ++ (wH g k0 k1 γ η ++ (wX g x0 x1 τ ++ (wD g d0 d1 d2 δ ++ (wO g o0 ω ++ (wE g e0 ε)))))))) (W1 := (wM g m0 m1 m2 m3 m4 r_240.2)) (W2 := (wC c0 h k0 x0 d0 ++ (wS g h a1 a2 a3 a4 σ ++ (wH g k0 k1 γ η ++ (wX g x0 x1 τ ++ (wD g d0 d1 d2 δ ++ (wM g m0 m1 m2 m3 m4 r_240.2 ++ (wO g o0 ω ++ (wE g e0 ε))))))))) (As := []) (rest := [.int r_239]) [43, 44, 45, 46, 47] [0, 1, 2, 3, 4, 5, 6, 7, 8, 9, 10, 11, 12, 13, 14, 15, 16, 17, 18, 19, 20, 21, 22, 23, 24, 25, 26, 27, 28, 29, 30, 31, 32, 33, 34, 35, 36, 37, 38, 39, 40, 41, 42, 48, 49] [0, 1, 2, 3, 4, 5, 6, 7, 8, 9, 10, 11, 12, 13, 14, 15, 16, 17, 18, 19, 20, 21, 22, 23, 24, 25, 26, 27, 28, 29, 30, 31, 32, 33, 34, 35, 36, 37, 38, 39, 40, 41, 42, 45, 46, 47, 48, 49, 43, 44] 5 0 ⟨hx, hb, hml, hown, hts⟩ hP hD hE hZ hS hA (cX7_tooNear_ok l g m0 m1 m2 m3 m4 μ _ e_240) (cwV 0 hts gL_law_X7_tooNear rfl rfl rfl hdX7_tooNear ⟨(Nat.le_of_ble_eq_true rfl), (Nat.le_of_ble_eq_true rfl)⟩) rfl rfl rfl (by decide) (by decide) (by decide) (by decide) rfl rfl rfl rfl hl.1 rfl (Nat.le_of_ble_eq_true rfl) ⟨(by show _ ≤ (601024 : Nat); omega), (by show _ ≤ (7293034 : Nat); omega)⟩ dL_law_1864 (fun H locs hP hD hS => ?_)
                                                                  refine lv_icmp_eq (tgt := 2493) hx hb dL_law_1867 (by decide) (fun c_241 => ?_) (fun c_241 => ?_)
                                                                  · have hf := ip c_241 hf
                                                                    refine lv_iinc (v := (i + 3)) (lv' := [(5, .int (i + 3)), (0, .ref b), (1, .ref c0), (2, .ref m0), (3, .ref o0), (4, .ref e0)]) hx hb dL_law_2493 hl (k := 5) rfl rfl (by decide) rfl (fun ls hl => ?_)
                                                                    refine lv_goto (tgt := 28) hx hb dL_law_2496 (by decide) ?_
                                                                    refine W.cs (cells' := cl + 0) (slots' := sl + 0) (by omega) (by omega) ?_
                                                                    exact ih (i + 3) σ η τ δ r_240.2 ω ε (cl + 0) (sl + 0) (by omega) (by omega) _ _ ls hP hD hS (lv_sub hl [1, 2, 3, 4, 5, 0] rfl) hf
                                                                  · have hf := iq c_241 hf
                                                                    refine lv_iconst (v := (0 : Int32)) hx hb dL_law_1870 (by decide) ?_
                                                                    exact absurd (Option.some.inj hf) (by decide)
                                                                · have hf := iq s_238 hf
                                                                  by_cases s_242 : ((xs (Int32.toNatClampNeg i)) &&& (63 : Int32)) = (30 : Int32)
                                                                  · have hf := ip s_242 hf
                                                                    refine lv_tableIn (off := 1828) (tgt := 1872) hx hb dL_law_44 (by rw [s_242]; decide) (by rw [s_242]; decide) (by rw [s_242]; rfl) (by decide) ?_
                                                                    refine lv_aload_n hx hb dL_law_1872 rfl (lv_at hl 1 rfl) ?_
                                                                    refine lv_aload_n hx hb dL_law_1873 rfl (lv_at hl 0 rfl) ?_
                                                                    refine lv_iload hx hb dL_law_1874 (lv_at hl 5 rfl) ?_
                                                                    refine lv_iconst (v := (1 : Int32)) hx hb dL_law_1876 (by decide) ?_
                                                                    refine lv_iadd hx hb dL_law_1877 ?_
                                                                    obtain ⟨h_243, hf⟩ := ck hf
                                                                    refine va_sld hx hb hX hbl hbA hS (vin h_243) dL_law_1878 ?_
                                                                    refine lv_aload_n hx hb dL_law_1879 rfl (lv_at hl 0 rfl) ?_
                                                                    refine lv_iload hx hb dL_law_1880 (lv_at hl 5 rfl) ?_
                                                                    refine lv_iconst (v := (2 : Int32)) hx hb dL_law_1882 (by decide) ?_
                                                                    refine lv_iadd hx hb dL_law_1883 ?_
                                                                    obtain ⟨h_244, hf⟩ := ck hf
                                                                    refine va_sld hx hb hX hbl hbA hS (vin h_244) dL_law_1884 ?_
                                                                    refine lv_aload_n hx hb dL_law_1885 rfl (lv_at hl 3 rfl) ?_
                                                                    obtain ⟨r_245, e_245, hf⟩ := bo hf
                                                                    refine lcallS (W0 := (wC c0 h k0 x0 d0 ++ (wS g h a1 a2 a3 a4 σ ++ (wH g k0 k1 γ η ++ (wX g x0 x1 τ ++ (wD g d0 d1 d2 δ ++ (wM g m0 m1 m2 m3 m4 μ ++ (wO g o0 ω ++ (wE g e0 ε))))))))) (Wc := (wC c0 h k0 x0 d0 ++ (wS g h a1 a2 a3 a4 σ ++ (wO g o0 ω)))) (Wr := (wH g k0 k1 γ η ++ (wX g x0 x1 τ ++ (wD g d0 d1 d2 δ ++ (wM g m0 m1 m2 m3 m4 μ ++ (wE g e0 ε)))))) (W1 := (wC c0 h k0 x0 d0 ++ (wS g h a1 a2 a3 a4 σ ++ (wO g o0 r_245.2)))) (W2 := (wC c0 h k0 x0 d0 ++ (wS g h a1 a2 a3 a4 σ ++ (wH g k0 k1 γ η ++ (wX g x0 x1 τ ++ (wD g d0 d1 d2 δ ++ (wM g m0 m1 m2 m3 m4 μ ++ (wO g o0 r_245.2 ++ (wE g e0 ε))))))))) (As := [.ref c0, .int (xs (Int32.toNatClampNeg (i + (1 : Int32)))), .int (xs (Int32.toNatClampNeg (i + (2 : Int32)))), .ref o0]) (rest := []) [0, 1, 2, 3, 4, 5, 48] [6, 7, 8, 9, 10, 11, 12, 13, 14, 15, 16, 17, 18, 19, 20, 21, 22, 23, 24, 25, 26, 27, 28, 29, 30, 31, 32, 33, 34, 35, 36, 37, 38, 39, 40, 41, 42, 43, 44, 45, 46, 47, 49] [43, 44, 45, 46, 47, 48, 0, 1, 2, 3, 4, 5, 6, 7, 8, 9, 10, 11, 12, 13, 14, 15, 16, 17, 18, 19, 20, 21, 22, 23, 24, 25, 26, 27, 28, 29, 30, 31, 32, 33, 34, 35, 36, 37, 38, 39, 40, 41, 49, 42] ⟨hx, hb, hml, hown, hts⟩ hP hD hE hZ hS hA (cL_isWithinByRays_ok l hl0 g c0 h k0 x0 d0 a1 a2 a3 a4 o0 σ ω (xs (Int32.toNatClampNeg (i + (1 : Int32)))) (xs (Int32.toNatClampNeg (i + (2 : Int32)))) _ e_245) (vx_cwSW 4 hts gL_law_L_isWithinByRays rfl rfl rfl hdL_isWithinByRays.2 ⟨(Nat.le_of_ble_eq_true rfl), (Nat.le_of_ble_eq_true rfl)⟩) rfl rfl rfl (by decide) (by decide) (by decide) (by decide) rfl hl.1 rfl (Nat.le_of_ble_eq_true rfl) ⟨(by show _ ≤ (601024 : Nat); omega), (by show _ ≤ (7293034 : Nat); omega)⟩ dL_law_1886 (fun H locs hP hD hS => ?_)
                                                                    refine lv_istore (lv' := [(6, .int r_245.1), (0, .ref b), (1, .ref c0), (2, .ref m0), (3, .ref o0), (4, .ref e0), (5, .int i)]) hx hb dL_law_1889 hl (by decide) rfl (fun ls hl => ?_)
                                                                    refine lv_aload_n hx hb dL_law_1891 rfl (lv_at hl 3 rfl) ?_
                                                                    refine lv_aload_n hx hb dL_law_1892 rfl (lv_at hl 1 rfl) ?_
                                                                    refine lv_iload hx hb dL_law_1893 (lv_at hl 6 rfl) ?_
                                                                    refine lv_iconst (v := (1 : Int32)) hx hb dL_law_1895 (by decide) ?_
                                                                    refine lv_iadd hx hb dL_law_1896 ?_
                                                                    refine va_sld hx hb hX hbl hbA hS (vin h_243) dL_law_1897 ?_
                                                                    refine lv_aload_n hx hb dL_law_1898 rfl (lv_at hl 1 rfl) ?_
                                                                    refine lv_iload hx hb dL_law_1899 (lv_at hl 6 rfl) ?_
                                                                    refine lv_iconst (v := (2 : Int32)) hx hb dL_law_1901 (by decide) ?_
                                                                    refine lv_iadd hx hb dL_law_1902 ?_
                                                                    refine va_sld hx hb hX hbl hbA hS (vin h_244) dL_law_1903 ?_
                                                                    obtain ⟨r_246, e_246, hf⟩ := bo hf
                                                                    refine mcallVi (W0 := (wC c0 h k0 x0 d0 ++ (wS g h a1 a2 a3 a4 σ ++ (wH g k0 k1 γ η ++ (wX g x0 x1 τ ++ (wD g d0 d1 d2 δ ++ (wM g m0 m1 m2 m3 m4 μ ++ (wO g o0 r_245.2 ++ (wE g e0 ε))))))))) (Wc := (wM g m0 m1 m2 m3 m4 μ)) (Wr := (wC c0 h k0 x0 d0 ++ (wS g h a1 a2 a3 a4 σ ++ (wH g k0 k1 γ η ++ (wX g x0 x1 τ ++ (wD g d0 d1 d2 δ ++ (wO g o0 r_245.2 ++ (wE g e0 ε)))))))) (W1 := (wM g m0 m1 m2 m3 m4 r_246.2)) (W2 := (wC c0 h k0 x0 d0 ++ (wS g h a1 a2 a3 a4 σ ++ (wH g k0 k1 γ η ++ (wX g x0 x1 τ ++ (wD g d0 d1 d2 δ ++ (wM g m0 m1 m2 m3 m4 r_246.2 ++ (wO g o0 r_245.2 ++ (wE g e0 ε))))))))) (As := [.int (xs (Int32.toNatClampNeg (i + (1 : Int32)))), .int (xs (Int32.toNatClampNeg (i + (2 : Int32))))]) (rest := []) [43, 44, 45, 46, 47] [0, 1, 2, 3, 4, 5, 6, 7, 8, 9, 10, 11, 12, 13, 14, 15, 16, 17, 18, 19, 20, 21, 22, 23, 24, 25, 26, 27, 28, 29, 30, 31, 32, 33, 34, 35, 36, 37, 38, 39, 40, 41, 42, 48, 49] [0, 1, 2, 3, 4, 5, 6, 7, 8, 9, 10, 11, 12, 13, 14, 15, 16, 17, 18, 19, 20, 21, 22, 23, 24, 25, 26, 27, 28, 29, 30, 31, 32, 33, 34, 35, 36, 37, 38, 39, 40, 41, 42, 45, 46, 47, 48, 49, 43, 44] 5 0 ⟨hx, hb, hml, hown, hts⟩ hP hD hE hZ hS hA (cX7_isWithinByRays_ok l g m0 m1 m2 m3 m4 μ (xs (Int32.toNatClampNeg (i + (1 : Int32)))) (xs (Int32.toNatClampNeg (i + (2 : Int32)))) _ e_246) (cwV 2 hts gL_law_X7_isWithinByRays rfl rfl rfl hdX7_isWithinByRays ⟨(Nat.le_of_ble_eq_true rfl), (Nat.le_of_ble_eq_true rfl)⟩) rfl rfl rfl (by decide) (by decide) (by decide) (by decide) rfl rfl rfl rfl hl.1 rfl (Nat.le_of_ble_eq_true rfl) ⟨(by show _ ≤ (601024 : Nat); omega), (by show _ ≤ (7293034 : Nat); omega)⟩ dL_law_1904 (fun H locs hP hD hS => ?_)
                                                                    refine lv_istore (lv' := [(7, .int (b2i r_246.1)), (6, .int r_245.1), (0, .ref b), (1, .ref c0), (2, .ref m0), (3, .ref o0), (4, .ref e0), (5, .int i)]) hx hb dL_law_1907 hl (by decide) rfl (fun ls hl => ?_)
                                                                    refine lv_aload_n hx hb dL_law_1909 rfl (lv_at hl 4 rfl) ?_
                                                                    obtain ⟨r_247, e_247, hf⟩ := bo hf
                                                                    refine pcallV (W0 := (wC c0 h k0 x0 d0 ++ (wS g h a1 a2 a3 a4 σ ++ (wH g k0 k1 γ η ++ (wX g x0 x1 τ ++ (wD g d0 d1 d2 δ ++ (wM g m0 m1 m2 m3 m4 r_246.2 ++ (wO g o0 r_245.2 ++ (wE g e0 ε))))))))) (As := []) (rest := []) [43, 44, 45, 46, 47] 5 0 ⟨hx, hb, hml, hown, hts⟩ hP hE hZ hS (cX7_thrown_ok l g m0 m1 m2 m3 m4 r_246.2 e_247) (cwV 0 hts gL_law_X7_thrown rfl rfl rfl hdX7_thrown ⟨(Nat.le_of_ble_eq_true rfl), (Nat.le_of_ble_eq_true rfl)⟩) rfl rfl rfl rfl rfl hl.1 rfl (Nat.le_of_ble_eq_true rfl) ⟨(by show _ ≤ (601024 : Nat); omega), (by show _ ≤ (7293034 : Nat); omega)⟩ dL_law_1910 ?_
                                                                    refine lv_iload hx hb dL_law_1913 (lv_at hl 1 rfl) ?_
                                                                    refine lv_icmp_eq (tgt := 1920) hx hb dL_law_1915 (by decide) (fun c_248 => ?_) (fun c_248 => ?_)
                                                                    · have hf := ip c_248 hf
                                                                      refine lv_iload hx hb dL_law_1920 (lv_at hl 1 rfl) ?_
                                                                      refine lv_if_ne (tgt := 1944) hx hb dL_law_1922 (by decide) (fun c_249 => ?_) (fun c_249 => ?_)
                                                                      · have hf := iq c_249 hf
                                                                        refine lv_goto (tgt := 2493) hx hb dL_law_1944 (by decide) ?_
                                                                        refine lv_iinc (v := (i + 3)) (lv' := [(5, .int (i + 3)), (7, .int (b2i r_246.1)), (6, .int r_245.1), (0, .ref b), (1, .ref c0), (2, .ref m0), (3, .ref o0), (4, .ref e0)]) hx hb dL_law_2493 hl (k := 7) rfl rfl (by decide) rfl (fun ls hl => ?_)
                                                                        refine lv_goto (tgt := 28) hx hb dL_law_2496 (by decide) ?_
                                                                        refine W.cs (cells' := cl + 2) (slots' := sl + 12) (by omega) (by omega) ?_
                                                                        exact ih (i + 3) σ η τ δ r_246.2 r_245.2 ε (cl + 2) (sl + 12) (by omega) (by omega) _ _ ls hP hD hS (lv_sub hl [3, 4, 5, 6, 7, 0] rfl) hf
                                                                      · have hf := ip c_249 hf
                                                                        refine lv_aload_n hx hb dL_law_1925 rfl (lv_at hl 5 rfl) ?_
                                                                        refine lv_iconst (v := (0 : Int32)) hx hb dL_law_1926 (by decide) ?_
                                                                        refine va_lald hx hb hE.1 hP 48 2 rfl rfl (vin (by decide)) dL_law_1927 ?_
                                                                        refine lv_iload hx hb dL_law_1928 (lv_at hl 0 rfl) ?_
                                                                        refine lv_beq (tgt := 1937) hx hb dL_law_1930 (by decide) (fun c_250 => ?_) (fun c_250 => ?_)
                                                                        · have hf := iq c_250 hf
                                                                          refine lv_lconst (v := 0) hx hb dL_law_1937 (by decide) ?_
                                                                          refine W.lcmp hx hb dL_law_1938 ?_
                                                                          refine lv_if_eq (tgt := 1944) hx hb dL_law_1939 (by decide) (fun c_251 => ?_) (fun c_251 => ?_)
                                                                          · have hf := ip c_251 hf
                                                                            refine lv_goto (tgt := 2493) hx hb dL_law_1944 (by decide) ?_
                                                                            refine lv_iinc (v := (i + 3)) (lv' := [(5, .int (i + 3)), (7, .int (b2i r_246.1)), (6, .int r_245.1), (0, .ref b), (1, .ref c0), (2, .ref m0), (3, .ref o0), (4, .ref e0)]) hx hb dL_law_2493 hl (k := 7) rfl rfl (by decide) rfl (fun ls hl => ?_)
                                                                            refine lv_goto (tgt := 28) hx hb dL_law_2496 (by decide) ?_
                                                                            refine W.cs (cells' := cl + 2) (slots' := sl + 12) (by omega) (by omega) ?_
                                                                            exact ih (i + 3) σ η τ δ r_246.2 r_245.2 ε (cl + 2) (sl + 12) (by omega) (by omega) _ _ ls hP hD hS (lv_sub hl [3, 4, 5, 6, 7, 0] rfl) hf
                                                                          · have hf := iq c_251 hf
                                                                            refine lv_iconst (v := (0 : Int32)) hx hb dL_law_1942 (by decide) ?_
                                                                            exact absurd (Option.some.inj hf) (by decide)
                                                                        · have hf := ip c_250 hf
                                                                          refine lv_lconst (v := 1) hx hb dL_law_1933 (by decide) ?_
                                                                          refine lv_goto (tgt := 1938) hx hb dL_law_1934 (by decide) ?_
                                                                          refine W.lcmp hx hb dL_law_1938 ?_
                                                                          refine lv_if_eq (tgt := 1944) hx hb dL_law_1939 (by decide) (fun c_252 => ?_) (fun c_252 => ?_)
                                                                          · have hf := ip c_252 hf
                                                                            refine lv_goto (tgt := 2493) hx hb dL_law_1944 (by decide) ?_
                                                                            refine lv_iinc (v := (i + 3)) (lv' := [(5, .int (i + 3)), (7, .int (b2i r_246.1)), (6, .int r_245.1), (0, .ref b), (1, .ref c0), (2, .ref m0), (3, .ref o0), (4, .ref e0)]) hx hb dL_law_2493 hl (k := 7) rfl rfl (by decide) rfl (fun ls hl => ?_)
                                                                            refine lv_goto (tgt := 28) hx hb dL_law_2496 (by decide) ?_
                                                                            refine W.cs (cells' := cl + 2) (slots' := sl + 12) (by omega) (by omega) ?_
                                                                            exact ih (i + 3) σ η τ δ r_246.2 r_245.2 ε (cl + 2) (sl + 12) (by omega) (by omega) _ _ ls hP hD hS (lv_sub hl [3, 4, 5, 6, 7, 0] rfl) hf
                                                                          · have hf := iq c_252 hf
                                                                            refine lv_iconst (v := (0 : Int32)) hx hb dL_law_1942 (by decide) ?_
                                                                            exact absurd (Option.some.inj hf) (by decide)
                                                                    · have hf := iq c_248 hf
                                                                      refine lv_iconst (v := (0 : Int32)) hx hb dL_law_1918 (by decide) ?_
                                                                      exact absurd (Option.some.inj hf) (by decide)
                                                                  · have hf := iq s_242 hf
                                                                    by_cases s_253 : ((xs (Int32.toNatClampNeg i)) &&& (63 : Int32)) = (31 : Int32)
                                                                    · have hf := ip s_253 hf
                                                                      refine lv_tableIn (off := 1903) (tgt := 1947) hx hb dL_law_44 (by rw [s_253]; decide) (by rw [s_253]; decide) (by rw [s_253]; rfl) (by decide) ?_
                                                                      refine lv_aload_n hx hb dL_law_1947 rfl (lv_at hl 1 rfl) ?_
                                                                      refine lv_aload_n hx hb dL_law_1948 rfl (lv_at hl 0 rfl) ?_
                                                                      refine lv_iload hx hb dL_law_1949 (lv_at hl 5 rfl) ?_
                                                                      refine lv_iconst (v := (1 : Int32)) hx hb dL_law_1951 (by decide) ?_
                                                                      refine lv_iadd hx hb dL_law_1952 ?_
                                                                      obtain ⟨h_254, hf⟩ := ck hf
                                                                      refine va_sld hx hb hX hbl hbA hS (vin h_254) dL_law_1953 ?_
                                                                      refine lv_aload_n hx hb dL_law_1954 rfl (lv_at hl 0 rfl) ?_
                                                                      refine lv_iload hx hb dL_law_1955 (lv_at hl 5 rfl) ?_
                                                                      refine lv_iconst (v := (2 : Int32)) hx hb dL_law_1957 (by decide) ?_
                                                                      refine lv_iadd hx hb dL_law_1958 ?_
                                                                      obtain ⟨h_255, hf⟩ := ck hf
                                                                      refine va_sld hx hb hX hbl hbA hS (vin h_255) dL_law_1959 ?_
                                                                      refine lv_aload_n hx hb dL_law_1960 rfl (lv_at hl 3 rfl) ?_
                                                                      obtain ⟨r_256, e_256, hf⟩ := bo hf
                                                                      refine lcallS (W0 := (wC c0 h k0 x0 d0 ++ (wS g h a1 a2 a3 a4 σ ++ (wH g k0 k1 γ η ++ (wX g x0 x1 τ ++ (wD g d0 d1 d2 δ ++ (wM g m0 m1 m2 m3 m4 μ ++ (wO g o0 ω ++ (wE g e0 ε))))))))) (Wc := (wC c0 h k0 x0 d0 ++ (wS g h a1 a2 a3 a4 σ ++ (wD g d0 d1 d2 δ ++ (wO g o0 ω))))) (Wr := (wH g k0 k1 γ η ++ (wX g x0 x1 τ ++ (wM g m0 m1 m2 m3 m4 μ ++ (wE g e0 ε))))) (W1 := (wC c0 h k0 x0 d0 ++ (wS g h a1 a2 a3 a4 σ ++ (wD g d0 d1 d2 r_256.2.1 ++ (wO g o0 r_256.2.2))))) (W2 := (wC c0 h k0 x0 d0 ++ (wS g h a1 a2 a3 a4 σ ++ (wH g k0 k1 γ η ++ (wX g x0 x1 τ ++ (wD g d0 d1 d2 r_256.2.1 ++ (wM g m0 m1 m2 m3 m4 μ ++ (wO g o0 r_256.2.2 ++ (wE g e0 ε))))))))) (As := [.ref c0, .int (xs (Int32.toNatClampNeg (i + (1 : Int32)))), .int (xs (Int32.toNatClampNeg (i + (2 : Int32)))), .ref o0]) (rest := []) [0, 1, 2, 3, 4, 5, 40, 41, 42, 48] [6, 7, 8, 9, 10, 11, 12, 13, 14, 15, 16, 17, 18, 19, 20, 21, 22, 23, 24, 25, 26, 27, 28, 29, 30, 31, 32, 33, 34, 35, 36, 37, 38, 39, 43, 44, 45, 46, 47, 49] [40, 41, 42, 43, 44, 45, 0, 1, 2, 3, 4, 5, 6, 7, 8, 9, 10, 11, 12, 13, 14, 15, 16, 17, 18, 19, 20, 21, 22, 23, 24, 25, 26, 27, 28, 29, 30, 31, 32, 33, 46, 47, 48, 34, 35, 36, 37, 38, 49, 39] ⟨hx, hb, hml, hown, hts⟩ hP hD hE hZ hS hA (cL_isWithinBySpreading_ok l hl0 g c0 h k0 x0 d0 a1 a2 a3 a4 d1 d2 o0 σ δ ω (xs (Int32.toNatClampNeg (i + (1 : Int32)))) (xs (Int32.toNatClampNeg (i + (2 : Int32)))) _ e_256) (vx_cwSW 4 hts gL_law_L_isWithinBySpreading rfl rfl rfl hdL_isWithinBySpreading.2 ⟨(Nat.le_of_ble_eq_true rfl), (Nat.le_of_ble_eq_true rfl)⟩) rfl rfl rfl (by decide) (by decide) (by decide) (by decide) rfl hl.1 rfl (Nat.le_of_ble_eq_true rfl) ⟨(by show _ ≤ (601024 : Nat); omega), (by show _ ≤ (7293034 : Nat); omega)⟩ dL_law_1961 (fun H locs hP hD hS => ?_)
                                                                      refine lv_istore (lv' := [(6, .int r_256.1), (0, .ref b), (1, .ref c0), (2, .ref m0), (3, .ref o0), (4, .ref e0), (5, .int i)]) hx hb dL_law_1964 hl (by decide) rfl (fun ls hl => ?_)
                                                                      refine lv_aload_n hx hb dL_law_1966 rfl (lv_at hl 3 rfl) ?_
                                                                      refine lv_aload_n hx hb dL_law_1967 rfl (lv_at hl 1 rfl) ?_
                                                                      refine lv_iload hx hb dL_law_1968 (lv_at hl 6 rfl) ?_
                                                                      refine lv_iconst (v := (1 : Int32)) hx hb dL_law_1970 (by decide) ?_
                                                                      refine lv_iadd hx hb dL_law_1971 ?_
                                                                      refine va_sld hx hb hX hbl hbA hS (vin h_254) dL_law_1972 ?_
                                                                      refine lv_aload_n hx hb dL_law_1973 rfl (lv_at hl 1 rfl) ?_
                                                                      refine lv_iload hx hb dL_law_1974 (lv_at hl 6 rfl) ?_
                                                                      refine lv_iconst (v := (2 : Int32)) hx hb dL_law_1976 (by decide) ?_
                                                                      refine lv_iadd hx hb dL_law_1977 ?_
                                                                      refine va_sld hx hb hX hbl hbA hS (vin h_255) dL_law_1978 ?_
                                                                      obtain ⟨r_257, e_257, hf⟩ := bo hf
                                                                      refine mcallVi (W0 := (wC c0 h k0 x0 d0 ++ (wS g h a1 a2 a3 a4 σ ++ (wH g k0 k1 γ η ++ (wX g x0 x1 τ ++ (wD g d0 d1 d2 r_256.2.1 ++ (wM g m0 m1 m2 m3 m4 μ ++ (wO g o0 r_256.2.2 ++ (wE g e0 ε))))))))) (Wc := (wM g m0 m1 m2 m3 m4 μ)) (Wr := (wC c0 h k0 x0 d0 ++ (wS g h a1 a2 a3 a4 σ ++ (wH g k0 k1 γ η ++ (wX g x0 x1 τ ++ (wD g d0 d1 d2 r_256.2.1 ++ (wO g o0 r_256.2.2 ++ (wE g e0 ε)))))))) (W1 := (wM g m0 m1 m2 m3 m4 r_257.2)) (W2 := (wC c0 h k0 x0 d0 ++ (wS g h a1 a2 a3 a4 σ ++ (wH g k0 k1 γ η ++ (wX g x0 x1 τ ++ (wD g d0 d1 d2 r_256.2.1 ++ (wM g m0 m1 m2 m3 m4 r_257.2 ++ (wO g o0 r_256.2.2 ++ (wE g e0 ε))))))))) (As := [.int (xs (Int32.toNatClampNeg (i + (1 : Int32)))), .int (xs (Int32.toNatClampNeg (i + (2 : Int32))))]) (rest := []) [43, 44, 45, 46, 47] [0, 1, 2, 3, 4, 5, 6, 7, 8, 9, 10, 11, 12, 13, 14, 15, 16, 17, 18, 19, 20, 21, 22, 23, 24, 25, 26, 27, 28, 29, 30, 31, 32, 33, 34, 35, 36, 37, 38, 39, 40, 41, 42, 48, 49] [0, 1, 2, 3, 4, 5, 6, 7, 8, 9, 10, 11, 12, 13, 14, 15, 16, 17, 18, 19, 20, 21, 22, 23, 24, 25, 26, 27, 28, 29, 30, 31, 32, 33, 34, 35, 36, 37, 38, 39, 40, 41, 42, 45, 46, 47, 48, 49, 43, 44] 5 0 ⟨hx, hb, hml, hown, hts⟩ hP hD hE hZ hS hA (cX7_isWithinBySpreading_ok l g m0 m1 m2 m3 m4 μ (xs (Int32.toNatClampNeg (i + (1 : Int32)))) (xs (Int32.toNatClampNeg (i + (2 : Int32)))) _ e_257) (cwV 2 hts gL_law_X7_isWithinBySpreading rfl rfl rfl hdX7_isWithinBySpreading ⟨(Nat.le_of_ble_eq_true rfl), (Nat.le_of_ble_eq_true rfl)⟩) rfl rfl rfl (by decide) (by decide) (by decide) (by decide) rfl rfl rfl rfl hl.1 rfl (Nat.le_of_ble_eq_true rfl) ⟨(by show _ ≤ (601024 : Nat); omega), (by show _ ≤ (7293034 : Nat); omega)⟩ dL_law_1979 (fun H locs hP hD hS => ?_)
                                                                      refine lv_istore (lv' := [(7, .int (b2i r_257.1)), (6, .int r_256.1), (0, .ref b), (1, .ref c0), (2, .ref m0), (3, .ref o0), (4, .ref e0), (5, .int i)]) hx hb dL_law_1982 hl (by decide) rfl (fun ls hl => ?_)
                                                                      refine lv_aload_n hx hb dL_law_1984 rfl (lv_at hl 4 rfl) ?_
                                                                      obtain ⟨r_258, e_258, hf⟩ := bo hf
                                                                      refine pcallV (W0 := (wC c0 h k0 x0 d0 ++ (wS g h a1 a2 a3 a4 σ ++ (wH g k0 k1 γ η ++ (wX g x0 x1 τ ++ (wD g d0 d1 d2 r_256.2.1 ++ (wM g m0 m1 m2 m3 m4 r_257.2 ++ (wO g o0 r_256.2.2 ++ (wE g e0 ε))))))))) (As := []) (rest := []) [43, 44, 45, 46, 47] 5 0 ⟨hx, hb, hml, hown, hts⟩ hP hE hZ hS (cX7_thrown_ok l g m0 m1 m2 m3 m4 r_257.2 e_258) (cwV 0 hts gL_law_X7_thrown rfl rfl rfl hdX7_thrown ⟨(Nat.le_of_ble_eq_true rfl), (Nat.le_of_ble_eq_true rfl)⟩) rfl rfl rfl rfl rfl hl.1 rfl (Nat.le_of_ble_eq_true rfl) ⟨(by show _ ≤ (601024 : Nat); omega), (by show _ ≤ (7293034 : Nat); omega)⟩ dL_law_1985 ?_
                                                                      refine lv_iload hx hb dL_law_1988 (lv_at hl 1 rfl) ?_
                                                                      refine lv_icmp_eq (tgt := 1995) hx hb dL_law_1990 (by decide) (fun c_259 => ?_) (fun c_259 => ?_)
                                                                      · have hf := ip c_259 hf
                                                                        refine lv_iload hx hb dL_law_1995 (lv_at hl 1 rfl) ?_
                                                                        refine lv_if_ne (tgt := 2019) hx hb dL_law_1997 (by decide) (fun c_260 => ?_) (fun c_260 => ?_)
                                                                        · have hf := iq c_260 hf
                                                                          refine lv_goto (tgt := 2493) hx hb dL_law_2019 (by decide) ?_
                                                                          refine lv_iinc (v := (i + 3)) (lv' := [(5, .int (i + 3)), (7, .int (b2i r_257.1)), (6, .int r_256.1), (0, .ref b), (1, .ref c0), (2, .ref m0), (3, .ref o0), (4, .ref e0)]) hx hb dL_law_2493 hl (k := 7) rfl rfl (by decide) rfl (fun ls hl => ?_)
                                                                          refine lv_goto (tgt := 28) hx hb dL_law_2496 (by decide) ?_
                                                                          refine W.cs (cells' := cl + 2) (slots' := sl + 12) (by omega) (by omega) ?_
                                                                          exact ih (i + 3) σ η τ r_256.2.1 r_257.2 r_256.2.2 ε (cl + 2) (sl + 12) (by omega) (by omega) _ _ ls hP hD hS (lv_sub hl [3, 4, 5, 6, 7, 0] rfl) hf
                                                                        · have hf := ip c_260 hf
                                                                          refine lv_aload_n hx hb dL_law_2000 rfl (lv_at hl 5 rfl) ?_
                                                                          refine lv_iconst (v := (0 : Int32)) hx hb dL_law_2001 (by decide) ?_
                                                                          refine va_lald hx hb hE.1 hP 48 2 rfl rfl (vin (by decide)) dL_law_2002 ?_
                                                                          refine lv_iload hx hb dL_law_2003 (lv_at hl 0 rfl) ?_
                                                                          refine lv_beq (tgt := 2012) hx hb dL_law_2005 (by decide) (fun c_261 => ?_) (fun c_261 => ?_)
                                                                          · have hf := iq c_261 hf
                                                                            refine lv_lconst (v := 0) hx hb dL_law_2012 (by decide) ?_
                                                                            refine W.lcmp hx hb dL_law_2013 ?_
                                                                            refine lv_if_eq (tgt := 2019) hx hb dL_law_2014 (by decide) (fun c_262 => ?_) (fun c_262 => ?_)
                                                                            · have hf := ip c_262 hf
                                                                              refine lv_goto (tgt := 2493) hx hb dL_law_2019 (by decide) ?_
                                                                              refine lv_iinc (v := (i + 3)) (lv' := [(5, .int (i + 3)), (7, .int (b2i r_257.1)), (6, .int r_256.1), (0, .ref b), (1, .ref c0), (2, .ref m0), (3, .ref o0), (4, .ref e0)]) hx hb dL_law_2493 hl (k := 7) rfl rfl (by decide) rfl (fun ls hl => ?_)
                                                                              refine lv_goto (tgt := 28) hx hb dL_law_2496 (by decide) ?_
                                                                              refine W.cs (cells' := cl + 2) (slots' := sl + 12) (by omega) (by omega) ?_
                                                                              exact ih (i + 3) σ η τ r_256.2.1 r_257.2 r_256.2.2 ε (cl + 2) (sl + 12) (by omega) (by omega) _ _ ls hP hD hS (lv_sub hl [3, 4, 5, 6, 7, 0] rfl) hf
                                                                            · have hf := iq c_262 hf
                                                                              refine lv_iconst (v := (0 : Int32)) hx hb dL_law_2017 (by decide) ?_
                                                                              exact absurd (Option.some.inj hf) (by decide)
                                                                          · have hf := ip c_261 hf
                                                                            refine lv_lconst (v := 1) hx hb dL_law_2008 (by decide) ?_
                                                                            refine lv_goto (tgt := 2013) hx hb dL_law_2009 (by decide) ?_
                                                                            refine W.lcmp hx hb dL_law_2013 ?_
                                                                            refine lv_if_eq (tgt := 2019) hx hb dL_law_2014 (by decide) (fun c_263 => ?_) (fun c_263 => ?_)
                                                                            · have hf := ip c_263 hf
                                                                              refine lv_goto (tgt := 2493) hx hb dL_law_2019 (by decide) ?_
                                                                              refine lv_iinc (v := (i + 3)) (lv' := [(5, .int (i + 3)), (7, .int (b2i r_257.1)), (6, .int r_256.1), (0, .ref b), (1, .ref c0), (2, .ref m0), (3, .ref o0), (4, .ref e0)]) hx hb dL_law_2493 hl (k := 7) rfl rfl (by decide) rfl (fun ls hl => ?_)
                                                                              refine lv_goto (tgt := 28) hx hb dL_law_2496 (by decide) ?_
                                                                              refine W.cs (cells' := cl + 2) (slots' := sl + 12) (by omega) (by omega) ?_
                                                                              exact ih (i + 3) σ η τ r_256.2.1 r_257.2 r_256.2.2 ε (cl + 2) (sl + 12) (by omega) (by omega) _ _ ls hP hD hS (lv_sub hl [3, 4, 5, 6, 7, 0] rfl) hf
                                                                            · have hf := iq c_263 hf
                                                                              refine lv_iconst (v := (0 : Int32)) hx hb dL_law_2017 (by decide) ?_
                                                                              exact absurd (Option.some.inj hf) (by decide)
                                                                      · have hf := iq c_259 hf
                                                                        refine lv_iconst (v := (0 : Int32)) hx hb dL_law_1993 (by decide) ?_
                                                                        exact absurd (Option.some.inj hf) (by decide)
                                                                    · have hf := iq s_253 hf
                                                                      by_cases s_264 : ((xs (Int32.toNatClampNeg i)) &&& (63 : Int32)) = (32 : Int32)
                                                                      · have hf := ip s_264 hf
                                                                        refine lv_tableIn (off := 1978) (tgt := 2022) hx hb dL_law_44 (by rw [s_264]; decide) (by rw [s_264]; decide) (by rw [s_264]; rfl) (by decide) ?_
                                                                        refine lv_aload_n hx hb dL_law_2022 rfl (lv_at hl 1 rfl) ?_
                                                                        refine lv_aload_n hx hb dL_law_2023 rfl (lv_at hl 0 rfl) ?_
                                                                        refine lv_iload hx hb dL_law_2024 (lv_at hl 5 rfl) ?_
                                                                        refine lv_iconst (v := (1 : Int32)) hx hb dL_law_2026 (by decide) ?_
                                                                        refine lv_iadd hx hb dL_law_2027 ?_
                                                                        obtain ⟨h_265, hf⟩ := ck hf
                                                                        refine va_sld hx hb hX hbl hbA hS (vin h_265) dL_law_2028 ?_
                                                                        refine lv_aload_n hx hb dL_law_2029 rfl (lv_at hl 3 rfl) ?_
                                                                        obtain ⟨r_266, e_266, hf⟩ := bo hf
                                                                        refine lcallS (W0 := (wC c0 h k0 x0 d0 ++ (wS g h a1 a2 a3 a4 σ ++ (wH g k0 k1 γ η ++ (wX g x0 x1 τ ++ (wD g d0 d1 d2 δ ++ (wM g m0 m1 m2 m3 m4 μ ++ (wO g o0 ω ++ (wE g e0 ε))))))))) (Wc := (wC c0 h k0 x0 d0 ++ (wS g h a1 a2 a3 a4 σ ++ (wO g o0 ω)))) (Wr := (wH g k0 k1 γ η ++ (wX g x0 x1 τ ++ (wD g d0 d1 d2 δ ++ (wM g m0 m1 m2 m3 m4 μ ++ (wE g e0 ε)))))) (W1 := (wC c0 h k0 x0 d0 ++ (wS g h a1 a2 a3 a4 σ ++ (wO g o0 r_266.2)))) (W2 := (wC c0 h k0 x0 d0 ++ (wS g h a1 a2 a3 a4 σ ++ (wH g k0 k1 γ η ++ (wX g x0 x1 τ ++ (wD g d0 d1 d2 δ ++ (wM g m0 m1 m2 m3 m4 μ ++ (wO g o0 r_266.2 ++ (wE g e0 ε))))))))) (As := [.ref c0, .int (xs (Int32.toNatClampNeg (i + (1 : Int32)))), .ref o0]) (rest := []) [0, 1, 2, 3, 4, 5, 48] [6, 7, 8, 9, 10, 11, 12, 13, 14, 15, 16, 17, 18, 19, 20, 21, 22, 23, 24, 25, 26, 27, 28, 29, 30, 31, 32, 33, 34, 35, 36, 37, 38, 39, 40, 41, 42, 43, 44, 45, 46, 47, 49] [43, 44, 45, 46, 47, 48, 0, 1, 2, 3, 4, 5, 6, 7, 8, 9, 10, 11, 12, 13, 14, 15, 16, 17, 18, 19, 20, 21, 22, 23, 24, 25, 26, 27, 28, 29, 30, 31, 32, 33, 34, 35, 36, 37, 38, 39, 40, 41, 49, 42] ⟨hx, hb, hml, hown, hts⟩ hP hD hE hZ hS hA (cL_pointsWithin_ok l hl0 g c0 h k0 x0 d0 a1 a2 a3 a4 o0 σ ω (xs (Int32.toNatClampNeg (i + (1 : Int32)))) _ e_266) (vx_cwSW 3 hts gL_law_L_pointsWithin rfl rfl rfl hdL_pointsWithin.2 ⟨(Nat.le_of_ble_eq_true rfl), (Nat.le_of_ble_eq_true rfl)⟩) rfl rfl rfl (by decide) (by decide) (by decide) (by decide) rfl hl.1 rfl (Nat.le_of_ble_eq_true rfl) ⟨(by show _ ≤ (601024 : Nat); omega), (by show _ ≤ (7293034 : Nat); omega)⟩ dL_law_2030 (fun H locs hP hD hS => ?_)
                                                                        refine lv_istore (lv' := [(6, .int r_266.1), (0, .ref b), (1, .ref c0), (2, .ref m0), (3, .ref o0), (4, .ref e0), (5, .int i)]) hx hb dL_law_2033 hl (by decide) rfl (fun ls hl => ?_)
                                                                        refine lv_aload_n hx hb dL_law_2035 rfl (lv_at hl 3 rfl) ?_
                                                                        refine lv_aload_n hx hb dL_law_2036 rfl (lv_at hl 1 rfl) ?_
                                                                        refine lv_iload hx hb dL_law_2037 (lv_at hl 6 rfl) ?_
                                                                        refine lv_iconst (v := (1 : Int32)) hx hb dL_law_2039 (by decide) ?_
                                                                        refine lv_iadd hx hb dL_law_2040 ?_
                                                                        refine va_sld hx hb hX hbl hbA hS (vin h_265) dL_law_2041 ?_
                                                                        obtain ⟨r_267, e_267, hf⟩ := bo hf
                                                                        refine mcallVi (W0 := (wC c0 h k0 x0 d0 ++ (wS g h a1 a2 a3 a4 σ ++ (wH g k0 k1 γ η ++ (wX g x0 x1 τ ++ (wD g d0 d1 d2 δ ++ (wM g m0 m1 m2 m3 m4 μ ++ (wO g o0 r_266.2 ++ (wE g e0 ε))))))))) (Wc := (wM g m0 m1 m2 m3 m4 μ)) (Wr := (wC c0 h k0 x0 d0 ++ (wS g h a1 a2 a3 a4 σ ++ (wH g k0 k1 γ η ++ (wX g x0 x1 τ ++ (wD g d0 d1 d2 δ ++ (wO g o0 r_266.2 ++ (wE g e0 ε)))))))) (W1 := (wM g m0 m1 m2 m3 m4 r_267.2)) (W2 := (wC c0 h k0 x0 d0 ++ (wS g h a1 a2 a3 a4 σ ++ (wH g k0 k1 γ η ++ (wX g x0 x1 τ ++ (wD g d0 d1 d2 δ ++ (wM g m0 m1 m2 m3 m4 r_267.2 ++ (wO g o0 r_266.2 ++ (wE g e0 ε))))))))) (As := [.int (xs (Int32.toNatClampNeg (i + (1 : Int32))))]) (rest := []) [43, 44, 45, 46, 47] [0, 1, 2, 3, 4, 5, 6, 7, 8, 9, 10, 11, 12, 13, 14, 15, 16, 17, 18, 19, 20, 21, 22, 23, 24, 25, 26, 27, 28, 29, 30, 31, 32, 33, 34, 35, 36, 37, 38, 39, 40, 41, 42, 48, 49] [0, 1, 2, 3, 4, 5, 6, 7, 8, 9, 10, 11, 12, 13, 14, 15, 16, 17, 18, 19, 20, 21, 22, 23, 24, 25, 26, 27, 28, 29, 30, 31, 32, 33, 34, 35, 36, 37, 38, 39, 40, 41, 42, 45, 46, 47, 48, 49, 43, 44] 5 0 ⟨hx, hb, hml, hown, hts⟩ hP hD hE hZ hS hA (cX7_pointsWithin_ok l g m0 m1 m2 m3 m4 μ (xs (Int32.toNatClampNeg (i + (1 : Int32)))) _ e_267) (cwV 1 hts gL_law_X7_pointsWithin rfl rfl rfl hdX7_pointsWithin ⟨(Nat.le_of_ble_eq_true rfl), (Nat.le_of_ble_eq_true rfl)⟩) rfl rfl rfl (by decide) (by decide) (by decide) (by decide) rfl rfl rfl rfl hl.1 rfl (Nat.le_of_ble_eq_true rfl) ⟨(by show _ ≤ (601024 : Nat); omega), (by show _ ≤ (7293034 : Nat); omega)⟩ dL_law_2042 (fun H locs hP hD hS => ?_)
                                                                        refine lv_istore (lv' := [(7, .int r_267.1), (6, .int r_266.1), (0, .ref b), (1, .ref c0), (2, .ref m0), (3, .ref o0), (4, .ref e0), (5, .int i)]) hx hb dL_law_2045 hl (by decide) rfl (fun ls hl => ?_)
                                                                        refine lv_aload_n hx hb dL_law_2047 rfl (lv_at hl 4 rfl) ?_
                                                                        obtain ⟨r_268, e_268, hf⟩ := bo hf
                                                                        refine pcallV (W0 := (wC c0 h k0 x0 d0 ++ (wS g h a1 a2 a3 a4 σ ++ (wH g k0 k1 γ η ++ (wX g x0 x1 τ ++ (wD g d0 d1 d2 δ ++ (wM g m0 m1 m2 m3 m4 r_267.2 ++ (wO g o0 r_266.2 ++ (wE g e0 ε))))))))) (As := []) (rest := []) [43, 44, 45, 46, 47] 5 0 ⟨hx, hb, hml, hown, hts⟩ hP hE hZ hS (cX7_thrown_ok l g m0 m1 m2 m3 m4 r_267.2 e_268) (cwV 0 hts gL_law_X7_thrown rfl rfl rfl hdX7_thrown ⟨(Nat.le_of_ble_eq_true rfl), (Nat.le_of_ble_eq_true rfl)⟩) rfl rfl rfl rfl rfl hl.1 rfl (Nat.le_of_ble_eq_true rfl) ⟨(by show _ ≤ (601024 : Nat); omega), (by show _ ≤ (7293034 : Nat); omega)⟩ dL_law_2048 ?_
                                                                        refine lv_iload hx hb dL_law_2051 (lv_at hl 1 rfl) ?_
                                                                        refine lv_icmp_eq (tgt := 2058) hx hb dL_law_2053 (by decide) (fun c_269 => ?_) (fun c_269 => ?_)
                                                                        · have hf := ip c_269 hf
                                                                          refine lv_iload hx hb dL_law_2058 (lv_at hl 1 rfl) ?_
                                                                          refine lv_if_ne (tgt := 2075) hx hb dL_law_2060 (by decide) (fun c_270 => ?_) (fun c_270 => ?_)
                                                                          · have hf := iq c_270 hf
                                                                            refine lv_goto (tgt := 2493) hx hb dL_law_2075 (by decide) ?_
                                                                            refine lv_iinc (v := (i + 3)) (lv' := [(5, .int (i + 3)), (7, .int r_267.1), (6, .int r_266.1), (0, .ref b), (1, .ref c0), (2, .ref m0), (3, .ref o0), (4, .ref e0)]) hx hb dL_law_2493 hl (k := 7) rfl rfl (by decide) rfl (fun ls hl => ?_)
                                                                            refine lv_goto (tgt := 28) hx hb dL_law_2496 (by decide) ?_
                                                                            refine W.cs (cells' := cl + 1) (slots' := sl + 6) (by omega) (by omega) ?_
                                                                            exact ih (i + 3) σ η τ δ r_267.2 r_266.2 ε (cl + 1) (sl + 6) (by omega) (by omega) _ _ ls hP hD hS (lv_sub hl [3, 4, 5, 6, 7, 0] rfl) hf
                                                                          · have hf := ip c_270 hf
                                                                            refine lv_aload_n hx hb dL_law_2063 rfl (lv_at hl 5 rfl) ?_
                                                                            refine lv_iconst (v := (0 : Int32)) hx hb dL_law_2064 (by decide) ?_
                                                                            refine va_lald hx hb hE.1 hP 48 2 rfl rfl (vin (by decide)) dL_law_2065 ?_
                                                                            refine lv_iload hx hb dL_law_2066 (lv_at hl 0 rfl) ?_
                                                                            refine lv_i2l hx hb dL_law_2068 rfl ?_
                                                                            refine W.lcmp hx hb dL_law_2069 ?_
                                                                            refine lv_if_eq (tgt := 2075) hx hb dL_law_2070 (by decide) (fun c_271 => ?_) (fun c_271 => ?_)
                                                                            · have hf := ip c_271 hf
                                                                              refine lv_goto (tgt := 2493) hx hb dL_law_2075 (by decide) ?_
                                                                              refine lv_iinc (v := (i + 3)) (lv' := [(5, .int (i + 3)), (7, .int r_267.1), (6, .int r_266.1), (0, .ref b), (1, .ref c0), (2, .ref m0), (3, .ref o0), (4, .ref e0)]) hx hb dL_law_2493 hl (k := 7) rfl rfl (by decide) rfl (fun ls hl => ?_)
                                                                              refine lv_goto (tgt := 28) hx hb dL_law_2496 (by decide) ?_
                                                                              refine W.cs (cells' := cl + 1) (slots' := sl + 6) (by omega) (by omega) ?_
                                                                              exact ih (i + 3) σ η τ δ r_267.2 r_266.2 ε (cl + 1) (sl + 6) (by omega) (by omega) _ _ ls hP hD hS (lv_sub hl [3, 4, 5, 6, 7, 0] rfl) hf
                                                                            · have hf := iq c_271 hf
                                                                              refine lv_iconst (v := (0 : Int32)) hx hb dL_law_2073 (by decide) ?_
                                                                              exact absurd (Option.some.inj hf) (by decide)
                                                                        · have hf := iq c_269 hf
                                                                          refine lv_iconst (v := (0 : Int32)) hx hb dL_law_2056 (by decide) ?_
                                                                          exact absurd (Option.some.inj hf) (by decide)
                                                                      · have hf := iq s_264 hf
                                                                        by_cases s_272 : ((xs (Int32.toNatClampNeg i)) &&& (63 : Int32)) = (33 : Int32)
                                                                        · have hf := ip s_272 hf
                                                                          refine lv_tableIn (off := 2034) (tgt := 2078) hx hb dL_law_44 (by rw [s_272]; decide) (by rw [s_272]; decide) (by rw [s_272]; rfl) (by decide) ?_
                                                                          refine lv_aload_n hx hb dL_law_2078 rfl (lv_at hl 1 rfl) ?_
                                                                          refine lv_aload_n hx hb dL_law_2079 rfl (lv_at hl 0 rfl) ?_
                                                                          refine lv_iload hx hb dL_law_2080 (lv_at hl 5 rfl) ?_
                                                                          refine lv_iconst (v := (1 : Int32)) hx hb dL_law_2082 (by decide) ?_
                                                                          refine lv_iadd hx hb dL_law_2083 ?_
                                                                          obtain ⟨h_273, hf⟩ := ck hf
                                                                          refine va_sld hx hb hX hbl hbA hS (vin h_273) dL_law_2084 ?_
                                                                          refine lv_aload_n hx hb dL_law_2085 rfl (lv_at hl 3 rfl) ?_
                                                                          obtain ⟨r_274, e_274, hf⟩ := bo hf
                                                                          refine lcallS (W0 := (wC c0 h k0 x0 d0 ++ (wS g h a1 a2 a3 a4 σ ++ (wH g k0 k1 γ η ++ (wX g x0 x1 τ ++ (wD g d0 d1 d2 δ ++ (wM g m0 m1 m2 m3 m4 μ ++ (wO g o0 ω ++ (wE g e0 ε))))))))) (Wc := (wC c0 h k0 x0 d0 ++ (wS g h a1 a2 a3 a4 σ ++ (wO g o0 ω)))) (Wr := (wH g k0 k1 γ η ++ (wX g x0 x1 τ ++ (wD g d0 d1 d2 δ ++ (wM g m0 m1 m2 m3 m4 μ ++ (wE g e0 ε)))))) (W1 := (wC c0 h k0 x0 d0 ++ (wS g h a1 a2 a3 a4 σ ++ (wO g o0 r_274.2)))) (W2 := (wC c0 h k0 x0 d0 ++ (wS g h a1 a2 a3 a4 σ ++ (wH g k0 k1 γ η ++ (wX g x0 x1 τ ++ (wD g d0 d1 d2 δ ++ (wM g m0 m1 m2 m3 m4 μ ++ (wO g o0 r_274.2 ++ (wE g e0 ε))))))))) (As := [.ref c0, .int (xs (Int32.toNatClampNeg (i + (1 : Int32)))), .ref o0]) (rest := []) [0, 1, 2, 3, 4, 5, 48] [6, 7, 8, 9, 10, 11, 12, 13, 14, 15, 16, 17, 18, 19, 20, 21, 22, 23, 24, 25, 26, 27, 28, 29, 30, 31, 32, 33, 34, 35, 36, 37, 38, 39, 40, 41, 42, 43, 44, 45, 46, 47, 49] [43, 44, 45, 46, 47, 48, 0, 1, 2, 3, 4, 5, 6, 7, 8, 9, 10, 11, 12, 13, 14, 15, 16, 17, 18, 19, 20, 21, 22, 23, 24, 25, 26, 27, 28, 29, 30, 31, 32, 33, 34, 35, 36, 37, 38, 39, 40, 41, 49, 42] ⟨hx, hb, hml, hown, hts⟩ hP hD hE hZ hS hA (cL_lineRound_ok l hl0 g c0 h k0 x0 d0 a1 a2 a3 a4 o0 σ ω (xs (Int32.toNatClampNeg (i + (1 : Int32)))) _ e_274) (vx_cwSW 3 hts gL_law_L_lineRound rfl rfl rfl hdL_lineRound.2 ⟨(Nat.le_of_ble_eq_true rfl), (Nat.le_of_ble_eq_true rfl)⟩) rfl rfl rfl (by decide) (by decide) (by decide) (by decide) rfl hl.1 rfl (Nat.le_of_ble_eq_true rfl) ⟨(by show _ ≤ (601024 : Nat); omega), (by show _ ≤ (7293034 : Nat); omega)⟩ dL_law_2086 (fun H locs hP hD hS => ?_)
                                                                          refine lv_istore (lv' := [(6, .int r_274.1), (0, .ref b), (1, .ref c0), (2, .ref m0), (3, .ref o0), (4, .ref e0), (5, .int i)]) hx hb dL_law_2089 hl (by decide) rfl (fun ls hl => ?_)
                                                                          refine lv_aload_n hx hb dL_law_2091 rfl (lv_at hl 3 rfl) ?_
                                                                          refine lv_aload_n hx hb dL_law_2092 rfl (lv_at hl 1 rfl) ?_
                                                                          refine lv_iload hx hb dL_law_2093 (lv_at hl 6 rfl) ?_
                                                                          refine lv_iconst (v := (1 : Int32)) hx hb dL_law_2095 (by decide) ?_
                                                                          refine lv_iadd hx hb dL_law_2096 ?_
                                                                          refine va_sld hx hb hX hbl hbA hS (vin h_273) dL_law_2097 ?_
                                                                          obtain ⟨r_275, e_275, hf⟩ := bo hf
                                                                          refine mcallVi (W0 := (wC c0 h k0 x0 d0 ++ (wS g h a1 a2 a3 a4 σ ++ (wH g k0 k1 γ η ++ (wX g x0 x1 τ ++ (wD g d0 d1 d2 δ ++ (wM g m0 m1 m2 m3 m4 μ ++ (wO g o0 r_274.2 ++ (wE g e0 ε))))))))) (Wc := (wM g m0 m1 m2 m3 m4 μ)) (Wr := (wC c0 h k0 x0 d0 ++ (wS g h a1 a2 a3 a4 σ ++ (wH g k0 k1 γ η ++ (wX g x0 x1 τ ++ (wD g d0 d1 d2 δ ++ (wO g o0 r_274.2 ++ (wE g e0 ε)))))))) (W1 := (wM g m0 m1 m2 m3 m4 r_275.2)) (W2 := (wC c0 h k0 x0 d0 ++ (wS g h a1 a2 a3 a4 σ ++ (wH g k0 k1 γ η ++ (wX g x0 x1 τ ++ (wD g d0 d1 d2 δ ++ (wM g m0 m1 m2 m3 m4 r_275.2 ++ (wO g o0 r_274.2 ++ (wE g e0 ε))))))))) (As := [.int (xs (Int32.toNatClampNeg (i + (1 : Int32))))]) (rest := []) [43, 44, 45, 46, 47] [0, 1, 2, 3, 4, 5, 6, 7, 8, 9, 10, 11, 12, 13, 14, 15, 16, 17, 18, 19, 20, 21, 22, 23, 24, 25, 26, 27, 28, 29, 30, 31, 32, 33, 34, 35, 36, 37, 38, 39, 40, 41, 42, 48, 49] [0, 1, 2, 3, 4, 5, 6, 7, 8, 9, 10, 11, 12, 13, 14, 15, 16, 17, 18, 19, 20, 21, 22, 23, 24, 25, 26, 27, 28, 29, 30, 31, 32, 33, 34, 35, 36, 37, 38, 39, 40, 41, 42, 45, 46, 47, 48, 49, 43, 44] 5 0 ⟨hx, hb, hml, hown, hts⟩ hP hD hE hZ hS hA (cX7_lineRound_ok l g m0 m1 m2 m3 m4 μ (xs (Int32.toNatClampNeg (i + (1 : Int32)))) _ e_275) (cwV 1 hts gL_law_X7_lineRound rfl rfl rfl hdX7_lineRound ⟨(Nat.le_of_ble_eq_true rfl), (Nat.le_of_ble_eq_true rfl)⟩) rfl rfl rfl (by decide) (by decide) (by decide) (by decide) rfl rfl rfl rfl hl.1 rfl (Nat.le_of_ble_eq_true rfl) ⟨(by show _ ≤ (601024 : Nat); omega), (by show _ ≤ (7293034 : Nat); omega)⟩ dL_law_2098 (fun H locs hP hD hS => ?_)
                                                                          refine lv_istore (lv' := [(7, .int r_275.1), (6, .int r_274.1), (0, .ref b), (1, .ref c0), (2, .ref m0), (3, .ref o0), (4, .ref e0), (5, .int i)]) hx hb dL_law_2101 hl (by decide) rfl (fun ls hl => ?_)
                                                                          refine lv_aload_n hx hb dL_law_2103 rfl (lv_at hl 4 rfl) ?_
                                                                          obtain ⟨r_276, e_276, hf⟩ := bo hf
                                                                          refine pcallV (W0 := (wC c0 h k0 x0 d0 ++ (wS g h a1 a2 a3 a4 σ ++ (wH g k0 k1 γ η ++ (wX g x0 x1 τ ++ (wD g d0 d1 d2 δ ++ (wM g m0 m1 m2 m3 m4 r_275.2 ++ (wO g o0 r_274.2 ++ (wE g e0 ε))))))))) (As := []) (rest := []) [43, 44, 45, 46, 47] 5 0 ⟨hx, hb, hml, hown, hts⟩ hP hE hZ hS (cX7_thrown_ok l g m0 m1 m2 m3 m4 r_275.2 e_276) (cwV 0 hts gL_law_X7_thrown rfl rfl rfl hdX7_thrown ⟨(Nat.le_of_ble_eq_true rfl), (Nat.le_of_ble_eq_true rfl)⟩) rfl rfl rfl rfl rfl hl.1 rfl (Nat.le_of_ble_eq_true rfl) ⟨(by show _ ≤ (601024 : Nat); omega), (by show _ ≤ (7293034 : Nat); omega)⟩ dL_law_2104 ?_
                                                                          refine lv_iload hx hb dL_law_2107 (lv_at hl 1 rfl) ?_
                                                                          refine lv_icmp_eq (tgt := 2114) hx hb dL_law_2109 (by decide) (fun c_277 => ?_) (fun c_277 => ?_)
                                                                          · have hf := ip c_277 hf
                                                                            refine lv_iload hx hb dL_law_2114 (lv_at hl 1 rfl) ?_
                                                                            refine lv_if_ne (tgt := 2131) hx hb dL_law_2116 (by decide) (fun c_278 => ?_) (fun c_278 => ?_)
                                                                            · have hf := iq c_278 hf
                                                                              refine lv_goto (tgt := 2493) hx hb dL_law_2131 (by decide) ?_
                                                                              refine lv_iinc (v := (i + 3)) (lv' := [(5, .int (i + 3)), (7, .int r_275.1), (6, .int r_274.1), (0, .ref b), (1, .ref c0), (2, .ref m0), (3, .ref o0), (4, .ref e0)]) hx hb dL_law_2493 hl (k := 7) rfl rfl (by decide) rfl (fun ls hl => ?_)
                                                                              refine lv_goto (tgt := 28) hx hb dL_law_2496 (by decide) ?_
                                                                              refine W.cs (cells' := cl + 1) (slots' := sl + 6) (by omega) (by omega) ?_
                                                                              exact ih (i + 3) σ η τ δ r_275.2 r_274.2 ε (cl + 1) (sl + 6) (by omega) (by omega) _ _ ls hP hD hS (lv_sub hl [3, 4, 5, 6, 7, 0] rfl) hf
                                                                            · have hf := ip c_278 hf
                                                                              refine lv_aload_n hx hb dL_law_2119 rfl (lv_at hl 5 rfl) ?_
                                                                              refine lv_iconst (v := (0 : Int32)) hx hb dL_law_2120 (by decide) ?_
                                                                              refine va_lald hx hb hE.1 hP 48 2 rfl rfl (vin (by decide)) dL_law_2121 ?_
                                                                              refine lv_iload hx hb dL_law_2122 (lv_at hl 0 rfl) ?_
                                                                              refine lv_i2l hx hb dL_law_2124 rfl ?_
                                                                              refine W.lcmp hx hb dL_law_2125 ?_
                                                                              refine lv_if_eq (tgt := 2131) hx hb dL_law_2126 (by decide) (fun c_279 => ?_) (fun c_279 => ?_)
                                                                              · have hf := ip c_279 hf
                                                                                refine lv_goto (tgt := 2493) hx hb dL_law_2131 (by decide) ?_
                                                                                refine lv_iinc (v := (i + 3)) (lv' := [(5, .int (i + 3)), (7, .int r_275.1), (6, .int r_274.1), (0, .ref b), (1, .ref c0), (2, .ref m0), (3, .ref o0), (4, .ref e0)]) hx hb dL_law_2493 hl (k := 7) rfl rfl (by decide) rfl (fun ls hl => ?_)
                                                                                refine lv_goto (tgt := 28) hx hb dL_law_2496 (by decide) ?_
                                                                                refine W.cs (cells' := cl + 1) (slots' := sl + 6) (by omega) (by omega) ?_
                                                                                exact ih (i + 3) σ η τ δ r_275.2 r_274.2 ε (cl + 1) (sl + 6) (by omega) (by omega) _ _ ls hP hD hS (lv_sub hl [3, 4, 5, 6, 7, 0] rfl) hf
                                                                              · have hf := iq c_279 hf
                                                                                refine lv_iconst (v := (0 : Int32)) hx hb dL_law_2129 (by decide) ?_
                                                                                exact absurd (Option.some.inj hf) (by decide)
                                                                          · have hf := iq c_277 hf
                                                                            refine lv_iconst (v := (0 : Int32)) hx hb dL_law_2112 (by decide) ?_
                                                                            exact absurd (Option.some.inj hf) (by decide)
                                                                        · have hf := iq s_272 hf
                                                                          by_cases s_280 : ((xs (Int32.toNatClampNeg i)) &&& (63 : Int32)) = (34 : Int32)
                                                                          · have hf := ip s_280 hf
                                                                            refine lv_tableIn (off := 2090) (tgt := 2134) hx hb dL_law_44 (by rw [s_280]; decide) (by rw [s_280]; decide) (by rw [s_280]; rfl) (by decide) ?_
                                                                            refine lv_aload_n hx hb dL_law_2134 rfl (lv_at hl 1 rfl) ?_
                                                                            refine lv_aload_n hx hb dL_law_2135 rfl (lv_at hl 0 rfl) ?_
                                                                            refine lv_iload hx hb dL_law_2136 (lv_at hl 5 rfl) ?_
                                                                            refine lv_iconst (v := (1 : Int32)) hx hb dL_law_2138 (by decide) ?_
                                                                            refine lv_iadd hx hb dL_law_2139 ?_
                                                                            obtain ⟨h_281, hf⟩ := ck hf
                                                                            refine va_sld hx hb hX hbl hbA hS (vin h_281) dL_law_2140 ?_
                                                                            refine lv_aload_n hx hb dL_law_2141 rfl (lv_at hl 3 rfl) ?_
                                                                            obtain ⟨r_282, e_282, hf⟩ := bo hf
                                                                            refine lcallS (W0 := (wC c0 h k0 x0 d0 ++ (wS g h a1 a2 a3 a4 σ ++ (wH g k0 k1 γ η ++ (wX g x0 x1 τ ++ (wD g d0 d1 d2 δ ++ (wM g m0 m1 m2 m3 m4 μ ++ (wO g o0 ω ++ (wE g e0 ε))))))))) (Wc := (wC c0 h k0 x0 d0 ++ (wS g h a1 a2 a3 a4 σ ++ (wO g o0 ω)))) (Wr := (wH g k0 k1 γ η ++ (wX g x0 x1 τ ++ (wD g d0 d1 d2 δ ++ (wM g m0 m1 m2 m3 m4 μ ++ (wE g e0 ε)))))) (W1 := (wC c0 h k0 x0 d0 ++ (wS g h a1 a2 a3 a4 σ ++ (wO g o0 r_282.2)))) (W2 := (wC c0 h k0 x0 d0 ++ (wS g h a1 a2 a3 a4 σ ++ (wH g k0 k1 γ η ++ (wX g x0 x1 τ ++ (wD g d0 d1 d2 δ ++ (wM g m0 m1 m2 m3 m4 μ ++ (wO g o0 r_282.2 ++ (wE g e0 ε))))))))) (As := [.ref c0, .int (xs (Int32.toNatClampNeg (i + (1 : Int32)))), .ref o0]) (rest := []) [0, 1, 2, 3, 4, 5, 48] [6, 7, 8, 9, 10, 11, 12, 13, 14, 15, 16, 17, 18, 19, 20, 21, 22, 23, 24, 25, 26, 27, 28, 29, 30, 31, 32, 33, 34, 35, 36, 37, 38, 39, 40, 41, 42, 43, 44, 45, 46, 47, 49] [43, 44, 45, 46, 47, 48, 0, 1, 2, 3, 4, 5, 6, 7, 8, 9, 10, 11, 12, 13, 14, 15, 16, 17, 18, 19, 20, 21, 22, 23, 24, 25, 26, 27, 28, 29, 30, 31, 32, 33, 34, 35, 36, 37, 38, 39, 40, 41, 49, 42] ⟨hx, hb, hml, hown, hts⟩ hP hD hE hZ hS hA (cL_isSteady_ok l hl0 g c0 h k0 x0 d0 a1 a2 a3 a4 o0 σ ω (xs (Int32.toNatClampNeg (i + (1 : Int32)))) _ e_282) (vx_cwSW 3 hts gL_law_L_isSteady rfl rfl rfl hdL_isSteady.2 ⟨(Nat.le_of_ble_eq_true rfl), (Nat.le_of_ble_eq_true rfl)⟩) rfl rfl rfl (by decide) (by decide) (by decide) (by decide) rfl hl.1 rfl (Nat.le_of_ble_eq_true rfl) ⟨(by show _ ≤ (601024 : Nat); omega), (by show _ ≤ (7293034 : Nat); omega)⟩ dL_law_2142 (fun H locs hP hD hS => ?_)
                                                                            refine lv_istore (lv' := [(6, .int r_282.1), (0, .ref b), (1, .ref c0), (2, .ref m0), (3, .ref o0), (4, .ref e0), (5, .int i)]) hx hb dL_law_2145 hl (by decide) rfl (fun ls hl => ?_)
                                                                            refine lv_aload_n hx hb dL_law_2147 rfl (lv_at hl 3 rfl) ?_
                                                                            refine lv_aload_n hx hb dL_law_2148 rfl (lv_at hl 1 rfl) ?_
                                                                            refine lv_iload hx hb dL_law_2149 (lv_at hl 6 rfl) ?_
                                                                            refine lv_iconst (v := (1 : Int32)) hx hb dL_law_2151 (by decide) ?_
                                                                            refine lv_iadd hx hb dL_law_2152 ?_
                                                                            refine va_sld hx hb hX hbl hbA hS (vin h_281) dL_law_2153 ?_
                                                                            obtain ⟨r_283, e_283, hf⟩ := bo hf
                                                                            refine mcallVi (W0 := (wC c0 h k0 x0 d0 ++ (wS g h a1 a2 a3 a4 σ ++ (wH g k0 k1 γ η ++ (wX g x0 x1 τ ++ (wD g d0 d1 d2 δ ++ (wM g m0 m1 m2 m3 m4 μ ++ (wO g o0 r_282.2 ++ (wE g e0 ε))))))))) (Wc := (wM g m0 m1 m2 m3 m4 μ)) (Wr := (wC c0 h k0 x0 d0 ++ (wS g h a1 a2 a3 a4 σ ++ (wH g k0 k1 γ η ++ (wX g x0 x1 τ ++ (wD g d0 d1 d2 δ ++ (wO g o0 r_282.2 ++ (wE g e0 ε)))))))) (W1 := (wM g m0 m1 m2 m3 m4 r_283.2)) (W2 := (wC c0 h k0 x0 d0 ++ (wS g h a1 a2 a3 a4 σ ++ (wH g k0 k1 γ η ++ (wX g x0 x1 τ ++ (wD g d0 d1 d2 δ ++ (wM g m0 m1 m2 m3 m4 r_283.2 ++ (wO g o0 r_282.2 ++ (wE g e0 ε))))))))) (As := [.int (xs (Int32.toNatClampNeg (i + (1 : Int32))))]) (rest := []) [43, 44, 45, 46, 47] [0, 1, 2, 3, 4, 5, 6, 7, 8, 9, 10, 11, 12, 13, 14, 15, 16, 17, 18, 19, 20, 21, 22, 23, 24, 25, 26, 27, 28, 29, 30, 31, 32, 33, 34, 35, 36, 37, 38, 39, 40, 41, 42, 48, 49] [0, 1, 2, 3, 4, 5, 6, 7, 8, 9, 10, 11, 12, 13, 14, 15, 16, 17, 18, 19, 20, 21, 22, 23, 24, 25, 26, 27, 28, 29, 30, 31, 32, 33, 34, 35, 36, 37, 38, 39, 40, 41, 42, 45, 46, 47, 48, 49, 43, 44] 5 0 ⟨hx, hb, hml, hown, hts⟩ hP hD hE hZ hS hA (cX7_isSteady_ok l g m0 m1 m2 m3 m4 μ (xs (Int32.toNatClampNeg (i + (1 : Int32)))) _ e_283) (cwV 1 hts gL_law_X7_isSteady rfl rfl rfl hdX7_isSteady ⟨(Nat.le_of_ble_eq_true rfl), (Nat.le_of_ble_eq_true rfl)⟩) rfl rfl rfl (by decide) (by decide) (by decide) (by decide) rfl rfl rfl rfl hl.1 rfl (Nat.le_of_ble_eq_true rfl) ⟨(by show _ ≤ (601024 : Nat); omega), (by show _ ≤ (7293034 : Nat); omega)⟩ dL_law_2154 (fun H locs hP hD hS => ?_)
                                                                            refine lv_istore (lv' := [(7, .int (b2i r_283.1)), (6, .int r_282.1), (0, .ref b), (1, .ref c0), (2, .ref m0), (3, .ref o0), (4, .ref e0), (5, .int i)]) hx hb dL_law_2157 hl (by decide) rfl (fun ls hl => ?_)
                                                                            refine lv_aload_n hx hb dL_law_2159 rfl (lv_at hl 4 rfl) ?_
                                                                            obtain ⟨r_284, e_284, hf⟩ := bo hf
                                                                            refine pcallV (W0 := (wC c0 h k0 x0 d0 ++ (wS g h a1 a2 a3 a4 σ ++ (wH g k0 k1 γ η ++ (wX g x0 x1 τ ++ (wD g d0 d1 d2 δ ++ (wM g m0 m1 m2 m3 m4 r_283.2 ++ (wO g o0 r_282.2 ++ (wE g e0 ε))))))))) (As := []) (rest := []) [43, 44, 45, 46, 47] 5 0 ⟨hx, hb, hml, hown, hts⟩ hP hE hZ hS (cX7_thrown_ok l g m0 m1 m2 m3 m4 r_283.2 e_284) (cwV 0 hts gL_law_X7_thrown rfl rfl rfl hdX7_thrown ⟨(Nat.le_of_ble_eq_true rfl), (Nat.le_of_ble_eq_true rfl)⟩) rfl rfl rfl rfl rfl hl.1 rfl (Nat.le_of_ble_eq_true rfl) ⟨(by show _ ≤ (601024 : Nat); omega), (by show _ ≤ (7293034 : Nat); omega)⟩ dL_law_2160 ?_
                                                                            refine lv_iload hx hb dL_law_2163 (lv_at hl 1 rfl) ?_
                                                                            refine lv_icmp_eq (tgt := 2170) hx hb dL_law_2165 (by decide) (fun c_285 => ?_) (fun c_285 => ?_)
                                                                            · have hf := ip c_285 hf
                                                                              refine lv_iload hx hb dL_law_2170 (lv_at hl 1 rfl) ?_
                                                                              refine lv_if_ne (tgt := 2194) hx hb dL_law_2172 (by decide) (fun c_286 => ?_) (fun c_286 => ?_)
                                                                              · have hf := iq c_286 hf
                                                                                refine lv_goto (tgt := 2493) hx hb dL_law_2194 (by decide) ?_
                                                                                refine lv_iinc (v := (i + 3)) (lv' := [(5, .int (i + 3)), (7, .int (b2i r_283.1)), (6, .int r_282.1), (0, .ref b), (1, .ref c0), (2, .ref m0), (3, .ref o0), (4, .ref e0)]) hx hb dL_law_2493 hl (k := 7) rfl rfl (by decide) rfl (fun ls hl => ?_)
                                                                                refine lv_goto (tgt := 28) hx hb dL_law_2496 (by decide) ?_
                                                                                refine W.cs (cells' := cl + 1) (slots' := sl + 6) (by omega) (by omega) ?_
                                                                                exact ih (i + 3) σ η τ δ r_283.2 r_282.2 ε (cl + 1) (sl + 6) (by omega) (by omega) _ _ ls hP hD hS (lv_sub hl [3, 4, 5, 6, 7, 0] rfl) hf
                                                                              · have hf := ip c_286 hf
                                                                                refine lv_aload_n hx hb dL_law_2175 rfl (lv_at hl 5 rfl) ?_
                                                                                refine lv_iconst (v := (0 : Int32)) hx hb dL_law_2176 (by decide) ?_
                                                                                refine va_lald hx hb hE.1 hP 48 2 rfl rfl (vin (by decide)) dL_law_2177 ?_
                                                                                refine lv_iload hx hb dL_law_2178 (lv_at hl 0 rfl) ?_
                                                                                refine lv_beq (tgt := 2187) hx hb dL_law_2180 (by decide) (fun c_287 => ?_) (fun c_287 => ?_)
                                                                                · have hf := iq c_287 hf
                                                                                  refine lv_lconst (v := 0) hx hb dL_law_2187 (by decide) ?_
                                                                                  refine W.lcmp hx hb dL_law_2188 ?_
                                                                                  refine lv_if_eq (tgt := 2194) hx hb dL_law_2189 (by decide) (fun c_288 => ?_) (fun c_288 => ?_)
                                                                                  · have hf := ip c_288 hf
                                                                                    refine lv_goto (tgt := 2493) hx hb dL_law_2194 (by decide) ?_
                                                                                    refine lv_iinc (v := (i + 3)) (lv' := [(5, .int (i + 3)), (7, .int (b2i r_283.1)), (6, .int r_282.1), (0, .ref b), (1, .ref c0), (2, .ref m0), (3, .ref o0), (4, .ref e0)]) hx hb dL_law_2493 hl (k := 7) rfl rfl (by decide) rfl (fun ls hl => ?_)
                                                                                    refine lv_goto (tgt := 28) hx hb dL_law_2496 (by decide) ?_
                                                                                    refine W.cs (cells' := cl + 1) (slots' := sl + 6) (by omega) (by omega) ?_
                                                                                    exact ih (i + 3) σ η τ δ r_283.2 r_282.2 ε (cl + 1) (sl + 6) (by omega) (by omega) _ _ ls hP hD hS (lv_sub hl [3, 4, 5, 6, 7, 0] rfl) hf
                                                                                  · have hf := iq c_288 hf
                                                                                    refine lv_iconst (v := (0 : Int32)) hx hb dL_law_2192 (by decide) ?_
                                                                                    exact absurd (Option.some.inj hf) (by decide)
                                                                                · have hf := ip c_287 hf
                                                                                  refine lv_lconst (v := 1) hx hb dL_law_2183 (by decide) ?_
                                                                                  refine lv_goto (tgt := 2188) hx hb dL_law_2184 (by decide) ?_
                                                                                  refine W.lcmp hx hb dL_law_2188 ?_
                                                                                  refine lv_if_eq (tgt := 2194) hx hb dL_law_2189 (by decide) (fun c_289 => ?_) (fun c_289 => ?_)
                                                                                  · have hf := ip c_289 hf
                                                                                    refine lv_goto (tgt := 2493) hx hb dL_law_2194 (by decide) ?_
                                                                                    refine lv_iinc (v := (i + 3)) (lv' := [(5, .int (i + 3)), (7, .int (b2i r_283.1)), (6, .int r_282.1), (0, .ref b), (1, .ref c0), (2, .ref m0), (3, .ref o0), (4, .ref e0)]) hx hb dL_law_2493 hl (k := 7) rfl rfl (by decide) rfl (fun ls hl => ?_)
                                                                                    refine lv_goto (tgt := 28) hx hb dL_law_2496 (by decide) ?_
                                                                                    refine W.cs (cells' := cl + 1) (slots' := sl + 6) (by omega) (by omega) ?_
                                                                                    exact ih (i + 3) σ η τ δ r_283.2 r_282.2 ε (cl + 1) (sl + 6) (by omega) (by omega) _ _ ls hP hD hS (lv_sub hl [3, 4, 5, 6, 7, 0] rfl) hf
                                                                                  · have hf := iq c_289 hf
                                                                                    refine lv_iconst (v := (0 : Int32)) hx hb dL_law_2192 (by decide) ?_
                                                                                    exact absurd (Option.some.inj hf) (by decide)
                                                                            · have hf := iq c_285 hf
                                                                              refine lv_iconst (v := (0 : Int32)) hx hb dL_law_2168 (by decide) ?_
                                                                              exact absurd (Option.some.inj hf) (by decide)
                                                                          · have hf := iq s_280 hf
                                                                            by_cases s_290 : ((xs (Int32.toNatClampNeg i)) &&& (63 : Int32)) = (35 : Int32)
                                                                            · have hf := ip s_290 hf
                                                                              refine lv_tableIn (off := 2153) (tgt := 2197) hx hb dL_law_44 (by rw [s_290]; decide) (by rw [s_290]; decide) (by rw [s_290]; rfl) (by decide) ?_
                                                                              refine lv_aload_n hx hb dL_law_2197 rfl (lv_at hl 1 rfl) ?_
                                                                              refine lv_aload_n hx hb dL_law_2198 rfl (lv_at hl 0 rfl) ?_
                                                                              refine lv_iload hx hb dL_law_2199 (lv_at hl 5 rfl) ?_
                                                                              refine lv_iconst (v := (1 : Int32)) hx hb dL_law_2201 (by decide) ?_
                                                                              refine lv_iadd hx hb dL_law_2202 ?_
                                                                              obtain ⟨h_291, hf⟩ := ck hf
                                                                              refine va_sld hx hb hX hbl hbA hS (vin h_291) dL_law_2203 ?_
                                                                              refine lv_aload_n hx hb dL_law_2204 rfl (lv_at hl 3 rfl) ?_
                                                                              obtain ⟨r_292, e_292, hf⟩ := bo hf
                                                                              refine lcallS (W0 := (wC c0 h k0 x0 d0 ++ (wS g h a1 a2 a3 a4 σ ++ (wH g k0 k1 γ η ++ (wX g x0 x1 τ ++ (wD g d0 d1 d2 δ ++ (wM g m0 m1 m2 m3 m4 μ ++ (wO g o0 ω ++ (wE g e0 ε))))))))) (Wc := (wC c0 h k0 x0 d0 ++ (wS g h a1 a2 a3 a4 σ ++ (wO g o0 ω)))) (Wr := (wH g k0 k1 γ η ++ (wX g x0 x1 τ ++ (wD g d0 d1 d2 δ ++ (wM g m0 m1 m2 m3 m4 μ ++ (wE g e0 ε)))))) (W1 := (wC c0 h k0 x0 d0 ++ (wS g h a1 a2 a3 a4 σ ++ (wO g o0 r_292.2)))) (W2 := (wC c0 h k0 x0 d0 ++ (wS g h a1 a2 a3 a4 σ ++ (wH g k0 k1 γ η ++ (wX g x0 x1 τ ++ (wD g d0 d1 d2 δ ++ (wM g m0 m1 m2 m3 m4 μ ++ (wO g o0 r_292.2 ++ (wE g e0 ε))))))))) (As := [.ref c0, .int (xs (Int32.toNatClampNeg (i + (1 : Int32)))), .ref o0]) (rest := []) [0, 1, 2, 3, 4, 5, 48] [6, 7, 8, 9, 10, 11, 12, 13, 14, 15, 16, 17, 18, 19, 20, 21, 22, 23, 24, 25, 26, 27, 28, 29, 30, 31, 32, 33, 34, 35, 36, 37, 38, 39, 40, 41, 42, 43, 44, 45, 46, 47, 49] [43, 44, 45, 46, 47, 48, 0, 1, 2, 3, 4, 5, 6, 7, 8, 9, 10, 11, 12, 13, 14, 15, 16, 17, 18, 19, 20, 21, 22, 23, 24, 25, 26, 27, 28, 29, 30, 31, 32, 33, 34, 35, 36, 37, 38, 39, 40, 41, 49, 42] ⟨hx, hb, hml, hown, hts⟩ hP hD hE hZ hS hA (cL_lineByLevel_ok l hl0 g c0 h k0 x0 d0 a1 a2 a3 a4 o0 σ ω (xs (Int32.toNatClampNeg (i + (1 : Int32)))) _ e_292) (vx_cwSW 3 hts gL_law_L_lineByLevel rfl rfl rfl hdL_lineByLevel.2 ⟨(Nat.le_of_ble_eq_true rfl), (Nat.le_of_ble_eq_true rfl)⟩) rfl rfl rfl (by decide) (by decide) (by decide) (by decide) rfl hl.1 rfl (Nat.le_of_ble_eq_true rfl) ⟨(by show _ ≤ (601024 : Nat); omega), (by show _ ≤ (7293034 : Nat); omega)⟩ dL_law_2205 (fun H locs hP hD hS => ?_)
                                                                              refine lv_istore (lv' := [(6, .int r_292.1), (0, .ref b), (1, .ref c0), (2, .ref m0), (3, .ref o0), (4, .ref e0), (5, .int i)]) hx hb dL_law_2208 hl (by decide) rfl (fun ls hl => ?_)
                                                                              refine lv_aload_n hx hb dL_law_2210 rfl (lv_at hl 3 rfl) ?_
                                                                              refine lv_aload_n hx hb dL_law_2211 rfl (lv_at hl 1 rfl) ?_
                                                                              refine lv_iload hx hb dL_law_2212 (lv_at hl 6 rfl) ?_
                                                                              refine lv_iconst (v := (1 : Int32)) hx hb dL_law_2214 (by decide) ?_
                                                                              refine lv_iadd hx hb dL_law_2215 ?_
                                                                              refine va_sld hx hb hX hbl hbA hS (vin h_291) dL_law_2216 ?_
                                                                              obtain ⟨r_293, e_293, hf⟩ := bo hf
                                                                              refine mcallVi (W0 := (wC c0 h k0 x0 d0 ++ (wS g h a1 a2 a3 a4 σ ++ (wH g k0 k1 γ η ++ (wX g x0 x1 τ ++ (wD g d0 d1 d2 δ ++ (wM g m0 m1 m2 m3 m4 μ ++ (wO g o0 r_292.2 ++ (wE g e0 ε))))))))) (Wc := (wM g m0 m1 m2 m3 m4 μ)) (Wr := (wC c0 h k0 x0 d0 ++ (wS g h a1 a2 a3 a4 σ ++ (wH g k0 k1 γ η ++ (wX g x0 x1 τ ++ (wD g d0 d1 d2 δ ++ (wO g o0 r_292.2 ++ (wE g e0 ε)))))))) (W1 := (wM g m0 m1 m2 m3 m4 r_293.2)) (W2 := (wC c0 h k0 x0 d0 ++ (wS g h a1 a2 a3 a4 σ ++ (wH g k0 k1 γ η ++ (wX g x0 x1 τ ++ (wD g d0 d1 d2 δ ++ (wM g m0 m1 m2 m3 m4 r_293.2 ++ (wO g o0 r_292.2 ++ (wE g e0 ε))))))))) (As := [.int (xs (Int32.toNatClampNeg (i + (1 : Int32))))]) (rest := []) [43, 44, 45, 46, 47] [0, 1, 2, 3, 4, 5, 6, 7, 8, 9, 10, 11, 12, 13, 14, 15, 16, 17, 18, 19, 20, 21, 22, 23, 24, 25, 26, 27, 28, 29, 30, 31, 32, 33, 34, 35, 36, 37, 38, 39, 40, 41, 42, 48, 49] [0, 1, 2, 3, 4, 5, 6, 7, 8, 9, 10, 11, 12, 13, 14, 15, 16, 17, 18, 19, 20, 21, 22, 23, 24, 25, 26, 27, 28, 29, 30, 31, 32, 33, 34, 35, 36, 37, 38, 39, 40, 41, 42, 45, 46, 47, 48, 49, 43, 44] 5 0 ⟨hx, hb, hml, hown, hts⟩ hP hD hE hZ hS hA (cX7_lineByLevel_ok l g m0 m1 m2 m3 m4 μ (xs (Int32.toNatClampNeg (i + (1 : Int32)))) _ e_293) (cwV 1 hts gL_law_X7_lineByLevel rfl rfl rfl hdX7_lineByLevel ⟨(Nat.le_of_ble_eq_true rfl), (Nat.le_of_ble_eq_true rfl)⟩) rfl rfl rfl (by decide) (by decide) (by decide) (by decide) rfl rfl rfl rfl hl.1 rfl (Nat.le_of_ble_eq_true rfl) ⟨(by show _ ≤ (601024 : Nat); omega), (by show _ ≤ (7293034 : Nat); omega)⟩ dL_law_2217 (fun H locs hP hD hS => ?_)
                                                                              refine lv_istore (lv' := [(7, .int r_293.1), (6, .int r_292.1), (0, .ref b), (1, .ref c0), (2, .ref m0), (3, .ref o0), (4, .ref e0), (5, .int i)]) hx hb dL_law_2220 hl (by decide) rfl (fun ls hl => ?_)
                                                                              refine lv_aload_n hx hb dL_law_2222 rfl (lv_at hl 4 rfl) ?_
                                                                              obtain ⟨r_294, e_294, hf⟩ := bo hf
                                                                              refine pcallV (W0 := (wC c0 h k0 x0 d0 ++ (wS g h a1 a2 a3 a4 σ ++ (wH g k0 k1 γ η ++ (wX g x0 x1 τ ++ (wD g d0 d1 d2 δ ++ (wM g m0 m1 m2 m3 m4 r_293.2 ++ (wO g o0 r_292.2 ++ (wE g e0 ε))))))))) (As := []) (rest := []) [43, 44, 45, 46, 47] 5 0 ⟨hx, hb, hml, hown, hts⟩ hP hE hZ hS (cX7_thrown_ok l g m0 m1 m2 m3 m4 r_293.2 e_294) (cwV 0 hts gL_law_X7_thrown rfl rfl rfl hdX7_thrown ⟨(Nat.le_of_ble_eq_true rfl), (Nat.le_of_ble_eq_true rfl)⟩) rfl rfl rfl rfl rfl hl.1 rfl (Nat.le_of_ble_eq_true rfl) ⟨(by show _ ≤ (601024 : Nat); omega), (by show _ ≤ (7293034 : Nat); omega)⟩ dL_law_2223 ?_
                                                                              refine lv_iload hx hb dL_law_2226 (lv_at hl 1 rfl) ?_
                                                                              refine lv_icmp_eq (tgt := 2233) hx hb dL_law_2228 (by decide) (fun c_295 => ?_) (fun c_295 => ?_)
                                                                              · have hf := ip c_295 hf
                                                                                refine lv_iload hx hb dL_law_2233 (lv_at hl 1 rfl) ?_
                                                                                refine lv_if_ne (tgt := 2250) hx hb dL_law_2235 (by decide) (fun c_296 => ?_) (fun c_296 => ?_)
                                                                                · have hf := iq c_296 hf
                                                                                  refine lv_goto (tgt := 2493) hx hb dL_law_2250 (by decide) ?_
                                                                                  refine lv_iinc (v := (i + 3)) (lv' := [(5, .int (i + 3)), (7, .int r_293.1), (6, .int r_292.1), (0, .ref b), (1, .ref c0), (2, .ref m0), (3, .ref o0), (4, .ref e0)]) hx hb dL_law_2493 hl (k := 7) rfl rfl (by decide) rfl (fun ls hl => ?_)
                                                                                  refine lv_goto (tgt := 28) hx hb dL_law_2496 (by decide) ?_
                                                                                  refine W.cs (cells' := cl + 1) (slots' := sl + 6) (by omega) (by omega) ?_
                                                                                  exact ih (i + 3) σ η τ δ r_293.2 r_292.2 ε (cl + 1) (sl + 6) (by omega) (by omega) _ _ ls hP hD hS (lv_sub hl [3, 4, 5, 6, 7, 0] rfl) hf
                                                                                · have hf := ip c_296 hf
                                                                                  refine lv_aload_n hx hb dL_law_2238 rfl (lv_at hl 5 rfl) ?_
                                                                                  refine lv_iconst (v := (0 : Int32)) hx hb dL_law_2239 (by decide) ?_
                                                                                  refine va_lald hx hb hE.1 hP 48 2 rfl rfl (vin (by decide)) dL_law_2240 ?_
                                                                                  refine lv_iload hx hb dL_law_2241 (lv_at hl 0 rfl) ?_
                                                                                  refine lv_i2l hx hb dL_law_2243 rfl ?_
                                                                                  refine W.lcmp hx hb dL_law_2244 ?_
                                                                                  refine lv_if_eq (tgt := 2250) hx hb dL_law_2245 (by decide) (fun c_297 => ?_) (fun c_297 => ?_)
                                                                                  · have hf := ip c_297 hf
                                                                                    refine lv_goto (tgt := 2493) hx hb dL_law_2250 (by decide) ?_
                                                                                    refine lv_iinc (v := (i + 3)) (lv' := [(5, .int (i + 3)), (7, .int r_293.1), (6, .int r_292.1), (0, .ref b), (1, .ref c0), (2, .ref m0), (3, .ref o0), (4, .ref e0)]) hx hb dL_law_2493 hl (k := 7) rfl rfl (by decide) rfl (fun ls hl => ?_)
                                                                                    refine lv_goto (tgt := 28) hx hb dL_law_2496 (by decide) ?_
                                                                                    refine W.cs (cells' := cl + 1) (slots' := sl + 6) (by omega) (by omega) ?_
                                                                                    exact ih (i + 3) σ η τ δ r_293.2 r_292.2 ε (cl + 1) (sl + 6) (by omega) (by omega) _ _ ls hP hD hS (lv_sub hl [3, 4, 5, 6, 7, 0] rfl) hf
                                                                                  · have hf := iq c_297 hf
                                                                                    refine lv_iconst (v := (0 : Int32)) hx hb dL_law_2248 (by decide) ?_
                                                                                    exact absurd (Option.some.inj hf) (by decide)
                                                                              · have hf := iq c_295 hf
                                                                                refine lv_iconst (v := (0 : Int32)) hx hb dL_law_2231 (by decide) ?_
                                                                                exact absurd (Option.some.inj hf) (by decide)
                                                                            · have hf := iq s_290 hf
                                                                              by_cases s_298 : ((xs (Int32.toNatClampNeg i)) &&& (63 : Int32)) = (36 : Int32)
                                                                              · have hf := ip s_298 hf
                                                                                refine lv_tableIn (off := 2209) (tgt := 2253) hx hb dL_law_44 (by rw [s_298]; decide) (by rw [s_298]; decide) (by rw [s_298]; rfl) (by decide) ?_
                                                                                refine lv_aload_n hx hb dL_law_2253 rfl (lv_at hl 1 rfl) ?_
                                                                                refine lv_aload_n hx hb dL_law_2254 rfl (lv_at hl 0 rfl) ?_
                                                                                refine lv_iload hx hb dL_law_2255 (lv_at hl 5 rfl) ?_
                                                                                refine lv_iconst (v := (1 : Int32)) hx hb dL_law_2257 (by decide) ?_
                                                                                refine lv_iadd hx hb dL_law_2258 ?_
                                                                                obtain ⟨h_299, hf⟩ := ck hf
                                                                                refine va_sld hx hb hX hbl hbA hS (vin h_299) dL_law_2259 ?_
                                                                                refine lv_aload_n hx hb dL_law_2260 rfl (lv_at hl 3 rfl) ?_
                                                                                obtain ⟨r_300, e_300, hf⟩ := bo hf
                                                                                refine lcallS (W0 := (wC c0 h k0 x0 d0 ++ (wS g h a1 a2 a3 a4 σ ++ (wH g k0 k1 γ η ++ (wX g x0 x1 τ ++ (wD g d0 d1 d2 δ ++ (wM g m0 m1 m2 m3 m4 μ ++ (wO g o0 ω ++ (wE g e0 ε))))))))) (Wc := (wC c0 h k0 x0 d0 ++ (wX g x0 x1 τ ++ (wO g o0 ω)))) (Wr := (wS g h a1 a2 a3 a4 σ ++ (wH g k0 k1 γ η ++ (wD g d0 d1 d2 δ ++ (wM g m0 m1 m2 m3 m4 μ ++ (wE g e0 ε)))))) (W1 := (wC c0 h k0 x0 d0 ++ (wX g x0 x1 r_300.2.1 ++ (wO g o0 r_300.2.2)))) (W2 := (wC c0 h k0 x0 d0 ++ (wS g h a1 a2 a3 a4 σ ++ (wH g k0 k1 γ η ++ (wX g x0 x1 r_300.2.1 ++ (wD g d0 d1 d2 δ ++ (wM g m0 m1 m2 m3 m4 μ ++ (wO g o0 r_300.2.2 ++ (wE g e0 ε))))))))) (As := [.ref c0, .int (xs (Int32.toNatClampNeg (i + (1 : Int32)))), .ref o0]) (rest := []) [0, 38, 39, 48] [1, 2, 3, 4, 5, 6, 7, 8, 9, 10, 11, 12, 13, 14, 15, 16, 17, 18, 19, 20, 21, 22, 23, 24, 25, 26, 27, 28, 29, 30, 31, 32, 33, 34, 35, 36, 37, 40, 41, 42, 43, 44, 45, 46, 47, 49] [46, 0, 1, 2, 3, 4, 5, 6, 7, 8, 9, 10, 11, 12, 13, 14, 15, 16, 17, 18, 19, 20, 21, 22, 23, 24, 25, 26, 27, 28, 29, 30, 31, 32, 33, 34, 35, 36, 47, 48, 37, 38, 39, 40, 41, 42, 43, 44, 49, 45] ⟨hx, hb, hml, hown, hts⟩ hP hD hE hZ hS hA (cL_append_ok l hl0 g c0 h k0 x0 d0 x1 o0 τ ω (xs (Int32.toNatClampNeg (i + (1 : Int32)))) _ e_300) (vx_cwSW 3 hts gL_law_L_append rfl rfl rfl hdL_append.2 ⟨(Nat.le_of_ble_eq_true rfl), (Nat.le_of_ble_eq_true rfl)⟩) rfl rfl rfl (by decide) (by decide) (by decide) (by decide) rfl hl.1 rfl (Nat.le_of_ble_eq_true rfl) ⟨(by show _ ≤ (601024 : Nat); omega), (by show _ ≤ (7293034 : Nat); omega)⟩ dL_law_2261 (fun H locs hP hD hS => ?_)
                                                                                refine lv_istore (lv' := [(6, .int r_300.1), (0, .ref b), (1, .ref c0), (2, .ref m0), (3, .ref o0), (4, .ref e0), (5, .int i)]) hx hb dL_law_2264 hl (by decide) rfl (fun ls hl => ?_)
                                                                                refine lv_aload_n hx hb dL_law_2266 rfl (lv_at hl 3 rfl) ?_
                                                                                refine lv_aload_n hx hb dL_law_2267 rfl (lv_at hl 1 rfl) ?_
                                                                                refine lv_iload hx hb dL_law_2268 (lv_at hl 6 rfl) ?_
                                                                                refine lv_iconst (v := (1 : Int32)) hx hb dL_law_2270 (by decide) ?_
                                                                                refine lv_iadd hx hb dL_law_2271 ?_
                                                                                refine va_sld hx hb hX hbl hbA hS (vin h_299) dL_law_2272 ?_
                                                                                obtain ⟨r_301, e_301, hf⟩ := bo hf
                                                                                refine mcallVi (W0 := (wC c0 h k0 x0 d0 ++ (wS g h a1 a2 a3 a4 σ ++ (wH g k0 k1 γ η ++ (wX g x0 x1 r_300.2.1 ++ (wD g d0 d1 d2 δ ++ (wM g m0 m1 m2 m3 m4 μ ++ (wO g o0 r_300.2.2 ++ (wE g e0 ε))))))))) (Wc := (wM g m0 m1 m2 m3 m4 μ)) (Wr := (wC c0 h k0 x0 d0 ++ (wS g h a1 a2 a3 a4 σ ++ (wH g k0 k1 γ η ++ (wX g x0 x1 r_300.2.1 ++ (wD g d0 d1 d2 δ ++ (wO g o0 r_300.2.2 ++ (wE g e0 ε)))))))) (W1 := (wM g m0 m1 m2 m3 m4 r_301.2)) (W2 := (wC c0 h k0 x0 d0 ++ (wS g h a1 a2 a3 a4 σ ++ (wH g k0 k1 γ η ++ (wX g x0 x1 r_300.2.1 ++ (wD g d0 d1 d2 δ ++ (wM g m0 m1 m2 m3 m4 r_301.2 ++ (wO g o0 r_300.2.2 ++ (wE g e0 ε))))))))) (As := [.int (xs (Int32.toNatClampNeg (i + (1 : Int32))))]) (rest := []) [43, 44, 45, 46, 47] [0, 1, 2, 3, 4, 5, 6, 7, 8, 9, 10, 11, 12, 13, 14, 15, 16, 17, 18, 19, 20, 21, 22, 23, 24, 25, 26, 27, 28, 29, 30, 31, 32, 33, 34, 35, 36, 37, 38, 39, 40, 41, 42, 48, 49] [0, 1, 2, 3, 4, 5, 6, 7, 8, 9, 10, 11, 12, 13, 14, 15, 16, 17, 18, 19, 20, 21, 22, 23, 24, 25, 26, 27, 28, 29, 30, 31, 32, 33, 34, 35, 36, 37, 38, 39, 40, 41, 42, 45, 46, 47, 48, 49, 43, 44] 5 0 ⟨hx, hb, hml, hown, hts⟩ hP hD hE hZ hS hA (cX7_append_ok l g m0 m1 m2 m3 m4 μ (xs (Int32.toNatClampNeg (i + (1 : Int32)))) _ e_301) (cwV 1 hts gL_law_X7_append rfl rfl rfl hdX7_append ⟨(Nat.le_of_ble_eq_true rfl), (Nat.le_of_ble_eq_true rfl)⟩) rfl rfl rfl (by decide) (by decide) (by decide) (by decide) rfl rfl rfl rfl hl.1 rfl (Nat.le_of_ble_eq_true rfl) ⟨(by show _ ≤ (601024 : Nat); omega), (by show _ ≤ (7293034 : Nat); omega)⟩ dL_law_2273 (fun H locs hP hD hS => ?_)
                                                                                refine lv_istore (lv' := [(7, .int r_301.1), (6, .int r_300.1), (0, .ref b), (1, .ref c0), (2, .ref m0), (3, .ref o0), (4, .ref e0), (5, .int i)]) hx hb dL_law_2276 hl (by decide) rfl (fun ls hl => ?_)
                                                                                refine lv_aload_n hx hb dL_law_2278 rfl (lv_at hl 4 rfl) ?_
                                                                                obtain ⟨r_302, e_302, hf⟩ := bo hf
                                                                                refine pcallV (W0 := (wC c0 h k0 x0 d0 ++ (wS g h a1 a2 a3 a4 σ ++ (wH g k0 k1 γ η ++ (wX g x0 x1 r_300.2.1 ++ (wD g d0 d1 d2 δ ++ (wM g m0 m1 m2 m3 m4 r_301.2 ++ (wO g o0 r_300.2.2 ++ (wE g e0 ε))))))))) (As := []) (rest := []) [43, 44, 45, 46, 47] 5 0 ⟨hx, hb, hml, hown, hts⟩ hP hE hZ hS (cX7_thrown_ok l g m0 m1 m2 m3 m4 r_301.2 e_302) (cwV 0 hts gL_law_X7_thrown rfl rfl rfl hdX7_thrown ⟨(Nat.le_of_ble_eq_true rfl), (Nat.le_of_ble_eq_true rfl)⟩) rfl rfl rfl rfl rfl hl.1 rfl (Nat.le_of_ble_eq_true rfl) ⟨(by show _ ≤ (601024 : Nat); omega), (by show _ ≤ (7293034 : Nat); omega)⟩ dL_law_2279 ?_
                                                                                refine lv_iload hx hb dL_law_2282 (lv_at hl 1 rfl) ?_
                                                                                refine lv_icmp_eq (tgt := 2289) hx hb dL_law_2284 (by decide) (fun c_303 => ?_) (fun c_303 => ?_)
                                                                                · have hf := ip c_303 hf
                                                                                  refine lv_iload hx hb dL_law_2289 (lv_at hl 1 rfl) ?_
                                                                                  refine lv_if_ne (tgt := 2306) hx hb dL_law_2291 (by decide) (fun c_304 => ?_) (fun c_304 => ?_)
                                                                                  · have hf := iq c_304 hf
                                                                                    refine lv_goto (tgt := 2493) hx hb dL_law_2306 (by decide) ?_
                                                                                    refine lv_iinc (v := (i + 3)) (lv' := [(5, .int (i + 3)), (7, .int r_301.1), (6, .int r_300.1), (0, .ref b), (1, .ref c0), (2, .ref m0), (3, .ref o0), (4, .ref e0)]) hx hb dL_law_2493 hl (k := 7) rfl rfl (by decide) rfl (fun ls hl => ?_)
                                                                                    refine lv_goto (tgt := 28) hx hb dL_law_2496 (by decide) ?_
                                                                                    refine W.cs (cells' := cl + 1) (slots' := sl + 6) (by omega) (by omega) ?_
                                                                                    exact ih (i + 3) σ η r_300.2.1 δ r_301.2 r_300.2.2 ε (cl + 1) (sl + 6) (by omega) (by omega) _ _ ls hP hD hS (lv_sub hl [3, 4, 5, 6, 7, 0] rfl) hf
                                                                                  · have hf := ip c_304 hf
                                                                                    refine lv_aload_n hx hb dL_law_2294 rfl (lv_at hl 5 rfl) ?_
                                                                                    refine lv_iconst (v := (0 : Int32)) hx hb dL_law_2295 (by decide) ?_
                                                                                    refine va_lald hx hb hE.1 hP 48 2 rfl rfl (vin (by decide)) dL_law_2296 ?_
                                                                                    refine lv_iload hx hb dL_law_2297 (lv_at hl 0 rfl) ?_
                                                                                    refine lv_i2l hx hb dL_law_2299 rfl ?_
                                                                                    refine W.lcmp hx hb dL_law_2300 ?_
                                                                                    refine lv_if_eq (tgt := 2306) hx hb dL_law_2301 (by decide) (fun c_305 => ?_) (fun c_305 => ?_)
                                                                                    · have hf := ip c_305 hf
                                                                                      refine lv_goto (tgt := 2493) hx hb dL_law_2306 (by decide) ?_
                                                                                      refine lv_iinc (v := (i + 3)) (lv' := [(5, .int (i + 3)), (7, .int r_301.1), (6, .int r_300.1), (0, .ref b), (1, .ref c0), (2, .ref m0), (3, .ref o0), (4, .ref e0)]) hx hb dL_law_2493 hl (k := 7) rfl rfl (by decide) rfl (fun ls hl => ?_)
                                                                                      refine lv_goto (tgt := 28) hx hb dL_law_2496 (by decide) ?_
                                                                                      refine W.cs (cells' := cl + 1) (slots' := sl + 6) (by omega) (by omega) ?_
                                                                                      exact ih (i + 3) σ η r_300.2.1 δ r_301.2 r_300.2.2 ε (cl + 1) (sl + 6) (by omega) (by omega) _ _ ls hP hD hS (lv_sub hl [3, 4, 5, 6, 7, 0] rfl) hf
                                                                                    · have hf := iq c_305 hf
                                                                                      refine lv_iconst (v := (0 : Int32)) hx hb dL_law_2304 (by decide) ?_
                                                                                      exact absurd (Option.some.inj hf) (by decide)
                                                                                · have hf := iq c_303 hf
                                                                                  refine lv_iconst (v := (0 : Int32)) hx hb dL_law_2287 (by decide) ?_
                                                                                  exact absurd (Option.some.inj hf) (by decide)
                                                                              · have hf := iq s_298 hf
                                                                                by_cases s_306 : ((xs (Int32.toNatClampNeg i)) &&& (63 : Int32)) = (37 : Int32)
                                                                                · have hf := ip s_306 hf
                                                                                  refine lv_tableIn (off := 2265) (tgt := 2309) hx hb dL_law_44 (by rw [s_306]; decide) (by rw [s_306]; decide) (by rw [s_306]; rfl) (by decide) ?_
                                                                                  refine lv_aload_n hx hb dL_law_2309 rfl (lv_at hl 1 rfl) ?_
                                                                                  obtain ⟨r_307, e_307, hf⟩ := bo hf
                                                                                  refine mcallVi (W0 := (wC c0 h k0 x0 d0 ++ (wS g h a1 a2 a3 a4 σ ++ (wH g k0 k1 γ η ++ (wX g x0 x1 τ ++ (wD g d0 d1 d2 δ ++ (wM g m0 m1 m2 m3 m4 μ ++ (wO g o0 ω ++ (wE g e0 ε))))))))) (Wc := (wC c0 h k0 x0 d0 ++ (wX g x0 x1 τ))) (Wr := (wS g h a1 a2 a3 a4 σ ++ (wH g k0 k1 γ η ++ (wD g d0 d1 d2 δ ++ (wM g m0 m1 m2 m3 m4 μ ++ (wO g o0 ω ++ (wE g e0 ε))))))) (W1 := (wC c0 h k0 x0 d0 ++ (wX g x0 x1 r_307.2))) (W2 := (wC c0 h k0 x0 d0 ++ (wS g h a1 a2 a3 a4 σ ++ (wH g k0 k1 γ η ++ (wX g x0 x1 r_307.2 ++ (wD g d0 d1 d2 δ ++ (wM g m0 m1 m2 m3 m4 μ ++ (wO g o0 ω ++ (wE g e0 ε))))))))) (As := []) (rest := []) [0, 38, 39] [1, 2, 3, 4, 5, 6, 7, 8, 9, 10, 11, 12, 13, 14, 15, 16, 17, 18, 19, 20, 21, 22, 23, 24, 25, 26, 27, 28, 29, 30, 31, 32, 33, 34, 35, 36, 37, 40, 41, 42, 43, 44, 45, 46, 47, 48, 49] [47, 0, 1, 2, 3, 4, 5, 6, 7, 8, 9, 10, 11, 12, 13, 14, 15, 16, 17, 18, 19, 20, 21, 22, 23, 24, 25, 26, 27, 28, 29, 30, 31, 32, 33, 34, 35, 36, 48, 49, 37, 38, 39, 40, 41, 42, 43, 44, 45, 46] 4 0 ⟨hx, hb, hml, hown, hts⟩ hP hD hE hZ hS hA (cX6_clearText_ok l g c0 h k0 x0 d0 x1 τ _ e_307) (cwV 0 hts gL_law_X6_clearText rfl rfl rfl hdX6_clearText ⟨(Nat.le_of_ble_eq_true rfl), (Nat.le_of_ble_eq_true rfl)⟩) rfl rfl rfl (by decide) (by decide) (by decide) (by decide) rfl rfl rfl rfl hl.1 rfl (Nat.le_of_ble_eq_true rfl) ⟨(by show _ ≤ (601024 : Nat); omega), (by show _ ≤ (7293034 : Nat); omega)⟩ dL_law_2310 (fun H locs hP hD hS => ?_)
                                                                                  refine lv_aload_n hx hb dL_law_2313 rfl (lv_at hl 2 rfl) ?_
                                                                                  obtain ⟨r_308, e_308, hf⟩ := bo hf
                                                                                  refine mcallVi (W0 := (wC c0 h k0 x0 d0 ++ (wS g h a1 a2 a3 a4 σ ++ (wH g k0 k1 γ η ++ (wX g x0 x1 r_307.2 ++ (wD g d0 d1 d2 δ ++ (wM g m0 m1 m2 m3 m4 μ ++ (wO g o0 ω ++ (wE g e0 ε))))))))) (Wc := (wM g m0 m1 m2 m3 m4 μ)) (Wr := (wC c0 h k0 x0 d0 ++ (wS g h a1 a2 a3 a4 σ ++ (wH g k0 k1 γ η ++ (wX g x0 x1 r_307.2 ++ (wD g d0 d1 d2 δ ++ (wO g o0 ω ++ (wE g e0 ε)))))))) (W1 := (wM g m0 m1 m2 m3 m4 r_308.2)) (W2 := (wC c0 h k0 x0 d0 ++ (wS g h a1 a2 a3 a4 σ ++ (wH g k0 k1 γ η ++ (wX g x0 x1 r_307.2 ++ (wD g d0 d1 d2 δ ++ (wM g m0 m1 m2 m3 m4 r_308.2 ++ (wO g o0 ω ++ (wE g e0 ε))))))))) (As := []) (rest := [.int r_307.1]) [43, 44, 45, 46, 47] [0, 1, 2, 3, 4, 5, 6, 7, 8, 9, 10, 11, 12, 13, 14, 15, 16, 17, 18, 19, 20, 21, 22, 23, 24, 25, 26, 27, 28, 29, 30, 31, 32, 33, 34, 35, 36, 37, 38, 39, 40, 41, 42, 48, 49] [0, 1, 2, 3, 4, 5, 6, 7, 8, 9, 10, 11, 12, 13, 14, 15, 16, 17, 18, 19, 20, 21, 22, 23, 24, 25, 26, 27, 28, 29, 30, 31, 32, 33, 34, 35, 36, 37, 38, 39, 40, 41, 42, 45, 46, 47, 48, 49, 43, 44] 5 0 ⟨hx, hb, hml, hown, hts⟩ hP hD hE hZ hS hA (cX7_clearText_ok l g m0 m1 m2 m3 m4 μ _ e_308) (cwV 0 hts gL_law_X7_clearText rfl rfl rfl hdX7_clearText ⟨(Nat.le_of_ble_eq_true rfl), (Nat.le_of_ble_eq_true rfl)⟩) rfl rfl rfl (by decide) (by decide) (by decide) (by decide) rfl rfl rfl rfl hl.1 rfl (Nat.le_of_ble_eq_true rfl) ⟨(by show _ ≤ (601024 : Nat); omega), (by show _ ≤ (7293034 : Nat); omega)⟩ dL_law_2314 (fun H locs hP hD hS => ?_)
                                                                                  refine lv_icmp_eq (tgt := 2493) hx hb dL_law_2317 (by decide) (fun c_309 => ?_) (fun c_309 => ?_)
                                                                                  · have hf := ip c_309 hf
                                                                                    refine lv_iinc (v := (i + 3)) (lv' := [(5, .int (i + 3)), (0, .ref b), (1, .ref c0), (2, .ref m0), (3, .ref o0), (4, .ref e0)]) hx hb dL_law_2493 hl (k := 5) rfl rfl (by decide) rfl (fun ls hl => ?_)
                                                                                    refine lv_goto (tgt := 28) hx hb dL_law_2496 (by decide) ?_
                                                                                    refine W.cs (cells' := cl + 0) (slots' := sl + 0) (by omega) (by omega) ?_
                                                                                    exact ih (i + 3) σ η r_307.2 δ r_308.2 ω ε (cl + 0) (sl + 0) (by omega) (by omega) _ _ ls hP hD hS (lv_sub hl [1, 2, 3, 4, 5, 0] rfl) hf
                                                                                  · have hf := iq c_309 hf
                                                                                    refine lv_iconst (v := (0 : Int32)) hx hb dL_law_2320 (by decide) ?_
                                                                                    exact absurd (Option.some.inj hf) (by decide)
                                                                                · have hf := iq s_306 hf
                                                                                  by_cases s_310 : ((xs (Int32.toNatClampNeg i)) &&& (63 : Int32)) = (38 : Int32)
                                                                                  · have hf := ip s_310 hf
                                                                                    refine lv_tableIn (off := 2278) (tgt := 2322) hx hb dL_law_44 (by rw [s_310]; decide) (by rw [s_310]; decide) (by rw [s_310]; rfl) (by decide) ?_
                                                                                    refine lv_aload_n hx hb dL_law_2322 rfl (lv_at hl 1 rfl) ?_
                                                                                    obtain ⟨r_311, e_311, hf⟩ := bo hf
                                                                                    refine mcallVi (W0 := (wC c0 h k0 x0 d0 ++ (wS g h a1 a2 a3 a4 σ ++ (wH g k0 k1 γ η ++ (wX g x0 x1 τ ++ (wD g d0 d1 d2 δ ++ (wM g m0 m1 m2 m3 m4 μ ++ (wO g o0 ω ++ (wE g e0 ε))))))))) (Wc := (wC c0 h k0 x0 d0 ++ (wX g x0 x1 τ))) (Wr := (wS g h a1 a2 a3 a4 σ ++ (wH g k0 k1 γ η ++ (wD g d0 d1 d2 δ ++ (wM g m0 m1 m2 m3 m4 μ ++ (wO g o0 ω ++ (wE g e0 ε))))))) (W1 := (wC c0 h k0 x0 d0 ++ (wX g x0 x1 r_311.2))) (W2 := (wC c0 h k0 x0 d0 ++ (wS g h a1 a2 a3 a4 σ ++ (wH g k0 k1 γ η ++ (wX g x0 x1 r_311.2 ++ (wD g d0 d1 d2 δ ++ (wM g m0 m1 m2 m3 m4 μ ++ (wO g o0 ω ++ (wE g e0 ε))))))))) (As := []) (rest := []) [0, 38, 39] [1, 2, 3, 4, 5, 6, 7, 8, 9, 10, 11, 12, 13, 14, 15, 16, 17, 18, 19, 20, 21, 22, 23, 24, 25, 26, 27, 28, 29, 30, 31, 32, 33, 34, 35, 36, 37, 40, 41, 42, 43, 44, 45, 46, 47, 48, 49] [47, 0, 1, 2, 3, 4, 5, 6, 7, 8, 9, 10, 11, 12, 13, 14, 15, 16, 17, 18, 19, 20, 21, 22, 23, 24, 25, 26, 27, 28, 29, 30, 31, 32, 33, 34, 35, 36, 48, 49, 37, 38, 39, 40, 41, 42, 43, 44, 45, 46] 4 0 ⟨hx, hb, hml, hown, hts⟩ hP hD hE hZ hS hA (cX6_errorPosition_ok l g c0 h k0 x0 d0 x1 τ _ e_311) (cwV 0 hts gL_law_X6_errorPosition rfl rfl rfl hdX6_errorPosition ⟨(Nat.le_of_ble_eq_true rfl), (Nat.le_of_ble_eq_true rfl)⟩) rfl rfl rfl (by decide) (by decide) (by decide) (by decide) rfl rfl rfl rfl hl.1 rfl (Nat.le_of_ble_eq_true rfl) ⟨(by show _ ≤ (601024 : Nat); omega), (by show _ ≤ (7293034 : Nat); omega)⟩ dL_law_2323 (fun H locs hP hD hS => ?_)
                                                                                    refine lv_aload_n hx hb dL_law_2326 rfl (lv_at hl 2 rfl) ?_
                                                                                    obtain ⟨r_312, e_312, hf⟩ := bo hf
                                                                                    refine mcallVi (W0 := (wC c0 h k0 x0 d0 ++ (wS g h a1 a2 a3 a4 σ ++ (wH g k0 k1 γ η ++ (wX g x0 x1 r_311.2 ++ (wD g d0 d1 d2 δ ++ (wM g m0 m1 m2 m3 m4 μ ++ (wO g o0 ω ++ (wE g e0 ε))))))))) (Wc := (wM g m0 m1 m2 m3 m4 μ)) (Wr := (wC c0 h k0 x0 d0 ++ (wS g h a1 a2 a3 a4 σ ++ (wH g k0 k1 γ η ++ (wX g x0 x1 r_311.2 ++ (wD g d0 d1 d2 δ ++ (wO g o0 ω ++ (wE g e0 ε)))))))) (W1 := (wM g m0 m1 m2 m3 m4 r_312.2)) (W2 := (wC c0 h k0 x0 d0 ++ (wS g h a1 a2 a3 a4 σ ++ (wH g k0 k1 γ η ++ (wX g x0 x1 r_311.2 ++ (wD g d0 d1 d2 δ ++ (wM g m0 m1 m2 m3 m4 r_312.2 ++ (wO g o0 ω ++ (wE g e0 ε))))))))) (As := []) (rest := [.int r_311.1]) [43, 44, 45, 46, 47] [0, 1, 2, 3, 4, 5, 6, 7, 8, 9, 10, 11, 12, 13, 14, 15, 16, 17, 18, 19, 20, 21, 22, 23, 24, 25, 26, 27, 28, 29, 30, 31, 32, 33, 34, 35, 36, 37, 38, 39, 40, 41, 42, 48, 49] [0, 1, 2, 3, 4, 5, 6, 7, 8, 9, 10, 11, 12, 13, 14, 15, 16, 17, 18, 19, 20, 21, 22, 23, 24, 25, 26, 27, 28, 29, 30, 31, 32, 33, 34, 35, 36, 37, 38, 39, 40, 41, 42, 45, 46, 47, 48, 49, 43, 44] 5 0 ⟨hx, hb, hml, hown, hts⟩ hP hD hE hZ hS hA (cX7_errorPosition_ok l g m0 m1 m2 m3 m4 μ _ e_312) (cwV 0 hts gL_law_X7_errorPosition rfl rfl rfl hdX7_errorPosition ⟨(Nat.le_of_ble_eq_true rfl), (Nat.le_of_ble_eq_true rfl)⟩) rfl rfl rfl (by decide) (by decide) (by decide) (by decide) rfl rfl rfl rfl hl.1 rfl (Nat.le_of_ble_eq_true rfl) ⟨(by show _ ≤ (601024 : Nat); omega), (by show _ ≤ (7293034 : Nat); omega)⟩ dL_law_2327 (fun H locs hP hD hS => ?_)
                                                                                    refine lv_icmp_eq (tgt := 2493) hx hb dL_law_2330 (by decide) (fun c_313 => ?_) (fun c_313 => ?_)
                                                                                    · have hf := ip c_313 hf
                                                                                      refine lv_iinc (v := (i + 3)) (lv' := [(5, .int (i + 3)), (0, .ref b), (1, .ref c0), (2, .ref m0), (3, .ref o0), (4, .ref e0)]) hx hb dL_law_2493 hl (k := 5) rfl rfl (by decide) rfl (fun ls hl => ?_)
                                                                                      refine lv_goto (tgt := 28) hx hb dL_law_2496 (by decide) ?_
                                                                                      refine W.cs (cells' := cl + 0) (slots' := sl + 0) (by omega) (by omega) ?_
                                                                                      exact ih (i + 3) σ η r_311.2 δ r_312.2 ω ε (cl + 0) (sl + 0) (by omega) (by omega) _ _ ls hP hD hS (lv_sub hl [1, 2, 3, 4, 5, 0] rfl) hf
                                                                                    · have hf := iq c_313 hf
                                                                                      refine lv_iconst (v := (0 : Int32)) hx hb dL_law_2333 (by decide) ?_
                                                                                      exact absurd (Option.some.inj hf) (by decide)
                                                                                  · have hf := iq s_310 hf
                                                                                    by_cases s_314 : ((xs (Int32.toNatClampNeg i)) &&& (63 : Int32)) = (39 : Int32)
                                                                                    · have hf := ip s_314 hf
                                                                                      refine lv_tableIn (off := 2291) (tgt := 2335) hx hb dL_law_44 (by rw [s_314]; decide) (by rw [s_314]; decide) (by rw [s_314]; rfl) (by decide) ?_
                                                                                      refine lv_aload_n hx hb dL_law_2335 rfl (lv_at hl 1 rfl) ?_
                                                                                      refine lv_aload_n hx hb dL_law_2336 rfl (lv_at hl 3 rfl) ?_
                                                                                      obtain ⟨r_315, e_315, hf⟩ := bo hf
                                                                                      refine lcallS (W0 := (wC c0 h k0 x0 d0 ++ (wS g h a1 a2 a3 a4 σ ++ (wH g k0 k1 γ η ++ (wX g x0 x1 τ ++ (wD g d0 d1 d2 δ ++ (wM g m0 m1 m2 m3 m4 μ ++ (wO g o0 ω ++ (wE g e0 ε))))))))) (Wc := (wC c0 h k0 x0 d0 ++ (wS g h a1 a2 a3 a4 σ ++ (wH g k0 k1 γ η ++ (wX g x0 x1 τ ++ (wO g o0 ω)))))) (Wr := (wD g d0 d1 d2 δ ++ (wM g m0 m1 m2 m3 m4 μ ++ (wE g e0 ε)))) (W1 := (wC c0 h k0 x0 d0 ++ (wS g h a1 a2 a3 a4 r_315.2.1 ++ (wH g k0 k1 γ r_315.2.2.1 ++ (wX g x0 x1 r_315.2.2.2.1 ++ (wO g o0 r_315.2.2.2.2)))))) (W2 := (wC c0 h k0 x0 d0 ++ (wS g h a1 a2 a3 a4 r_315.2.1 ++ (wH g k0 k1 γ r_315.2.2.1 ++ (wX g x0 x1 r_315.2.2.2.1 ++ (wD g d0 d1 d2 δ ++ (wM g m0 m1 m2 m3 m4 μ ++ (wO g o0 r_315.2.2.2.2 ++ (wE g e0 ε))))))))) (As := [.ref c0, .ref o0]) (rest := []) [0, 1, 2, 3, 4, 5, 6, 7, 8, 9, 10, 11, 12, 13, 14, 15, 16, 17, 18, 19, 20, 21, 22, 23, 24, 25, 26, 27, 28, 29, 30, 31, 32, 33, 34, 35, 36, 37, 38, 39, 48] [40, 41, 42, 43, 44, 45, 46, 47, 49] [9, 10, 11, 12, 13, 14, 15, 16, 17, 18, 19, 20, 21, 22, 23, 24, 25, 26, 27, 28, 29, 30, 31, 32, 33, 34, 35, 36, 37, 38, 39, 40, 41, 42, 43, 44, 45, 46, 47, 48, 0, 1, 2, 3, 4, 5, 6, 7, 49, 8] ⟨hx, hb, hml, hown, hts⟩ hP hD hE hZ hS hA (cL_runText_ok l hl0 g c0 h k0 x0 d0 a1 a2 a3 a4 k1 x1 o0 γ σ η τ ω _ e_315) (vx_cwSW 2 hts gL_law_L_runText rfl rfl rfl hdL_runText.2 ⟨(Nat.le_of_ble_eq_true rfl), (Nat.le_of_ble_eq_true rfl)⟩) rfl rfl rfl (by decide) (by decide) (by decide) (by decide) rfl hl.1 rfl (Nat.le_of_ble_eq_true rfl) ⟨(by show _ ≤ (601024 : Nat); omega), (by show _ ≤ (7293034 : Nat); omega)⟩ dL_law_2337 (fun H locs hP hD hS => ?_)
                                                                                      refine lv_istore (lv' := [(6, .int r_315.1), (0, .ref b), (1, .ref c0), (2, .ref m0), (3, .ref o0), (4, .ref e0), (5, .int i)]) hx hb dL_law_2340 hl (by decide) rfl (fun ls hl => ?_)
                                                                                      refine lv_aload_n hx hb dL_law_2342 rfl (lv_at hl 3 rfl) ?_
                                                                                      obtain ⟨r_316, e_316, hf⟩ := bo hf
                                                                                      refine mcallVi (W0 := (wC c0 h k0 x0 d0 ++ (wS g h a1 a2 a3 a4 r_315.2.1 ++ (wH g k0 k1 γ r_315.2.2.1 ++ (wX g x0 x1 r_315.2.2.2.1 ++ (wD g d0 d1 d2 δ ++ (wM g m0 m1 m2 m3 m4 μ ++ (wO g o0 r_315.2.2.2.2 ++ (wE g e0 ε))))))))) (Wc := (wM g m0 m1 m2 m3 m4 μ)) (Wr := (wC c0 h k0 x0 d0 ++ (wS g h a1 a2 a3 a4 r_315.2.1 ++ (wH g k0 k1 γ r_315.2.2.1 ++ (wX g x0 x1 r_315.2.2.2.1 ++ (wD g d0 d1 d2 δ ++ (wO g o0 r_315.2.2.2.2 ++ (wE g e0 ε)))))))) (W1 := (wM g m0 m1 m2 m3 m4 r_316.2)) (W2 := (wC c0 h k0 x0 d0 ++ (wS g h a1 a2 a3 a4 r_315.2.1 ++ (wH g k0 k1 γ r_315.2.2.1 ++ (wX g x0 x1 r_315.2.2.2.1 ++ (wD g d0 d1 d2 δ ++ (wM g m0 m1 m2 m3 m4 r_316.2 ++ (wO g o0 r_315.2.2.2.2 ++ (wE g e0 ε))))))))) (As := []) (rest := []) [43, 44, 45, 46, 47] [0, 1, 2, 3, 4, 5, 6, 7, 8, 9, 10, 11, 12, 13, 14, 15, 16, 17, 18, 19, 20, 21, 22, 23, 24, 25, 26, 27, 28, 29, 30, 31, 32, 33, 34, 35, 36, 37, 38, 39, 40, 41, 42, 48, 49] [0, 1, 2, 3, 4, 5, 6, 7, 8, 9, 10, 11, 12, 13, 14, 15, 16, 17, 18, 19, 20, 21, 22, 23, 24, 25, 26, 27, 28, 29, 30, 31, 32, 33, 34, 35, 36, 37, 38, 39, 40, 41, 42, 45, 46, 47, 48, 49, 43, 44] 5 0 ⟨hx, hb, hml, hown, hts⟩ hP hD hE hZ hS hA (cX7_runText_ok l g m0 m1 m2 m3 m4 μ _ e_316) (cwV 0 hts gL_law_X7_runText rfl rfl rfl hdX7_runText ⟨(Nat.le_of_ble_eq_true rfl), (Nat.le_of_ble_eq_true rfl)⟩) rfl rfl rfl (by decide) (by decide) (by decide) (by decide) rfl rfl rfl rfl hl.1 rfl (Nat.le_of_ble_eq_true rfl) ⟨(by show _ ≤ (601024 : Nat); omega), (by show _ ≤ (7293034 : Nat); omega)⟩ dL_law_2343 (fun H locs hP hD hS => ?_)
                                                                                      refine lv_istore (lv' := [(7, .int r_316.1), (6, .int r_315.1), (0, .ref b), (1, .ref c0), (2, .ref m0), (3, .ref o0), (4, .ref e0), (5, .int i)]) hx hb dL_law_2346 hl (by decide) rfl (fun ls hl => ?_)
                                                                                      refine lv_aload_n hx hb dL_law_2348 rfl (lv_at hl 4 rfl) ?_
                                                                                      obtain ⟨r_317, e_317, hf⟩ := bo hf
                                                                                      refine pcallV (W0 := (wC c0 h k0 x0 d0 ++ (wS g h a1 a2 a3 a4 r_315.2.1 ++ (wH g k0 k1 γ r_315.2.2.1 ++ (wX g x0 x1 r_315.2.2.2.1 ++ (wD g d0 d1 d2 δ ++ (wM g m0 m1 m2 m3 m4 r_316.2 ++ (wO g o0 r_315.2.2.2.2 ++ (wE g e0 ε))))))))) (As := []) (rest := []) [43, 44, 45, 46, 47] 5 0 ⟨hx, hb, hml, hown, hts⟩ hP hE hZ hS (cX7_thrown_ok l g m0 m1 m2 m3 m4 r_316.2 e_317) (cwV 0 hts gL_law_X7_thrown rfl rfl rfl hdX7_thrown ⟨(Nat.le_of_ble_eq_true rfl), (Nat.le_of_ble_eq_true rfl)⟩) rfl rfl rfl rfl rfl hl.1 rfl (Nat.le_of_ble_eq_true rfl) ⟨(by show _ ≤ (601024 : Nat); omega), (by show _ ≤ (7293034 : Nat); omega)⟩ dL_law_2349 ?_
                                                                                      refine lv_iload hx hb dL_law_2352 (lv_at hl 1 rfl) ?_
                                                                                      refine lv_icmp_eq (tgt := 2359) hx hb dL_law_2354 (by decide) (fun c_318 => ?_) (fun c_318 => ?_)
                                                                                      · have hf := ip c_318 hf
                                                                                        refine lv_iload hx hb dL_law_2359 (lv_at hl 1 rfl) ?_
                                                                                        refine lv_if_ne (tgt := 2376) hx hb dL_law_2361 (by decide) (fun c_319 => ?_) (fun c_319 => ?_)
                                                                                        · have hf := iq c_319 hf
                                                                                          refine lv_goto (tgt := 2493) hx hb dL_law_2376 (by decide) ?_
                                                                                          refine lv_iinc (v := (i + 3)) (lv' := [(5, .int (i + 3)), (7, .int r_316.1), (6, .int r_315.1), (0, .ref b), (1, .ref c0), (2, .ref m0), (3, .ref o0), (4, .ref e0)]) hx hb dL_law_2493 hl (k := 7) rfl rfl (by decide) rfl (fun ls hl => ?_)
                                                                                          refine lv_goto (tgt := 28) hx hb dL_law_2496 (by decide) ?_
                                                                                          refine W.cs (cells' := cl + 1) (slots' := sl + 6) (by omega) (by omega) ?_
                                                                                          exact ih (i + 3) r_315.2.1 r_315.2.2.1 r_315.2.2.2.1 δ r_316.2 r_315.2.2.2.2 ε (cl + 1) (sl + 6) (by omega) (by omega) _ _ ls hP hD hS (lv_sub hl [3, 4, 5, 6, 7, 0] rfl) hf
                                                                                        · have hf := ip c_319 hf
                                                                                          refine lv_aload_n hx hb dL_law_2364 rfl (lv_at hl 5 rfl) ?_
                                                                                          refine lv_iconst (v := (0 : Int32)) hx hb dL_law_2365 (by decide) ?_
                                                                                          refine va_lald hx hb hE.1 hP 48 2 rfl rfl (vin (by decide)) dL_law_2366 ?_
                                                                                          refine lv_iload hx hb dL_law_2367 (lv_at hl 0 rfl) ?_
                                                                                          refine lv_i2l hx hb dL_law_2369 rfl ?_
                                                                                          refine W.lcmp hx hb dL_law_2370 ?_
                                                                                          refine lv_if_eq (tgt := 2376) hx hb dL_law_2371 (by decide) (fun c_320 => ?_) (fun c_320 => ?_)
                                                                                          · have hf := ip c_320 hf
                                                                                            refine lv_goto (tgt := 2493) hx hb dL_law_2376 (by decide) ?_
                                                                                            refine lv_iinc (v := (i + 3)) (lv' := [(5, .int (i + 3)), (7, .int r_316.1), (6, .int r_315.1), (0, .ref b), (1, .ref c0), (2, .ref m0), (3, .ref o0), (4, .ref e0)]) hx hb dL_law_2493 hl (k := 7) rfl rfl (by decide) rfl (fun ls hl => ?_)
                                                                                            refine lv_goto (tgt := 28) hx hb dL_law_2496 (by decide) ?_
                                                                                            refine W.cs (cells' := cl + 1) (slots' := sl + 6) (by omega) (by omega) ?_
                                                                                            exact ih (i + 3) r_315.2.1 r_315.2.2.1 r_315.2.2.2.1 δ r_316.2 r_315.2.2.2.2 ε (cl + 1) (sl + 6) (by omega) (by omega) _ _ ls hP hD hS (lv_sub hl [3, 4, 5, 6, 7, 0] rfl) hf
                                                                                          · have hf := iq c_320 hf
                                                                                            refine lv_iconst (v := (0 : Int32)) hx hb dL_law_2374 (by decide) ?_
                                                                                            exact absurd (Option.some.inj hf) (by decide)
                                                                                      · have hf := iq c_318 hf
                                                                                        refine lv_iconst (v := (0 : Int32)) hx hb dL_law_2357 (by decide) ?_
                                                                                        exact absurd (Option.some.inj hf) (by decide)
                                                                                    · have hf := iq s_314 hf
                                                                                      by_cases s_321 : ((xs (Int32.toNatClampNeg i)) &&& (63 : Int32)) = (40 : Int32)
                                                                                      · have hf := ip s_321 hf
                                                                                        refine lv_tableIn (off := 2335) (tgt := 2379) hx hb dL_law_44 (by rw [s_321]; decide) (by rw [s_321]; decide) (by rw [s_321]; rfl) (by decide) ?_
                                                                                        refine lv_aload_n hx hb dL_law_2379 rfl (lv_at hl 1 rfl) ?_
                                                                                        refine lv_aload_n hx hb dL_law_2380 rfl (lv_at hl 3 rfl) ?_
                                                                                        obtain ⟨r_322, e_322, hf⟩ := bo hf
                                                                                        refine lcallS (W0 := (wC c0 h k0 x0 d0 ++ (wS g h a1 a2 a3 a4 σ ++ (wH g k0 k1 γ η ++ (wX g x0 x1 τ ++ (wD g d0 d1 d2 δ ++ (wM g m0 m1 m2 m3 m4 μ ++ (wO g o0 ω ++ (wE g e0 ε))))))))) (Wc := (wC c0 h k0 x0 d0 ++ (wS g h a1 a2 a3 a4 σ ++ (wH g k0 k1 γ η ++ (wO g o0 ω))))) (Wr := (wX g x0 x1 τ ++ (wD g d0 d1 d2 δ ++ (wM g m0 m1 m2 m3 m4 μ ++ (wE g e0 ε))))) (W1 := (wC c0 h k0 x0 d0 ++ (wS g h a1 a2 a3 a4 r_322.2.1 ++ (wH g k0 k1 γ r_322.2.2.1 ++ (wO g o0 r_322.2.2.2))))) (W2 := (wC c0 h k0 x0 d0 ++ (wS g h a1 a2 a3 a4 r_322.2.1 ++ (wH g k0 k1 γ r_322.2.2.1 ++ (wX g x0 x1 τ ++ (wD g d0 d1 d2 δ ++ (wM g m0 m1 m2 m3 m4 μ ++ (wO g o0 r_322.2.2.2 ++ (wE g e0 ε))))))))) (As := [.ref c0, .ref o0]) (rest := []) [0, 1, 2, 3, 4, 5, 6, 7, 8, 9, 10, 11, 12, 13, 14, 15, 16, 17, 18, 19, 20, 21, 22, 23, 24, 25, 26, 27, 28, 29, 30, 31, 32, 33, 34, 35, 36, 37, 48] [38, 39, 40, 41, 42, 43, 44, 45, 46, 47, 49] [11, 12, 13, 14, 15, 16, 17, 18, 19, 20, 21, 22, 23, 24, 25, 26, 27, 28, 29, 30, 31, 32, 33, 34, 35, 36, 37, 38, 39, 40, 41, 42, 43, 44, 45, 46, 47, 48, 0, 1, 2, 3, 4, 5, 6, 7, 8, 9, 49, 10] ⟨hx, hb, hml, hown, hts⟩ hP hD hE hZ hS hA (cL_undo_ok l hl0 g c0 h k0 x0 d0 a1 a2 a3 a4 k1 o0 γ σ η ω _ e_322) (vx_cwSW 2 hts gL_law_L_undo rfl rfl rfl hdL_undo.2 ⟨(Nat.le_of_ble_eq_true rfl), (Nat.le_of_ble_eq_true rfl)⟩) rfl rfl rfl (by decide) (by decide) (by decide) (by decide) rfl hl.1 rfl (Nat.le_of_ble_eq_true rfl) ⟨(by show _ ≤ (601024 : Nat); omega), (by show _ ≤ (7293034 : Nat); omega)⟩ dL_law_2381 (fun H locs hP hD hS => ?_)
                                                                                        refine lv_istore (lv' := [(6, .int r_322.1), (0, .ref b), (1, .ref c0), (2, .ref m0), (3, .ref o0), (4, .ref e0), (5, .int i)]) hx hb dL_law_2384 hl (by decide) rfl (fun ls hl => ?_)
                                                                                        refine lv_aload_n hx hb dL_law_2386 rfl (lv_at hl 3 rfl) ?_
                                                                                        obtain ⟨r_323, e_323, hf⟩ := bo hf
                                                                                        refine mcallVi (W0 := (wC c0 h k0 x0 d0 ++ (wS g h a1 a2 a3 a4 r_322.2.1 ++ (wH g k0 k1 γ r_322.2.2.1 ++ (wX g x0 x1 τ ++ (wD g d0 d1 d2 δ ++ (wM g m0 m1 m2 m3 m4 μ ++ (wO g o0 r_322.2.2.2 ++ (wE g e0 ε))))))))) (Wc := (wM g m0 m1 m2 m3 m4 μ)) (Wr := (wC c0 h k0 x0 d0 ++ (wS g h a1 a2 a3 a4 r_322.2.1 ++ (wH g k0 k1 γ r_322.2.2.1 ++ (wX g x0 x1 τ ++ (wD g d0 d1 d2 δ ++ (wO g o0 r_322.2.2.2 ++ (wE g e0 ε)))))))) (W1 := (wM g m0 m1 m2 m3 m4 r_323.2)) (W2 := (wC c0 h k0 x0 d0 ++ (wS g h a1 a2 a3 a4 r_322.2.1 ++ (wH g k0 k1 γ r_322.2.2.1 ++ (wX g x0 x1 τ ++ (wD g d0 d1 d2 δ ++ (wM g m0 m1 m2 m3 m4 r_323.2 ++ (wO g o0 r_322.2.2.2 ++ (wE g e0 ε))))))))) (As := []) (rest := []) [43, 44, 45, 46, 47] [0, 1, 2, 3, 4, 5, 6, 7, 8, 9, 10, 11, 12, 13, 14, 15, 16, 17, 18, 19, 20, 21, 22, 23, 24, 25, 26, 27, 28, 29, 30, 31, 32, 33, 34, 35, 36, 37, 38, 39, 40, 41, 42, 48, 49] [0, 1, 2, 3, 4, 5, 6, 7, 8, 9, 10, 11, 12, 13, 14, 15, 16, 17, 18, 19, 20, 21, 22, 23, 24, 25, 26, 27, 28, 29, 30, 31, 32, 33, 34, 35, 36, 37, 38, 39, 40, 41, 42, 45, 46, 47, 48, 49, 43, 44] 5 0 ⟨hx, hb, hml, hown, hts⟩ hP hD hE hZ hS hA (cX7_undo_ok l g m0 m1 m2 m3 m4 μ _ e_323) (cwV 0 hts gL_law_X7_undo rfl rfl rfl hdX7_undo ⟨(Nat.le_of_ble_eq_true rfl), (Nat.le_of_ble_eq_true rfl)⟩) rfl rfl rfl (by decide) (by decide) (by decide) (by decide) rfl rfl rfl rfl hl.1 rfl (Nat.le_of_ble_eq_true rfl) ⟨(by show _ ≤ (601024 : Nat); omega), (by show _ ≤ (7293034 : Nat); omega)⟩ dL_law_2387 (fun H locs hP hD hS => ?_)
                                                                                        refine lv_istore (lv' := [(7, .int r_323.1), (6, .int r_322.1), (0, .ref b), (1, .ref c0), (2, .ref m0), (3, .ref o0), (4, .ref e0), (5, .int i)]) hx hb dL_law_2390 hl (by decide) rfl (fun ls hl => ?_)
                                                                                        refine lv_aload_n hx hb dL_law_2392 rfl (lv_at hl 4 rfl) ?_
                                                                                        obtain ⟨r_324, e_324, hf⟩ := bo hf
                                                                                        refine pcallV (W0 := (wC c0 h k0 x0 d0 ++ (wS g h a1 a2 a3 a4 r_322.2.1 ++ (wH g k0 k1 γ r_322.2.2.1 ++ (wX g x0 x1 τ ++ (wD g d0 d1 d2 δ ++ (wM g m0 m1 m2 m3 m4 r_323.2 ++ (wO g o0 r_322.2.2.2 ++ (wE g e0 ε))))))))) (As := []) (rest := []) [43, 44, 45, 46, 47] 5 0 ⟨hx, hb, hml, hown, hts⟩ hP hE hZ hS (cX7_thrown_ok l g m0 m1 m2 m3 m4 r_323.2 e_324) (cwV 0 hts gL_law_X7_thrown rfl rfl rfl hdX7_thrown ⟨(Nat.le_of_ble_eq_true rfl), (Nat.le_of_ble_eq_true rfl)⟩) rfl rfl rfl rfl rfl hl.1 rfl (Nat.le_of_ble_eq_true rfl) ⟨(by show _ ≤ (601024 : Nat); omega), (by show _ ≤ (7293034 : Nat); omega)⟩ dL_law_2393 ?_
                                                                                        refine lv_iload hx hb dL_law_2396 (lv_at hl 1 rfl) ?_
                                                                                        refine lv_icmp_eq (tgt := 2403) hx hb dL_law_2398 (by decide) (fun c_325 => ?_) (fun c_325 => ?_)
                                                                                        · have hf := ip c_325 hf
                                                                                          refine lv_iload hx hb dL_law_2403 (lv_at hl 1 rfl) ?_
                                                                                          refine lv_if_ne (tgt := 2420) hx hb dL_law_2405 (by decide) (fun c_326 => ?_) (fun c_326 => ?_)
                                                                                          · have hf := iq c_326 hf
                                                                                            refine lv_goto (tgt := 2493) hx hb dL_law_2420 (by decide) ?_
                                                                                            refine lv_iinc (v := (i + 3)) (lv' := [(5, .int (i + 3)), (7, .int r_323.1), (6, .int r_322.1), (0, .ref b), (1, .ref c0), (2, .ref m0), (3, .ref o0), (4, .ref e0)]) hx hb dL_law_2493 hl (k := 7) rfl rfl (by decide) rfl (fun ls hl => ?_)
                                                                                            refine lv_goto (tgt := 28) hx hb dL_law_2496 (by decide) ?_
                                                                                            refine W.cs (cells' := cl + 1) (slots' := sl + 6) (by omega) (by omega) ?_
                                                                                            exact ih (i + 3) r_322.2.1 r_322.2.2.1 τ δ r_323.2 r_322.2.2.2 ε (cl + 1) (sl + 6) (by omega) (by omega) _ _ ls hP hD hS (lv_sub hl [3, 4, 5, 6, 7, 0] rfl) hf
                                                                                          · have hf := ip c_326 hf
                                                                                            refine lv_aload_n hx hb dL_law_2408 rfl (lv_at hl 5 rfl) ?_
                                                                                            refine lv_iconst (v := (0 : Int32)) hx hb dL_law_2409 (by decide) ?_
                                                                                            refine va_lald hx hb hE.1 hP 48 2 rfl rfl (vin (by decide)) dL_law_2410 ?_
                                                                                            refine lv_iload hx hb dL_law_2411 (lv_at hl 0 rfl) ?_
                                                                                            refine lv_i2l hx hb dL_law_2413 rfl ?_
                                                                                            refine W.lcmp hx hb dL_law_2414 ?_
                                                                                            refine lv_if_eq (tgt := 2420) hx hb dL_law_2415 (by decide) (fun c_327 => ?_) (fun c_327 => ?_)
                                                                                            · have hf := ip c_327 hf
                                                                                              refine lv_goto (tgt := 2493) hx hb dL_law_2420 (by decide) ?_
                                                                                              refine lv_iinc (v := (i + 3)) (lv' := [(5, .int (i + 3)), (7, .int r_323.1), (6, .int r_322.1), (0, .ref b), (1, .ref c0), (2, .ref m0), (3, .ref o0), (4, .ref e0)]) hx hb dL_law_2493 hl (k := 7) rfl rfl (by decide) rfl (fun ls hl => ?_)
                                                                                              refine lv_goto (tgt := 28) hx hb dL_law_2496 (by decide) ?_
                                                                                              refine W.cs (cells' := cl + 1) (slots' := sl + 6) (by omega) (by omega) ?_
                                                                                              exact ih (i + 3) r_322.2.1 r_322.2.2.1 τ δ r_323.2 r_322.2.2.2 ε (cl + 1) (sl + 6) (by omega) (by omega) _ _ ls hP hD hS (lv_sub hl [3, 4, 5, 6, 7, 0] rfl) hf
                                                                                            · have hf := iq c_327 hf
                                                                                              refine lv_iconst (v := (0 : Int32)) hx hb dL_law_2418 (by decide) ?_
                                                                                              exact absurd (Option.some.inj hf) (by decide)
                                                                                        · have hf := iq c_325 hf
                                                                                          refine lv_iconst (v := (0 : Int32)) hx hb dL_law_2401 (by decide) ?_
                                                                                          exact absurd (Option.some.inj hf) (by decide)
                                                                                      · have hf := iq s_321 hf
                                                                                        by_cases s_328 : ((xs (Int32.toNatClampNeg i)) &&& (63 : Int32)) = (41 : Int32)
                                                                                        · have hf := ip s_328 hf
                                                                                          refine lv_tableIn (off := 2379) (tgt := 2423) hx hb dL_law_44 (by rw [s_328]; decide) (by rw [s_328]; decide) (by rw [s_328]; rfl) (by decide) ?_
                                                                                          refine lv_aload_n hx hb dL_law_2423 rfl (lv_at hl 1 rfl) ?_
                                                                                          obtain ⟨r_329, e_329, hf⟩ := bo hf
                                                                                          refine pcallV (W0 := (wC c0 h k0 x0 d0 ++ (wS g h a1 a2 a3 a4 σ ++ (wH g k0 k1 γ η ++ (wX g x0 x1 τ ++ (wD g d0 d1 d2 δ ++ (wM g m0 m1 m2 m3 m4 μ ++ (wO g o0 ω ++ (wE g e0 ε))))))))) (As := []) (rest := []) [0, 6, 7, 8, 9, 10, 11, 12, 13, 14, 15, 16, 17, 18, 19, 20, 21, 22, 23, 24, 25, 26, 27, 28, 29, 30, 31, 32, 33, 34, 35, 36, 37] 4 0 ⟨hx, hb, hml, hown, hts⟩ hP hE hZ hS (cX6_savedStates_ok l g c0 h k0 x0 d0 k1 γ η e_329) (cwV 0 hts gL_law_X6_savedStates rfl rfl rfl hdX6_savedStates ⟨(Nat.le_of_ble_eq_true rfl), (Nat.le_of_ble_eq_true rfl)⟩) rfl rfl rfl rfl rfl hl.1 rfl (Nat.le_of_ble_eq_true rfl) ⟨(by show _ ≤ (601024 : Nat); omega), (by show _ ≤ (7293034 : Nat); omega)⟩ dL_law_2424 ?_
                                                                                          refine lv_aload_n hx hb dL_law_2427 rfl (lv_at hl 2 rfl) ?_
                                                                                          obtain ⟨r_330, e_330, hf⟩ := bo hf
                                                                                          refine mcallVi (W0 := (wC c0 h k0 x0 d0 ++ (wS g h a1 a2 a3 a4 σ ++ (wH g k0 k1 γ η ++ (wX g x0 x1 τ ++ (wD g d0 d1 d2 δ ++ (wM g m0 m1 m2 m3 m4 μ ++ (wO g o0 ω ++ (wE g e0 ε))))))))) (Wc := (wM g m0 m1 m2 m3 m4 μ)) (Wr := (wC c0 h k0 x0 d0 ++ (wS g h a1 a2 a3 a4 σ ++ (wH g k0 k1 γ η ++ (wX g x0 x1 τ ++ (wD g d0 d1 d2 δ ++ (wO g o0 ω ++ (wE g e0 ε)))))))) (W1 := (wM g m0 m1 m2 m3 m4 r_330.2)) (W2 := (wC c0 h k0 x0 d0 ++ (wS g h a1 a2 a3 a4 σ ++ (wH g k0 k1 γ η ++ (wX g x0 x1 τ ++ (wD g d0 d1 d2 δ ++ (wM g m0 m1 m2 m3 m4 r_330.2 ++ (wO g o0 ω ++ (wE g e0 ε))))))))) (As := []) (rest := [.int r_329]) [43, 44, 45, 46, 47] [0, 1, 2, 3, 4, 5, 6, 7, 8, 9, 10, 11, 12, 13, 14, 15, 16, 17, 18, 19, 20, 21, 22, 23, 24, 25, 26, 27, 28, 29, 30, 31, 32, 33, 34, 35, 36, 37, 38, 39, 40, 41, 42, 48, 49] [0, 1, 2, 3, 4, 5, 6, 7, 8, 9, 10, 11, 12, 13, 14, 15, 16, 17, 18, 19, 20, 21, 22, 23, 24, 25, 26, 27, 28, 29, 30, 31, 32, 33, 34, 35, 36, 37, 38, 39, 40, 41, 42, 45, 46, 47, 48, 49, 43, 44] 5 0 ⟨hx, hb, hml, hown, hts⟩ hP hD hE hZ hS hA (cX7_savedStates_ok l g m0 m1 m2 m3 m4 μ _ e_330) (cwV 0 hts gL_law_X7_savedStates rfl rfl rfl hdX7_savedStates ⟨(Nat.le_of_ble_eq_true rfl), (Nat.le_of_ble_eq_true rfl)⟩) rfl rfl rfl (by decide) (by decide) (by decide) (by decide) rfl rfl rfl rfl hl.1 rfl (Nat.le_of_ble_eq_true rfl) ⟨(by show _ ≤ (601024 : Nat); omega), (by show _ ≤ (7293034 : Nat); omega)⟩ dL_law_2428 (fun H locs hP hD hS => ?_)
                                                                                          refine lv_icmp_eq (tgt := 2493) hx hb dL_law_2431 (by decide) (fun c_331 => ?_) (fun c_331 => ?_)
                                                                                          · have hf := ip c_331 hf
                                                                                            refine lv_iinc (v := (i + 3)) (lv' := [(5, .int (i + 3)), (0, .ref b), (1, .ref c0), (2, .ref m0), (3, .ref o0), (4, .ref e0)]) hx hb dL_law_2493 hl (k := 5) rfl rfl (by decide) rfl (fun ls hl => ?_)
                                                                                            refine lv_goto (tgt := 28) hx hb dL_law_2496 (by decide) ?_
                                                                                            refine W.cs (cells' := cl + 0) (slots' := sl + 0) (by omega) (by omega) ?_
                                                                                            exact ih (i + 3) σ η τ δ r_330.2 ω ε (cl + 0) (sl + 0) (by omega) (by omega) _ _ ls hP hD hS (lv_sub hl [1, 2, 3, 4, 5, 0] rfl) hf
                                                                                          · have hf := iq c_331 hf
                                                                                            refine lv_iconst (v := (0 : Int32)) hx hb dL_law_2434 (by decide) ?_
                                                                                            exact absurd (Option.some.inj hf) (by decide)
                                                                                        · have hf := iq s_328 hf
                                                                                          by_cases s_332 : ((xs (Int32.toNatClampNeg i)) &&& (63 : Int32)) = (42 : Int32)
                                                                                          · have hf := ip s_332 hf
                                                                                            refine lv_tableIn (off := 2392) (tgt := 2436) hx hb dL_law_44 (by rw [s_332]; decide) (by rw [s_332]; decide) (by rw [s_332]; rfl) (by decide) ?_
                                                                                            refine lv_aload_n hx hb dL_law_2436 rfl (lv_at hl 1 rfl) ?_
                                                                                            obtain ⟨r_333, e_333, hf⟩ := bo hf
                                                                                            refine mcallVi (W0 := (wC c0 h k0 x0 d0 ++ (wS g h a1 a2 a3 a4 σ ++ (wH g k0 k1 γ η ++ (wX g x0 x1 τ ++ (wD g d0 d1 d2 δ ++ (wM g m0 m1 m2 m3 m4 μ ++ (wO g o0 ω ++ (wE g e0 ε))))))))) (Wc := (wC c0 h k0 x0 d0 ++ (wS g h a1 a2 a3 a4 σ ++ (wH g k0 k1 γ η)))) (Wr := (wX g x0 x1 τ ++ (wD g d0 d1 d2 δ ++ (wM g m0 m1 m2 m3 m4 μ ++ (wO g o0 ω ++ (wE g e0 ε)))))) (W1 := (wC c0 h k0 x0 d0 ++ (wS g h a1 a2 a3 a4 σ ++ (wH g k0 k1 γ r_333.2)))) (W2 := (wC c0 h k0 x0 d0 ++ (wS g h a1 a2 a3 a4 σ ++ (wH g k0 k1 γ r_333.2 ++ (wX g x0 x1 τ ++ (wD g d0 d1 d2 δ ++ (wM g m0 m1 m2 m3 m4 μ ++ (wO g o0 ω ++ (wE g e0 ε))))))))) (As := []) (rest := []) [0, 1, 2, 3, 4, 5, 6, 7, 8, 9, 10, 11, 12, 13, 14, 15, 16, 17, 18, 19, 20, 21, 22, 23, 24, 25, 26, 27, 28, 29, 30, 31, 32, 33, 34, 35, 36, 37] [38, 39, 40, 41, 42, 43, 44, 45, 46, 47, 48, 49] [12, 13, 14, 15, 16, 17, 18, 19, 20, 21, 22, 23, 24, 25, 26, 27, 28, 29, 30, 31, 32, 33, 34, 35, 36, 37, 38, 39, 40, 41, 42, 43, 44, 45, 46, 47, 48, 49, 0, 1, 2, 3, 4, 5, 6, 7, 8, 9, 10, 11] 4 0 ⟨hx, hb, hml, hown, hts⟩ hP hD hE hZ hS hA (cX6_takeSnapshot_ok l g c0 h k0 x0 d0 a1 a2 a3 a4 k1 γ σ η _ e_333) (cwV 0 hts gL_law_X6_takeSnapshot rfl rfl rfl hdX6_takeSnapshot ⟨(Nat.le_of_ble_eq_true rfl), (Nat.le_of_ble_eq_true rfl)⟩) rfl rfl rfl (by decide) (by decide) (by decide) (by decide) rfl rfl rfl rfl hl.1 rfl (Nat.le_of_ble_eq_true rfl) ⟨(by show _ ≤ (601024 : Nat); omega), (by show _ ≤ (7293034 : Nat); omega)⟩ dL_law_2437 (fun H locs hP hD hS => ?_)
                                                                                            refine lv_aload_n hx hb dL_law_2440 rfl (lv_at hl 2 rfl) ?_
                                                                                            obtain ⟨r_334, e_334, hf⟩ := bo hf
                                                                                            refine mcallVi (W0 := (wC c0 h k0 x0 d0 ++ (wS g h a1 a2 a3 a4 σ ++ (wH g k0 k1 γ r_333.2 ++ (wX g x0 x1 τ ++ (wD g d0 d1 d2 δ ++ (wM g m0 m1 m2 m3 m4 μ ++ (wO g o0 ω ++ (wE g e0 ε))))))))) (Wc := (wM g m0 m1 m2 m3 m4 μ)) (Wr := (wC c0 h k0 x0 d0 ++ (wS g h a1 a2 a3 a4 σ ++ (wH g k0 k1 γ r_333.2 ++ (wX g x0 x1 τ ++ (wD g d0 d1 d2 δ ++ (wO g o0 ω ++ (wE g e0 ε)))))))) (W1 := (wM g m0 m1 m2 m3 m4 r_334.2)) (W2 := (wC c0 h k0 x0 d0 ++ (wS g h a1 a2 a3 a4 σ ++ (wH g k0 k1 γ r_333.2 ++ (wX g x0 x1 τ ++ (wD g d0 d1 d2 δ ++ (wM g m0 m1 m2 m3 m4 r_334.2 ++ (wO g o0 ω ++ (wE g e0 ε))))))))) (As := []) (rest := [.int r_333.1]) [43, 44, 45, 46, 47] [0, 1, 2, 3, 4, 5, 6, 7, 8, 9, 10, 11, 12, 13, 14, 15, 16, 17, 18, 19, 20, 21, 22, 23, 24, 25, 26, 27, 28, 29, 30, 31, 32, 33, 34, 35, 36, 37, 38, 39, 40, 41, 42, 48, 49] [0, 1, 2, 3, 4, 5, 6, 7, 8, 9, 10, 11, 12, 13, 14, 15, 16, 17, 18, 19, 20, 21, 22, 23, 24, 25, 26, 27, 28, 29, 30, 31, 32, 33, 34, 35, 36, 37, 38, 39, 40, 41, 42, 45, 46, 47, 48, 49, 43, 44] 5 0 ⟨hx, hb, hml, hown, hts⟩ hP hD hE hZ hS hA (cX7_takeSnapshot_ok l g m0 m1 m2 m3 m4 μ _ e_334) (cwV 0 hts gL_law_X7_takeSnapshot rfl rfl rfl hdX7_takeSnapshot ⟨(Nat.le_of_ble_eq_true rfl), (Nat.le_of_ble_eq_true rfl)⟩) rfl rfl rfl (by decide) (by decide) (by decide) (by decide) rfl rfl rfl rfl hl.1 rfl (Nat.le_of_ble_eq_true rfl) ⟨(by show _ ≤ (601024 : Nat); omega), (by show _ ≤ (7293034 : Nat); omega)⟩ dL_law_2441 (fun H locs hP hD hS => ?_)
                                                                                            refine lv_icmp_eq (tgt := 2493) hx hb dL_law_2444 (by decide) (fun c_335 => ?_) (fun c_335 => ?_)
                                                                                            · have hf := ip c_335 hf
                                                                                              refine lv_iinc (v := (i + 3)) (lv' := [(5, .int (i + 3)), (0, .ref b), (1, .ref c0), (2, .ref m0), (3, .ref o0), (4, .ref e0)]) hx hb dL_law_2493 hl (k := 5) rfl rfl (by decide) rfl (fun ls hl => ?_)
                                                                                              refine lv_goto (tgt := 28) hx hb dL_law_2496 (by decide) ?_
                                                                                              refine W.cs (cells' := cl + 0) (slots' := sl + 0) (by omega) (by omega) ?_
                                                                                              exact ih (i + 3) σ r_333.2 τ δ r_334.2 ω ε (cl + 0) (sl + 0) (by omega) (by omega) _ _ ls hP hD hS (lv_sub hl [1, 2, 3, 4, 5, 0] rfl) hf
                                                                                            · have hf := iq c_335 hf
                                                                                              refine lv_iconst (v := (0 : Int32)) hx hb dL_law_2447 (by decide) ?_
                                                                                              exact absurd (Option.some.inj hf) (by decide)
                                                                                          · have hf := iq s_332 hf
                                                                                            by_cases s_336 : ((xs (Int32.toNatClampNeg i)) &&& (63 : Int32)) = (43 : Int32)
                                                                                            · have hf := ip s_336 hf
                                                                                              refine lv_tableIn (off := 2405) (tgt := 2449) hx hb dL_law_44 (by rw [s_336]; decide) (by rw [s_336]; decide) (by rw [s_336]; rfl) (by decide) ?_
                                                                                              refine lv_aload_n hx hb dL_law_2449 rfl (lv_at hl 1 rfl) ?_
                                                                                              refine lv_aload_n hx hb dL_law_2450 rfl (lv_at hl 3 rfl) ?_
                                                                                              obtain ⟨r_337, e_337, hf⟩ := bo hf
                                                                                              refine lcallS (W0 := (wC c0 h k0 x0 d0 ++ (wS g h a1 a2 a3 a4 σ ++ (wH g k0 k1 γ η ++ (wX g x0 x1 τ ++ (wD g d0 d1 d2 δ ++ (wM g m0 m1 m2 m3 m4 μ ++ (wO g o0 ω ++ (wE g e0 ε))))))))) (Wc := (wC c0 h k0 x0 d0 ++ (wS g h a1 a2 a3 a4 σ ++ (wH g k0 k1 γ η ++ (wO g o0 ω))))) (Wr := (wX g x0 x1 τ ++ (wD g d0 d1 d2 δ ++ (wM g m0 m1 m2 m3 m4 μ ++ (wE g e0 ε))))) (W1 := (wC c0 h k0 x0 d0 ++ (wS g h a1 a2 a3 a4 r_337.2.1 ++ (wH g k0 k1 γ r_337.2.2.1 ++ (wO g o0 r_337.2.2.2))))) (W2 := (wC c0 h k0 x0 d0 ++ (wS g h a1 a2 a3 a4 r_337.2.1 ++ (wH g k0 k1 γ r_337.2.2.1 ++ (wX g x0 x1 τ ++ (wD g d0 d1 d2 δ ++ (wM g m0 m1 m2 m3 m4 μ ++ (wO g o0 r_337.2.2.2 ++ (wE g e0 ε))))))))) (As := [.ref c0, .ref o0]) (rest := []) [0, 1, 2, 3, 4, 5, 6, 7, 8, 9, 10, 11, 12, 13, 14, 15, 16, 17, 18, 19, 20, 21, 22, 23, 24, 25, 26, 27, 28, 29, 30, 31, 32, 33, 34, 35, 36, 37, 48] [38, 39, 40, 41, 42, 43, 44, 45, 46, 47, 49] [11, 12, 13, 14, 15, 16, 17, 18, 19, 20, 21, 22, 23, 24, 25, 26, 27, 28, 29, 30, 31, 32, 33, 34, 35, 36, 37, 38, 39, 40, 41, 42, 43, 44, 45, 46, 47, 48, 0, 1, 2, 3, 4, 5, 6, 7, 8, 9, 49, 10] ⟨hx, hb, hml, hown, hts⟩ hP hD hE hZ hS hA (cL_restoreSnapshot_ok l hl0 g c0 h k0 x0 d0 a1 a2 a3 a4 k1 o0 γ σ η ω _ e_337) (vx_cwSW 2 hts gL_law_L_restoreSnapshot rfl rfl rfl hdL_restoreSnapshot.2 ⟨(Nat.le_of_ble_eq_true rfl), (Nat.le_of_ble_eq_true rfl)⟩) rfl rfl rfl (by decide) (by decide) (by decide) (by decide) rfl hl.1 rfl (Nat.le_of_ble_eq_true rfl) ⟨(by show _ ≤ (601024 : Nat); omega), (by show _ ≤ (7293034 : Nat); omega)⟩ dL_law_2451 (fun H locs hP hD hS => ?_)
                                                                                              refine lv_istore (lv' := [(6, .int r_337.1), (0, .ref b), (1, .ref c0), (2, .ref m0), (3, .ref o0), (4, .ref e0), (5, .int i)]) hx hb dL_law_2454 hl (by decide) rfl (fun ls hl => ?_)
                                                                                              refine lv_aload_n hx hb dL_law_2456 rfl (lv_at hl 3 rfl) ?_
                                                                                              obtain ⟨r_338, e_338, hf⟩ := bo hf
                                                                                              refine mcallVi (W0 := (wC c0 h k0 x0 d0 ++ (wS g h a1 a2 a3 a4 r_337.2.1 ++ (wH g k0 k1 γ r_337.2.2.1 ++ (wX g x0 x1 τ ++ (wD g d0 d1 d2 δ ++ (wM g m0 m1 m2 m3 m4 μ ++ (wO g o0 r_337.2.2.2 ++ (wE g e0 ε))))))))) (Wc := (wM g m0 m1 m2 m3 m4 μ)) (Wr := (wC c0 h k0 x0 d0 ++ (wS g h a1 a2 a3 a4 r_337.2.1 ++ (wH g k0 k1 γ r_337.2.2.1 ++ (wX g x0 x1 τ ++ (wD g d0 d1 d2 δ ++ (wO g o0 r_337.2.2.2 ++ (wE g e0 ε)))))))) (W1 := (wM g m0 m1 m2 m3 m4 r_338.2)) (W2 := (wC c0 h k0 x0 d0 ++ (wS g h a1 a2 a3 a4 r_337.2.1 ++ (wH g k0 k1 γ r_337.2.2.1 ++ (wX g x0 x1 τ ++ (wD g d0 d1 d2 δ ++ (wM g m0 m1 m2 m3 m4 r_338.2 ++ (wO g o0 r_337.2.2.2 ++ (wE g e0 ε))))))))) (As := []) (rest := []) [43, 44, 45, 46, 47] [0, 1, 2, 3, 4, 5, 6, 7, 8, 9, 10, 11, 12, 13, 14, 15, 16, 17, 18, 19, 20, 21, 22, 23, 24, 25, 26, 27, 28, 29, 30, 31, 32, 33, 34, 35, 36, 37, 38, 39, 40, 41, 42, 48, 49] [0, 1, 2, 3, 4, 5, 6, 7, 8, 9, 10, 11, 12, 13, 14, 15, 16, 17, 18, 19, 20, 21, 22, 23, 24, 25, 26, 27, 28, 29, 30, 31, 32, 33, 34, 35, 36, 37, 38, 39, 40, 41, 42, 45, 46, 47, 48, 49, 43, 44] 5 0 ⟨hx, hb, hml, hown, hts⟩ hP hD hE hZ hS hA (cX7_restoreSnapshot_ok l g m0 m1 m2 m3 m4 μ _ e_338) (cwV 0 hts gL_law_X7_restoreSnapshot rfl rfl rfl hdX7_restoreSnapshot ⟨(Nat.le_of_ble_eq_true rfl), (Nat.le_of_ble_eq_true rfl)⟩) rfl rfl rfl (by decide) (by decide) (by decide) (by decide) rfl rfl rfl rfl hl.1 rfl (Nat.le_of_ble_eq_true rfl) ⟨(by show _ ≤ (601024 : Nat); omega), (by show _ ≤ (7293034 : Nat); omega)⟩ dL_law_2457 (fun H locs hP hD hS => ?_)
                                                                                              refine lv_istore (lv' := [(7, .int r_338.1), (6, .int r_337.1), (0, .ref b), (1, .ref c0), (2, .ref m0), (3, .ref o0), (4, .ref e0), (5, .int i)]) hx hb dL_law_2460 hl (by decide) rfl (fun ls hl => ?_)
                                                                                              refine lv_aload_n hx hb dL_law_2462 rfl (lv_at hl 4 rfl) ?_
                                                                                              obtain ⟨r_339, e_339, hf⟩ := bo hf
                                                                                              refine pcallV (W0 := (wC c0 h k0 x0 d0 ++ (wS g h a1 a2 a3 a4 r_337.2.1 ++ (wH g k0 k1 γ r_337.2.2.1 ++ (wX g x0 x1 τ ++ (wD g d0 d1 d2 δ ++ (wM g m0 m1 m2 m3 m4 r_338.2 ++ (wO g o0 r_337.2.2.2 ++ (wE g e0 ε))))))))) (As := []) (rest := []) [43, 44, 45, 46, 47] 5 0 ⟨hx, hb, hml, hown, hts⟩ hP hE hZ hS (cX7_thrown_ok l g m0 m1 m2 m3 m4 r_338.2 e_339) (cwV 0 hts gL_law_X7_thrown rfl rfl rfl hdX7_thrown ⟨(Nat.le_of_ble_eq_true rfl), (Nat.le_of_ble_eq_true rfl)⟩) rfl rfl rfl rfl rfl hl.1 rfl (Nat.le_of_ble_eq_true rfl) ⟨(by show _ ≤ (601024 : Nat); omega), (by show _ ≤ (7293034 : Nat); omega)⟩ dL_law_2463 ?_
                                                                                              refine lv_iload hx hb dL_law_2466 (lv_at hl 1 rfl) ?_
                                                                                              refine lv_icmp_eq (tgt := 2473) hx hb dL_law_2468 (by decide) (fun c_340 => ?_) (fun c_340 => ?_)
                                                                                              · have hf := ip c_340 hf
                                                                                                refine lv_iload hx hb dL_law_2473 (lv_at hl 1 rfl) ?_
                                                                                                refine lv_if_ne (tgt := 2490) hx hb dL_law_2475 (by decide) (fun c_341 => ?_) (fun c_341 => ?_)
                                                                                                · have hf := iq c_341 hf
                                                                                                  refine lv_goto (tgt := 2493) hx hb dL_law_2490 (by decide) ?_
                                                                                                  refine lv_iinc (v := (i + 3)) (lv' := [(5, .int (i + 3)), (7, .int r_338.1), (6, .int r_337.1), (0, .ref b), (1, .ref c0), (2, .ref m0), (3, .ref o0), (4, .ref e0)]) hx hb dL_law_2493 hl (k := 7) rfl rfl (by decide) rfl (fun ls hl => ?_)
                                                                                                  refine lv_goto (tgt := 28) hx hb dL_law_2496 (by decide) ?_
                                                                                                  refine W.cs (cells' := cl + 1) (slots' := sl + 6) (by omega) (by omega) ?_
                                                                                                  exact ih (i + 3) r_337.2.1 r_337.2.2.1 τ δ r_338.2 r_337.2.2.2 ε (cl + 1) (sl + 6) (by omega) (by omega) _ _ ls hP hD hS (lv_sub hl [3, 4, 5, 6, 7, 0] rfl) hf
                                                                                                · have hf := ip c_341 hf
                                                                                                  refine lv_aload_n hx hb dL_law_2478 rfl (lv_at hl 5 rfl) ?_
                                                                                                  refine lv_iconst (v := (0 : Int32)) hx hb dL_law_2479 (by decide) ?_
                                                                                                  refine va_lald hx hb hE.1 hP 48 2 rfl rfl (vin (by decide)) dL_law_2480 ?_
                                                                                                  refine lv_iload hx hb dL_law_2481 (lv_at hl 0 rfl) ?_
                                                                                                  refine lv_i2l hx hb dL_law_2483 rfl ?_
                                                                                                  refine W.lcmp hx hb dL_law_2484 ?_
                                                                                                  refine lv_if_eq (tgt := 2490) hx hb dL_law_2485 (by decide) (fun c_342 => ?_) (fun c_342 => ?_)
                                                                                                  · have hf := ip c_342 hf
                                                                                                    refine lv_goto (tgt := 2493) hx hb dL_law_2490 (by decide) ?_
                                                                                                    refine lv_iinc (v := (i + 3)) (lv' := [(5, .int (i + 3)), (7, .int r_338.1), (6, .int r_337.1), (0, .ref b), (1, .ref c0), (2, .ref m0), (3, .ref o0), (4, .ref e0)]) hx hb dL_law_2493 hl (k := 7) rfl rfl (by decide) rfl (fun ls hl => ?_)
                                                                                                    refine lv_goto (tgt := 28) hx hb dL_law_2496 (by decide) ?_
                                                                                                    refine W.cs (cells' := cl + 1) (slots' := sl + 6) (by omega) (by omega) ?_
                                                                                                    exact ih (i + 3) r_337.2.1 r_337.2.2.1 τ δ r_338.2 r_337.2.2.2 ε (cl + 1) (sl + 6) (by omega) (by omega) _ _ ls hP hD hS (lv_sub hl [3, 4, 5, 6, 7, 0] rfl) hf
                                                                                                  · have hf := iq c_342 hf
                                                                                                    refine lv_iconst (v := (0 : Int32)) hx hb dL_law_2488 (by decide) ?_
                                                                                                    exact absurd (Option.some.inj hf) (by decide)
                                                                                              · have hf := iq c_340 hf
                                                                                                refine lv_iconst (v := (0 : Int32)) hx hb dL_law_2471 (by decide) ?_
                                                                                                exact absurd (Option.some.inj hf) (by decide)
                                                                                            · have hf := iq s_336 hf
                                                                                              refine lv_tabD (tgt := 2493) hx hb dL_law_44 [0, 1, 2, 3, 4, 5, 6, 7, 8, 9, 10, 11, 12, 13, 14, 15, 16, 17, 18, 19, 20, 21, 22, 23, 24, 25, 26, 27, 28, 29, 30, 31, 32, 33, 34, 35, 36, 37, 38, 39, 40, 41, 42, 43] (by decide) (by decide +kernel) (fun v hv => ?_) (by decide) ?_
                                                                                              · simp only [List.mem_cons, List.not_mem_nil, or_false] at hv
                                                                                                rcases hv with rfl | rfl | rfl | rfl | rfl | rfl | rfl | rfl | rfl | rfl | rfl | rfl | rfl | rfl | rfl | rfl | rfl | rfl | rfl | rfl | rfl | rfl | rfl | rfl | rfl | rfl | rfl | rfl | rfl | rfl | rfl | rfl | rfl | rfl | rfl | rfl | rfl | rfl | rfl | rfl | rfl | rfl | rfl | rfl
                                                                                                · exact lv_neT s_3 (by decide)
                                                                                                · exact lv_neT s_12 (by decide)
                                                                                                · exact lv_neT s_23 (by decide)
                                                                                                · exact lv_neT s_31 (by decide)
                                                                                                · exact lv_neT s_40 (by decide)
                                                                                                · exact lv_neT s_49 (by decide)
                                                                                                · exact lv_neT s_57 (by decide)
                                                                                                · exact lv_neT s_65 (by decide)
                                                                                                · exact lv_neT s_69 (by decide)
                                                                                                · exact lv_neT s_77 (by decide)
                                                                                                · exact lv_neT s_81 (by decide)
                                                                                                · exact lv_neT s_89 (by decide)
                                                                                                · exact lv_neT s_97 (by decide)
                                                                                                · exact lv_neT s_106 (by decide)
                                                                                                · exact lv_neT s_114 (by decide)
                                                                                                · exact lv_neT s_124 (by decide)
                                                                                                · exact lv_neT s_133 (by decide)
                                                                                                · exact lv_neT s_142 (by decide)
                                                                                                · exact lv_neT s_152 (by decide)
                                                                                                · exact lv_neT s_162 (by decide)
                                                                                                · exact lv_neT s_166 (by decide)
                                                                                                · exact lv_neT s_170 (by decide)
                                                                                                · exact lv_neT s_178 (by decide)
                                                                                                · exact lv_neT s_188 (by decide)
                                                                                                · exact lv_neT s_196 (by decide)
                                                                                                · exact lv_neT s_204 (by decide)
                                                                                                · exact lv_neT s_213 (by decide)
                                                                                                · exact lv_neT s_222 (by decide)
                                                                                                · exact lv_neT s_230 (by decide)
                                                                                                · exact lv_neT s_238 (by decide)
                                                                                                · exact lv_neT s_242 (by decide)
                                                                                                · exact lv_neT s_253 (by decide)
                                                                                                · exact lv_neT s_264 (by decide)
                                                                                                · exact lv_neT s_272 (by decide)
                                                                                                · exact lv_neT s_280 (by decide)
                                                                                                · exact lv_neT s_290 (by decide)
                                                                                                · exact lv_neT s_298 (by decide)
                                                                                                · exact lv_neT s_306 (by decide)
                                                                                                · exact lv_neT s_310 (by decide)
                                                                                                · exact lv_neT s_314 (by decide)
                                                                                                · exact lv_neT s_321 (by decide)
                                                                                                · exact lv_neT s_328 (by decide)
                                                                                                · exact lv_neT s_332 (by decide)
                                                                                                · exact lv_neT s_336 (by decide)
                                                                                              refine lv_iinc (v := (i + 3)) (lv' := [(5, .int (i + 3)), (0, .ref b), (1, .ref c0), (2, .ref m0), (3, .ref o0), (4, .ref e0)]) hx hb dL_law_2493 hl (k := 5) rfl rfl (by decide) rfl (fun ls hl => ?_)
                                                                                              refine lv_goto (tgt := 28) hx hb dL_law_2496 (by decide) ?_
                                                                                              refine W.cs (cells' := cl + 0) (slots' := sl + 0) (by omega) (by omega) ?_
                                                                                              exact ih (i + 3) σ η τ δ μ ω ε (cl + 0) (sl + 0) (by omega) (by omega) _ _ ls hP hD hS (lv_sub hl [1, 2, 3, 4, 5, 0] rfl) hf
