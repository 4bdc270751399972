/-! the law's two loops -/
theorem kcL_law_232 : (.constant RL 232 (439041101) : Cond) ∈ wsL_law := by decide +kernel
set_option maxHeartbeats 40000000 in
set_option maxRecDepth 100000 in
theorem law_143 {p : Program} {l : Launch} {e : Env} {s : State} {m : MethodId} {below : List Frame} {meth : Method} {c : Code} {b L : Nat} {xs : Nat → Int32} (hl0 : l.stackTraces = false) (g : Gg) (hE : EV g s) {A : Nat → Prop} (hA : ∀ q : Nat, s.heap.size ≤ q → A q) (hAl : ∀ q : Nat, A q → s.heap.size ≤ q) (hbA : ¬ A b) (hZ : SZ g A s s.heap) (C0 : lw_At p s m meth c b L xs) (c0 h k0 x0 d0 a1 a2 a3 a4 k1 d1 d2 v0 z0 : Nat) (γ : Nat → Nat → Nat) {cap cl sl : Nat} (hcl : cl + 3 * cap ≤ 600172) (hsl : sl + 61 * cap ≤ 7300668) :
    ∀ (u : Nat) (is : Bool) (i : Int32) (σ : Sh) (η : Hi) (δ : Dr) (ν : (Nat → Int32)) (ζ : (Nat → Int64)) (n : Nat) (hn : n ≤ cap) (H : Heap) (locs : List Loc) (ls : Array Slot), va_P g.1 vwCl (wC c0 h k0 x0 d0 ++ (wS g h a1 a2 a3 a4 σ ++ (wH g k0 k1 γ η ++ (wD g d0 d1 d2 δ ++ (wV g v0 ν ++ (wZ g z0 ζ)))))) H → va_D A (wC c0 h k0 x0 d0 ++ (wS g h a1 a2 a3 a4 σ ++ (wH g k0 k1 γ η ++ (wD g d0 d1 d2 δ ++ (wV g v0 ν ++ (wZ g z0 ζ)))))) → va_S A s.heap H locs → lv_has ls 7 [(0, .ref b), (1, .ref c0), (2, .ref v0), (3, .ref z0), (4, .int (b2i is)), (5, .int i)] → fL_law_143 cap u is i σ η δ ν ζ n = some true → W p l e room_1 s m #[Value.ref b] below meth c H locs (cl + 3 * n) (sl + 61 * n) (lw_Z below #[Value.ref b] s) (F0 m 143 ls []) := by
  have C1 := C0
  obtain ⟨hx, hb, hr, hml, hown, hts0, hX, hbl, hlocks, hgv⟩ := C1
  have hts : ∀ w ∈ wsL_law, w.before #[Value.ref b] s = true := fun w h => hts0 w (wsL_law_in w h)
  have hown : s.vm.findClass RL = some m.cls := hown
  have lk3 : ∀ {n : Nat}, n ≤ cap → cl + 3 * n ≤ room_1.cells := fun h => by show _ ≤ (600172 : Nat); omega
  have lk61 : ∀ {n : Nat}, n ≤ cap → sl + 61 * n ≤ room_1.slots := fun h => by show _ ≤ (7300668 : Nat); omega
  have lkc3 : ∀ {n q : Nat}, n + q ≤ cap → cl + 3 * n + 3 * q ≤ room_1.cells := fun h => by show _ ≤ (600172 : Nat); omega
  have lkc61 : ∀ {n q : Nat}, n + q ≤ cap → sl + 61 * n + 61 * q ≤ room_1.slots := fun h => by show _ ≤ (7300668 : Nat); omega
  intro u
  induction u with
  | zero => intro is i σ η δ ν ζ n hn H locs ls hP hD hS hl hf; exact nomatch (show (none : Option Bool) = some _ from hf)
  | succ u ih =>
    intro is i σ η δ ν ζ n hn H locs ls hP hD hS hl hf
    rw [fL_law_143] at hf
    refine lv_iload hx hb dL_law_143 (lv_at hl 5 rfl) ?_
    refine lv_aload_n hx hb dL_law_145 rfl (lv_at hl 2 rfl) ?_
    refine lv_bipush (v := (32 : Int32)) hx hb dL_law_146 (by decide) ?_
    refine va_iald hx hb hE.1 hP 41 0 rfl rfl (vin (by decide)) dL_law_148 ?_
    refine lv_icmp_ge (tgt := 178) hx hb dL_law_149 (by decide) (fun c_1 => ?_) (fun c_1 => ?_)
    · have hf := ip c_1 hf
      refine lv_iload hx hb dL_law_178 (lv_at hl 4 rfl) ?_
      obtain rfl : is = true := Option.some.inj hf
      refine va_forget (fun q hq => hAl _ (hS.2.2 q hq)) ?_
      refine W.widen (k := 600172) (n := 7300668) (by omega) (by omega) ?_
      exact lw_ret (Drawn.sameBut.refl s.drawn lw_cs) hx hb hr hlocks dL_law_180
    · have hf := iq c_1 hf
      refine lv_iload hx hb dL_law_152 (lv_at hl 4 rfl) ?_
      refine lv_beq (tgt := 178) hx hb dL_law_154 (by decide) (fun c_2 => ?_) (fun c_2 => ?_)
      · have hf := iq c_2 hf
        refine lv_iload hx hb dL_law_178 (lv_at hl 4 rfl) ?_
        obtain rfl : is = true := Option.some.inj hf
        refine va_forget (fun q hq => hAl _ (hS.2.2 q hq)) ?_
        refine W.widen (k := 600172) (n := 7300668) (by omega) (by omega) ?_
        exact lw_ret (Drawn.sameBut.refl s.drawn lw_cs) hx hb hr hlocks dL_law_180
      · have hf := ip c_2 hf
        refine lv_aload_n hx hb dL_law_157 rfl (lv_at hl 1 rfl) ?_
        refine lv_aload_n hx hb dL_law_158 rfl (lv_at hl 2 rfl) ?_
        refine lv_aload_n hx hb dL_law_159 rfl (lv_at hl 3 rfl) ?_
        refine lv_iload hx hb dL_law_160 (lv_at hl 5 rfl) ?_
        refine lv_ldc hx hb hown (hts _ kcL_law_232) dL_law_162 ?_
        refine lv_iload hx hb dL_law_164 (lv_at hl 5 rfl) ?_
        refine lv_ishr hx hb dL_law_166 ?_
        obtain ⟨h_3, hf⟩ := ck hf
        obtain ⟨r_3, e_3, hf⟩ := bo hf
        refine mcallSi (W0 := (wC c0 h k0 x0 d0 ++ (wS g h a1 a2 a3 a4 σ ++ (wH g k0 k1 γ η ++ (wD g d0 d1 d2 δ ++ (wV g v0 ν ++ (wZ g z0 ζ))))))) (Wc := (wC c0 h k0 x0 d0 ++ (wS g h a1 a2 a3 a4 σ ++ (wD g d0 d1 d2 δ ++ (wV g v0 ν ++ (wZ g z0 ζ)))))) (Wr := (wH g k0 k1 γ η)) (W1 := (wC c0 h k0 x0 d0 ++ (wS g h a1 a2 a3 a4 σ ++ (wD g d0 d1 d2 r_3.2 ++ (wV g v0 ν ++ (wZ g z0 ζ)))))) (W2 := (wC c0 h k0 x0 d0 ++ (wS g h a1 a2 a3 a4 σ ++ (wH g k0 k1 γ η ++ (wD g d0 d1 d2 r_3.2 ++ (wV g v0 ν ++ (wZ g z0 ζ))))))) (As := [.ref c0, .ref v0, .ref z0, .int i, .int ((439041101 : Int32) >>> (i &&& 31))]) (rest := []) [0, 1, 2, 3, 4, 5, 38, 39, 40, 41, 42] [6, 7, 8, 9, 10, 11, 12, 13, 14, 15, 16, 17, 18, 19, 20, 21, 22, 23, 24, 25, 26, 27, 28, 29, 30, 31, 32, 33, 34, 35, 36, 37] [32, 33, 34, 35, 36, 37, 0, 1, 2, 3, 4, 5, 6, 7, 8, 9, 10, 11, 12, 13, 14, 15, 16, 17, 18, 19, 20, 21, 22, 23, 24, 25, 26, 27, 28, 29, 30, 31, 38, 39, 40, 41, 42] ⟨hx, hb, hml, hown, hts⟩ hP hD hE hZ hS hA (cL_isLine_ok l hl0 g (uI ν i) c0 h k0 x0 d0 a1 a2 a3 a4 d1 d2 v0 z0 σ δ ν ζ i ((439041101 : Int32) >>> (i &&& 31)) _ e_3) (va_cwS 5 hts gL_law_L_isLine rfl rfl rfl hdL_isLine.2 ⟨(Nat.le_of_ble_eq_true rfl), (Nat.le_of_ble_eq_true rfl)⟩) rfl rfl rfl (by decide) (by decide) (by decide) (by decide) rfl hl.1 rfl (Nat.le_of_ble_eq_true rfl) ⟨(lkc3 h_3), (lkc61 h_3)⟩ dL_law_167 (fun H locs hP hD hS => ?_)
        refine W.widen (k := cl + 3 * (n + (uI ν i))) (n := sl + 61 * (n + (uI ν i))) (by omega) (by omega) ?_
        refine lv_istore (lv' := [(4, .int (b2i r_3.1)), (0, .ref b), (1, .ref c0), (2, .ref v0), (3, .ref z0), (5, .int i)]) hx hb dL_law_170 hl (by decide) rfl (fun ls hl => ?_)
        refine lv_iinc (v := (i + 1)) (lv' := [(5, .int (i + 1)), (4, .int (b2i r_3.1)), (0, .ref b), (1, .ref c0), (2, .ref v0), (3, .ref z0)]) hx hb dL_law_172 hl (k := 5) rfl rfl (by decide) rfl (fun ls hl => ?_)
        refine lv_goto (tgt := 143) hx hb dL_law_175 (by decide) ?_
        exact ih r_3.1 (i + 1) σ η r_3.2 ν ζ (n + (uI ν i)) h_3 _ _ ls hP hD hS (lv_sub hl [2, 3, 4, 5, 1, 0] rfl) hf
set_option maxHeartbeats 40000000 in
set_option maxRecDepth 100000 in
theorem law_35 {p : Program} {l : Launch} {e : Env} {s : State} {m : MethodId} {below : List Frame} {meth : Method} {c : Code} {b L : Nat} {xs : Nat → Int32} (hl0 : l.stackTraces = false) (g : Gg) (hE : EV g s) {A : Nat → Prop} (hA : ∀ q : Nat, s.heap.size ≤ q → A q) (hAl : ∀ q : Nat, A q → s.heap.size ≤ q) (hbA : ¬ A b) (hZ : SZ g A s s.heap) (C0 : lw_At p s m meth c b L xs) (c0 h k0 x0 d0 a1 a2 a3 a4 k1 d1 d2 v0 z0 : Nat) (γ : Nat → Nat → Nat) {cap cl sl : Nat} (hcl : cl + 3 * cap ≤ 600172) (hsl : sl + 61 * cap ≤ 7300668) :
    ∀ (u : Nat) (is : Bool) (i : Int32) (σ : Sh) (η : Hi) (δ : Dr) (ν : (Nat → Int32)) (ζ : (Nat → Int64)) (n : Nat) (hn : n ≤ cap) (H : Heap) (locs : List Loc) (ls : Array Slot), va_P g.1 vwCl (wC c0 h k0 x0 d0 ++ (wS g h a1 a2 a3 a4 σ ++ (wH g k0 k1 γ η ++ (wD g d0 d1 d2 δ ++ (wV g v0 ν ++ (wZ g z0 ζ)))))) H → va_D A (wC c0 h k0 x0 d0 ++ (wS g h a1 a2 a3 a4 σ ++ (wH g k0 k1 γ η ++ (wD g d0 d1 d2 δ ++ (wV g v0 ν ++ (wZ g z0 ζ)))))) → va_S A s.heap H locs → lv_has ls 7 [(0, .ref b), (1, .ref c0), (2, .ref v0), (3, .ref z0), (4, .int (b2i is)), (5, .int i)] → fL_law_35 cap L xs u is i σ η δ ν ζ n = some true → W p l e room_1 s m #[Value.ref b] below meth c H locs (cl + 3 * n) (sl + 61 * n) (lw_Z below #[Value.ref b] s) (F0 m 35 ls []) := by
  have C1 := C0
  obtain ⟨hx, hb, hr, hml, hown, hts0, hX, hbl, hlocks, hgv⟩ := C1
  have hts : ∀ w ∈ wsL_law, w.before #[Value.ref b] s = true := fun w h => hts0 w (wsL_law_in w h)
  have hown : s.vm.findClass RL = some m.cls := hown
  have lk3 : ∀ {n : Nat}, n ≤ cap → cl + 3 * n ≤ room_1.cells := fun h => by show _ ≤ (600172 : Nat); omega
  have lk61 : ∀ {n : Nat}, n ≤ cap → sl + 61 * n ≤ room_1.slots := fun h => by show _ ≤ (7300668 : Nat); omega
  have lkc3 : ∀ {n q : Nat}, n + q ≤ cap → cl + 3 * n + 3 * q ≤ room_1.cells := fun h => by show _ ≤ (600172 : Nat); omega
  have lkc61 : ∀ {n q : Nat}, n + q ≤ cap → sl + 61 * n + 61 * q ≤ room_1.slots := fun h => by show _ ≤ (7300668 : Nat); omega
  intro u
  induction u with
  | zero => intro is i σ η δ ν ζ n hn H locs ls hP hD hS hl hf; exact nomatch (show (none : Option Bool) = some _ from hf)
  | succ u ih =>
    intro is i σ η δ ν ζ n hn H locs ls hP hD hS hl hf
    rw [fL_law_35] at hf
    refine lv_iload hx hb dL_law_35 (lv_at hl 5 rfl) ?_
    refine lv_bipush (v := (30 : Int32)) hx hb dL_law_37 (by decide) ?_
    refine lv_icmp_ge (tgt := 140) hx hb dL_law_39 (by decide) (fun c_1 => ?_) (fun c_1 => ?_)
    · have hf := ip c_1 hf
      refine lv_iconst (v := (0 : Int32)) hx hb dL_law_140 (by decide) ?_
      refine lv_istore (lv' := [(5, .int (0 : Int32)), (0, .ref b), (1, .ref c0), (2, .ref v0), (3, .ref z0), (4, .int (b2i is))]) hx hb dL_law_141 hl (by decide) rfl (fun ls hl => ?_)
      exact law_143 hl0 g hE hA hAl hbA hZ C0 c0 h k0 x0 d0 a1 a2 a3 a4 k1 d1 d2 v0 z0 γ hcl hsl FU is (0 : Int32) σ η δ ν ζ n hn _ _ ls hP hD hS (lv_sub hl [1, 2, 3, 4, 5, 0] rfl) hf
    · have hf := iq c_1 hf
      refine lv_iload hx hb dL_law_42 (lv_at hl 4 rfl) ?_
      refine lv_beq (tgt := 140) hx hb dL_law_44 (by decide) (fun c_2 => ?_) (fun c_2 => ?_)
      · have hf := iq c_2 hf
        refine lv_iconst (v := (0 : Int32)) hx hb dL_law_140 (by decide) ?_
        refine lv_istore (lv' := [(5, .int (0 : Int32)), (0, .ref b), (1, .ref c0), (2, .ref v0), (3, .ref z0), (4, .int (b2i is))]) hx hb dL_law_141 hl (by decide) rfl (fun ls hl => ?_)
        exact law_143 hl0 g hE hA hAl hbA hZ C0 c0 h k0 x0 d0 a1 a2 a3 a4 k1 d1 d2 v0 z0 γ hcl hsl FU is (0 : Int32) σ η δ ν ζ n hn _ _ ls hP hD hS (lv_sub hl [1, 2, 3, 4, 5, 0] rfl) hf
      · have hf := ip c_2 hf
        refine lv_aload_n hx hb dL_law_47 rfl (lv_at hl 0 rfl) ?_
        refine lv_iconst (v := (2 : Int32)) hx hb dL_law_48 (by decide) ?_
        refine lv_iload hx hb dL_law_49 (lv_at hl 5 rfl) ?_
        refine lv_imul hx hb dL_law_51 ?_
        obtain ⟨r_3, e_3, hf⟩ := bo hf
        refine ccallS (As := [.ref b, .int ((2 : Int32) * i)]) (rest := []) ⟨hx, hb, hml, hown, hts⟩ hX hbl hbA hS (cL_cell_ok l b L xs ((2 : Int32) * i) e_3) (va_cwS 2 hts gL_law_L_cell rfl rfl rfl hdL_cell.2 ⟨(Nat.le_of_ble_eq_true rfl), (Nat.le_of_ble_eq_true rfl)⟩) rfl hl.1 rfl (Nat.le_of_ble_eq_true rfl) ⟨(lk3 hn), (lk61 hn)⟩ dL_law_52 ?_
        refine lv_aload_n hx hb dL_law_55 rfl (lv_at hl 0 rfl) ?_
        refine lv_iconst (v := (2 : Int32)) hx hb dL_law_56 (by decide) ?_
        refine lv_iload hx hb dL_law_57 (lv_at hl 5 rfl) ?_
        refine lv_imul hx hb dL_law_59 ?_
        refine lv_iconst (v := (1 : Int32)) hx hb dL_law_60 (by decide) ?_
        refine lv_iadd hx hb dL_law_61 ?_
        obtain ⟨r_4, e_4, hf⟩ := bo hf
        refine ccallS (As := [.ref b, .int (((2 : Int32) * i) + (1 : Int32))]) (rest := [.int r_3]) ⟨hx, hb, hml, hown, hts⟩ hX hbl hbA hS (cL_cell_ok l b L xs (((2 : Int32) * i) + (1 : Int32)) e_4) (va_cwS 2 hts gL_law_L_cell rfl rfl rfl hdL_cell.2 ⟨(Nat.le_of_ble_eq_true rfl), (Nat.le_of_ble_eq_true rfl)⟩) rfl hl.1 rfl (Nat.le_of_ble_eq_true rfl) ⟨(lk3 hn), (lk61 hn)⟩ dL_law_62 ?_
        refine lv_bipush (v := (7 : Int32)) hx hb dL_law_65 (by decide) ?_
        refine lv_ishl hx hb dL_law_67 ?_
        refine lv_ixor hx hb dL_law_68 ?_
        refine lv_istore (lv' := [(6, .int (r_3 ^^^ (r_4 <<< ((7 : Int32) &&& 31)))), (0, .ref b), (1, .ref c0), (2, .ref v0), (3, .ref z0), (4, .int (b2i is)), (5, .int i)]) hx hb dL_law_69 hl (by decide) rfl (fun ls hl => ?_)
        refine lv_aload_n hx hb dL_law_71 rfl (lv_at hl 2 rfl) ?_
        refine lv_aload_n hx hb dL_law_72 rfl (lv_at hl 3 rfl) ?_
        refine lv_aload_n hx hb dL_law_73 rfl (lv_at hl 4 rfl) ?_
        refine lv_iload hx hb dL_law_74 (lv_at hl 0 rfl) ?_
        obtain ⟨h_5, hf⟩ := ck hf
        obtain ⟨r_5, e_5, hf⟩ := bo hf
        refine mcallSi (W0 := (wC c0 h k0 x0 d0 ++ (wS g h a1 a2 a3 a4 σ ++ (wH g k0 k1 γ η ++ (wD g d0 d1 d2 δ ++ (wV g v0 ν ++ (wZ g z0 ζ))))))) (Wc := (wC c0 h k0 x0 d0 ++ (wS g h a1 a2 a3 a4 σ ++ (wH g k0 k1 γ η ++ (wV g v0 ν ++ (wZ g z0 ζ)))))) (Wr := (wD g d0 d1 d2 δ)) (W1 := (wC c0 h k0 x0 d0 ++ (wS g h a1 a2 a3 a4 r_5.2.1 ++ (wH g k0 k1 γ r_5.2.2.1 ++ (wV g v0 r_5.2.2.2.1 ++ (wZ g z0 r_5.2.2.2.2)))))) (W2 := (wC c0 h k0 x0 d0 ++ (wS g h a1 a2 a3 a4 r_5.2.1 ++ (wH g k0 k1 γ r_5.2.2.1 ++ (wD g d0 d1 d2 δ ++ (wV g v0 r_5.2.2.2.1 ++ (wZ g z0 r_5.2.2.2.2))))))) (As := [.ref c0, .ref v0, .ref z0, .int (r_3 ^^^ (r_4 <<< ((7 : Int32) &&& 31)))]) (rest := []) [0, 1, 2, 3, 4, 5, 6, 7, 8, 9, 10, 11, 12, 13, 14, 15, 16, 17, 18, 19, 20, 21, 22, 23, 24, 25, 26, 27, 28, 29, 30, 31, 32, 33, 34, 35, 36, 37, 41, 42] [38, 39, 40] [3, 4, 5, 6, 7, 8, 9, 10, 11, 12, 13, 14, 15, 16, 17, 18, 19, 20, 21, 22, 23, 24, 25, 26, 27, 28, 29, 30, 31, 32, 33, 34, 35, 36, 37, 38, 39, 40, 0, 1, 2, 41, 42] ⟨hx, hb, hml, hown, hts⟩ hP hD hE hZ hS hA (cL_acts_ok l hl0 g (uK ν (r_3 ^^^ (r_4 <<< ((7 : Int32) &&& 31)))) c0 h k0 x0 d0 a1 a2 a3 a4 k1 v0 z0 γ σ η ν ζ (r_3 ^^^ (r_4 <<< ((7 : Int32) &&& 31))) _ e_5) (va_cwS 4 hts gL_law_L_acts rfl rfl rfl hdL_acts.2 ⟨(Nat.le_of_ble_eq_true rfl), (Nat.le_of_ble_eq_true rfl)⟩) rfl rfl rfl (by decide) (by decide) (by decide) (by decide) rfl hl.1 rfl (Nat.le_of_ble_eq_true rfl) ⟨(lkc3 h_5), (lkc61 h_5)⟩ dL_law_76 (fun H locs hP hD hS => ?_)
        refine W.widen (k := cl + 3 * (n + (uK ν (r_3 ^^^ (r_4 <<< ((7 : Int32) &&& 31)))))) (n := sl + 61 * (n + (uK ν (r_3 ^^^ (r_4 <<< ((7 : Int32) &&& 31)))))) (by omega) (by omega) ?_
        refine lv_beq (tgt := 131) hx hb dL_law_79 (by decide) (fun c_6 => ?_) (fun c_6 => ?_)
        · have hf := iq c_6 hf
          refine lv_iconst (v := (0 : Int32)) hx hb dL_law_131 (by decide) ?_
          refine lv_istore (lv' := [(4, .int (0 : Int32)), (6, .int (r_3 ^^^ (r_4 <<< ((7 : Int32) &&& 31)))), (0, .ref b), (1, .ref c0), (2, .ref v0), (3, .ref z0), (5, .int i)]) hx hb dL_law_132 hl (by decide) rfl (fun ls hl => ?_)
          refine lv_iinc (v := (i + 1)) (lv' := [(5, .int (i + 1)), (4, .int (0 : Int32)), (6, .int (r_3 ^^^ (r_4 <<< ((7 : Int32) &&& 31)))), (0, .ref b), (1, .ref c0), (2, .ref v0), (3, .ref z0)]) hx hb dL_law_134 hl (k := 6) rfl rfl (by decide) rfl (fun ls hl => ?_)
          refine lv_goto (tgt := 35) hx hb dL_law_137 (by decide) ?_
          exact ih false (i + 1) r_5.2.1 r_5.2.2.1 δ r_5.2.2.2.1 r_5.2.2.2.2 (n + (uK ν (r_3 ^^^ (r_4 <<< ((7 : Int32) &&& 31))))) h_5 _ _ ls hP hD hS (lv_sub hl [3, 4, 5, 6, 1, 0] rfl) hf
        · have hf := ip c_6 hf
          refine lv_aload_n hx hb dL_law_82 rfl (lv_at hl 2 rfl) ?_
          refine lv_aload_n hx hb dL_law_83 rfl (lv_at hl 3 rfl) ?_
          refine lv_aload_n hx hb dL_law_84 rfl (lv_at hl 4 rfl) ?_
          refine lv_iload hx hb dL_law_85 (lv_at hl 0 rfl) ?_
          refine lv_iconst (v := (4 : Int32)) hx hb dL_law_87 (by decide) ?_
          refine lv_ishr hx hb dL_law_88 ?_
          obtain ⟨h_7, hf⟩ := ck hf
          obtain ⟨r_7, e_7, hf⟩ := bo hf
          refine mcallSi (W0 := (wC c0 h k0 x0 d0 ++ (wS g h a1 a2 a3 a4 r_5.2.1 ++ (wH g k0 k1 γ r_5.2.2.1 ++ (wD g d0 d1 d2 δ ++ (wV g v0 r_5.2.2.2.1 ++ (wZ g z0 r_5.2.2.2.2))))))) (Wc := (wC c0 h k0 x0 d0 ++ (wS g h a1 a2 a3 a4 r_5.2.1 ++ (wV g v0 r_5.2.2.2.1 ++ (wZ g z0 r_5.2.2.2.2))))) (Wr := (wH g k0 k1 γ r_5.2.2.1 ++ (wD g d0 d1 d2 δ))) (W1 := (wC c0 h k0 x0 d0 ++ (wS g h a1 a2 a3 a4 r_5.2.1 ++ (wV g v0 r_5.2.2.2.1 ++ (wZ g z0 r_5.2.2.2.2))))) (W2 := (wC c0 h k0 x0 d0 ++ (wS g h a1 a2 a3 a4 r_5.2.1 ++ (wH g k0 k1 γ r_5.2.2.1 ++ (wD g d0 d1 d2 δ ++ (wV g v0 r_5.2.2.2.1 ++ (wZ g z0 r_5.2.2.2.2))))))) (As := [.ref c0, .ref v0, .ref z0, .int ((r_3 ^^^ (r_4 <<< ((7 : Int32) &&& 31))) >>> ((4 : Int32) &&& 31))]) (rest := []) [0, 1, 2, 3, 4, 5, 41, 42] [6, 7, 8, 9, 10, 11, 12, 13, 14, 15, 16, 17, 18, 19, 20, 21, 22, 23, 24, 25, 26, 27, 28, 29, 30, 31, 32, 33, 34, 35, 36, 37, 38, 39, 40] [35, 36, 37, 38, 39, 40, 0, 1, 2, 3, 4, 5, 6, 7, 8, 9, 10, 11, 12, 13, 14, 15, 16, 17, 18, 19, 20, 21, 22, 23, 24, 25, 26, 27, 28, 29, 30, 31, 32, 33, 34, 41, 42] ⟨hx, hb, hml, hown, hts⟩ hP hD hE hZ hS hA (cL_areLines_ok l hl0 g 29 c0 h k0 x0 d0 a1 a2 a3 a4 v0 z0 r_5.2.1 r_5.2.2.2.1 r_5.2.2.2.2 ((r_3 ^^^ (r_4 <<< ((7 : Int32) &&& 31))) >>> ((4 : Int32) &&& 31)) _ e_7) (va_cwS 4 hts gL_law_L_areLines rfl rfl rfl hdL_areLines.2 ⟨(Nat.le_of_ble_eq_true rfl), (Nat.le_of_ble_eq_true rfl)⟩) rfl rfl rfl (by decide) (by decide) (by decide) (by decide) rfl hl.1 rfl (Nat.le_of_ble_eq_true rfl) ⟨(lkc3 h_7), (lkc61 h_7)⟩ dL_law_89 (fun H locs hP hD hS => ?_)
          refine W.widen (k := cl + 3 * ((n + (uK ν (r_3 ^^^ (r_4 <<< ((7 : Int32) &&& 31))))) + 29)) (n := sl + 61 * ((n + (uK ν (r_3 ^^^ (r_4 <<< ((7 : Int32) &&& 31))))) + 29)) (by omega) (by omega) ?_
          refine lv_beq (tgt := 131) hx hb dL_law_92 (by decide) (fun c_8 => ?_) (fun c_8 => ?_)
          · have hf := iq c_8 hf
            refine lv_iconst (v := (0 : Int32)) hx hb dL_law_131 (by decide) ?_
            refine lv_istore (lv' := [(4, .int (0 : Int32)), (6, .int (r_3 ^^^ (r_4 <<< ((7 : Int32) &&& 31)))), (0, .ref b), (1, .ref c0), (2, .ref v0), (3, .ref z0), (5, .int i)]) hx hb dL_law_132 hl (by decide) rfl (fun ls hl => ?_)
            refine lv_iinc (v := (i + 1)) (lv' := [(5, .int (i + 1)), (4, .int (0 : Int32)), (6, .int (r_3 ^^^ (r_4 <<< ((7 : Int32) &&& 31)))), (0, .ref b), (1, .ref c0), (2, .ref v0), (3, .ref z0)]) hx hb dL_law_134 hl (k := 6) rfl rfl (by decide) rfl (fun ls hl => ?_)
            refine lv_goto (tgt := 35) hx hb dL_law_137 (by decide) ?_
            exact ih false (i + 1) r_5.2.1 r_5.2.2.1 δ r_5.2.2.2.1 r_5.2.2.2.2 ((n + (uK ν (r_3 ^^^ (r_4 <<< ((7 : Int32) &&& 31))))) + 29) h_7 _ _ ls hP hD hS (lv_sub hl [3, 4, 5, 6, 1, 0] rfl) hf
          · have hf := ip c_8 hf
            refine lv_aload_n hx hb dL_law_95 rfl (lv_at hl 3 rfl) ?_
            refine lv_bipush (v := (32 : Int32)) hx hb dL_law_96 (by decide) ?_
            refine va_iald hx hb hE.1 hP 41 0 rfl rfl (vin (by decide)) dL_law_98 ?_
            refine lv_if_eq (tgt := 127) hx hb dL_law_99 (by decide) (fun c_9 => ?_) (fun c_9 => ?_)
            · have hf := ip c_9 hf
              refine lv_iconst (v := (1 : Int32)) hx hb dL_law_127 (by decide) ?_
              refine lv_goto (tgt := 132) hx hb dL_law_128 (by decide) ?_
              refine lv_istore (lv' := [(4, .int (1 : Int32)), (6, .int (r_3 ^^^ (r_4 <<< ((7 : Int32) &&& 31)))), (0, .ref b), (1, .ref c0), (2, .ref v0), (3, .ref z0), (5, .int i)]) hx hb dL_law_132 hl (by decide) rfl (fun ls hl => ?_)
              refine lv_iinc (v := (i + 1)) (lv' := [(5, .int (i + 1)), (4, .int (1 : Int32)), (6, .int (r_3 ^^^ (r_4 <<< ((7 : Int32) &&& 31)))), (0, .ref b), (1, .ref c0), (2, .ref v0), (3, .ref z0)]) hx hb dL_law_134 hl (k := 6) rfl rfl (by decide) rfl (fun ls hl => ?_)
              refine lv_goto (tgt := 35) hx hb dL_law_137 (by decide) ?_
              exact ih true (i + 1) r_5.2.1 r_5.2.2.1 δ r_5.2.2.2.1 r_5.2.2.2.2 ((n + (uK ν (r_3 ^^^ (r_4 <<< ((7 : Int32) &&& 31))))) + 29) h_7 _ _ ls hP hD hS (lv_sub hl [3, 4, 5, 6, 1, 0] rfl) hf
            · have hf := iq c_9 hf
              refine lv_aload_n hx hb dL_law_102 rfl (lv_at hl 2 rfl) ?_
              refine lv_aload_n hx hb dL_law_103 rfl (lv_at hl 3 rfl) ?_
              refine lv_aload_n hx hb dL_law_104 rfl (lv_at hl 4 rfl) ?_
              refine lv_iload hx hb dL_law_105 (lv_at hl 0 rfl) ?_
              refine lv_bipush (v := (6 : Int32)) hx hb dL_law_107 (by decide) ?_
              refine lv_ishr hx hb dL_law_109 ?_
              refine lv_aload_n hx hb dL_law_110 rfl (lv_at hl 3 rfl) ?_
              refine lv_bipush (v := (32 : Int32)) hx hb dL_law_111 (by decide) ?_
              refine va_iald hx hb hE.1 hP 41 0 rfl rfl (vin (by decide)) dL_law_113 ?_
              obtain ⟨r_10, e_10, hf⟩ := bo hf
              refine pcallS (W0 := (wC c0 h k0 x0 d0 ++ (wS g h a1 a2 a3 a4 r_5.2.1 ++ (wH g k0 k1 γ r_5.2.2.1 ++ (wD g d0 d1 d2 δ ++ (wV g v0 r_5.2.2.2.1 ++ (wZ g z0 r_5.2.2.2.2))))))) (As := [.int ((r_3 ^^^ (r_4 <<< ((7 : Int32) &&& 31))) >>> ((6 : Int32) &&& 31)), .int (r_5.2.2.2.1 (Int32.toNatClampNeg (32 : Int32)))]) (rest := [.ref z0, .ref v0, .ref c0]) [] ⟨hx, hb, hml, hown, hts⟩ hP hE hZ hS (cL_low_ok l g  ((r_3 ^^^ (r_4 <<< ((7 : Int32) &&& 31))) >>> ((6 : Int32) &&& 31)) (r_5.2.2.2.1 (Int32.toNatClampNeg (32 : Int32))) e_10) (va_cwS 2 hts gL_law_L_low rfl rfl rfl hdL_low.2 ⟨(Nat.le_of_ble_eq_true rfl), (Nat.le_of_ble_eq_true rfl)⟩) rfl rfl hl.1 rfl (Nat.le_of_ble_eq_true rfl) ⟨(lk3 h_7), (lk61 h_7)⟩ dL_law_114 ?_
              refine lv_iload hx hb dL_law_117 (lv_at hl 0 rfl) ?_
              refine lv_iconst (v := (1 : Int32)) hx hb dL_law_119 (by decide) ?_
              refine lv_ishr hx hb dL_law_120 ?_
              obtain ⟨h_11, hf⟩ := ck hf
              obtain ⟨r_11, e_11, hf⟩ := bo hf
              refine mcallSi (W0 := (wC c0 h k0 x0 d0 ++ (wS g h a1 a2 a3 a4 r_5.2.1 ++ (wH g k0 k1 γ r_5.2.2.1 ++ (wD g d0 d1 d2 δ ++ (wV g v0 r_5.2.2.2.1 ++ (wZ g z0 r_5.2.2.2.2))))))) (Wc := (wC c0 h k0 x0 d0 ++ (wS g h a1 a2 a3 a4 r_5.2.1 ++ (wD g d0 d1 d2 δ ++ (wV g v0 r_5.2.2.2.1 ++ (wZ g z0 r_5.2.2.2.2)))))) (Wr := (wH g k0 k1 γ r_5.2.2.1)) (W1 := (wC c0 h k0 x0 d0 ++ (wS g h a1 a2 a3 a4 r_5.2.1 ++ (wD g d0 d1 d2 r_11.2 ++ (wV g v0 r_5.2.2.2.1 ++ (wZ g z0 r_5.2.2.2.2)))))) (W2 := (wC c0 h k0 x0 d0 ++ (wS g h a1 a2 a3 a4 r_5.2.1 ++ (wH g k0 k1 γ r_5.2.2.1 ++ (wD g d0 d1 d2 r_11.2 ++ (wV g v0 r_5.2.2.2.1 ++ (wZ g z0 r_5.2.2.2.2))))))) (As := [.ref c0, .ref v0, .ref z0, .int r_10, .int ((r_3 ^^^ (r_4 <<< ((7 : Int32) &&& 31))) >>> ((1 : Int32) &&& 31))]) (rest := []) [0, 1, 2, 3, 4, 5, 38, 39, 40, 41, 42] [6, 7, 8, 9, 10, 11, 12, 13, 14, 15, 16, 17, 18, 19, 20, 21, 22, 23, 24, 25, 26, 27, 28, 29, 30, 31, 32, 33, 34, 35, 36, 37] [32, 33, 34, 35, 36, 37, 0, 1, 2, 3, 4, 5, 6, 7, 8, 9, 10, 11, 12, 13, 14, 15, 16, 17, 18, 19, 20, 21, 22, 23, 24, 25, 26, 27, 28, 29, 30, 31, 38, 39, 40, 41, 42] ⟨hx, hb, hml, hown, hts⟩ hP hD hE hZ hS hA (cL_isLine_ok l hl0 g (uI r_5.2.2.2.1 r_10) c0 h k0 x0 d0 a1 a2 a3 a4 d1 d2 v0 z0 r_5.2.1 δ r_5.2.2.2.1 r_5.2.2.2.2 r_10 ((r_3 ^^^ (r_4 <<< ((7 : Int32) &&& 31))) >>> ((1 : Int32) &&& 31)) _ e_11) (va_cwS 5 hts gL_law_L_isLine rfl rfl rfl hdL_isLine.2 ⟨(Nat.le_of_ble_eq_true rfl), (Nat.le_of_ble_eq_true rfl)⟩) rfl rfl rfl (by decide) (by decide) (by decide) (by decide) rfl hl.1 rfl (Nat.le_of_ble_eq_true rfl) ⟨(lkc3 h_11), (lkc61 h_11)⟩ dL_law_121 (fun H locs hP hD hS => ?_)
              refine W.widen (k := cl + 3 * (((n + (uK ν (r_3 ^^^ (r_4 <<< ((7 : Int32) &&& 31))))) + 29) + (uI r_5.2.2.2.1 r_10))) (n := sl + 61 * (((n + (uK ν (r_3 ^^^ (r_4 <<< ((7 : Int32) &&& 31))))) + 29) + (uI r_5.2.2.2.1 r_10))) (by omega) (by omega) ?_
              refine lv_beq (tgt := 131) hx hb dL_law_124 (by decide) (fun c_12 => ?_) (fun c_12 => ?_)
              · have hf := iq c_12 hf
                refine lv_iconst (v := (0 : Int32)) hx hb dL_law_131 (by decide) ?_
                refine lv_istore (lv' := [(4, .int (0 : Int32)), (6, .int (r_3 ^^^ (r_4 <<< ((7 : Int32) &&& 31)))), (0, .ref b), (1, .ref c0), (2, .ref v0), (3, .ref z0), (5, .int i)]) hx hb dL_law_132 hl (by decide) rfl (fun ls hl => ?_)
                refine lv_iinc (v := (i + 1)) (lv' := [(5, .int (i + 1)), (4, .int (0 : Int32)), (6, .int (r_3 ^^^ (r_4 <<< ((7 : Int32) &&& 31)))), (0, .ref b), (1, .ref c0), (2, .ref v0), (3, .ref z0)]) hx hb dL_law_134 hl (k := 6) rfl rfl (by decide) rfl (fun ls hl => ?_)
                refine lv_goto (tgt := 35) hx hb dL_law_137 (by decide) ?_
                exact ih false (i + 1) r_5.2.1 r_5.2.2.1 r_11.2 r_5.2.2.2.1 r_5.2.2.2.2 (((n + (uK ν (r_3 ^^^ (r_4 <<< ((7 : Int32) &&& 31))))) + 29) + (uI r_5.2.2.2.1 r_10)) h_11 _ _ ls hP hD hS (lv_sub hl [3, 4, 5, 6, 1, 0] rfl) hf
              · have hf := ip c_12 hf
                refine lv_iconst (v := (1 : Int32)) hx hb dL_law_127 (by decide) ?_
                refine lv_goto (tgt := 132) hx hb dL_law_128 (by decide) ?_
                refine lv_istore (lv' := [(4, .int (1 : Int32)), (6, .int (r_3 ^^^ (r_4 <<< ((7 : Int32) &&& 31)))), (0, .ref b), (1, .ref c0), (2, .ref v0), (3, .ref z0), (5, .int i)]) hx hb dL_law_132 hl (by decide) rfl (fun ls hl => ?_)
                refine lv_iinc (v := (i + 1)) (lv' := [(5, .int (i + 1)), (4, .int (1 : Int32)), (6, .int (r_3 ^^^ (r_4 <<< ((7 : Int32) &&& 31)))), (0, .ref b), (1, .ref c0), (2, .ref v0), (3, .ref z0)]) hx hb dL_law_134 hl (k := 6) rfl rfl (by decide) rfl (fun ls hl => ?_)
                refine lv_goto (tgt := 35) hx hb dL_law_137 (by decide) ?_
                exact ih true (i + 1) r_5.2.1 r_5.2.2.1 r_11.2 r_5.2.2.2.1 r_5.2.2.2.2 (((n + (uK ν (r_3 ^^^ (r_4 <<< ((7 : Int32) &&& 31))))) + 29) + (uI r_5.2.2.2.1 r_10)) h_11 _ _ ls hP hD hS (lv_sub hl [3, 4, 5, 6, 1, 0] rfl) hf
