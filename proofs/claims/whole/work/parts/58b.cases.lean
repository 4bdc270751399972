/-! the law's cases, one by one: the two answer alike, and the loop goes on beside each other -/
theorem lgc (x : Int64) : lg_cmp x x = 0 := by unfold lg_cmp; rw [if_neg (show ¬ x > x from Int64.lt_irrefl), if_pos rfl]
theorem updL_eq (f : Nat → Int64) (k : Nat) (x : Int64) : vp_updL f k x k = x := by unfold vp_updL; rw [if_pos rfl]
theorem lgu (f : Nat → Int64) (k : Nat) (x : Int64) : lg_cmp (vp_updL f k x k) x = 0 := by rw [updL_eq]; exact lgc x
theorem updD_eq (f : Nat → UInt64) (k : Nat) (x : UInt64) : vf_upd f k x k = x := by unfold vf_upd; rw [if_pos rfl]
theorem txr_fx {τ : Tx} {μ μ' : Mo} (X : TXR τ μ) (f : FX μ μ') : TXR τ μ' := by
  obtain ⟨l, t, g, T, Tm⟩ := X
  exact ⟨l, t, g, T, ⟨f.2.trans Tm.1, fun i hi => by rw [f.1]; exact Tm.2 i hi⟩⟩
theorem mem1 {e e1 : String} {c c1 : Int32} (h : (e, c) ∈ [(e1, c1)]) : e = e1 ∧ c = c1 := by
  rcases List.mem_cons.mp h with h | h
  · exact ⟨congrArg Prod.fst h, congrArg Prod.snd h⟩
  · cases h
theorem mem2 {e e1 e2 : String} {c c1 c2 : Int32} (h : (e, c) ∈ [(e1, c1), (e2, c2)]) : (e = e1 ∧ c = c1) ∨ (e = e2 ∧ c = c2) := by
  rcases List.mem_cons.mp h with h | h
  · exact Or.inl ⟨congrArg Prod.fst h, congrArg Prod.snd h⟩
  · exact Or.inr (mem1 h)
theorem mem3 {e e1 e2 e3 : String} {c c1 c2 c3 : Int32} (h : (e, c) ∈ [(e1, c1), (e2, c2), (e3, c3)]) : (e = e1 ∧ c = c1) ∨ (e = e2 ∧ c = c2) ∨ (e = e3 ∧ c = c3) := by
  rcases List.mem_cons.mp h with h | h
  · exact Or.inl ⟨congrArg Prod.fst h, congrArg Prod.snd h⟩
  · exact Or.inr (mem2 h)
abbrev NX : Type := Sh → Hi → Tx → Dr → Mo → (Nat → Int64) → (Nat → UInt64) → Option Bool
def GoesOn (N : NX) : Prop := ∀ σ η τ δ μ ω ε, RR σ η μ → TXR τ μ → N σ η τ δ μ ω ε = some true
section CS
variable {σ : Sh} {η : Hi} {τ : Tx} {δ : Dr} {μ : Mo} {ω : Nat → Int64} {ε : Nat → UInt64} {N : NX}
theorem xcase_err {ε' α β : Type} {e : ε'} {h : ε' → β} {k : α → β} : xcase (Except.error e) h k = h e := rfl
theorem xcase_ok {ε' α β : Type} {v : α} {h : ε' → β} {k : α → β} : xcase (Except.ok v) h k = k v := rfl
theorem th_of (μ : Mo) : fX7_thrown μ = some (M_th μ) := rfl

theorem law_mu {x : Option (Except String (Int32 × Sh × Hi))} {y : Option (Int32 × Mo)} {cs : List (String × Int32)} {E : String → Option (Int32 × Sh × Hi × (Nat → Int64))} (G : GoesOn N) (R : RR σ η μ) (X : TXR τ μ) (h : MU x y μ cs) (hE : ∀ e c, (e, c) ∈ cs → E e = some (c, σ, η, ω) ∧ ¬ c = 0) :
    ((x.bind fun r_1 => xcase r_1 E (fun v_1 => (some ((0 : Int32), v_1.2.1, v_1.2.2, (vp_updL ω (Int32.toNatClampNeg (0 : Int32)) (Int32.toInt64 v_1.1)))))).bind fun r_6 => (y.bind fun r_7 => ((fX7_thrown r_7.2).bind fun r_8 => (if r_8 = r_6.1 then (if r_6.1 = 0 then (if (lg_cmp (r_6.2.2.2 (Int32.toNatClampNeg (0 : Int32))) (Int32.toInt64 r_7.1)) = 0 then N r_6.2.1 r_6.2.2.1 τ δ r_7.2 r_6.2.2.2 ε else (some false)) else N r_6.2.1 r_6.2.2.1 τ δ r_7.2 r_6.2.2.2 ε) else (some false))))) = some true := by
  rcases h with ⟨e, c, v, hm, hx, hy⟩ | ⟨v, σ', η', μ', hx, hy, ht, R', F⟩
  · obtain ⟨h1, h2⟩ := hE e c hm
    rw [hx, hy, Option.bind_some, show xcase (Except.error e) E (fun v_1 : Int32 × Sh × Hi => (some ((0 : Int32), v_1.2.1, v_1.2.2, (vp_updL ω (Int32.toNatClampNeg (0 : Int32)) (Int32.toInt64 v_1.1))))) = E e from rfl, h1, Option.bind_some, Option.bind_some, th_of, Option.bind_some, if_pos (show M_th (M_th' μ c) = c from rfl), if_neg h2]
    exact G _ _ _ _ _ _ _ (rr_th R) (txr_fx X ⟨rfl, rfl⟩)
  · rw [hx, hy, Option.bind_some, show xcase (Except.ok (v, σ', η')) E (fun v_1 : Int32 × Sh × Hi => (some ((0 : Int32), v_1.2.1, v_1.2.2, (vp_updL ω (Int32.toNatClampNeg (0 : Int32)) (Int32.toInt64 v_1.1))))) = some ((0 : Int32), σ', η', (vp_updL ω (Int32.toNatClampNeg (0 : Int32)) (Int32.toInt64 v))) from rfl, Option.bind_some, Option.bind_some, th_of, Option.bind_some, if_pos (show M_th μ' = 0 from ht), if_pos rfl, if_pos (lgu _ _ _)]
    exact G _ _ _ _ _ _ _ R' (txr_fx X F)
theorem law_mub {x : Option (Except String (Bool × Sh × Hi))} {y : Option (Bool × Mo)} {cs : List (String × Int32)} {E : String → Option (Int32 × Sh × Hi × (Nat → Int64))} (G : GoesOn N) (R : RR σ η μ) (X : TXR τ μ) (h : MU x y μ cs) (hE : ∀ e c, (e, c) ∈ cs → E e = some (c, σ, η, ω) ∧ ¬ c = 0) :
    ((x.bind fun r_1 => xcase r_1 E (fun v_1 => (if v_1.1 = true then (some ((0 : Int32), v_1.2.1, v_1.2.2, (vp_updL ω (Int32.toNatClampNeg (0 : Int32)) (1 : Int64)))) else (some ((0 : Int32), v_1.2.1, v_1.2.2, (vp_updL ω (Int32.toNatClampNeg (0 : Int32)) (0 : Int64))))))).bind fun r_15 => (y.bind fun r_16 => ((fX7_thrown r_16.2).bind fun r_17 => (if r_17 = r_15.1 then (if r_15.1 = 0 then (if r_16.1 = true then (if (lg_cmp (r_15.2.2.2 (Int32.toNatClampNeg (0 : Int32))) (1 : Int64)) = 0 then N r_15.2.1 r_15.2.2.1 τ δ r_16.2 r_15.2.2.2 ε else (some false)) else (if (lg_cmp (r_15.2.2.2 (Int32.toNatClampNeg (0 : Int32))) (0 : Int64)) = 0 then N r_15.2.1 r_15.2.2.1 τ δ r_16.2 r_15.2.2.2 ε else (some false))) else N r_15.2.1 r_15.2.2.1 τ δ r_16.2 r_15.2.2.2 ε) else (some false))))) = some true := by
  rcases h with ⟨e, c, v, hm, hx, hy⟩ | ⟨v, σ', η', μ', hx, hy, ht, R', F⟩
  · obtain ⟨h1, h2⟩ := hE e c hm
    rw [hx, hy, Option.bind_some, show xcase (Except.error e) E (fun v_1 : Bool × Sh × Hi => (if v_1.1 = true then (some ((0 : Int32), v_1.2.1, v_1.2.2, (vp_updL ω (Int32.toNatClampNeg (0 : Int32)) (1 : Int64)))) else (some ((0 : Int32), v_1.2.1, v_1.2.2, (vp_updL ω (Int32.toNatClampNeg (0 : Int32)) (0 : Int64)))))) = E e from rfl, h1, Option.bind_some, Option.bind_some, th_of, Option.bind_some, if_pos (show M_th (M_th' μ c) = c from rfl), if_neg h2]
    exact G _ _ _ _ _ _ _ (rr_th R) (txr_fx X ⟨rfl, rfl⟩)
  · cases v with
    | true =>
      rw [hx, hy, Option.bind_some, show xcase (Except.ok (true, σ', η')) E (fun v_1 : Bool × Sh × Hi => (if v_1.1 = true then (some ((0 : Int32), v_1.2.1, v_1.2.2, (vp_updL ω (Int32.toNatClampNeg (0 : Int32)) (1 : Int64)))) else (some ((0 : Int32), v_1.2.1, v_1.2.2, (vp_updL ω (Int32.toNatClampNeg (0 : Int32)) (0 : Int64)))))) = some ((0 : Int32), σ', η', (vp_updL ω (Int32.toNatClampNeg (0 : Int32)) (1 : Int64))) from rfl, Option.bind_some, Option.bind_some, th_of, Option.bind_some, if_pos (show M_th μ' = 0 from ht), if_pos rfl, if_pos rfl, if_pos (lgu _ _ _)]
      exact G _ _ _ _ _ _ _ R' (txr_fx X F)
    | false =>
      rw [hx, hy, Option.bind_some, show xcase (Except.ok (false, σ', η')) E (fun v_1 : Bool × Sh × Hi => (if v_1.1 = true then (some ((0 : Int32), v_1.2.1, v_1.2.2, (vp_updL ω (Int32.toNatClampNeg (0 : Int32)) (1 : Int64)))) else (some ((0 : Int32), v_1.2.1, v_1.2.2, (vp_updL ω (Int32.toNatClampNeg (0 : Int32)) (0 : Int64)))))) = some ((0 : Int32), σ', η', (vp_updL ω (Int32.toNatClampNeg (0 : Int32)) (0 : Int64))) from rfl, Option.bind_some, Option.bind_some, th_of, Option.bind_some, if_pos (show M_th μ' = 0 from ht), if_pos rfl, if_neg nft, if_pos (lgu _ _ _)]
      exact G _ _ _ _ _ _ _ R' (txr_fx X F)
theorem law_ri2 {x : Option (Except String Int32)} {y : Option (Int32 × Mo)} {E : String → Option (Int32 × (Nat → Int64))} (G : GoesOn N) (R : RR σ η μ) (X : TXR τ μ) (h : RI x y μ ∨ ∃ e c v, E e = some (c, ω) ∧ ¬ c = 0 ∧ x = some (.error e) ∧ y = some (v, M_th' μ c)) (hE : E "java/lang/IndexOutOfBoundsException" = some ((1 : Int32), ω)) :
    ((x.bind fun r_1 => xcase r_1 E (fun v_1 => (some ((0 : Int32), (vp_updL ω (Int32.toNatClampNeg (0 : Int32)) (Int32.toInt64 v_1)))))).bind fun r_83 => (y.bind fun r_84 => ((fX7_thrown r_84.2).bind fun r_85 => (if r_85 = r_83.1 then (if r_83.1 = 0 then (if (lg_cmp (r_83.2 (Int32.toNatClampNeg (0 : Int32))) (Int32.toInt64 r_84.1)) = 0 then N σ η τ δ r_84.2 r_83.2 ε else (some false)) else N σ η τ δ r_84.2 r_83.2 ε) else (some false))))) = some true := by
  have bad : ∀ e c v, E e = some (c, ω) → ¬ c = 0 → x = some (.error e) → y = some (v, M_th' μ c) → _ := fun e c v h1 h2 hx hy => (by
    rw [hx, hy, Option.bind_some, show xcase (Except.error e) E (fun v_1 : Int32 => (some ((0 : Int32), (vp_updL ω (Int32.toNatClampNeg (0 : Int32)) (Int32.toInt64 v_1))))) = E e from rfl, h1, Option.bind_some, Option.bind_some, th_of, Option.bind_some, if_pos (show M_th (M_th' μ c) = c from rfl), if_neg h2]
    exact G _ _ _ _ _ _ _ (rr_th R) (txr_fx X ⟨rfl, rfl⟩) : ((x.bind fun r_1 => xcase r_1 E (fun v_1 => (some ((0 : Int32), (vp_updL ω (Int32.toNatClampNeg (0 : Int32)) (Int32.toInt64 v_1)))))).bind fun r_83 => (y.bind fun r_84 => ((fX7_thrown r_84.2).bind fun r_85 => (if r_85 = r_83.1 then (if r_83.1 = 0 then (if (lg_cmp (r_83.2 (Int32.toNatClampNeg (0 : Int32))) (Int32.toInt64 r_84.1)) = 0 then N σ η τ δ r_84.2 r_83.2 ε else (some false)) else N σ η τ δ r_84.2 r_83.2 ε) else (some false))))) = some true)
  rcases h with (⟨hx, v, hy⟩ | ⟨v, hx, hy⟩) | ⟨e, c, v, h1, h2, hx, hy⟩
  · exact bad _ 1 v hE (by decide) hx hy
  · rw [hx, hy, Option.bind_some, show xcase (Except.ok v) E (fun v_1 : Int32 => (some ((0 : Int32), (vp_updL ω (Int32.toNatClampNeg (0 : Int32)) (Int32.toInt64 v_1))))) = some ((0 : Int32), (vp_updL ω (Int32.toNatClampNeg (0 : Int32)) (Int32.toInt64 v))) from rfl, Option.bind_some, Option.bind_some, th_of, Option.bind_some, if_pos (show M_th (M_th' μ (0 : Int32)) = 0 from rfl), if_pos rfl, if_pos (lgu _ _ _)]
    exact G _ _ _ _ _ _ _ (rr_th R) (txr_fx X ⟨rfl, rfl⟩)
  · exact bad e c v h1 h2 hx hy
theorem law_rb {x : Option (Except String Bool)} {y : Option (Bool × Mo)} {E : String → Option (Int32 × (Nat → Int64))} (G : GoesOn N) (R : RR σ η μ) (X : TXR τ μ) (h : RB x y μ) (hE : E "java/lang/IndexOutOfBoundsException" = some ((1 : Int32), ω)) :
    ((x.bind fun r_1 => xcase r_1 E (fun v_1 => (if v_1 = true then (some ((0 : Int32), (vp_updL ω (Int32.toNatClampNeg (0 : Int32)) (1 : Int64)))) else (some ((0 : Int32), (vp_updL ω (Int32.toNatClampNeg (0 : Int32)) (0 : Int64))))))).bind fun r_116 => (y.bind fun r_117 => ((fX7_thrown r_117.2).bind fun r_118 => (if r_118 = r_116.1 then (if r_116.1 = 0 then (if r_117.1 = true then (if (lg_cmp (r_116.2 (Int32.toNatClampNeg (0 : Int32))) (1 : Int64)) = 0 then N σ η τ δ r_117.2 r_116.2 ε else (some false)) else (if (lg_cmp (r_116.2 (Int32.toNatClampNeg (0 : Int32))) (0 : Int64)) = 0 then N σ η τ δ r_117.2 r_116.2 ε else (some false))) else N σ η τ δ r_117.2 r_116.2 ε) else (some false))))) = some true := by
  rcases h with ⟨hx, v, hy⟩ | ⟨v, hx, hy⟩
  · rw [hx, hy, Option.bind_some, show xcase (Except.error "java/lang/IndexOutOfBoundsException") E (fun v_1 : Bool => (if v_1 = true then (some ((0 : Int32), (vp_updL ω (Int32.toNatClampNeg (0 : Int32)) (1 : Int64)))) else (some ((0 : Int32), (vp_updL ω (Int32.toNatClampNeg (0 : Int32)) (0 : Int64)))))) = E "java/lang/IndexOutOfBoundsException" from rfl, hE, Option.bind_some, Option.bind_some, th_of, Option.bind_some, if_pos (show M_th (M_th' μ (1 : Int32)) = 1 from rfl), if_neg n10]
    exact G _ _ _ _ _ _ _ (rr_th R) (txr_fx X ⟨rfl, rfl⟩)
  · cases v with
    | true =>
      rw [hx, hy, Option.bind_some, show xcase (Except.ok true) E (fun v_1 : Bool => (if v_1 = true then (some ((0 : Int32), (vp_updL ω (Int32.toNatClampNeg (0 : Int32)) (1 : Int64)))) else (some ((0 : Int32), (vp_updL ω (Int32.toNatClampNeg (0 : Int32)) (0 : Int64)))))) = some ((0 : Int32), (vp_updL ω (Int32.toNatClampNeg (0 : Int32)) (1 : Int64))) from rfl, Option.bind_some, Option.bind_some, th_of, Option.bind_some, if_pos (show M_th (M_th' μ (0 : Int32)) = 0 from rfl), if_pos rfl, if_pos rfl, if_pos (lgu _ _ _)]
      exact G _ _ _ _ _ _ _ (rr_th R) (txr_fx X ⟨rfl, rfl⟩)
    | false =>
      rw [hx, hy, Option.bind_some, show xcase (Except.ok false) E (fun v_1 : Bool => (if v_1 = true then (some ((0 : Int32), (vp_updL ω (Int32.toNatClampNeg (0 : Int32)) (1 : Int64)))) else (some ((0 : Int32), (vp_updL ω (Int32.toNatClampNeg (0 : Int32)) (0 : Int64)))))) = some ((0 : Int32), (vp_updL ω (Int32.toNatClampNeg (0 : Int32)) (0 : Int64))) from rfl, Option.bind_some, Option.bind_some, th_of, Option.bind_some, if_pos (show M_th (M_th' μ (0 : Int32)) = 0 from rfl), if_pos rfl, if_neg nft, if_pos (lgu _ _ _)]
      exact G _ _ _ _ _ _ _ (rr_th R) (txr_fx X ⟨rfl, rfl⟩)
theorem law_rd {x : Option (Except String UInt64)} {y : Option (UInt64 × Mo)} {E : String → Option (Int32 × (Nat → UInt64))} (G : GoesOn N) (R : RR σ η μ) (X : TXR τ μ) (h : RD x y μ) (hE : E "java/lang/IndexOutOfBoundsException" = some ((1 : Int32), ε)) :
    ((x.bind fun r_1 => xcase r_1 E (fun v_1 => (some ((0 : Int32), (vf_upd ε (Int32.toNatClampNeg (0 : Int32)) v_1))))).bind fun r_144 => (y.bind fun r_145 => ((fX7_thrown r_145.2).bind fun r_146 => (if r_146 = r_144.1 then (if r_144.1 = 0 then (if (Op.cmpValue (FP.dcmp (r_144.2 (Int32.toNatClampNeg (0 : Int32))) r_145.1) .l) = 0 then N σ η τ δ r_145.2 ω r_144.2 else (if (Op.cmpValue (FP.dcmp (r_144.2 (Int32.toNatClampNeg (0 : Int32))) (r_144.2 (Int32.toNatClampNeg (0 : Int32)))) .l) = 0 then (some false) else (if (Op.cmpValue (FP.dcmp r_145.1 r_145.1) .l) = 0 then (some false) else N σ η τ δ r_145.2 ω r_144.2))) else N σ η τ δ r_145.2 ω r_144.2) else (some false))))) = some true := by
  rcases h with ⟨hx, v, hy⟩ | ⟨v, hx, hy⟩
  · rw [hx, hy, Option.bind_some, show xcase (Except.error "java/lang/IndexOutOfBoundsException") E (fun v_1 : UInt64 => (some ((0 : Int32), (vf_upd ε (Int32.toNatClampNeg (0 : Int32)) v_1)))) = E "java/lang/IndexOutOfBoundsException" from rfl, hE, Option.bind_some, Option.bind_some, th_of, Option.bind_some, if_pos (show M_th (M_th' μ (1 : Int32)) = 1 from rfl), if_neg n10]
    exact G _ _ _ _ _ _ _ (rr_th R) (txr_fx X ⟨rfl, rfl⟩)
  · rw [hx, hy, Option.bind_some, show xcase (Except.ok v) E (fun v_1 : UInt64 => (some ((0 : Int32), (vf_upd ε (Int32.toNatClampNeg (0 : Int32)) v_1)))) = some ((0 : Int32), (vf_upd ε (Int32.toNatClampNeg (0 : Int32)) v)) from rfl, Option.bind_some, Option.bind_some, th_of, Option.bind_some, if_pos (show M_th (M_th' μ (0 : Int32)) = 0 from rfl), if_pos rfl]
    have g := G σ η τ δ (M_th' μ (0 : Int32)) ω (vf_upd ε (Int32.toNatClampNeg (0 : Int32)) v) (rr_th R) (txr_fx X ⟨rfl, rfl⟩)
    have gen : ∀ w : UInt64, w = v → (if (Op.cmpValue (FP.dcmp w v) .l) = 0 then N σ η τ δ (M_th' μ (0 : Int32)) ω (vf_upd ε (Int32.toNatClampNeg (0 : Int32)) v) else (if (Op.cmpValue (FP.dcmp w w) .l) = 0 then (some false) else (if (Op.cmpValue (FP.dcmp v v) .l) = 0 then (some false) else N σ η τ δ (M_th' μ (0 : Int32)) ω (vf_upd ε (Int32.toNatClampNeg (0 : Int32)) v)))) = some true := by
      intro w hw
      subst hw
      by_cases q : (Op.cmpValue (FP.dcmp w w) .l) = 0
      · rw [if_pos q]; exact g
      · rw [if_neg q, if_neg q, if_neg q]; exact g
    exact gen (vf_upd ε (Int32.toNatClampNeg (0 : Int32)) v (Int32.toNatClampNeg (0 : Int32))) (updD_eq _ _ _)
theorem law_sp {x : Option (Except String (Bool × Dr))} {y : Option (Bool × Mo)} {E : String → Option (Int32 × Dr × (Nat → Int64))} (G : GoesOn N) (R : RR σ η μ) (X : TXR τ μ) (h : (x = some (.error "java/lang/IndexOutOfBoundsException") ∧ ∃ b, y = some (b, M_th' μ (1 : Int32))) ∨ (∃ b δ', x = some (.ok (b, δ')) ∧ y = some (b, M_th' μ (0 : Int32)))) (hE : E "java/lang/IndexOutOfBoundsException" = some ((1 : Int32), δ, ω)) :
    ((x.bind fun r_1 => xcase r_1 E (fun v_1 => (if v_1.1 = true then (some ((0 : Int32), v_1.2, (vp_updL ω (Int32.toNatClampNeg (0 : Int32)) (1 : Int64)))) else (some ((0 : Int32), v_1.2, (vp_updL ω (Int32.toNatClampNeg (0 : Int32)) (0 : Int64))))))).bind fun r_256 => (y.bind fun r_257 => ((fX7_thrown r_257.2).bind fun r_258 => (if r_258 = r_256.1 then (if r_256.1 = 0 then (if r_257.1 = true then (if (lg_cmp (r_256.2.2 (Int32.toNatClampNeg (0 : Int32))) (1 : Int64)) = 0 then N σ η τ r_256.2.1 r_257.2 r_256.2.2 ε else (some false)) else (if (lg_cmp (r_256.2.2 (Int32.toNatClampNeg (0 : Int32))) (0 : Int64)) = 0 then N σ η τ r_256.2.1 r_257.2 r_256.2.2 ε else (some false))) else N σ η τ r_256.2.1 r_257.2 r_256.2.2 ε) else (some false))))) = some true := by
  rcases h with ⟨hx, v, hy⟩ | ⟨v, δ', hx, hy⟩
  · rw [hx, hy, Option.bind_some, show xcase (Except.error "java/lang/IndexOutOfBoundsException") E (fun v_1 : Bool × Dr => (if v_1.1 = true then (some ((0 : Int32), v_1.2, (vp_updL ω (Int32.toNatClampNeg (0 : Int32)) (1 : Int64)))) else (some ((0 : Int32), v_1.2, (vp_updL ω (Int32.toNatClampNeg (0 : Int32)) (0 : Int64)))))) = E "java/lang/IndexOutOfBoundsException" from rfl, hE, Option.bind_some, Option.bind_some, th_of, Option.bind_some, if_pos (show M_th (M_th' μ (1 : Int32)) = 1 from rfl), if_neg n10]
    exact G _ _ _ _ _ _ _ (rr_th R) (txr_fx X ⟨rfl, rfl⟩)
  · cases v with
    | true =>
      rw [hx, hy, Option.bind_some, show xcase (Except.ok (true, δ')) E (fun v_1 : Bool × Dr => (if v_1.1 = true then (some ((0 : Int32), v_1.2, (vp_updL ω (Int32.toNatClampNeg (0 : Int32)) (1 : Int64)))) else (some ((0 : Int32), v_1.2, (vp_updL ω (Int32.toNatClampNeg (0 : Int32)) (0 : Int64)))))) = some ((0 : Int32), δ', (vp_updL ω (Int32.toNatClampNeg (0 : Int32)) (1 : Int64))) from rfl, Option.bind_some, Option.bind_some, th_of, Option.bind_some, if_pos (show M_th (M_th' μ (0 : Int32)) = 0 from rfl), if_pos rfl, if_pos rfl, if_pos (lgu _ _ _)]
      exact G _ _ _ _ _ _ _ (rr_th R) (txr_fx X ⟨rfl, rfl⟩)
    | false =>
      rw [hx, hy, Option.bind_some, show xcase (Except.ok (false, δ')) E (fun v_1 : Bool × Dr => (if v_1.1 = true then (some ((0 : Int32), v_1.2, (vp_updL ω (Int32.toNatClampNeg (0 : Int32)) (1 : Int64)))) else (some ((0 : Int32), v_1.2, (vp_updL ω (Int32.toNatClampNeg (0 : Int32)) (0 : Int64)))))) = some ((0 : Int32), δ', (vp_updL ω (Int32.toNatClampNeg (0 : Int32)) (0 : Int64))) from rfl, Option.bind_some, Option.bind_some, th_of, Option.bind_some, if_pos (show M_th (M_th' μ (0 : Int32)) = 0 from rfl), if_pos rfl, if_neg nft, if_pos (lgu _ _ _)]
      exact G _ _ _ _ _ _ _ (rr_th R) (txr_fx X ⟨rfl, rfl⟩)

theorem case_0 (G : GoesOn N) (R : RR σ η μ) (X : TXR τ μ) (p1 : Int32) (p2 : Int32) : ((fL_begin σ η ω p1 p2).bind fun r_6 => ((fX7_begin μ p1 p2).bind fun r_7 => ((fX7_thrown r_7.2).bind fun r_8 => (if r_8 = r_6.1 then (if r_6.1 = 0 then (if (lg_cmp (r_6.2.2.2 (Int32.toNatClampNeg (0 : Int32))) (Int32.toInt64 r_7.1)) = 0 then N r_6.2.1 r_6.2.2.1 τ δ r_7.2 r_6.2.2.2 ε else (some false)) else N r_6.2.1 r_6.2.2.1 τ δ r_7.2 r_6.2.2.2 ε) else (some false))))) = some true := by
  obtain ⟨z, hz1, hz2, rfl⟩ := iI_of p1
  obtain ⟨w, hw1, hw2, rfl⟩ := iI_of p2
  unfold fL_begin
  exact law_mu G R X (mu_begin R ⟨hz1, hz2⟩ ⟨hw1, hw2⟩) (fun e c hm => by
    rcases mem3 hm with ⟨rfl, rfl⟩ | ⟨rfl, rfl⟩ | ⟨rfl, rfl⟩
    · exact ⟨if_pos rfl, by decide⟩
    · exact ⟨(if_neg (by decide)).trans (if_pos rfl), by decide⟩
    · exact ⟨(if_neg (by decide)).trans ((if_neg (by decide)).trans (if_pos rfl)), by decide⟩)

theorem case_1 (G : GoesOn N) (R : RR σ η μ) (X : TXR τ μ) (p1 : Int32) (p2 : Int32) : ((fL_step σ η ω p1 p2).bind fun r_15 => ((fX7_step μ p1 p2).bind fun r_16 => ((fX7_thrown r_16.2).bind fun r_17 => (if r_17 = r_15.1 then (if r_15.1 = 0 then (if r_16.1 = true then (if (lg_cmp (r_15.2.2.2 (Int32.toNatClampNeg (0 : Int32))) (1 : Int64)) = 0 then N r_15.2.1 r_15.2.2.1 τ δ r_16.2 r_15.2.2.2 ε else (some false)) else (if (lg_cmp (r_15.2.2.2 (Int32.toNatClampNeg (0 : Int32))) (0 : Int64)) = 0 then N r_15.2.1 r_15.2.2.1 τ δ r_16.2 r_15.2.2.2 ε else (some false))) else N r_15.2.1 r_15.2.2.1 τ δ r_16.2 r_15.2.2.2 ε) else (some false))))) = some true := by
  obtain ⟨z, hz1, hz2, rfl⟩ := iI_of p1
  obtain ⟨w, hw1, hw2, rfl⟩ := iI_of p2
  unfold fL_step
  exact law_mub G R X (mu_step R ⟨hz1, hz2⟩ ⟨hw1, hw2⟩) (fun e c hm => by
    rcases mem3 hm with ⟨rfl, rfl⟩ | ⟨rfl, rfl⟩ | ⟨rfl, rfl⟩
    · exact ⟨if_pos rfl, by decide⟩
    · exact ⟨(if_neg (by decide)).trans (if_pos rfl), by decide⟩
    · exact ⟨(if_neg (by decide)).trans ((if_neg (by decide)).trans (if_pos rfl)), by decide⟩)

theorem case_2 (G : GoesOn N) (R : RR σ η μ) (X : TXR τ μ) (p1 : Int32) : ((fL_wipe σ η ω p1).bind fun r_25 => ((fX7_wipe μ p1).bind fun r_26 => ((fX7_thrown r_26.2).bind fun r_27 => (if r_27 = r_25.1 then (if r_25.1 = 0 then (if (lg_cmp (r_25.2.2.2 (Int32.toNatClampNeg (0 : Int32))) (Int32.toInt64 r_26.1)) = 0 then N r_25.2.1 r_25.2.2.1 τ δ r_26.2 r_25.2.2.2 ε else (some false)) else N r_25.2.1 r_25.2.2.1 τ δ r_26.2 r_25.2.2.2 ε) else (some false))))) = some true := by
  obtain ⟨z, hz1, hz2, rfl⟩ := iI_of p1
  unfold fL_wipe
  exact law_mu G R X (mu_wipe R ⟨hz1, hz2⟩) (fun e c hm => by obtain ⟨rfl, rfl⟩ := mem1 hm; exact ⟨if_pos rfl, by decide⟩)

theorem case_3 (G : GoesOn N) (R : RR σ η μ) (X : TXR τ μ) (p1 : Int32) (p2 : Int32) : ((fL_setLevel σ η ω p1 p2).bind fun r_34 => ((fX7_setLevel μ p1 p2).bind fun r_35 => ((fX7_thrown r_35.2).bind fun r_36 => (if r_36 = r_34.1 then (if r_34.1 = 0 then (if (lg_cmp (r_34.2.2.2 (Int32.toNatClampNeg (0 : Int32))) (Int32.toInt64 r_35.1)) = 0 then N r_34.2.1 r_34.2.2.1 τ δ r_35.2 r_34.2.2.2 ε else (some false)) else N r_34.2.1 r_34.2.2.1 τ δ r_35.2 r_34.2.2.2 ε) else (some false))))) = some true := by
  obtain ⟨z, hz1, hz2, rfl⟩ := iI_of p1
  obtain ⟨w, hw1, hw2, rfl⟩ := iI_of p2
  unfold fL_setLevel
  exact law_mu G R X (mu_level R ⟨hz1, hz2⟩ ⟨hw1, hw2⟩) (fun e c hm => by
    rcases mem2 hm with ⟨rfl, rfl⟩ | ⟨rfl, rfl⟩
    · exact ⟨if_pos rfl, by decide⟩
    · exact ⟨(if_neg (by decide)).trans (if_pos rfl), by decide⟩)

theorem case_4 (G : GoesOn N) (R : RR σ η μ) (X : TXR τ μ) (p1 : Int32) (p2 : Int32) : ((fL_label σ η ω p1 p2).bind fun r_43 => ((fX7_label μ p1 p2).bind fun r_44 => ((fX7_thrown r_44.2).bind fun r_45 => (if r_45 = r_43.1 then (if r_43.1 = 0 then (if (lg_cmp (r_43.2.2.2 (Int32.toNatClampNeg (0 : Int32))) (Int32.toInt64 r_44.1)) = 0 then N r_43.2.1 r_43.2.2.1 τ δ r_44.2 r_43.2.2.2 ε else (some false)) else N r_43.2.1 r_43.2.2.1 τ δ r_44.2 r_43.2.2.2 ε) else (some false))))) = some true := by
  obtain ⟨z, hz1, hz2, rfl⟩ := iI_of p1
  obtain ⟨w, hw1, hw2, rfl⟩ := iI_of p2
  unfold fL_label
  exact law_mu G R X (mu_label R ⟨hz1, hz2⟩ ⟨hw1, hw2⟩) (fun e c hm => by
    rcases mem2 hm with ⟨rfl, rfl⟩ | ⟨rfl, rfl⟩
    · exact ⟨if_pos rfl, by decide⟩
    · exact ⟨(if_neg (by decide)).trans (if_pos rfl), by decide⟩)

theorem case_5 (G : GoesOn N) (R : RR σ η μ) (X : TXR τ μ) (p1 : Int32) : ((fL_unlabel σ η ω p1).bind fun r_51 => ((fX7_unlabel μ p1).bind fun r_52 => ((fX7_thrown r_52.2).bind fun r_53 => (if r_53 = r_51.1 then (if r_51.1 = 0 then (if (lg_cmp (r_51.2.2.2 (Int32.toNatClampNeg (0 : Int32))) (Int32.toInt64 r_52.1)) = 0 then N r_51.2.1 r_51.2.2.1 τ δ r_52.2 r_51.2.2.2 ε else (some false)) else N r_51.2.1 r_51.2.2.1 τ δ r_52.2 r_51.2.2.2 ε) else (some false))))) = some true := by
  obtain ⟨z, hz1, hz2, rfl⟩ := iI_of p1
  unfold fL_unlabel
  exact law_mu G R X (mu_unlab R ⟨hz1, hz2⟩) (fun e c hm => by
    rcases mem2 hm with ⟨rfl, rfl⟩ | ⟨rfl, rfl⟩
    · exact ⟨if_pos rfl, by decide⟩
    · exact ⟨(if_neg (by decide)).trans (if_pos rfl), by decide⟩)

theorem case_6 (G : GoesOn N) (R : RR σ η μ) (X : TXR τ μ) (p1 : Int32) : ((fL_labelBest σ η ω p1).bind fun r_59 => ((fX7_labelBest μ p1).bind fun r_60 => ((fX7_thrown r_60.2).bind fun r_61 => (if r_61 = r_59.1 then (if r_59.1 = 0 then (if (lg_cmp (r_59.2.2.2 (Int32.toNatClampNeg (0 : Int32))) (Int32.toInt64 r_60.1)) = 0 then N r_59.2.1 r_59.2.2.1 τ δ r_60.2 r_59.2.2.2 ε else (some false)) else N r_59.2.1 r_59.2.2.1 τ δ r_60.2 r_59.2.2.2 ε) else (some false))))) = some true := by
  obtain ⟨z, hz1, hz2, rfl⟩ := iI_of p1
  unfold fL_labelBest
  exact law_mu G R X (mu_best R ⟨hz1, hz2⟩) (fun e c hm => by
    rcases mem2 hm with ⟨rfl, rfl⟩ | ⟨rfl, rfl⟩
    · exact ⟨if_pos rfl, by decide⟩
    · exact ⟨(if_neg (by decide)).trans (if_pos rfl), by decide⟩)

theorem case_7 (G : GoesOn N) (R : RR σ η μ) (X : TXR τ μ) : ((fX6_labelAll σ η).bind fun r_66 => ((fX7_labelAll μ).bind fun r_67 => (if r_66.1 = r_67.1 then N r_66.2.1 r_66.2.2 τ δ r_67.2 ω ε else (some false)))) = some true := by
  obtain ⟨v, σ', η', μ', e1, e2, R', F⟩ := mu_all R
  rw [e1, e2, Option.bind_some, Option.bind_some, if_pos rfl]
  exact G _ _ _ _ _ _ _ R' (txr_fx X F)

theorem case_8 (G : GoesOn N) (R : RR σ η μ) (X : TXR τ μ) (p1 : Int32) : ((fL_setGap σ η ω p1).bind fun r_71 => ((fX7_setGap μ p1).bind fun r_72 => ((fX7_thrown r_72.2).bind fun r_73 => (if r_73 = r_71.1 then (if r_71.1 = 0 then (if (lg_cmp (r_71.2.2.2 (Int32.toNatClampNeg (0 : Int32))) (Int32.toInt64 r_72.1)) = 0 then N r_71.2.1 r_71.2.2.1 τ δ r_72.2 r_71.2.2.2 ε else (some false)) else N r_71.2.1 r_71.2.2.1 τ δ r_72.2 r_71.2.2.2 ε) else (some false))))) = some true := by
  obtain ⟨z, hz1, hz2, rfl⟩ := iI_of p1
  unfold fL_setGap
  exact law_mu G R X (mu_gap R ⟨hz1, hz2⟩) (fun e c hm => by obtain ⟨rfl, rfl⟩ := mem1 hm; exact ⟨if_pos rfl, by decide⟩)

theorem case_9 (G : GoesOn N) (R : RR σ η μ) (X : TXR τ μ) : ((fX6_lines σ).bind fun r_78 => ((fX7_lines μ).bind fun r_79 => (if r_78 = r_79.1 then N σ η τ δ r_79.2 ω ε else (some false)))) = some true := by
  obtain ⟨⟨a, Ga, H, M⟩, hR⟩ := R
  have R : RR σ η μ := ⟨⟨a, Ga, H, M⟩, hR⟩
  have e1 : fX6_lines σ = some (iI (an a)) := by unfold fX6_lines; rw [sp_lineCount H, Option.bind_some]
  have e2 : fX7_lines μ = some (iI (an a), M_th' μ (0 : Int32)) := by unfold fX7_lines; rw [sm_n M]
  rw [e1, e2, Option.bind_some, Option.bind_some, if_pos rfl]
  exact G _ _ _ _ _ _ _ (rr_th R) (txr_fx X ⟨rfl, rfl⟩)

theorem case_10 (G : GoesOn N) (R : RR σ η μ) (X : TXR τ μ) (p1 : Int32) : ((fL_levelOf σ ω p1).bind fun r_83 => ((fX7_levelOf μ p1).bind fun r_84 => ((fX7_thrown r_84.2).bind fun r_85 => (if r_85 = r_83.1 then (if r_83.1 = 0 then (if (lg_cmp (r_83.2 (Int32.toNatClampNeg (0 : Int32))) (Int32.toInt64 r_84.1)) = 0 then N σ η τ δ r_84.2 r_83.2 ε else (some false)) else N σ η τ δ r_84.2 r_83.2 ε) else (some false))))) = some true := by
  obtain ⟨z, hz1, hz2, rfl⟩ := iI_of p1
  obtain ⟨⟨a, Ga, H, M⟩, hR⟩ := R
  have R : RR σ η μ := ⟨⟨a, Ga, H, M⟩, hR⟩
  unfold fL_levelOf
  exact law_ri2 G R X (Or.inl (rd_levelOf H M Ga.1 ⟨hz1, hz2⟩)) (if_pos rfl)

theorem case_11 (G : GoesOn N) (R : RR σ η μ) (X : TXR τ μ) (p1 : Int32) : ((fL_stepsOf σ ω p1).bind fun r_91 => ((fX7_stepsOf μ p1).bind fun r_92 => ((fX7_thrown r_92.2).bind fun r_93 => (if r_93 = r_91.1 then (if r_91.1 = 0 then (if (lg_cmp (r_91.2 (Int32.toNatClampNeg (0 : Int32))) (Int32.toInt64 r_92.1)) = 0 then N σ η τ δ r_92.2 r_91.2 ε else (some false)) else N σ η τ δ r_92.2 r_91.2 ε) else (some false))))) = some true := by
  obtain ⟨z, hz1, hz2, rfl⟩ := iI_of p1
  obtain ⟨⟨a, Ga, H, M⟩, hR⟩ := R
  have R : RR σ η μ := ⟨⟨a, Ga, H, M⟩, hR⟩
  unfold fL_stepsOf
  exact law_ri2 G R X (Or.inl (rd_stepsOf H M Ga.1 ⟨hz1, hz2⟩)) (if_pos rfl)

theorem case_12 (G : GoesOn N) (R : RR σ η μ) (X : TXR τ μ) (p1 : Int32) (p2 : Int32) : ((fL_pointOf σ ω p1 p2).bind fun r_100 => ((fX7_pointOf μ p1 p2).bind fun r_101 => ((fX7_thrown r_101.2).bind fun r_102 => (if r_102 = r_100.1 then (if r_100.1 = 0 then (if (lg_cmp (r_100.2 (Int32.toNatClampNeg (0 : Int32))) (Int32.toInt64 r_101.1)) = 0 then N σ η τ δ r_101.2 r_100.2 ε else (some false)) else N σ η τ δ r_101.2 r_100.2 ε) else (some false))))) = some true := by
  obtain ⟨z, hz1, hz2, rfl⟩ := iI_of p1
  obtain ⟨w, hw1, hw2, rfl⟩ := iI_of p2
  obtain ⟨⟨a, Ga, H, M⟩, hR⟩ := R
  have R : RR σ η μ := ⟨⟨a, Ga, H, M⟩, hR⟩
  unfold fL_pointOf
  exact law_ri2 G R X (Or.inl (rd_pointOf H M Ga.1 ⟨hz1, hz2⟩ ⟨hw1, hw2⟩)) (if_pos rfl)

theorem case_13 (G : GoesOn N) (R : RR σ η μ) (X : TXR τ μ) (p1 : Int32) : ((fL_lineAt σ ω p1).bind fun r_108 => ((fX7_lineAt μ p1).bind fun r_109 => ((fX7_thrown r_109.2).bind fun r_110 => (if r_110 = r_108.1 then (if r_108.1 = 0 then (if (lg_cmp (r_108.2 (Int32.toNatClampNeg (0 : Int32))) (Int32.toInt64 r_109.1)) = 0 then N σ η τ δ r_109.2 r_108.2 ε else (some false)) else N σ η τ δ r_109.2 r_108.2 ε) else (some false))))) = some true := by
  obtain ⟨z, hz1, hz2, rfl⟩ := iI_of p1
  obtain ⟨⟨a, Ga, H, M⟩, hR⟩ := R
  have R : RR σ η μ := ⟨⟨a, Ga, H, M⟩, hR⟩
  unfold fL_lineAt
  exact law_ri2 G R X (Or.inl (rd_lineAt H M Ga.1 ⟨hz1, hz2⟩)) (if_pos rfl)

theorem case_14 (G : GoesOn N) (R : RR σ η μ) (X : TXR τ μ) (p1 : Int32) : ((fL_isClosed σ ω p1).bind fun r_116 => ((fX7_isClosed μ p1).bind fun r_117 => ((fX7_thrown r_117.2).bind fun r_118 => (if r_118 = r_116.1 then (if r_116.1 = 0 then (if r_117.1 = true then (if (lg_cmp (r_116.2 (Int32.toNatClampNeg (0 : Int32))) (1 : Int64)) = 0 then N σ η τ δ r_117.2 r_116.2 ε else (some false)) else (if (lg_cmp (r_116.2 (Int32.toNatClampNeg (0 : Int32))) (0 : Int64)) = 0 then N σ η τ δ r_117.2 r_116.2 ε else (some false))) else N σ η τ δ r_117.2 r_116.2 ε) else (some false))))) = some true := by
  obtain ⟨z, hz1, hz2, rfl⟩ := iI_of p1
  obtain ⟨⟨a, Ga, H, M⟩, hR⟩ := R
  have R : RR σ η μ := ⟨⟨a, Ga, H, M⟩, hR⟩
  unfold fL_isClosed
  exact law_rb G R X (rd_isClosed H M Ga.1 ⟨hz1, hz2⟩) (if_pos rfl)

theorem case_15 (G : GoesOn N) (R : RR σ η μ) (X : TXR τ μ) (p1 : Int32) (p2 : Int32) : ((fL_whyNotStepped σ ω p1 p2).bind fun r_127 => ((fX7_whyNotStepped μ p1 p2).bind fun r_128 => ((fX7_thrown r_128.2).bind fun r_129 => (if r_129 = r_127.1 then (if r_127.1 = 0 then (if (lg_cmp (r_127.2 (Int32.toNatClampNeg (0 : Int32))) (Int32.toInt64 r_128.1)) = 0 then N σ η τ δ r_128.2 r_127.2 ε else (some false)) else N σ η τ δ r_128.2 r_127.2 ε) else (some false))))) = some true := by
  obtain ⟨z, hz1, hz2, rfl⟩ := iI_of p1
  obtain ⟨w, hw1, hw2, rfl⟩ := iI_of p2
  obtain ⟨⟨a, Ga, H, M⟩, hR⟩ := R
  have R : RR σ η μ := ⟨⟨a, Ga, H, M⟩, hR⟩
  unfold fL_whyNotStepped
  exact law_ri2 G R X ((rd_whyNotStepped H M Ga.1 ⟨hz1, hz2⟩ ⟨hw1, hw2⟩).imp id (fun h => ⟨_, 2, h.2.choose, (if_neg (by decide)).trans (if_pos rfl), by decide, h.1, h.2.choose_spec⟩)) (if_pos rfl)

theorem case_16 (G : GoesOn N) (R : RR σ η μ) (X : TXR τ μ) (p1 : Int32) (p2 : Int32) : ((fL_bendAt σ ω p1 p2).bind fun r_136 => ((fX7_bendAt μ p1 p2).bind fun r_137 => ((fX7_thrown r_137.2).bind fun r_138 => (if r_138 = r_136.1 then (if r_136.1 = 0 then (if (lg_cmp (r_136.2 (Int32.toNatClampNeg (0 : Int32))) (Int32.toInt64 r_137.1)) = 0 then N σ η τ δ r_137.2 r_136.2 ε else (some false)) else N σ η τ δ r_137.2 r_136.2 ε) else (some false))))) = some true := by
  obtain ⟨z, hz1, hz2, rfl⟩ := iI_of p1
  obtain ⟨w, hw1, hw2, rfl⟩ := iI_of p2
  obtain ⟨⟨a, Ga, H, M⟩, hR⟩ := R
  have R : RR σ η μ := ⟨⟨a, Ga, H, M⟩, hR⟩
  unfold fL_bendAt
  exact law_ri2 G R X (Or.inl (rd_bendAt H M Ga.1 ⟨hz1, hz2⟩ ⟨hw1, hw2⟩)) (if_pos rfl)

theorem case_17 (G : GoesOn N) (R : RR σ η μ) (X : TXR τ μ) (p1 : Int32) : ((fL_lengthByKinds σ ε p1).bind fun r_144 => ((fX7_lengthByKinds μ p1).bind fun r_145 => ((fX7_thrown r_145.2).bind fun r_146 => (if r_146 = r_144.1 then (if r_144.1 = 0 then (if (Op.cmpValue (FP.dcmp (r_144.2 (Int32.toNatClampNeg (0 : Int32))) r_145.1) .l) = 0 then N σ η τ δ r_145.2 ω r_144.2 else (if (Op.cmpValue (FP.dcmp (r_144.2 (Int32.toNatClampNeg (0 : Int32))) (r_144.2 (Int32.toNatClampNeg (0 : Int32)))) .l) = 0 then (some false) else (if (Op.cmpValue (FP.dcmp r_145.1 r_145.1) .l) = 0 then (some false) else N σ η τ δ r_145.2 ω r_144.2))) else N σ η τ δ r_145.2 ω r_144.2) else (some false))))) = some true := by
  obtain ⟨z, hz1, hz2, rfl⟩ := iI_of p1
  obtain ⟨⟨a, Ga, H, M⟩, hR⟩ := R
  have R : RR σ η μ := ⟨⟨a, Ga, H, M⟩, hR⟩
  unfold fL_lengthByKinds
  exact law_rd G R X (rd_kinds H M Ga.1 ⟨hz1, hz2⟩) (if_pos rfl)

theorem case_18 (G : GoesOn N) (R : RR σ η μ) (X : TXR τ μ) (p1 : Int32) : ((fL_lengthBySteps σ ε p1).bind fun r_154 => ((fX7_lengthBySteps μ p1).bind fun r_155 => ((fX7_thrown r_155.2).bind fun r_156 => (if r_156 = r_154.1 then (if r_154.1 = 0 then (if (Op.cmpValue (FP.dcmp (r_154.2 (Int32.toNatClampNeg (0 : Int32))) r_155.1) .l) = 0 then N σ η τ δ r_155.2 ω r_154.2 else (if (Op.cmpValue (FP.dcmp (r_154.2 (Int32.toNatClampNeg (0 : Int32))) (r_154.2 (Int32.toNatClampNeg (0 : Int32)))) .l) = 0 then (some false) else (if (Op.cmpValue (FP.dcmp r_155.1 r_155.1) .l) = 0 then (some false) else N σ η τ δ r_155.2 ω r_154.2))) else N σ η τ δ r_155.2 ω r_154.2) else (some false))))) = some true := by
  obtain ⟨z, hz1, hz2, rfl⟩ := iI_of p1
  obtain ⟨⟨a, Ga, H, M⟩, hR⟩ := R
  have R : RR σ η μ := ⟨⟨a, Ga, H, M⟩, hR⟩
  unfold fL_lengthBySteps
  exact law_rd G R X (rd_lsteps H M Ga.1 ⟨hz1, hz2⟩) (if_pos rfl)

theorem case_19 (G : GoesOn N) (R : RR σ η μ) (X : TXR τ μ) : ((fX6_gap σ).bind fun r_163 => ((fX7_gap μ).bind fun r_164 => (if r_163 = r_164.1 then N σ η τ δ r_164.2 ω ε else (some false)))) = some true := by
  obtain ⟨⟨a, Ga, H, M⟩, hR⟩ := R
  have R : RR σ η μ := ⟨⟨a, Ga, H, M⟩, hR⟩
  have e1 : fX6_gap σ = some (iI (ag a)) := by unfold fX6_gap; rw [sp_gapWidth H, Option.bind_some]
  have e2 : fX7_gap μ = some (iI (ag a), M_th' μ (0 : Int32)) := by unfold fX7_gap; rw [sm_g M]
  rw [e1, e2, Option.bind_some, Option.bind_some, if_pos rfl]
  exact G _ _ _ _ _ _ _ (rr_th R) (txr_fx X ⟨rfl, rfl⟩)

theorem case_20 (G : GoesOn N) (R : RR σ η μ) (X : TXR τ μ) : ((fX6_labels σ).bind fun r_167 => ((fX7_labels μ).bind fun r_168 => (if r_167 = r_168.1 then N σ η τ δ r_168.2 ω ε else (some false)))) = some true := by
  obtain ⟨⟨a, Ga, H, M⟩, hR⟩ := R
  have R : RR σ η μ := ⟨⟨a, Ga, H, M⟩, hR⟩
  have e1 : fX6_labels σ = some (iI (lbA a (an a) 0 0)) := by unfold fX6_labels; rw [sp_labelCount H Ga.1, Option.bind_some]
  have e2 : fX7_labels μ = some (iI (lbA a (an a) 0 0), M_th' μ (0 : Int32)) := by unfold fX7_labels; rw [sm_labelled (μ := M_th' μ (0 : Int32)) M Ga.1, Option.bind_some]
  rw [e1, e2, Option.bind_some, Option.bind_some, if_pos rfl]
  exact G _ _ _ _ _ _ _ (rr_th R) (txr_fx X ⟨rfl, rfl⟩)

theorem case_21 (G : GoesOn N) (R : RR σ η μ) (X : TXR τ μ) (p1 : Int32) : ((fL_labelOf σ ω p1).bind fun r_172 => ((fX7_labelOf μ p1).bind fun r_173 => ((fX7_thrown r_173.2).bind fun r_174 => (if r_174 = r_172.1 then (if r_172.1 = 0 then (if (lg_cmp (r_172.2 (Int32.toNatClampNeg (0 : Int32))) (Int32.toInt64 r_173.1)) = 0 then N σ η τ δ r_173.2 r_172.2 ε else (some false)) else N σ η τ δ r_173.2 r_172.2 ε) else (some false))))) = some true := by
  obtain ⟨z, hz1, hz2, rfl⟩ := iI_of p1
  obtain ⟨⟨a, Ga, H, M⟩, hR⟩ := R
  have R : RR σ η μ := ⟨⟨a, Ga, H, M⟩, hR⟩
  unfold fL_labelOf
  exact law_ri2 G R X (Or.inl (rd_labelOf H M Ga.1 ⟨hz1, hz2⟩)) (if_pos rfl)

theorem case_22 (G : GoesOn N) (R : RR σ η μ) (X : TXR τ μ) (p1 : Int32) : ((fL_isTurned σ ω p1).bind fun r_180 => ((fX7_isTurned μ p1).bind fun r_181 => ((fX7_thrown r_181.2).bind fun r_182 => (if r_182 = r_180.1 then (if r_180.1 = 0 then (if r_181.1 = true then (if (lg_cmp (r_180.2 (Int32.toNatClampNeg (0 : Int32))) (1 : Int64)) = 0 then N σ η τ δ r_181.2 r_180.2 ε else (some false)) else (if (lg_cmp (r_180.2 (Int32.toNatClampNeg (0 : Int32))) (0 : Int64)) = 0 then N σ η τ δ r_181.2 r_180.2 ε else (some false))) else N σ η τ δ r_181.2 r_180.2 ε) else (some false))))) = some true := by
  obtain ⟨z, hz1, hz2, rfl⟩ := iI_of p1
  obtain ⟨⟨a, Ga, H, M⟩, hR⟩ := R
  have R : RR σ η μ := ⟨⟨a, Ga, H, M⟩, hR⟩
  unfold fL_isTurned
  exact law_rb G R X (rd_isTurned H M Ga.1 ⟨hz1, hz2⟩) (if_pos rfl)

theorem case_23 (G : GoesOn N) (R : RR σ η μ) (X : TXR τ μ) (p1 : Int32) : ((fL_readFrom σ ω p1).bind fun r_190 => ((fX7_readFrom μ p1).bind fun r_191 => ((fX7_thrown r_191.2).bind fun r_192 => (if r_192 = r_190.1 then (if r_190.1 = 0 then (if (lg_cmp (r_190.2 (Int32.toNatClampNeg (0 : Int32))) (Int32.toInt64 r_191.1)) = 0 then N σ η τ δ r_191.2 r_190.2 ε else (some false)) else N σ η τ δ r_191.2 r_190.2 ε) else (some false))))) = some true := by
  obtain ⟨z, hz1, hz2, rfl⟩ := iI_of p1
  obtain ⟨⟨a, Ga, H, M⟩, hR⟩ := R
  have R : RR σ η μ := ⟨⟨a, Ga, H, M⟩, hR⟩
  unfold fL_readFrom
  exact law_ri2 G R X (Or.inl (rd_readFrom H M Ga.1 ⟨hz1, hz2⟩)) (if_pos rfl)

theorem case_24 (G : GoesOn N) (R : RR σ η μ) (X : TXR τ μ) (p1 : Int32) : ((fL_sizeOf σ ω p1).bind fun r_198 => ((fX7_sizeOf μ p1).bind fun r_199 => ((fX7_thrown r_199.2).bind fun r_200 => (if r_200 = r_198.1 then (if r_198.1 = 0 then (if (lg_cmp (r_198.2 (Int32.toNatClampNeg (0 : Int32))) (Int32.toInt64 r_199.1)) = 0 then N σ η τ δ r_199.2 r_198.2 ε else (some false)) else N σ η τ δ r_199.2 r_198.2 ε) else (some false))))) = some true := by
  obtain ⟨z, hz1, hz2, rfl⟩ := iI_of p1
  obtain ⟨⟨a, Ga, H, M⟩, hR⟩ := R
  have R : RR σ η μ := ⟨⟨a, Ga, H, M⟩, hR⟩
  unfold fL_sizeOf
  exact law_ri2 G R X (Or.inl (rd_sizeOf H M Ga.1 ⟨hz1, hz2⟩)) (if_pos rfl)

theorem case_25 (G : GoesOn N) (R : RR σ η μ) (X : TXR τ μ) (p1 : Int32) (p2 : Int32) : ((fL_bendOf σ ω p1 p2).bind fun r_207 => ((fX7_bendOf μ p1 p2).bind fun r_208 => ((fX7_thrown r_208.2).bind fun r_209 => (if r_209 = r_207.1 then (if r_207.1 = 0 then (if (lg_cmp (r_207.2 (Int32.toNatClampNeg (0 : Int32))) (Int32.toInt64 r_208.1)) = 0 then N σ η τ δ r_208.2 r_207.2 ε else (some false)) else N σ η τ δ r_208.2 r_207.2 ε) else (some false))))) = some true := by
  obtain ⟨z, hz1, hz2, rfl⟩ := iI_of p1
  obtain ⟨w, hw1, hw2, rfl⟩ := iI_of p2
  obtain ⟨⟨a, Ga, H, M⟩, hR⟩ := R
  have R : RR σ η μ := ⟨⟨a, Ga, H, M⟩, hR⟩
  unfold fL_bendOf
  exact law_ri2 G R X (Or.inl (rd_bendOf H M Ga.1 ⟨hz1, hz2⟩ ⟨hw1, hw2⟩)) (if_pos rfl)

theorem case_26 (G : GoesOn N) (R : RR σ η μ) (X : TXR τ μ) (p1 : Int32) (p2 : Int32) : ((fL_whyNotLabelled σ ω p1 p2).bind fun r_216 => ((fX7_whyNotLabelled μ p1 p2).bind fun r_217 => ((fX7_thrown r_217.2).bind fun r_218 => (if r_218 = r_216.1 then (if r_216.1 = 0 then (if (lg_cmp (r_216.2 (Int32.toNatClampNeg (0 : Int32))) (Int32.toInt64 r_217.1)) = 0 then N σ η τ δ r_217.2 r_216.2 ε else (some false)) else N σ η τ δ r_217.2 r_216.2 ε) else (some false))))) = some true := by
  obtain ⟨z, hz1, hz2, rfl⟩ := iI_of p1
  obtain ⟨w, hw1, hw2, rfl⟩ := iI_of p2
  obtain ⟨⟨a, Ga, H, M⟩, hR⟩ := R
  have R : RR σ η μ := ⟨⟨a, Ga, H, M⟩, hR⟩
  unfold fL_whyNotLabelled
  exact law_ri2 G R X (Or.inl (rd_whyNotLabelled H M Ga.1 ⟨hz1, hz2⟩ ⟨hw1, hw2⟩)) (if_pos rfl)

theorem case_27 (G : GoesOn N) (R : RR σ η μ) (X : TXR τ μ) (p1 : Int32) : ((fL_placesOf σ ω p1).bind fun r_224 => ((fX7_placesOf μ p1).bind fun r_225 => ((fX7_thrown r_225.2).bind fun r_226 => (if r_226 = r_224.1 then (if r_224.1 = 0 then (if (lg_cmp (r_224.2 (Int32.toNatClampNeg (0 : Int32))) (Int32.toInt64 r_225.1)) = 0 then N σ η τ δ r_225.2 r_224.2 ε else (some false)) else N σ η τ δ r_225.2 r_224.2 ε) else (some false))))) = some true := by
  obtain ⟨z, hz1, hz2, rfl⟩ := iI_of p1
  obtain ⟨⟨a, Ga, H, M⟩, hR⟩ := R
  have R : RR σ η μ := ⟨⟨a, Ga, H, M⟩, hR⟩
  unfold fL_placesOf
  exact law_ri2 G R X (Or.inl (rd_placesOf H M Ga.1 ⟨hz1, hz2⟩)) (if_pos rfl)

theorem case_28 (G : GoesOn N) (R : RR σ η μ) (X : TXR τ μ) (p1 : Int32) : ((fL_bestPlace σ ω p1).bind fun r_232 => ((fX7_bestPlace μ p1).bind fun r_233 => ((fX7_thrown r_233.2).bind fun r_234 => (if r_234 = r_232.1 then (if r_232.1 = 0 then (if (lg_cmp (r_232.2 (Int32.toNatClampNeg (0 : Int32))) (Int32.toInt64 r_233.1)) = 0 then N σ η τ δ r_233.2 r_232.2 ε else (some false)) else N σ η τ δ r_233.2 r_232.2 ε) else (some false))))) = some true := by
  obtain ⟨z, hz1, hz2, rfl⟩ := iI_of p1
  obtain ⟨⟨a, Ga, H, M⟩, hR⟩ := R
  have R : RR σ η μ := ⟨⟨a, Ga, H, M⟩, hR⟩
  unfold fL_bestPlace
  exact law_ri2 G R X (Or.inl (rd_bestPlace H M Ga.1 ⟨hz1, hz2⟩)) (if_pos rfl)

theorem case_29 (G : GoesOn N) (R : RR σ η μ) (X : TXR τ μ) : ((fX6_tooNear σ).bind fun r_239 => ((fX7_tooNear μ).bind fun r_240 => (if r_239 = r_240.1 then N σ η τ δ r_240.2 ω ε else (some false)))) = some true := by
  obtain ⟨⟨a, Ga, H, M⟩, hR⟩ := R
  have R : RR σ η μ := ⟨⟨a, Ga, H, M⟩, hR⟩
  have e1 : fX6_tooNear σ = some (iI (smI (fun i => smI (fun j => nrA a i j) i 0) (an a) 0)) := by unfold fX6_tooNear; rw [sp_pairs H Ga.1, Option.bind_some]
  have e2 : fX7_tooNear μ = some (iI (smI (fun i => smI (fun j => nrA a i j) i 0) (an a) 0), M_th' μ (0 : Int32)) := by have e := sm_pr_out (μ := M_th' μ (0 : Int32)) M Ga.1 (an a) 0 FU 0 (by omega) (FU_gt (by have := Ga.1.1; omega)); rw [Z0, Z0', Int.zero_add] at e; exact e
  rw [e1, e2, Option.bind_some, Option.bind_some, if_pos rfl]
  exact G _ _ _ _ _ _ _ (rr_th R) (txr_fx X ⟨rfl, rfl⟩)

theorem case_30 (G : GoesOn N) (R : RR σ η μ) (X : TXR τ μ) (p1 : Int32) (p2 : Int32) : ((fL_isWithinByRays σ ω p1 p2).bind fun r_245 => ((fX7_isWithinByRays μ p1 p2).bind fun r_246 => ((fX7_thrown r_246.2).bind fun r_247 => (if r_247 = r_245.1 then (if r_245.1 = 0 then (if r_246.1 = true then (if (lg_cmp (r_245.2 (Int32.toNatClampNeg (0 : Int32))) (1 : Int64)) = 0 then N σ η τ δ r_246.2 r_245.2 ε else (some false)) else (if (lg_cmp (r_245.2 (Int32.toNatClampNeg (0 : Int32))) (0 : Int64)) = 0 then N σ η τ δ r_246.2 r_245.2 ε else (some false))) else N σ η τ δ r_246.2 r_245.2 ε) else (some false))))) = some true := by
  obtain ⟨z, hz1, hz2, rfl⟩ := iI_of p1
  obtain ⟨w, hw1, hw2, rfl⟩ := iI_of p2
  obtain ⟨⟨a, Ga, H, M⟩, hR⟩ := R
  have R : RR σ η μ := ⟨⟨a, Ga, H, M⟩, hR⟩
  unfold fL_isWithinByRays
  exact law_rb G R X (rd_rays H M Ga.1 ⟨hz1, hz2⟩ ⟨hw1, hw2⟩) (if_pos rfl)

theorem case_31 (G : GoesOn N) (R : RR σ η μ) (X : TXR τ μ) (p1 : Int32) (p2 : Int32) : ((fL_isWithinBySpreading σ δ ω p1 p2).bind fun r_256 => ((fX7_isWithinBySpreading μ p1 p2).bind fun r_257 => ((fX7_thrown r_257.2).bind fun r_258 => (if r_258 = r_256.1 then (if r_256.1 = 0 then (if r_257.1 = true then (if (lg_cmp (r_256.2.2 (Int32.toNatClampNeg (0 : Int32))) (1 : Int64)) = 0 then N σ η τ r_256.2.1 r_257.2 r_256.2.2 ε else (some false)) else (if (lg_cmp (r_256.2.2 (Int32.toNatClampNeg (0 : Int32))) (0 : Int64)) = 0 then N σ η τ r_256.2.1 r_257.2 r_256.2.2 ε else (some false))) else N σ η τ r_256.2.1 r_257.2 r_256.2.2 ε) else (some false))))) = some true := by
  obtain ⟨z, hz1, hz2, rfl⟩ := iI_of p1
  obtain ⟨w, hw1, hw2, rfl⟩ := iI_of p2
  obtain ⟨⟨a, Ga, H, M⟩, hR⟩ := R
  have R : RR σ η μ := ⟨⟨a, Ga, H, M⟩, hR⟩
  unfold fL_isWithinBySpreading
  exact law_sp G R X (rd_spread H M Ga.1 Ga.2 δ ⟨hz1, hz2⟩ ⟨hw1, hw2⟩) (if_pos rfl)

theorem case_32 (G : GoesOn N) (R : RR σ η μ) (X : TXR τ μ) (p1 : Int32) : ((fL_pointsWithin σ ω p1).bind fun r_266 => ((fX7_pointsWithin μ p1).bind fun r_267 => ((fX7_thrown r_267.2).bind fun r_268 => (if r_268 = r_266.1 then (if r_266.1 = 0 then (if (lg_cmp (r_266.2 (Int32.toNatClampNeg (0 : Int32))) (Int32.toInt64 r_267.1)) = 0 then N σ η τ δ r_267.2 r_266.2 ε else (some false)) else N σ η τ δ r_267.2 r_266.2 ε) else (some false))))) = some true := by
  obtain ⟨z, hz1, hz2, rfl⟩ := iI_of p1
  obtain ⟨⟨a, Ga, H, M⟩, hR⟩ := R
  have R : RR σ η μ := ⟨⟨a, Ga, H, M⟩, hR⟩
  unfold fL_pointsWithin
  exact law_ri2 G R X (Or.inl (rd_pointsWithin H M Ga.1 ⟨hz1, hz2⟩)) (if_pos rfl)

theorem case_33 (G : GoesOn N) (R : RR σ η μ) (X : TXR τ μ) (p1 : Int32) : ((fL_lineRound σ ω p1).bind fun r_274 => ((fX7_lineRound μ p1).bind fun r_275 => ((fX7_thrown r_275.2).bind fun r_276 => (if r_276 = r_274.1 then (if r_274.1 = 0 then (if (lg_cmp (r_274.2 (Int32.toNatClampNeg (0 : Int32))) (Int32.toInt64 r_275.1)) = 0 then N σ η τ δ r_275.2 r_274.2 ε else (some false)) else N σ η τ δ r_275.2 r_274.2 ε) else (some false))))) = some true := by
  obtain ⟨z, hz1, hz2, rfl⟩ := iI_of p1
  obtain ⟨⟨a, Ga, H, M⟩, hR⟩ := R
  have R : RR σ η μ := ⟨⟨a, Ga, H, M⟩, hR⟩
  unfold fL_lineRound
  exact law_ri2 G R X (Or.inl (rd_lineRound H M Ga.1 ⟨hz1, hz2⟩)) (if_pos rfl)

theorem case_34 (G : GoesOn N) (R : RR σ η μ) (X : TXR τ μ) (p1 : Int32) : ((fL_isSteady σ ω p1).bind fun r_282 => ((fX7_isSteady μ p1).bind fun r_283 => ((fX7_thrown r_283.2).bind fun r_284 => (if r_284 = r_282.1 then (if r_282.1 = 0 then (if r_283.1 = true then (if (lg_cmp (r_282.2 (Int32.toNatClampNeg (0 : Int32))) (1 : Int64)) = 0 then N σ η τ δ r_283.2 r_282.2 ε else (some false)) else (if (lg_cmp (r_282.2 (Int32.toNatClampNeg (0 : Int32))) (0 : Int64)) = 0 then N σ η τ δ r_283.2 r_282.2 ε else (some false))) else N σ η τ δ r_283.2 r_282.2 ε) else (some false))))) = some true := by
  obtain ⟨z, hz1, hz2, rfl⟩ := iI_of p1
  obtain ⟨⟨a, Ga, H, M⟩, hR⟩ := R
  have R : RR σ η μ := ⟨⟨a, Ga, H, M⟩, hR⟩
  unfold fL_isSteady
  exact law_rb G R X (rd_isSteady H M Ga.1 ⟨hz1, hz2⟩) (if_pos rfl)

theorem case_35 (G : GoesOn N) (R : RR σ η μ) (X : TXR τ μ) (p1 : Int32) : ((fL_lineByLevel σ ω p1).bind fun r_292 => ((fX7_lineByLevel μ p1).bind fun r_293 => ((fX7_thrown r_293.2).bind fun r_294 => (if r_294 = r_292.1 then (if r_292.1 = 0 then (if (lg_cmp (r_292.2 (Int32.toNatClampNeg (0 : Int32))) (Int32.toInt64 r_293.1)) = 0 then N σ η τ δ r_293.2 r_292.2 ε else (some false)) else N σ η τ δ r_293.2 r_292.2 ε) else (some false))))) = some true := by
  obtain ⟨z, hz1, hz2, rfl⟩ := iI_of p1
  obtain ⟨⟨a, Ga, H, M⟩, hR⟩ := R
  have R : RR σ η μ := ⟨⟨a, Ga, H, M⟩, hR⟩
  unfold fL_lineByLevel
  exact law_ri2 G R X (Or.inl (rd_lineByLevel H M Ga.1 ⟨hz1, hz2⟩)) (if_pos rfl)

theorem case_36 (G : GoesOn N) (R : RR σ η μ) (X : TXR τ μ) (p1 : Int32) : ((fL_append τ ω p1).bind fun r_300 => ((fX7_append μ p1).bind fun r_301 => ((fX7_thrown r_301.2).bind fun r_302 => (if r_302 = r_300.1 then (if r_300.1 = 0 then (if (lg_cmp (r_300.2.2 (Int32.toNatClampNeg (0 : Int32))) (Int32.toInt64 r_301.1)) = 0 then N σ η r_300.2.1 δ r_301.2 r_300.2.2 ε else (some false)) else N σ η r_300.2.1 δ r_301.2 r_300.2.2 ε) else (some false))))) = some true := by
  obtain ⟨z, hz1, hz2, rfl⟩ := iI_of p1
  unfold fL_append
  rcases tx_append X ⟨hz1, hz2⟩ with ⟨e1, v, e2⟩ | ⟨e1, v, e2⟩ | ⟨v, τ', μ', e1, e2, ht, X', F⟩
  · rw [e1, e2, Option.bind_some]
    rw [xcase_err, if_pos rfl, Option.bind_some, Option.bind_some, th_of, Option.bind_some, if_pos (show M_th (M_th' μ (1 : Int32)) = 1 from rfl), if_neg n10]
    exact G _ _ _ _ _ _ _ (rr_th R) (txr_fx X ⟨rfl, rfl⟩)
  · rw [e1, e2, Option.bind_some]
    rw [xcase_err, if_neg (by decide), if_pos rfl, Option.bind_some, Option.bind_some, th_of, Option.bind_some, if_pos (show M_th (M_th' μ (2 : Int32)) = 2 from rfl), if_neg n20]
    exact G _ _ _ _ _ _ _ (rr_th R) (txr_fx X ⟨rfl, rfl⟩)
  · rw [e1, e2, Option.bind_some]
    rw [xcase_ok, Option.bind_some, Option.bind_some, th_of, Option.bind_some, if_pos (show M_th μ' = 0 from ht), if_pos rfl, if_pos (lgu _ _ _)]
    exact G _ _ _ _ _ _ _ (rr_fr R F) X'

theorem case_37 (G : GoesOn N) (R : RR σ η μ) (X : TXR τ μ) : ((fX6_clearText τ).bind fun r_307 => ((fX7_clearText μ).bind fun r_308 => (if r_307.1 = r_308.1 then N σ η r_307.2 δ r_308.2 ω ε else (some false)))) = some true := by
  obtain ⟨v, τ', μ', e1, e2, X', F⟩ := tx_clear X
  rw [e1, e2, Option.bind_some, Option.bind_some, if_pos rfl]
  exact G _ _ _ _ _ _ _ (rr_fr R F) X'

theorem case_38 (G : GoesOn N) (R : RR σ η μ) (X : TXR τ μ) : ((fX6_errorPosition τ).bind fun r_311 => ((fX7_errorPosition μ).bind fun r_312 => (if r_311.1 = r_312.1 then N σ η r_311.2 δ r_312.2 ω ε else (some false)))) = some true := by
  obtain ⟨v, τ', μ', e1, e2, X', F⟩ := tx_error X
  rw [e1, e2, Option.bind_some, Option.bind_some, if_pos rfl]
  exact G _ _ _ _ _ _ _ (rr_fr R F) X'

theorem case_39 (G : GoesOn N) (R : RR σ η μ) (X : TXR τ μ) : ((fL_runText σ η τ ω).bind fun r_315 => ((fX7_runText μ).bind fun r_316 => ((fX7_thrown r_316.2).bind fun r_317 => (if r_317 = r_315.1 then (if r_315.1 = 0 then (if (lg_cmp (r_315.2.2.2.2 (Int32.toNatClampNeg (0 : Int32))) (Int32.toInt64 r_316.1)) = 0 then N r_315.2.1 r_315.2.2.1 r_315.2.2.2.1 δ r_316.2 r_315.2.2.2.2 ε else (some false)) else N r_315.2.1 r_315.2.2.1 r_315.2.2.2.1 δ r_316.2 r_315.2.2.2.2 ε) else (some false))))) = some true := by
  unfold fL_runText
  rcases tx_run R X with ⟨τ', v, μ', e1, e2, ht, R', X'⟩ | ⟨v, σ', η', τ', μ', e1, e2, ht, R', X'⟩
  · rw [e1, e2, Option.bind_some]
    rw [xcase_err, if_pos rfl, Option.bind_some, Option.bind_some, th_of, Option.bind_some, if_pos (show M_th μ' = 1 from ht), if_neg n10]
    exact G _ _ _ _ _ _ _ R' X'
  · rw [e1, e2, Option.bind_some]
    rw [xcase_ok, Option.bind_some, Option.bind_some, th_of, Option.bind_some, if_pos (show M_th μ' = 0 from ht), if_pos rfl, if_pos (lgu _ _ _)]
    exact G _ _ _ _ _ _ _ R' X'

theorem case_40 (G : GoesOn N) (R : RR σ η μ) (X : TXR τ μ) : ((fL_undo σ η ω).bind fun r_322 => ((fX7_undo μ).bind fun r_323 => ((fX7_thrown r_323.2).bind fun r_324 => (if r_324 = r_322.1 then (if r_322.1 = 0 then (if (lg_cmp (r_322.2.2.2 (Int32.toNatClampNeg (0 : Int32))) (Int32.toInt64 r_323.1)) = 0 then N r_322.2.1 r_322.2.2.1 τ δ r_323.2 r_322.2.2.2 ε else (some false)) else N r_322.2.1 r_322.2.2.1 τ δ r_323.2 r_322.2.2.2 ε) else (some false))))) = some true := by
  unfold fL_undo
  exact law_mu G R X (mu_undo R) (fun e c hm => by obtain ⟨rfl, rfl⟩ := mem1 hm; exact ⟨if_pos rfl, by decide⟩)

theorem case_41 (G : GoesOn N) (R : RR σ η μ) (X : TXR τ μ) : ((fX6_savedStates η).bind fun r_329 => ((fX7_savedStates μ).bind fun r_330 => (if r_329 = r_330.1 then N σ η τ δ r_330.2 ω ε else (some false)))) = some true := by
  have R0 := R
  obtain ⟨-, ⟨c, o, A, k1, k2, k3, k4, k5, k6⟩, -⟩ := R0
  have e1 : fX6_savedStates η = some (iI c) := by unfold fX6_savedStates; rw [show fX1_size η = some (H_cnt η) from rfl, Option.bind_some, k3]
  have e2 : fX7_savedStates μ = some (iI c, M_th' μ (0 : Int32)) := by unfold fX7_savedStates; rw [k5]
  rw [e1, e2, Option.bind_some, Option.bind_some, if_pos rfl]
  exact G _ _ _ _ _ _ _ (rr_th R) (txr_fx X ⟨rfl, rfl⟩)

theorem case_42 (G : GoesOn N) (R : RR σ η μ) (X : TXR τ μ) : ((fX6_takeSnapshot σ η).bind fun r_333 => ((fX7_takeSnapshot μ).bind fun r_334 => (if r_333.1 = r_334.1 then N σ r_333.2 τ δ r_334.2 ω ε else (some false)))) = some true := by
  obtain ⟨v, η', μ', e1, e2, R', F⟩ := mu_take R
  rw [e1, e2, Option.bind_some, Option.bind_some, if_pos rfl]
  exact G _ _ _ _ _ _ _ R' (txr_fx X F)

theorem case_43 (G : GoesOn N) (R : RR σ η μ) (X : TXR τ μ) : ((fL_restoreSnapshot σ η ω).bind fun r_337 => ((fX7_restoreSnapshot μ).bind fun r_338 => ((fX7_thrown r_338.2).bind fun r_339 => (if r_339 = r_337.1 then (if r_337.1 = 0 then (if (lg_cmp (r_337.2.2.2 (Int32.toNatClampNeg (0 : Int32))) (Int32.toInt64 r_338.1)) = 0 then N r_337.2.1 r_337.2.2.1 τ δ r_338.2 r_337.2.2.2 ε else (some false)) else N r_337.2.1 r_337.2.2.1 τ δ r_338.2 r_337.2.2.2 ε) else (some false))))) = some true := by
  unfold fL_restoreSnapshot
  exact law_mu G R X (mu_restore R) (fun e c hm => by obtain ⟨rfl, rfl⟩ := mem1 hm; exact ⟨if_pos rfl, by decide⟩)

end CS
