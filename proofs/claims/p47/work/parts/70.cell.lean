/-! a number of the script, or one made of its place -/
def fL_cell (L : Nat) (xs : Nat → Int32) (k : Int32) : Option Int32 := (if nI L ≤ k then (some ((900847561 : Int32) * (k + (1 : Int32)))) else (if inR k L then (some (xs (Int32.toNatClampNeg k))) else none))
abbrev rmL_cell : Room := { frames := 0, cells := 0, slots := 0, locals := 0 }
theorem hdL_cell : yL_cell.cls = RL ∧ yL_cell.cls ≠ "java/lang/invoke/MethodHandle" ∧ yL_cell.cls ≠ "java/lang/invoke/VarHandle" ∧ (parseMethodDescriptor yL_cell.desc).map (fun d => d.parameters.length) = some 2 := by decide +kernel
theorem kcL_cell_7 : (.constant RL 7 (900847561) : Cond) ∈ wsL_cell := by decide +kernel
def PX (b L : Nat) (xs : Nat → Int32) (U : State) : Prop := va_X b L xs U U.heap ∧ b < U.heap.size
theorem fbX {b L : Nat} {xs : Nat → Int32} {av : List Value} : FrameBlind (va_Pc av (PX b L xs)) := fun a U f mk q => by
  obtain ⟨q0, qX, qb⟩ := q
  exact ⟨q0, va_X.moved (u := U) (U := U.calling f mk a) (Vm.Alike.refl U.vm) qX, qb⟩
set_option maxHeartbeats 4000000 in
set_option maxRecDepth 100000 in
theorem cL_cell_ok (l : Launch) (b L : Nat) (xs : Nat → Int32) (k : Int32) {r : Int32} (hf : fL_cell L xs k = some r) : Met l yL_cell wsL_cell rmL_cell (va_Pc [.ref b, .int k] (PX b L xs)) (vp_Si (fun r' => r' = r)) 0 0 (fun _ => False) := by
  refine Met.ofW (cc := cL_cell) (maxL := 2) (ret := (some .int)) (by decide) rfl ?_
  intro p e s m args below meth c s₁ B hml hv
  obtain ⟨rfl, hX, hbl⟩ := hv
  have hx := B.exec
  have hb := B.bytes
  have hr := B.returns
  have hts := atoms_spec (ws := wsL_cell) B.pre
  have hown : s.vm.findClass RL = some m.cls := findClass_of_methodNamed B.named
  have hlocks := B.notSynchronized
  have hS : va_S (fun _ => False) s.heap s.heap [] := va_S.rf
  have hl := lv_entry ([.ref b, .int k]) (n := 2) (Nat.le_of_ble_eq_true rfl)
  rw [lg_entry_eq]
  generalize (lg_sl ([.ref b, .int k]) ++ List.replicate (2 - (lg_sl ([.ref b, .int k])).length) Slot.unset).toArray = ls at hl ⊢
  have hl : lv_has ls 2 [(0, .ref b), (1, .int k)] := hl
  have hbA : ¬ (fun _ : Nat => False) b := fun h => h
  unfold fL_cell at hf
  refine lv_iload_n hx hb dL_cell_0 rfl (lv_at hl 1 rfl) ?_
  refine lv_aload_n hx hb dL_cell_1 rfl (lv_at hl 0 rfl) ?_
  refine va_slen hx hb hX hbl hbA hS dL_cell_2 ?_
  refine lv_icmp_ge (tgt := 12) hx hb dL_cell_3 (by decide) (fun c_1 => ?_) (fun c_1 => ?_)
  · have hf := ip c_1 hf
    refine lv_ldc hx hb hown (hts _ kcL_cell_7) dL_cell_12 ?_
    refine lv_iload_n hx hb dL_cell_14 rfl (lv_at hl 1 rfl) ?_
    refine lv_iconst (v := (1 : Int32)) hx hb dL_cell_15 (by decide) ?_
    refine lv_iadd hx hb dL_cell_16 ?_
    refine lv_imul hx hb dL_cell_17 ?_
    exact p_iret hx hb hr hlocks (Option.some.inj hf) dL_cell_18
  · have hf := iq c_1 hf
    refine lv_aload_n hx hb dL_cell_6 rfl (lv_at hl 0 rfl) ?_
    refine lv_iload_n hx hb dL_cell_7 rfl (lv_at hl 1 rfl) ?_
    obtain ⟨h_2, hf⟩ := ck hf
    refine va_sld hx hb hX hbl hbA hS (vin h_2) dL_cell_8 ?_
    refine lv_goto (tgt := 18) hx hb dL_cell_9 (by decide) ?_
    exact p_iret hx hb hr hlocks (Option.some.inj hf) dL_cell_18
section CC
variable {p : Program} {l : Launch} {e : Env} {R : Room} {s : State} {m : MethodId} {args : Array Value} {below : List Frame} {meth : Method} {c : Code} {H : Heap} {locs : List Loc} {cells slots : Nat} {Q : State → Prop}
variable {cc bytes : ByteArray} {pc index maxL nL n : Nat} {ls : Array Slot} {rest st0 As : List Value} {y : MethodName} {ret : Option FieldType} {ws Ts : List Cond} {rm : Room} {own : String} {b L : Nat} {xs : Nat → Int32} {A : Nat → Prop} {r : Int32}
theorem ccallS (S : CallFix p m c cc nL s args Ts own) (hX : va_X b L xs s s.heap) (hbl : b < s.heap.size) (hbA : ¬ A b) (hS : va_S A s.heap H locs)
    (hM : Met l y ws rm (va_Pc As (PX b L xs)) (vp_Si (fun r' => r' = r)) 0 0 (fun _ => False)) (cw : CallB R s args own index y bytes maxL ret ws rm 0 0 n ∧ (Cond.static y).before args s = true)
    (hn : As.length = n) (hsize : ls.size = nL) (hst : st0 = As.reverse ++ rest) (hW : (rest.map fun v => v.category).sum ≤ 8) (hcl : cells ≤ R.cells ∧ slots ≤ R.slots)
    (hdg : decode cc pc = .ok (.invokestatic index, 3)) (kk : W p l e R s m args below meth c H locs cells slots Q (F0 m (pc + 3) ls (.int r :: rest))) : W p l e R s m args below meth c H locs cells slots Q (F0 m pc ls st0) := by
  have hq := hS.2.1 b hbl hbA
  have hz : b < H.size := (Array.getElem?_eq_some_iff.mp (hq.trans (Array.getElem?_eq_getElem hbl))).1
  refine vp_callSi (W.runS (As := As) (rest := rest) S hM cw ⟨fbX, fun U hU hW => ⟨rfl, by rw [hU]; exact (hX.kept hq).moved hW.alike, by rw [hU]; exact hz⟩⟩ rfl hn hsize hst (lv_room hW) hdg hcl) (fun r' h => by rw [h]; exact kk)
end CC
