def fL_isLine_572 (cap : Nat) (σ : Sh) (ν : (Nat → Int32)) (ζ : (Nat → Int64)) (p3 p4 : Int32) (ψ_572 : (Nat → Int32)) : Nat → Bool → Int32 → Dr → Nat → Option (Bool × Dr)
  | 0, _, _, _, _ => none
  | n + 1, v12_572, v17_572, δ_572, n_572 => (if (5 : Int32) ≤ v17_572 then (some (v12_572, δ_572)) else (if v12_572 = true then ((fL_low (p4 >>> (((3 : Int32) * v17_572) &&& 31)) (384 : Int32)).bind fun r_3 => (xokv (fX6_isWithinByRays σ p3 r_3) fun r_4 => ((fL_isWithin ν ψ_572 p3 r_3).bind fun r_5 => (if (b2i r_4) = (b2i r_5) then (xokv (fX6_isWithinBySpreading σ δ_572 p3 r_3) fun r_7 => ((fL_isWithin ν ψ_572 p3 r_3).bind fun r_8 => (if (b2i r_7.1) = (b2i r_8) then (xokv (fX6_lineAt σ r_3) fun r_10 => (if n_572 + 1 ≤ cap then ((fL_owner 1 ν ζ r_3).bind fun r_11 => (if r_10 = r_11 then fL_isLine_572 cap σ ν ζ p3 p4 ψ_572 n true (v17_572 + 1) r_7.2 (n_572 + 1) else fL_isLine_572 cap σ ν ζ p3 p4 ψ_572 n false (v17_572 + 1) r_7.2 (n_572 + 1))) else none)) else fL_isLine_572 cap σ ν ζ p3 p4 ψ_572 n false (v17_572 + 1) r_7.2 n_572))) else fL_isLine_572 cap σ ν ζ p3 p4 ψ_572 n false (v17_572 + 1) δ_572 n_572)))) else (some (v12_572, δ_572))))
def fL_isLine_526 (cap : Nat) (σ : Sh) (ν : (Nat → Int32)) (ζ : (Nat → Int64)) (p3 p4 : Int32) (δ_526 : Dr) (ψ_526 : (Nat → Int32)) : Nat → Bool → Int32 → Nat → Option (Bool × Dr)
  | 0, _, _, _ => none
  | n + 1, v12_526, v17_526, n_526 => (if (8 : Int32) ≤ v17_526 then fL_isLine_572 cap σ ν ζ p3 p4 ψ_526 FU v12_526 (0 : Int32) δ_526 n_526 else (if v12_526 = true then (xokv (fX6_whyNotStepped σ p3 v17_526) fun r_15 => (if n_526 + 2 ≤ cap then ((fL_why 2 ν ζ p3 v17_526).bind fun r_16 => (if r_15 = r_16 then fL_isLine_526 cap σ ν ζ p3 p4 δ_526 ψ_526 n true (v17_526 + 1) (n_526 + 2) else fL_isLine_526 cap σ ν ζ p3 p4 δ_526 ψ_526 n false (v17_526 + 1) (n_526 + 2))) else none)) else fL_isLine_572 cap σ ν ζ p3 p4 ψ_526 FU v12_526 (0 : Int32) δ_526 n_526))
def fL_isLine_479 (cap : Nat) (σ : Sh) (ν : (Nat → Int32)) (ζ : (Nat → Int64)) (p3 p4 : Int32) (v6_479 : Int32) (v8_479 : Int32) (v10_479 : UInt64) (t0_479 : Bool) (t1_479 : Bool) (δ_479 : Dr) (ψ_479 : (Nat → Int32)) (n_479 : Nat) : Option (Bool × Dr) := (if (b2i t0_479) = (b2i t1_479) then (xokv (fX6_lengthBySteps σ p3) fun r_19 => (if (Op.cmpValue (FP.dcmp r_19 v10_479) .l) = 0 then (xokv (fX6_lengthByKinds σ p3) fun r_21 => (if nN (FP.dmul (FP.i2d v8_479) (0x3ff6a09e667f3bcd : UInt64)) then (if nN (FP.dadd (FP.i2d (v6_479 - v8_479)) (FP.dmul (FP.i2d v8_479) (0x3ff6a09e667f3bcd : UInt64))) then (if (Op.cmpValue (FP.dcmp r_21 (FP.dadd (FP.i2d (v6_479 - v8_479)) (FP.dmul (FP.i2d v8_479) (0x3ff6a09e667f3bcd : UInt64)))) .l) = 0 then fL_isLine_526 cap σ ν ζ p3 p4 δ_479 ψ_479 FU true (0 : Int32) n_479 else fL_isLine_526 cap σ ν ζ p3 p4 δ_479 ψ_479 FU false (0 : Int32) n_479) else none) else none)) else fL_isLine_526 cap σ ν ζ p3 p4 δ_479 ψ_479 FU false (0 : Int32) n_479)) else fL_isLine_526 cap σ ν ζ p3 p4 δ_479 ψ_479 FU false (0 : Int32) n_479)
def fL_isLine_443 (cap : Nat) (σ : Sh) (ν : (Nat → Int32)) (ζ : (Nat → Int64)) (p3 p4 : Int32) (v6_443 : Int32) (v8_443 : Int32) (v10_443 : UInt64) (v15_443 : Int32) (v16_443 : Int32) (t0_443 : Int32) (t1_443 : Int32) (δ_443 : Dr) (ψ_443 : (Nat → Int32)) (n_443 : Nat) : Option (Bool × Dr) := (if t0_443 = t1_443 then (xokv (fX6_lineRound σ p3) fun r_26 => (if r_26 = v15_443 then (xokv (fX6_isSteady σ p3) fun r_28 => (if v16_443 = (5 : Int32) then fL_isLine_479 cap σ ν ζ p3 p4 v6_443 v8_443 v10_443 r_28 true δ_443 ψ_443 n_443 else (if v16_443 = (-5 : Int32) then fL_isLine_479 cap σ ν ζ p3 p4 v6_443 v8_443 v10_443 r_28 true δ_443 ψ_443 n_443 else fL_isLine_479 cap σ ν ζ p3 p4 v6_443 v8_443 v10_443 r_28 false δ_443 ψ_443 n_443))) else fL_isLine_526 cap σ ν ζ p3 p4 δ_443 ψ_443 FU false (0 : Int32) n_443)) else fL_isLine_526 cap σ ν ζ p3 p4 δ_443 ψ_443 FU false (0 : Int32) n_443)
def fL_isLine_373 (cap : Nat) (σ : Sh) (ν : (Nat → Int32)) (ζ : (Nat → Int64)) (p3 p4 : Int32) (v6_373 : Int32) (v7_373 : Int32) (v8_373 : Int32) (v9_373 : Int32) (v10_373 : UInt64) (v12_373 : Bool) (v13_373 : Int32) (v14_373 : Bool) (v15_373 : Int32) (t0_373 : Int32) (δ_373 : Dr) (ψ_373 : (Nat → Int32)) (n_373 : Nat) : Option (Bool × Dr) := (if v12_373 = true then (xokv (fX6_placesOf σ p3) fun r_32 => (if r_32 = v9_373 then (xokv (fX6_bestPlace σ p3) fun r_34 => (if n_373 + (uB ν p3) ≤ cap then ((fL_best (uB ν p3) ν ζ p3).bind fun r_35 => (if r_34 = r_35 then (xokv (fX6_isTurned σ p3) fun r_37 => (if (b2i r_37) = (b2i v14_373) then (xokv (fX6_readFrom σ p3) fun r_39 => (if 0 ≤ v7_373 then (if v14_373 = true then fL_isLine_443 cap σ ν ζ p3 p4 v6_373 v8_373 v10_373 v15_373 t0_373 r_39 v13_373 δ_373 ψ_373 (n_373 + (uB ν p3)) else (if inR v7_373 61 then fL_isLine_443 cap σ ν ζ p3 p4 v6_373 v8_373 v10_373 v15_373 t0_373 r_39 (ψ_373 (Int32.toNatClampNeg v7_373)) δ_373 ψ_373 (n_373 + (uB ν p3)) else none)) else fL_isLine_443 cap σ ν ζ p3 p4 v6_373 v8_373 v10_373 v15_373 t0_373 r_39 (-1 : Int32) δ_373 ψ_373 (n_373 + (uB ν p3)))) else fL_isLine_526 cap σ ν ζ p3 p4 δ_373 ψ_373 FU false (0 : Int32) (n_373 + (uB ν p3)))) else fL_isLine_526 cap σ ν ζ p3 p4 δ_373 ψ_373 FU false (0 : Int32) (n_373 + (uB ν p3)))) else none)) else fL_isLine_526 cap σ ν ζ p3 p4 δ_373 ψ_373 FU false (0 : Int32) n_373)) else fL_isLine_526 cap σ ν ζ p3 p4 δ_373 ψ_373 FU false (0 : Int32) n_373)
def fL_isLine_342 (cap : Nat) (σ : Sh) (ν : (Nat → Int32)) (ζ : (Nat → Int64)) (p3 p4 : Int32) (v6_342 : Int32) (v7_342 : Int32) (v8_342 : Int32) (v9_342 : Int32) (v10_342 : UInt64) (v12_342 : Bool) (v13_342 : Int32) (t0_342 : Bool) (δ_342 : Dr) (ψ_342 : (Nat → Int32)) (n_342 : Nat) : Option (Bool × Dr) := (if n_342 + 2 ≤ cap then ((fL_round 2 ν ζ p3).bind fun r_43 => (if 0 ≤ r_43 then (if inR ((4 : Int32) * p3) 34 then (if inR ((4 : Int32) * r_43) 34 then fL_isLine_373 cap σ ν ζ p3 p4 v6_342 v7_342 v8_342 v9_342 v10_342 v12_342 v13_342 t0_342 r_43 ((ν (Int32.toNatClampNeg ((4 : Int32) * p3))) - (ν (Int32.toNatClampNeg ((4 : Int32) * r_43)))) δ_342 ψ_342 (n_342 + 2) else none) else none) else fL_isLine_373 cap σ ν ζ p3 p4 v6_342 v7_342 v8_342 v9_342 v10_342 v12_342 v13_342 t0_342 r_43 (5 : Int32) δ_342 ψ_342 (n_342 + 2))) else none)
def fL_isLine_314 (cap : Nat) (σ : Sh) (ν : (Nat → Int32)) (ζ : (Nat → Int64)) (p3 p4 : Int32) (v6_314 : Int32) (v7_314 : Int32) (v8_314 : Int32) (v9_314 : Int32) (v10_314 : UInt64) (v12_314 : Bool) (t0_314 : Int32) (δ_314 : Dr) (ψ_314 : (Nat → Int32)) (n_314 : Nat) : Option (Bool × Dr) := (if v7_314 < 0 then fL_isLine_342 cap σ ν ζ p3 p4 v6_314 v7_314 v8_314 v9_314 v10_314 v12_314 t0_314 false δ_314 ψ_314 n_314 else (if inR v7_314 61 then (if (irm (ψ_314 (Int32.toNatClampNeg v7_314)) (24 : Int32)) ≤ (irm t0_314 (24 : Int32)) then fL_isLine_342 cap σ ν ζ p3 p4 v6_314 v7_314 v8_314 v9_314 v10_314 v12_314 t0_314 false δ_314 ψ_314 n_314 else fL_isLine_342 cap σ ν ζ p3 p4 v6_314 v7_314 v8_314 v9_314 v10_314 v12_314 t0_314 true δ_314 ψ_314 n_314) else none))
def fL_isLine_292 (cap : Nat) (σ : Sh) (ν : (Nat → Int32)) (ζ : (Nat → Int64)) (p3 p4 : Int32) (v6_292 : Int32) (v7_292 : Int32) (v8_292 : Int32) (v9_292 : Int32) (v10_292 : UInt64) (v12_292 : Bool) (δ_292 : Dr) (ψ_292 : (Nat → Int32)) (n_292 : Nat) : Option (Bool × Dr) := (if 0 ≤ v7_292 then ((fL_size ν p3).bind fun r_51 => (if inR ((v7_292 + r_51) - (1 : Int32)) 61 then fL_isLine_314 cap σ ν ζ p3 p4 v6_292 v7_292 v8_292 v9_292 v10_292 v12_292 (ψ_292 (Int32.toNatClampNeg ((v7_292 + r_51) - (1 : Int32)))) δ_292 ψ_292 n_292 else none)) else fL_isLine_314 cap σ ν ζ p3 p4 v6_292 v7_292 v8_292 v9_292 v10_292 v12_292 (0 : Int32) δ_292 ψ_292 n_292)
def fL_isLine_209 (cap : Nat) (σ : Sh) (ν : (Nat → Int32)) (ζ : (Nat → Int64)) (p3 p4 : Int32) (v6_112 : Int32) (v7_112 : Int32) (δ_112 : Dr) (ψ_112 : (Nat → Int32)) (k112 : Int32 → Int32 → UInt64 → Bool → Int32 → Nat → Option (Bool × Dr)) (v8_209 : Int32) (v10_209 : UInt64) (v13_209 : Int32) (v14_209 : Int32) (t0_209 : Int32) (t1_209 : Bool) (n_209 : Nat) : Option (Bool × Dr) := (xokv (fX6_pointOf σ p3 v13_209) fun r_53 => (if inR v13_209 61 then (if r_53 = (ψ_112 (Int32.toNatClampNeg v13_209)) then (xokv (fX6_bendAt σ p3 v13_209) fun r_56 => ((fL_bend ν ζ ψ_112 p3 v13_209).bind fun r_57 => (if r_56 = r_57 then (xokv (fX6_bendOf σ p3 v13_209) fun r_59 => ((fL_bends ν ζ ψ_112 p3 v13_209).bind fun r_60 => (if r_59 = r_60 then (xokv (fX6_whyNotLabelled σ p3 v13_209) fun r_62 => (if r_62 = v14_209 then k112 v8_209 (t0_209 + (b2i t1_209)) v10_209 true (v13_209 + 1) n_209 else k112 v8_209 (t0_209 + (b2i t1_209)) v10_209 false (v13_209 + 1) n_209)) else k112 v8_209 (t0_209 + (b2i t1_209)) v10_209 false (v13_209 + 1) n_209))) else k112 v8_209 (t0_209 + (b2i t1_209)) v10_209 false (v13_209 + 1) n_209))) else k112 v8_209 (t0_209 + (b2i t1_209)) v10_209 false (v13_209 + 1) n_209) else none))
def fL_isLine_182 (cap : Nat) (σ : Sh) (ν : (Nat → Int32)) (ζ : (Nat → Int64)) (p3 p4 : Int32) (v6_112 : Int32) (v7_112 : Int32) (δ_112 : Dr) (ψ_112 : (Nat → Int32)) (k112 : Int32 → Int32 → UInt64 → Bool → Int32 → Nat → Option (Bool × Dr)) (v8_182 : Int32) (v9_182 : Int32) (v13_182 : Int32) (t0_182 : UInt64) (t1_182 : UInt64) (n_182 : Nat) : Option (Bool × Dr) := (if nN (FP.dadd t0_182 t1_182) then (if n_182 + (uA ν p3 v13_182) ≤ cap then ((fL_against (uA ν p3 v13_182) ν ζ ψ_112 p3 v13_182).bind fun r_65 => (if r_65 = 0 then fL_isLine_209 cap σ ν ζ p3 p4 v6_112 v7_112 δ_112 ψ_112 k112 v8_182 (FP.dadd t0_182 t1_182) v13_182 r_65 v9_182 true (n_182 + (uA ν p3 v13_182)) else fL_isLine_209 cap σ ν ζ p3 p4 v6_112 v7_112 δ_112 ψ_112 k112 v8_182 (FP.dadd t0_182 t1_182) v13_182 r_65 v9_182 false (n_182 + (uA ν p3 v13_182)))) else none) else none)
def fL_isLine_146 (cap : Nat) (σ : Sh) (ν : (Nat → Int32)) (ζ : (Nat → Int64)) (p3 p4 : Int32) (v6_112 : Int32) (v7_112 : Int32) (δ_112 : Dr) (ψ_112 : (Nat → Int32)) (k112 : Int32 → Int32 → UInt64 → Bool → Int32 → Nat → Option (Bool × Dr)) (v9_146 : Int32) (v10_146 : UInt64) (v13_146 : Int32) (t0_146 : Int32) (t1_146 : Int32) (n_146 : Nat) : Option (Bool × Dr) := (if v13_146 = v6_112 then fL_isLine_182 cap σ ν ζ p3 p4 v6_112 v7_112 δ_112 ψ_112 k112 (t0_146 + t1_146) v9_146 v13_146 v10_146 (0 : UInt64) n_146 else ((fL_dir ζ p3 v13_146).bind fun r_68 => (if (irm r_68 (2 : Int32)) = (1 : Int32) then fL_isLine_182 cap σ ν ζ p3 p4 v6_112 v7_112 δ_112 ψ_112 k112 (t0_146 + t1_146) v9_146 v13_146 v10_146 (0x3ff6a09e667f3bcd : UInt64) n_146 else fL_isLine_182 cap σ ν ζ p3 p4 v6_112 v7_112 δ_112 ψ_112 k112 (t0_146 + t1_146) v9_146 v13_146 v10_146 (0x3ff0000000000000 : UInt64) n_146)))
def fL_isLine_112 (cap : Nat) (σ : Sh) (ν : (Nat → Int32)) (ζ : (Nat → Int64)) (p3 p4 : Int32) (v6_112 : Int32) (v7_112 : Int32) (δ_112 : Dr) (ψ_112 : (Nat → Int32)) : Nat → Int32 → Int32 → UInt64 → Bool → Int32 → Nat → Option (Bool × Dr)
  | 0, _, _, _, _, _, _ => none
  | n + 1, v8_112, v9_112, v10_112, v12_112, v13_112, n_112 => (if v6_112 < v13_112 then fL_isLine_292 cap σ ν ζ p3 p4 v6_112 v7_112 v8_112 v9_112 v10_112 v12_112 δ_112 ψ_112 n_112 else (if v12_112 = true then (if v6_112 ≤ v13_112 then fL_isLine_146 cap σ ν ζ p3 p4 v6_112 v7_112 δ_112 ψ_112 (fL_isLine_112 cap σ ν ζ p3 p4 v6_112 v7_112 δ_112 ψ_112 n) v9_112 v10_112 v13_112 v8_112 (0 : Int32) n_112 else ((fL_dir ζ p3 v13_112).bind fun r_73 => fL_isLine_146 cap σ ν ζ p3 p4 v6_112 v7_112 δ_112 ψ_112 (fL_isLine_112 cap σ ν ζ p3 p4 v6_112 v7_112 δ_112 ψ_112 n) v9_112 v10_112 v13_112 v8_112 (irm r_73 (2 : Int32)) n_112)) else fL_isLine_292 cap σ ν ζ p3 p4 v6_112 v7_112 v8_112 v9_112 v10_112 v12_112 δ_112 ψ_112 n_112))
def fL_isLine (cap : Nat) (σ : Sh) (δ : Dr) (ν : (Nat → Int32)) (ζ : (Nat → Int64)) (p3 p4 : Int32) : Option (Bool × Dr) := (if 0 + 1 ≤ cap then ((fL_walks ν ζ (fun _ => (0 : Int32)) p3).bind fun r_75 => (if inR (((4 : Int32) * p3) + (2 : Int32)) 34 then (if inR (((4 : Int32) * p3) + (3 : Int32)) 34 then (xokv (fX6_levelOf σ p3) fun r_78 => (if inR ((4 : Int32) * p3) 34 then (if r_78 = (ν (Int32.toNatClampNeg ((4 : Int32) * p3))) then (xokv (fX6_stepsOf σ p3) fun r_81 => (if r_81 = (ν (Int32.toNatClampNeg (((4 : Int32) * p3) + (2 : Int32)))) then (xokv (fX6_isClosed σ p3) fun r_83 => ((fL_closed ν r_75 p3).bind fun r_84 => (if (b2i r_83) = (b2i r_84) then (xokv (fX6_sizeOf σ p3) fun r_86 => ((fL_size ν p3).bind fun r_87 => (if r_86 = r_87 then (xokv (fX6_labelOf σ p3) fun r_89 => (if r_89 = (ν (Int32.toNatClampNeg (((4 : Int32) * p3) + (3 : Int32)))) then fL_isLine_112 cap σ ν ζ p3 p4 (ν (Int32.toNatClampNeg (((4 : Int32) * p3) + (2 : Int32)))) (ν (Int32.toNatClampNeg (((4 : Int32) * p3) + (3 : Int32)))) δ r_75 FU (0 : Int32) (0 : Int32) (0 : UInt64) true (0 : Int32) (0 + 1) else fL_isLine_112 cap σ ν ζ p3 p4 (ν (Int32.toNatClampNeg (((4 : Int32) * p3) + (2 : Int32)))) (ν (Int32.toNatClampNeg (((4 : Int32) * p3) + (3 : Int32)))) δ r_75 FU (0 : Int32) (0 : Int32) (0 : UInt64) false (0 : Int32) (0 + 1))) else fL_isLine_112 cap σ ν ζ p3 p4 (ν (Int32.toNatClampNeg (((4 : Int32) * p3) + (2 : Int32)))) (ν (Int32.toNatClampNeg (((4 : Int32) * p3) + (3 : Int32)))) δ r_75 FU (0 : Int32) (0 : Int32) (0 : UInt64) false (0 : Int32) (0 + 1)))) else fL_isLine_112 cap σ ν ζ p3 p4 (ν (Int32.toNatClampNeg (((4 : Int32) * p3) + (2 : Int32)))) (ν (Int32.toNatClampNeg (((4 : Int32) * p3) + (3 : Int32)))) δ r_75 FU (0 : Int32) (0 : Int32) (0 : UInt64) false (0 : Int32) (0 + 1)))) else fL_isLine_112 cap σ ν ζ p3 p4 (ν (Int32.toNatClampNeg (((4 : Int32) * p3) + (2 : Int32)))) (ν (Int32.toNatClampNeg (((4 : Int32) * p3) + (3 : Int32)))) δ r_75 FU (0 : Int32) (0 : Int32) (0 : UInt64) false (0 : Int32) (0 + 1))) else fL_isLine_112 cap σ ν ζ p3 p4 (ν (Int32.toNatClampNeg (((4 : Int32) * p3) + (2 : Int32)))) (ν (Int32.toNatClampNeg (((4 : Int32) * p3) + (3 : Int32)))) δ r_75 FU (0 : Int32) (0 : Int32) (0 : UInt64) false (0 : Int32) (0 + 1)) else none)) else none) else none)) else none)
abbrev rmL_isLine (cap : Nat) : Room := { frames := 7, cells := 3 * cap, slots := 61 * cap, locals := 166 }
theorem hdL_isLine : yL_isLine.cls = RL ∧ yL_isLine.cls ≠ "java/lang/invoke/MethodHandle" ∧ yL_isLine.cls ≠ "java/lang/invoke/VarHandle" ∧ (parseMethodDescriptor yL_isLine.desc).map (fun d => d.parameters.length) = some 5 := by decide +kernel
theorem kdL_isLine_81 : (.constantDouble RL 81 0x3ff6a09e667f3bcd : Cond) ∈ wsL_isLine := by decide +kernel
theorem naL_isLine : (.arrayClass .int : Cond) ∈ wsL_isLine := by decide +kernel
set_option maxHeartbeats 4000000 in
set_option maxRecDepth 100000 in
theorem cL_isLine_ok (l : Launch) (hl0 : l.stackTraces = false) (g : Gg) (cap : Nat) (c0 h k0 x0 d0 a1 a2 a3 a4 d1 d2 v0 z0 : Nat) (σ : Sh) (δ : Dr) (ν : (Nat → Int32)) (ζ : (Nat → Int64)) (p3 p4 : Int32) (sz : Nat) {o : Bool × Dr} (hf : fL_isLine cap σ δ ν ζ p3 p4 = some o) : Met l yL_isLine wsL_isLine (rmL_isLine cap) (va_Pc [.ref c0, .ref v0, .ref z0, .int p3, .int p4] (PM g (wC c0 h k0 x0 d0 ++ (wS g h a1 a2 a3 a4 σ ++ (wD g d0 d1 d2 δ ++ (wV g v0 ν ++ (wZ g z0 ζ))))) sz)) (va_Qi (fun r' (_ : Unit) => r' = b2i o.1) (fun _ t => PQ g (wC c0 h k0 x0 d0 ++ (wS g h a1 a2 a3 a4 σ ++ (wD g d0 d1 d2 o.2 ++ (wV g v0 ν ++ (wZ g z0 ζ))))) (va_A (wC c0 h k0 x0 d0 ++ (wS g h a1 a2 a3 a4 σ ++ (wD g d0 d1 d2 δ ++ (wV g v0 ν ++ (wZ g z0 ζ))))) sz) t) (va_A (wC c0 h k0 x0 d0 ++ (wS g h a1 a2 a3 a4 σ ++ (wD g d0 d1 d2 δ ++ (wV g v0 ν ++ (wZ g z0 ζ))))) sz)) (3 * cap) (61 * cap) (va_A (wC c0 h k0 x0 d0 ++ (wS g h a1 a2 a3 a4 σ ++ (wD g d0 d1 d2 δ ++ (wV g v0 ν ++ (wZ g z0 ζ))))) sz) := by
  refine Met.ofW (cc := cL_isLine) (maxL := 19) (ret := (some .boolean)) (by decide) rfl ?_
  intro p e s m args below meth c s₁ B hml hv
  obtain ⟨rfl, rfl, hP, hD0, hE, hZ⟩ := hv
  have hx := B.exec
  have hb := B.bytes
  have hr := B.returns
  have hts := atoms_spec (ws := wsL_isLine) B.pre
  have hown : s.vm.findClass RL = some m.cls := findClass_of_methodNamed B.named
  have hlocks := B.notSynchronized
  have hD := hD0.self (sz := s.heap.size)
  generalize hAe : (va_A (wC c0 h k0 x0 d0 ++ (wS g h a1 a2 a3 a4 σ ++ (wD g d0 d1 d2 δ ++ (wV g v0 ν ++ (wZ g z0 ζ))))) s.heap.size) = A at hD hZ ⊢
  have hA : ∀ q : Nat, s.heap.size ≤ q → A q := fun q h => by rw [← hAe]; exact Or.inr h
  have hS : va_S A s.heap s.heap [] := va_S.rf
  have hP : va_P g.1 vwCl (wC c0 h k0 x0 d0 ++ (wS g h a1 a2 a3 a4 σ ++ (wD g d0 d1 d2 δ ++ (wV g v0 ν ++ (wZ g z0 ζ))))) s.heap := hP
  have hl := lv_entry ([.ref c0, .ref v0, .ref z0, .int p3, .int p4]) (n := 19) (Nat.le_of_ble_eq_true rfl)
  rw [lg_entry_eq]
  generalize (lg_sl ([.ref c0, .ref v0, .ref z0, .int p3, .int p4]) ++ List.replicate (19 - (lg_sl ([.ref c0, .ref v0, .ref z0, .int p3, .int p4])).length) Slot.unset).toArray = ls at hl ⊢
  refine W.cs (cells' := 3 * 0) (slots' := 61 * 0) rfl rfl ?_
  have hl : lv_has ls 19 [(0, .ref c0), (1, .ref v0), (2, .ref z0), (3, .int p3), (4, .int p4)] := hl
  have hB572 : ∀ (p0 : Nat) (ψ_572 : (Nat → Int32)) (n572 : Nat) (v12_572 : Bool) (v17_572 : Int32) (δ_572 : Dr) (n_572 : Nat) (H : Heap) (locs : List Loc) (hn : n_572 ≤ cap) (ls : Array Slot), va_P g.1 vwCl (wC c0 h k0 x0 d0 ++ (wS g h a1 a2 a3 a4 σ ++ (wD g d0 d1 d2 δ_572 ++ (wV g v0 ν ++ (wZ g z0 ζ ++ (wP g p0 ψ_572)))))) H → va_D A (wC c0 h k0 x0 d0 ++ (wS g h a1 a2 a3 a4 σ ++ (wD g d0 d1 d2 δ_572 ++ (wV g v0 ν ++ (wZ g z0 ζ ++ (wP g p0 ψ_572)))))) → va_S A s.heap H locs → lv_has ls 19 [(0, .ref c0), (1, .ref v0), (2, .ref z0), (3, .int p3), (4, .int p4), (5, .ref p0), (12, .int (b2i v12_572)), (17, .int v17_572)] → fL_isLine_572 cap σ ν ζ p3 p4 ψ_572 n572 v12_572 v17_572 δ_572 n_572 = some o → W p l e (headSpec wsL_isLine (rmL_isLine cap)).room s m ([.ref c0, .ref v0, .ref z0, .int p3, .int p4] : List Value).toArray below meth c H locs (3 * n_572) (61 * n_572) (MQ below (va_Qi (fun r' (_ : Unit) => r' = b2i o.1) (fun _ t => PQ g (wC c0 h k0 x0 d0 ++ (wS g h a1 a2 a3 a4 σ ++ (wD g d0 d1 d2 o.2 ++ (wV g v0 ν ++ (wZ g z0 ζ))))) A t) A) ([.ref c0, .ref v0, .ref z0, .int p3, .int p4] : List Value).toArray s (3 * cap) (61 * cap) A) (F0 m 572 ls []) := by
    intro p0 ψ_572 n572
    induction n572 with
    | zero => intro v12_572 v17_572 δ_572 n_572 H locs hn ls hP hD hS hl hf; exact nomatch (show (none : Option (Bool × Dr)) = some _ from hf)
    | succ n572 ih572 =>
      intro v12_572 v17_572 δ_572 n_572 H locs hn ls hP hD hS hl hf
      rw [fL_isLine_572] at hf
      refine lv_iload hx hb dL_isLine_572 (lv_at hl 7 rfl) ?_
      refine lv_iconst (v := (5 : Int32)) hx hb dL_isLine_574 (by decide) ?_
      refine lv_icmp_ge (tgt := 665) hx hb dL_isLine_575 (by decide) (fun c_1 => ?_) (fun c_1 => ?_)
      · have hf := ip c_1 hf
        refine lv_iload hx hb dL_isLine_665 (lv_at hl 6 rfl) ?_
        have ho := Option.some.inj hf
        subst ho
        have hP := hP.sub (ws' := (wC c0 h k0 x0 d0 ++ (wS g h a1 a2 a3 a4 σ ++ (wD g d0 d1 d2 δ_572 ++ (wV g v0 ν ++ (wZ g z0 ζ)))))) [0, 1, 2, 3, 4, 5, 6, 7, 8, 9, 10] rfl
        have hD := hD.sub (ws' := (wC c0 h k0 x0 d0 ++ (wS g h a1 a2 a3 a4 σ ++ (wD g d0 d1 d2 δ_572 ++ (wV g v0 ν ++ (wZ g z0 ζ)))))) [0, 1, 2, 3, 4, 5, 6, 7, 8, 9, 10] (by decide) rfl
        refine W.widen (k := 3 * cap) (n := 61 * cap) (k3 hn) (k61 hn) ?_
        exact m_zret (v := v12_572) hx hb hr hlocks hP hD hS rfl dL_isLine_667
      · have hf := iq c_1 hf
        refine lv_iload hx hb dL_isLine_578 (lv_at hl 6 rfl) ?_
        refine lv_beq (tgt := 665) hx hb dL_isLine_580 (by decide) (fun c_2 => ?_) (fun c_2 => ?_)
        · have hf := iq c_2 hf
          refine lv_iload hx hb dL_isLine_665 (lv_at hl 6 rfl) ?_
          have ho := Option.some.inj hf
          subst ho
          have hP := hP.sub (ws' := (wC c0 h k0 x0 d0 ++ (wS g h a1 a2 a3 a4 σ ++ (wD g d0 d1 d2 δ_572 ++ (wV g v0 ν ++ (wZ g z0 ζ)))))) [0, 1, 2, 3, 4, 5, 6, 7, 8, 9, 10] rfl
          have hD := hD.sub (ws' := (wC c0 h k0 x0 d0 ++ (wS g h a1 a2 a3 a4 σ ++ (wD g d0 d1 d2 δ_572 ++ (wV g v0 ν ++ (wZ g z0 ζ)))))) [0, 1, 2, 3, 4, 5, 6, 7, 8, 9, 10] (by decide) rfl
          refine W.widen (k := 3 * cap) (n := 61 * cap) (k3 hn) (k61 hn) ?_
          exact m_zret (v := v12_572) hx hb hr hlocks hP hD hS rfl dL_isLine_667
        · have hf := ip c_2 hf
          refine lv_iload hx hb dL_isLine_583 (lv_at hl 4 rfl) ?_
          refine lv_iconst (v := (3 : Int32)) hx hb dL_isLine_585 (by decide) ?_
          refine lv_iload hx hb dL_isLine_586 (lv_at hl 7 rfl) ?_
          refine lv_imul hx hb dL_isLine_588 ?_
          refine lv_ishr hx hb dL_isLine_589 ?_
          refine lv_sipush (v := (384 : Int32)) hx hb dL_isLine_590 (by decide) ?_
          obtain ⟨r_3, e_3, hf⟩ := bo hf
          refine pcallS (W0 := (wC c0 h k0 x0 d0 ++ (wS g h a1 a2 a3 a4 σ ++ (wD g d0 d1 d2 δ_572 ++ (wV g v0 ν ++ (wZ g z0 ζ ++ (wP g p0 ψ_572))))))) (As := [.int (p4 >>> (((3 : Int32) * v17_572) &&& 31)), .int (384 : Int32)]) (rest := []) [] ⟨hx, hb, hml, hown, hts⟩ hP hE hZ hS (cL_low_ok l g  (p4 >>> (((3 : Int32) * v17_572) &&& 31)) (384 : Int32) e_3) (va_cwS 2 hts gL_isLine_L_low rfl rfl rfl hdL_low.2 ⟨(Nat.le_of_ble_eq_true rfl), (Nat.le_of_ble_eq_true rfl)⟩) rfl rfl hl.1 rfl (Nat.le_of_ble_eq_true rfl) ⟨(k3 hn), (k61 hn)⟩ dL_isLine_593 ?_
          refine lv_istore (lv' := [(18, .int r_3), (0, .ref c0), (1, .ref v0), (2, .ref z0), (3, .int p3), (4, .int p4), (5, .ref p0), (12, .int (b2i v12_572)), (17, .int v17_572)]) hx hb dL_isLine_596 hl (by decide) rfl (fun ls hl => ?_)
          refine lv_aload_n hx hb dL_isLine_598 rfl (lv_at hl 1 rfl) ?_
          refine lv_iload_n hx hb dL_isLine_599 rfl (lv_at hl 4 rfl) ?_
          refine lv_iload hx hb dL_isLine_600 (lv_at hl 0 rfl) ?_
          obtain ⟨r_4, e_4, hf⟩ := xov hf
          refine mcallVi (W0 := (wC c0 h k0 x0 d0 ++ (wS g h a1 a2 a3 a4 σ ++ (wD g d0 d1 d2 δ_572 ++ (wV g v0 ν ++ (wZ g z0 ζ ++ (wP g p0 ψ_572))))))) (Wc := (wC c0 h k0 x0 d0 ++ (wS g h a1 a2 a3 a4 σ))) (Wr := (wD g d0 d1 d2 δ_572 ++ (wV g v0 ν ++ (wZ g z0 ζ ++ (wP g p0 ψ_572))))) (W1 := (wC c0 h k0 x0 d0 ++ (wS g h a1 a2 a3 a4 σ))) (W2 := (wC c0 h k0 x0 d0 ++ (wS g h a1 a2 a3 a4 σ ++ (wD g d0 d1 d2 δ_572 ++ (wV g v0 ν ++ (wZ g z0 ζ ++ (wP g p0 ψ_572))))))) (As := [.int p3, .int r_3]) (rest := []) [0, 1, 2, 3, 4, 5] [6, 7, 8, 9, 10, 11] [6, 7, 8, 9, 10, 11, 0, 1, 2, 3, 4, 5] 4 0 ⟨hx, hb, hml, hown, hts⟩ hP hD hE hZ hS hA (cX6_isWithinByRays_k_ok l g  c0 h k0 x0 d0 a1 a2 a3 a4 σ p3 r_3 _ e_4) (cwV 2 hts gL_isLine_X6_isWithinByRays rfl rfl rfl hdX6_isWithinByRays ⟨(Nat.le_of_ble_eq_true rfl), (Nat.le_of_ble_eq_true rfl)⟩) rfl rfl rfl (by decide) (by decide) (by decide) (by decide) rfl rfl rfl rfl hl.1 rfl (Nat.le_of_ble_eq_true rfl) ⟨(k3 hn), (k61 hn)⟩ dL_isLine_602 (fun H locs hP hD hS => ?_)
          refine W.cs (cells' := 3 * n_572) (slots' := 61 * n_572) (Nat.add_zero _) (Nat.add_zero _) ?_
          refine lv_aload_n hx hb dL_isLine_605 rfl (lv_at hl 2 rfl) ?_
          refine lv_iload_n hx hb dL_isLine_606 rfl (lv_at hl 4 rfl) ?_
          refine lv_aload hx hb dL_isLine_607 (lv_at hl 6 rfl) ?_
          refine lv_iload hx hb dL_isLine_609 (lv_at hl 0 rfl) ?_
          obtain ⟨r_5, e_5, hf⟩ := bo hf
          refine pcallS (W0 := (wC c0 h k0 x0 d0 ++ (wS g h a1 a2 a3 a4 σ ++ (wD g d0 d1 d2 δ_572 ++ (wV g v0 ν ++ (wZ g z0 ζ ++ (wP g p0 ψ_572))))))) (As := [.ref v0, .int p3, .ref p0, .int r_3]) (rest := [.int (b2i r_4)]) [9, 11] ⟨hx, hb, hml, hown, hts⟩ hP hE hZ hS (cL_isWithin_ok l g v0 p0 ν ψ_572 p3 r_3 e_5) (va_cwS 4 hts gL_isLine_L_isWithin rfl rfl rfl hdL_isWithin.2 ⟨(Nat.le_of_ble_eq_true rfl), (Nat.le_of_ble_eq_true rfl)⟩) rfl rfl hl.1 rfl (Nat.le_of_ble_eq_true rfl) ⟨(k3 hn), (k61 hn)⟩ dL_isLine_611 ?_
          refine lv_icmp_ne (tgt := 656) hx hb dL_isLine_614 (by decide) (fun c_6 => ?_) (fun c_6 => ?_)
          · have hf := iq c_6 hf
            refine lv_iconst (v := (0 : Int32)) hx hb dL_isLine_656 (by decide) ?_
            refine lv_istore (lv' := [(12, .int (0 : Int32)), (18, .int r_3), (0, .ref c0), (1, .ref v0), (2, .ref z0), (3, .int p3), (4, .int p4), (5, .ref p0), (17, .int v17_572)]) hx hb dL_isLine_657 hl (by decide) rfl (fun ls hl => ?_)
            refine lv_iinc (v := (v17_572 + 1)) (lv' := [(17, .int (v17_572 + 1)), (12, .int (0 : Int32)), (18, .int r_3), (0, .ref c0), (1, .ref v0), (2, .ref z0), (3, .int p3), (4, .int p4), (5, .ref p0)]) hx hb dL_isLine_659 hl (k := 8) rfl rfl (by decide) rfl (fun ls hl => ?_)
            refine lv_goto (tgt := 572) hx hb dL_isLine_662 (by decide) ?_
            exact ih572 false (v17_572 + 1) δ_572 n_572 _ _ hn ls hP hD hS (lv_sub hl [3, 4, 5, 6, 7, 8, 1, 0] rfl) hf
          · have hf := ip c_6 hf
            refine lv_aload_n hx hb dL_isLine_617 rfl (lv_at hl 1 rfl) ?_
            refine lv_iload_n hx hb dL_isLine_618 rfl (lv_at hl 4 rfl) ?_
            refine lv_iload hx hb dL_isLine_619 (lv_at hl 0 rfl) ?_
            obtain ⟨r_7, e_7, hf⟩ := xov hf
            refine mcallVi (W0 := (wC c0 h k0 x0 d0 ++ (wS g h a1 a2 a3 a4 σ ++ (wD g d0 d1 d2 δ_572 ++ (wV g v0 ν ++ (wZ g z0 ζ ++ (wP g p0 ψ_572))))))) (Wc := (wC c0 h k0 x0 d0 ++ (wS g h a1 a2 a3 a4 σ ++ (wD g d0 d1 d2 δ_572)))) (Wr := (wV g v0 ν ++ (wZ g z0 ζ ++ (wP g p0 ψ_572)))) (W1 := (wC c0 h k0 x0 d0 ++ (wS g h a1 a2 a3 a4 σ ++ (wD g d0 d1 d2 r_7.2)))) (W2 := (wC c0 h k0 x0 d0 ++ (wS g h a1 a2 a3 a4 σ ++ (wD g d0 d1 d2 r_7.2 ++ (wV g v0 ν ++ (wZ g z0 ζ ++ (wP g p0 ψ_572))))))) (As := [.int p3, .int r_3]) (rest := []) [0, 1, 2, 3, 4, 5, 6, 7, 8] [9, 10, 11] [3, 4, 5, 6, 7, 8, 9, 10, 11, 0, 1, 2] 4 0 ⟨hx, hb, hml, hown, hts⟩ hP hD hE hZ hS hA (cX6_isWithinBySpreading_k_ok l g  c0 h k0 x0 d0 a1 a2 a3 a4 d1 d2 σ δ_572 p3 r_3 _ e_7) (cwV 2 hts gL_isLine_X6_isWithinBySpreading rfl rfl rfl hdX6_isWithinBySpreading ⟨(Nat.le_of_ble_eq_true rfl), (Nat.le_of_ble_eq_true rfl)⟩) rfl rfl rfl (by decide) (by decide) (by decide) (by decide) rfl rfl rfl rfl hl.1 rfl (Nat.le_of_ble_eq_true rfl) ⟨(k3 hn), (k61 hn)⟩ dL_isLine_621 (fun H locs hP hD hS => ?_)
            refine W.cs (cells' := 3 * n_572) (slots' := 61 * n_572) (Nat.add_zero _) (Nat.add_zero _) ?_
            refine lv_aload_n hx hb dL_isLine_624 rfl (lv_at hl 2 rfl) ?_
            refine lv_iload_n hx hb dL_isLine_625 rfl (lv_at hl 4 rfl) ?_
            refine lv_aload hx hb dL_isLine_626 (lv_at hl 6 rfl) ?_
            refine lv_iload hx hb dL_isLine_628 (lv_at hl 0 rfl) ?_
            obtain ⟨r_8, e_8, hf⟩ := bo hf
            refine pcallS (W0 := (wC c0 h k0 x0 d0 ++ (wS g h a1 a2 a3 a4 σ ++ (wD g d0 d1 d2 r_7.2 ++ (wV g v0 ν ++ (wZ g z0 ζ ++ (wP g p0 ψ_572))))))) (As := [.ref v0, .int p3, .ref p0, .int r_3]) (rest := [.int (b2i r_7.1)]) [9, 11] ⟨hx, hb, hml, hown, hts⟩ hP hE hZ hS (cL_isWithin_ok l g v0 p0 ν ψ_572 p3 r_3 e_8) (va_cwS 4 hts gL_isLine_L_isWithin rfl rfl rfl hdL_isWithin.2 ⟨(Nat.le_of_ble_eq_true rfl), (Nat.le_of_ble_eq_true rfl)⟩) rfl rfl hl.1 rfl (Nat.le_of_ble_eq_true rfl) ⟨(k3 hn), (k61 hn)⟩ dL_isLine_630 ?_
            refine lv_icmp_ne (tgt := 656) hx hb dL_isLine_633 (by decide) (fun c_9 => ?_) (fun c_9 => ?_)
            · have hf := iq c_9 hf
              refine lv_iconst (v := (0 : Int32)) hx hb dL_isLine_656 (by decide) ?_
              refine lv_istore (lv' := [(12, .int (0 : Int32)), (18, .int r_3), (0, .ref c0), (1, .ref v0), (2, .ref z0), (3, .int p3), (4, .int p4), (5, .ref p0), (17, .int v17_572)]) hx hb dL_isLine_657 hl (by decide) rfl (fun ls hl => ?_)
              refine lv_iinc (v := (v17_572 + 1)) (lv' := [(17, .int (v17_572 + 1)), (12, .int (0 : Int32)), (18, .int r_3), (0, .ref c0), (1, .ref v0), (2, .ref z0), (3, .int p3), (4, .int p4), (5, .ref p0)]) hx hb dL_isLine_659 hl (k := 8) rfl rfl (by decide) rfl (fun ls hl => ?_)
              refine lv_goto (tgt := 572) hx hb dL_isLine_662 (by decide) ?_
              exact ih572 false (v17_572 + 1) r_7.2 n_572 _ _ hn ls hP hD hS (lv_sub hl [3, 4, 5, 6, 7, 8, 1, 0] rfl) hf
            · have hf := ip c_9 hf
              refine lv_aload_n hx hb dL_isLine_636 rfl (lv_at hl 1 rfl) ?_
              refine lv_iload hx hb dL_isLine_637 (lv_at hl 0 rfl) ?_
              obtain ⟨r_10, e_10, hf⟩ := xov hf
              refine mcallVi (W0 := (wC c0 h k0 x0 d0 ++ (wS g h a1 a2 a3 a4 σ ++ (wD g d0 d1 d2 r_7.2 ++ (wV g v0 ν ++ (wZ g z0 ζ ++ (wP g p0 ψ_572))))))) (Wc := (wC c0 h k0 x0 d0 ++ (wS g h a1 a2 a3 a4 σ))) (Wr := (wD g d0 d1 d2 r_7.2 ++ (wV g v0 ν ++ (wZ g z0 ζ ++ (wP g p0 ψ_572))))) (W1 := (wC c0 h k0 x0 d0 ++ (wS g h a1 a2 a3 a4 σ))) (W2 := (wC c0 h k0 x0 d0 ++ (wS g h a1 a2 a3 a4 σ ++ (wD g d0 d1 d2 r_7.2 ++ (wV g v0 ν ++ (wZ g z0 ζ ++ (wP g p0 ψ_572))))))) (As := [.int r_3]) (rest := []) [0, 1, 2, 3, 4, 5] [6, 7, 8, 9, 10, 11] [6, 7, 8, 9, 10, 11, 0, 1, 2, 3, 4, 5] 4 0 ⟨hx, hb, hml, hown, hts⟩ hP hD hE hZ hS hA (cX6_lineAt_k_ok l g  c0 h k0 x0 d0 a1 a2 a3 a4 σ r_3 _ e_10) (cwV 1 hts gL_isLine_X6_lineAt rfl rfl rfl hdX6_lineAt ⟨(Nat.le_of_ble_eq_true rfl), (Nat.le_of_ble_eq_true rfl)⟩) rfl rfl rfl (by decide) (by decide) (by decide) (by decide) rfl rfl rfl rfl hl.1 rfl (Nat.le_of_ble_eq_true rfl) ⟨(k3 hn), (k61 hn)⟩ dL_isLine_639 (fun H locs hP hD hS => ?_)
              refine W.cs (cells' := 3 * n_572) (slots' := 61 * n_572) (Nat.add_zero _) (Nat.add_zero _) ?_
              refine lv_aload_n hx hb dL_isLine_642 rfl (lv_at hl 2 rfl) ?_
              refine lv_aload_n hx hb dL_isLine_643 rfl (lv_at hl 3 rfl) ?_
              refine lv_iload hx hb dL_isLine_644 (lv_at hl 0 rfl) ?_
              obtain ⟨h_11, hf⟩ := ck hf
              obtain ⟨r_11, e_11, hf⟩ := bo hf
              refine mcallSi (W0 := (wC c0 h k0 x0 d0 ++ (wS g h a1 a2 a3 a4 σ ++ (wD g d0 d1 d2 r_7.2 ++ (wV g v0 ν ++ (wZ g z0 ζ ++ (wP g p0 ψ_572))))))) (Wc := (wV g v0 ν ++ (wZ g z0 ζ))) (Wr := (wC c0 h k0 x0 d0 ++ (wS g h a1 a2 a3 a4 σ ++ (wD g d0 d1 d2 r_7.2 ++ (wP g p0 ψ_572))))) (W1 := (wV g v0 ν ++ (wZ g z0 ζ))) (W2 := (wC c0 h k0 x0 d0 ++ (wS g h a1 a2 a3 a4 σ ++ (wD g d0 d1 d2 r_7.2 ++ (wV g v0 ν ++ (wZ g z0 ζ ++ (wP g p0 ψ_572))))))) (As := [.ref v0, .ref z0, .int r_3]) (rest := [.int r_10]) [9, 10] [0, 1, 2, 3, 4, 5, 6, 7, 8, 11] [0, 1, 2, 3, 4, 5, 6, 7, 8, 10, 11, 9] ⟨hx, hb, hml, hown, hts⟩ hP hD hE hZ hS hA (cL_owner_ok l hl0 g 1 v0 z0 ν ζ r_3 _ e_11) (va_cwS 3 hts gL_isLine_L_owner rfl rfl rfl hdL_owner.2 ⟨(Nat.le_of_ble_eq_true rfl), (Nat.le_of_ble_eq_true rfl)⟩) rfl rfl rfl (by decide) (by decide) (by decide) (by decide) rfl hl.1 rfl (Nat.le_of_ble_eq_true rfl) ⟨(kc3 h_11), (kc61 h_11)⟩ dL_isLine_646 (fun H locs hP hD hS => ?_)
              refine W.widen (k := 3 * (n_572 + 1)) (n := 61 * (n_572 + 1)) (by omega) (by omega) ?_
              refine lv_icmp_ne (tgt := 656) hx hb dL_isLine_649 (by decide) (fun c_12 => ?_) (fun c_12 => ?_)
              · have hf := iq c_12 hf
                refine lv_iconst (v := (0 : Int32)) hx hb dL_isLine_656 (by decide) ?_
                refine lv_istore (lv' := [(12, .int (0 : Int32)), (18, .int r_3), (0, .ref c0), (1, .ref v0), (2, .ref z0), (3, .int p3), (4, .int p4), (5, .ref p0), (17, .int v17_572)]) hx hb dL_isLine_657 hl (by decide) rfl (fun ls hl => ?_)
                refine lv_iinc (v := (v17_572 + 1)) (lv' := [(17, .int (v17_572 + 1)), (12, .int (0 : Int32)), (18, .int r_3), (0, .ref c0), (1, .ref v0), (2, .ref z0), (3, .int p3), (4, .int p4), (5, .ref p0)]) hx hb dL_isLine_659 hl (k := 8) rfl rfl (by decide) rfl (fun ls hl => ?_)
                refine lv_goto (tgt := 572) hx hb dL_isLine_662 (by decide) ?_
                exact ih572 false (v17_572 + 1) r_7.2 (n_572 + 1) _ _ h_11 ls hP hD hS (lv_sub hl [3, 4, 5, 6, 7, 8, 1, 0] rfl) hf
              · have hf := ip c_12 hf
                refine lv_iconst (v := (1 : Int32)) hx hb dL_isLine_652 (by decide) ?_
                refine lv_goto (tgt := 657) hx hb dL_isLine_653 (by decide) ?_
                refine lv_istore (lv' := [(12, .int (1 : Int32)), (18, .int r_3), (0, .ref c0), (1, .ref v0), (2, .ref z0), (3, .int p3), (4, .int p4), (5, .ref p0), (17, .int v17_572)]) hx hb dL_isLine_657 hl (by decide) rfl (fun ls hl => ?_)
                refine lv_iinc (v := (v17_572 + 1)) (lv' := [(17, .int (v17_572 + 1)), (12, .int (1 : Int32)), (18, .int r_3), (0, .ref c0), (1, .ref v0), (2, .ref z0), (3, .int p3), (4, .int p4), (5, .ref p0)]) hx hb dL_isLine_659 hl (k := 8) rfl rfl (by decide) rfl (fun ls hl => ?_)
                refine lv_goto (tgt := 572) hx hb dL_isLine_662 (by decide) ?_
                exact ih572 true (v17_572 + 1) r_7.2 (n_572 + 1) _ _ h_11 ls hP hD hS (lv_sub hl [3, 4, 5, 6, 7, 8, 1, 0] rfl) hf
  have hB526 : ∀ (p0 : Nat) (δ_526 : Dr) (ψ_526 : (Nat → Int32)) (n526 : Nat) (v12_526 : Bool) (v17_526 : Int32) (n_526 : Nat) (H : Heap) (locs : List Loc) (hn : n_526 ≤ cap) (ls : Array Slot), va_P g.1 vwCl (wC c0 h k0 x0 d0 ++ (wS g h a1 a2 a3 a4 σ ++ (wD g d0 d1 d2 δ_526 ++ (wV g v0 ν ++ (wZ g z0 ζ ++ (wP g p0 ψ_526)))))) H → va_D A (wC c0 h k0 x0 d0 ++ (wS g h a1 a2 a3 a4 σ ++ (wD g d0 d1 d2 δ_526 ++ (wV g v0 ν ++ (wZ g z0 ζ ++ (wP g p0 ψ_526)))))) → va_S A s.heap H locs → lv_has ls 19 [(0, .ref c0), (1, .ref v0), (2, .ref z0), (3, .int p3), (4, .int p4), (5, .ref p0), (12, .int (b2i v12_526)), (17, .int v17_526)] → fL_isLine_526 cap σ ν ζ p3 p4 δ_526 ψ_526 n526 v12_526 v17_526 n_526 = some o → W p l e (headSpec wsL_isLine (rmL_isLine cap)).room s m ([.ref c0, .ref v0, .ref z0, .int p3, .int p4] : List Value).toArray below meth c H locs (3 * n_526) (61 * n_526) (MQ below (va_Qi (fun r' (_ : Unit) => r' = b2i o.1) (fun _ t => PQ g (wC c0 h k0 x0 d0 ++ (wS g h a1 a2 a3 a4 σ ++ (wD g d0 d1 d2 o.2 ++ (wV g v0 ν ++ (wZ g z0 ζ))))) A t) A) ([.ref c0, .ref v0, .ref z0, .int p3, .int p4] : List Value).toArray s (3 * cap) (61 * cap) A) (F0 m 526 ls []) := by
    intro p0 δ_526 ψ_526 n526
    induction n526 with
    | zero => intro v12_526 v17_526 n_526 H locs hn ls hP hD hS hl hf; exact nomatch (show (none : Option (Bool × Dr)) = some _ from hf)
    | succ n526 ih526 =>
      intro v12_526 v17_526 n_526 H locs hn ls hP hD hS hl hf
      rw [fL_isLine_526] at hf
      refine lv_iload hx hb dL_isLine_526 (lv_at hl 7 rfl) ?_
      refine lv_bipush (v := (8 : Int32)) hx hb dL_isLine_528 (by decide) ?_
      refine lv_icmp_ge (tgt := 569) hx hb dL_isLine_530 (by decide) (fun c_13 => ?_) (fun c_13 => ?_)
      · have hf := ip c_13 hf
        refine lv_iconst (v := (0 : Int32)) hx hb dL_isLine_569 (by decide) ?_
        refine lv_istore (lv' := [(17, .int (0 : Int32)), (0, .ref c0), (1, .ref v0), (2, .ref z0), (3, .int p3), (4, .int p4), (5, .ref p0), (12, .int (b2i v12_526))]) hx hb dL_isLine_570 hl (by decide) rfl (fun ls hl => ?_)
        exact hB572 p0 ψ_526 FU v12_526 (0 : Int32) δ_526 n_526 _ _ hn ls hP hD hS (lv_sub hl [1, 2, 3, 4, 5, 6, 7, 0] rfl) hf
      · have hf := iq c_13 hf
        refine lv_iload hx hb dL_isLine_533 (lv_at hl 6 rfl) ?_
        refine lv_beq (tgt := 569) hx hb dL_isLine_535 (by decide) (fun c_14 => ?_) (fun c_14 => ?_)
        · have hf := iq c_14 hf
          refine lv_iconst (v := (0 : Int32)) hx hb dL_isLine_569 (by decide) ?_
          refine lv_istore (lv' := [(17, .int (0 : Int32)), (0, .ref c0), (1, .ref v0), (2, .ref z0), (3, .int p3), (4, .int p4), (5, .ref p0), (12, .int (b2i v12_526))]) hx hb dL_isLine_570 hl (by decide) rfl (fun ls hl => ?_)
          exact hB572 p0 ψ_526 FU v12_526 (0 : Int32) δ_526 n_526 _ _ hn ls hP hD hS (lv_sub hl [1, 2, 3, 4, 5, 6, 7, 0] rfl) hf
        · have hf := ip c_14 hf
          refine lv_aload_n hx hb dL_isLine_538 rfl (lv_at hl 0 rfl) ?_
          refine lv_iload_n hx hb dL_isLine_539 rfl (lv_at hl 3 rfl) ?_
          refine lv_iload hx hb dL_isLine_540 (lv_at hl 7 rfl) ?_
          obtain ⟨r_15, e_15, hf⟩ := xov hf
          refine mcallVi (W0 := (wC c0 h k0 x0 d0 ++ (wS g h a1 a2 a3 a4 σ ++ (wD g d0 d1 d2 δ_526 ++ (wV g v0 ν ++ (wZ g z0 ζ ++ (wP g p0 ψ_526))))))) (Wc := (wC c0 h k0 x0 d0 ++ (wS g h a1 a2 a3 a4 σ))) (Wr := (wD g d0 d1 d2 δ_526 ++ (wV g v0 ν ++ (wZ g z0 ζ ++ (wP g p0 ψ_526))))) (W1 := (wC c0 h k0 x0 d0 ++ (wS g h a1 a2 a3 a4 σ))) (W2 := (wC c0 h k0 x0 d0 ++ (wS g h a1 a2 a3 a4 σ ++ (wD g d0 d1 d2 δ_526 ++ (wV g v0 ν ++ (wZ g z0 ζ ++ (wP g p0 ψ_526))))))) (As := [.int p3, .int v17_526]) (rest := []) [0, 1, 2, 3, 4, 5] [6, 7, 8, 9, 10, 11] [6, 7, 8, 9, 10, 11, 0, 1, 2, 3, 4, 5] 4 0 ⟨hx, hb, hml, hown, hts⟩ hP hD hE hZ hS hA (cX6_whyNotStepped_k_ok l g  c0 h k0 x0 d0 a1 a2 a3 a4 σ p3 v17_526 _ e_15) (cwV 2 hts gL_isLine_X6_whyNotStepped rfl rfl rfl hdX6_whyNotStepped ⟨(Nat.le_of_ble_eq_true rfl), (Nat.le_of_ble_eq_true rfl)⟩) rfl rfl rfl (by decide) (by decide) (by decide) (by decide) rfl rfl rfl rfl hl.1 rfl (Nat.le_of_ble_eq_true rfl) ⟨(k3 hn), (k61 hn)⟩ dL_isLine_542 (fun H locs hP hD hS => ?_)
          refine W.cs (cells' := 3 * n_526) (slots' := 61 * n_526) (Nat.add_zero _) (Nat.add_zero _) ?_
          refine lv_aload_n hx hb dL_isLine_545 rfl (lv_at hl 1 rfl) ?_
          refine lv_aload_n hx hb dL_isLine_546 rfl (lv_at hl 2 rfl) ?_
          refine lv_iload_n hx hb dL_isLine_547 rfl (lv_at hl 3 rfl) ?_
          refine lv_iload hx hb dL_isLine_548 (lv_at hl 7 rfl) ?_
          obtain ⟨h_16, hf⟩ := ck hf
          obtain ⟨r_16, e_16, hf⟩ := bo hf
          refine mcallSi (W0 := (wC c0 h k0 x0 d0 ++ (wS g h a1 a2 a3 a4 σ ++ (wD g d0 d1 d2 δ_526 ++ (wV g v0 ν ++ (wZ g z0 ζ ++ (wP g p0 ψ_526))))))) (Wc := (wV g v0 ν ++ (wZ g z0 ζ))) (Wr := (wC c0 h k0 x0 d0 ++ (wS g h a1 a2 a3 a4 σ ++ (wD g d0 d1 d2 δ_526 ++ (wP g p0 ψ_526))))) (W1 := (wV g v0 ν ++ (wZ g z0 ζ))) (W2 := (wC c0 h k0 x0 d0 ++ (wS g h a1 a2 a3 a4 σ ++ (wD g d0 d1 d2 δ_526 ++ (wV g v0 ν ++ (wZ g z0 ζ ++ (wP g p0 ψ_526))))))) (As := [.ref v0, .ref z0, .int p3, .int v17_526]) (rest := [.int r_15]) [9, 10] [0, 1, 2, 3, 4, 5, 6, 7, 8, 11] [0, 1, 2, 3, 4, 5, 6, 7, 8, 10, 11, 9] ⟨hx, hb, hml, hown, hts⟩ hP hD hE hZ hS hA (cL_why_ok l hl0 g 2 v0 z0 ν ζ p3 v17_526 _ e_16) (va_cwS 4 hts gL_isLine_L_why rfl rfl rfl hdL_why.2 ⟨(Nat.le_of_ble_eq_true rfl), (Nat.le_of_ble_eq_true rfl)⟩) rfl rfl rfl (by decide) (by decide) (by decide) (by decide) rfl hl.1 rfl (Nat.le_of_ble_eq_true rfl) ⟨(kc3 h_16), (kc61 h_16)⟩ dL_isLine_550 (fun H locs hP hD hS => ?_)
          refine W.widen (k := 3 * (n_526 + 2)) (n := 61 * (n_526 + 2)) (by omega) (by omega) ?_
          refine lv_icmp_ne (tgt := 560) hx hb dL_isLine_553 (by decide) (fun c_17 => ?_) (fun c_17 => ?_)
          · have hf := iq c_17 hf
            refine lv_iconst (v := (0 : Int32)) hx hb dL_isLine_560 (by decide) ?_
            refine lv_istore (lv' := [(12, .int (0 : Int32)), (0, .ref c0), (1, .ref v0), (2, .ref z0), (3, .int p3), (4, .int p4), (5, .ref p0), (17, .int v17_526)]) hx hb dL_isLine_561 hl (by decide) rfl (fun ls hl => ?_)
            refine lv_iinc (v := (v17_526 + 1)) (lv' := [(17, .int (v17_526 + 1)), (12, .int (0 : Int32)), (0, .ref c0), (1, .ref v0), (2, .ref z0), (3, .int p3), (4, .int p4), (5, .ref p0)]) hx hb dL_isLine_563 hl (k := 7) rfl rfl (by decide) rfl (fun ls hl => ?_)
            refine lv_goto (tgt := 526) hx hb dL_isLine_566 (by decide) ?_
            exact ih526 false (v17_526 + 1) (n_526 + 2) _ _ h_16 ls hP hD hS (lv_sub hl [2, 3, 4, 5, 6, 7, 1, 0] rfl) hf
          · have hf := ip c_17 hf
            refine lv_iconst (v := (1 : Int32)) hx hb dL_isLine_556 (by decide) ?_
            refine lv_goto (tgt := 561) hx hb dL_isLine_557 (by decide) ?_
            refine lv_istore (lv' := [(12, .int (1 : Int32)), (0, .ref c0), (1, .ref v0), (2, .ref z0), (3, .int p3), (4, .int p4), (5, .ref p0), (17, .int v17_526)]) hx hb dL_isLine_561 hl (by decide) rfl (fun ls hl => ?_)
            refine lv_iinc (v := (v17_526 + 1)) (lv' := [(17, .int (v17_526 + 1)), (12, .int (1 : Int32)), (0, .ref c0), (1, .ref v0), (2, .ref z0), (3, .int p3), (4, .int p4), (5, .ref p0)]) hx hb dL_isLine_563 hl (k := 7) rfl rfl (by decide) rfl (fun ls hl => ?_)
            refine lv_goto (tgt := 526) hx hb dL_isLine_566 (by decide) ?_
            exact ih526 true (v17_526 + 1) (n_526 + 2) _ _ h_16 ls hP hD hS (lv_sub hl [2, 3, 4, 5, 6, 7, 1, 0] rfl) hf
  have hB479 : ∀ (p0 : Nat) (v6_479 : Int32) (v8_479 : Int32) (v10_479 : UInt64) (t0_479 : Bool) (t1_479 : Bool) (δ_479 : Dr) (ψ_479 : (Nat → Int32)) (n_479 : Nat) (H : Heap) (locs : List Loc) (hn : n_479 ≤ cap) (ls : Array Slot), va_P g.1 vwCl (wC c0 h k0 x0 d0 ++ (wS g h a1 a2 a3 a4 σ ++ (wD g d0 d1 d2 δ_479 ++ (wV g v0 ν ++ (wZ g z0 ζ ++ (wP g p0 ψ_479)))))) H → va_D A (wC c0 h k0 x0 d0 ++ (wS g h a1 a2 a3 a4 σ ++ (wD g d0 d1 d2 δ_479 ++ (wV g v0 ν ++ (wZ g z0 ζ ++ (wP g p0 ψ_479)))))) → va_S A s.heap H locs → lv_has ls 19 [(0, .ref c0), (1, .ref v0), (2, .ref z0), (3, .int p3), (4, .int p4), (5, .ref p0), (6, .int v6_479), (8, .int v8_479), (10, .double v10_479)] → fL_isLine_479 cap σ ν ζ p3 p4 v6_479 v8_479 v10_479 t0_479 t1_479 δ_479 ψ_479 n_479 = some o → W p l e (headSpec wsL_isLine (rmL_isLine cap)).room s m ([.ref c0, .ref v0, .ref z0, .int p3, .int p4] : List Value).toArray below meth c H locs (3 * n_479) (61 * n_479) (MQ below (va_Qi (fun r' (_ : Unit) => r' = b2i o.1) (fun _ t => PQ g (wC c0 h k0 x0 d0 ++ (wS g h a1 a2 a3 a4 σ ++ (wD g d0 d1 d2 o.2 ++ (wV g v0 ν ++ (wZ g z0 ζ))))) A t) A) ([.ref c0, .ref v0, .ref z0, .int p3, .int p4] : List Value).toArray s (3 * cap) (61 * cap) A) (F0 m 479 ls [.int (b2i t1_479), .int (b2i t0_479)]) := by
    intro p0  v6_479 v8_479 v10_479 t0_479 t1_479 δ_479 ψ_479 n_479 H locs hn ls hP hD hS hl hf
    unfold fL_isLine_479 at hf
    refine lv_icmp_ne (tgt := 520) hx hb dL_isLine_479 (by decide) (fun c_18 => ?_) (fun c_18 => ?_)
    · have hf := iq c_18 hf
      refine lv_iconst (v := (0 : Int32)) hx hb dL_isLine_520 (by decide) ?_
      refine lv_istore (lv' := [(12, .int (0 : Int32)), (0, .ref c0), (1, .ref v0), (2, .ref z0), (3, .int p3), (4, .int p4), (5, .ref p0), (6, .int v6_479), (8, .int v8_479), (10, .double v10_479)]) hx hb dL_isLine_521 hl (by decide) rfl (fun ls hl => ?_)
      refine lv_iconst (v := (0 : Int32)) hx hb dL_isLine_523 (by decide) ?_
      refine lv_istore (lv' := [(17, .int (0 : Int32)), (12, .int (0 : Int32)), (0, .ref c0), (1, .ref v0), (2, .ref z0), (3, .int p3), (4, .int p4), (5, .ref p0), (6, .int v6_479), (8, .int v8_479), (10, .double v10_479)]) hx hb dL_isLine_524 hl (by decide) rfl (fun ls hl => ?_)
      exact hB526 p0 δ_479 ψ_479 FU false (0 : Int32) n_479 _ _ hn ls hP hD hS (lv_sub hl [2, 3, 4, 5, 6, 7, 1, 0] rfl) hf
    · have hf := ip c_18 hf
      refine lv_aload_n hx hb dL_isLine_482 rfl (lv_at hl 0 rfl) ?_
      refine lv_iload_n hx hb dL_isLine_483 rfl (lv_at hl 3 rfl) ?_
      obtain ⟨r_19, e_19, hf⟩ := xov hf
      refine mcallVd (W0 := (wC c0 h k0 x0 d0 ++ (wS g h a1 a2 a3 a4 σ ++ (wD g d0 d1 d2 δ_479 ++ (wV g v0 ν ++ (wZ g z0 ζ ++ (wP g p0 ψ_479))))))) (Wc := (wC c0 h k0 x0 d0 ++ (wS g h a1 a2 a3 a4 σ))) (Wr := (wD g d0 d1 d2 δ_479 ++ (wV g v0 ν ++ (wZ g z0 ζ ++ (wP g p0 ψ_479))))) (W1 := (wC c0 h k0 x0 d0 ++ (wS g h a1 a2 a3 a4 σ))) (W2 := (wC c0 h k0 x0 d0 ++ (wS g h a1 a2 a3 a4 σ ++ (wD g d0 d1 d2 δ_479 ++ (wV g v0 ν ++ (wZ g z0 ζ ++ (wP g p0 ψ_479))))))) (As := [.int p3]) (rest := []) [0, 1, 2, 3, 4, 5] [6, 7, 8, 9, 10, 11] [6, 7, 8, 9, 10, 11, 0, 1, 2, 3, 4, 5] 4 0 ⟨hx, hb, hml, hown, hts⟩ hP hD hE hZ hS hA (cX6_lengthBySteps_k_ok l g  c0 h k0 x0 d0 a1 a2 a3 a4 σ p3 _ e_19) (cwV 1 hts gL_isLine_X6_lengthBySteps rfl rfl rfl hdX6_lengthBySteps ⟨(Nat.le_of_ble_eq_true rfl), (Nat.le_of_ble_eq_true rfl)⟩) rfl rfl rfl (by decide) (by decide) (by decide) (by decide) rfl rfl rfl rfl hl.1 rfl (Nat.le_of_ble_eq_true rfl) ⟨(k3 hn), (k61 hn)⟩ dL_isLine_484 (fun H locs hP hD hS => ?_)
      refine W.cs (cells' := 3 * n_479) (slots' := 61 * n_479) (Nat.add_zero _) (Nat.add_zero _) ?_
      refine lv_dload hx hb dL_isLine_487 (lv_at hl 8 rfl) ?_
      refine lv_dcmp hx hb dL_isLine_489 ?_
      refine lv_if_ne (tgt := 520) hx hb dL_isLine_490 (by decide) (fun c_20 => ?_) (fun c_20 => ?_)
      · have hf := iq c_20 hf
        refine lv_iconst (v := (0 : Int32)) hx hb dL_isLine_520 (by decide) ?_
        refine lv_istore (lv' := [(12, .int (0 : Int32)), (0, .ref c0), (1, .ref v0), (2, .ref z0), (3, .int p3), (4, .int p4), (5, .ref p0), (6, .int v6_479), (8, .int v8_479), (10, .double v10_479)]) hx hb dL_isLine_521 hl (by decide) rfl (fun ls hl => ?_)
        refine lv_iconst (v := (0 : Int32)) hx hb dL_isLine_523 (by decide) ?_
        refine lv_istore (lv' := [(17, .int (0 : Int32)), (12, .int (0 : Int32)), (0, .ref c0), (1, .ref v0), (2, .ref z0), (3, .int p3), (4, .int p4), (5, .ref p0), (6, .int v6_479), (8, .int v8_479), (10, .double v10_479)]) hx hb dL_isLine_524 hl (by decide) rfl (fun ls hl => ?_)
        exact hB526 p0 δ_479 ψ_479 FU false (0 : Int32) n_479 _ _ hn ls hP hD hS (lv_sub hl [2, 3, 4, 5, 6, 7, 1, 0] rfl) hf
      · have hf := ip c_20 hf
        refine lv_aload_n hx hb dL_isLine_493 rfl (lv_at hl 0 rfl) ?_
        refine lv_iload_n hx hb dL_isLine_494 rfl (lv_at hl 3 rfl) ?_
        obtain ⟨r_21, e_21, hf⟩ := xov hf
        refine mcallVd (W0 := (wC c0 h k0 x0 d0 ++ (wS g h a1 a2 a3 a4 σ ++ (wD g d0 d1 d2 δ_479 ++ (wV g v0 ν ++ (wZ g z0 ζ ++ (wP g p0 ψ_479))))))) (Wc := (wC c0 h k0 x0 d0 ++ (wS g h a1 a2 a3 a4 σ))) (Wr := (wD g d0 d1 d2 δ_479 ++ (wV g v0 ν ++ (wZ g z0 ζ ++ (wP g p0 ψ_479))))) (W1 := (wC c0 h k0 x0 d0 ++ (wS g h a1 a2 a3 a4 σ))) (W2 := (wC c0 h k0 x0 d0 ++ (wS g h a1 a2 a3 a4 σ ++ (wD g d0 d1 d2 δ_479 ++ (wV g v0 ν ++ (wZ g z0 ζ ++ (wP g p0 ψ_479))))))) (As := [.int p3]) (rest := []) [0, 1, 2, 3, 4, 5] [6, 7, 8, 9, 10, 11] [6, 7, 8, 9, 10, 11, 0, 1, 2, 3, 4, 5] 4 0 ⟨hx, hb, hml, hown, hts⟩ hP hD hE hZ hS hA (cX6_lengthByKinds_k_ok l g  c0 h k0 x0 d0 a1 a2 a3 a4 σ p3 _ e_21) (cwV 1 hts gL_isLine_X6_lengthByKinds rfl rfl rfl hdX6_lengthByKinds ⟨(Nat.le_of_ble_eq_true rfl), (Nat.le_of_ble_eq_true rfl)⟩) rfl rfl rfl (by decide) (by decide) (by decide) (by decide) rfl rfl rfl rfl hl.1 rfl (Nat.le_of_ble_eq_true rfl) ⟨(k3 hn), (k61 hn)⟩ dL_isLine_495 (fun H locs hP hD hS => ?_)
        refine W.cs (cells' := 3 * n_479) (slots' := 61 * n_479) (Nat.add_zero _) (Nat.add_zero _) ?_
        refine lv_iload hx hb dL_isLine_498 (lv_at hl 6 rfl) ?_
        refine lv_iload hx hb dL_isLine_500 (lv_at hl 7 rfl) ?_
        refine lv_isub hx hb dL_isLine_502 ?_
        refine lv_i2d hx hb dL_isLine_503 ?_
        refine lv_iload hx hb dL_isLine_504 (lv_at hl 7 rfl) ?_
        refine lv_i2d hx hb dL_isLine_506 ?_
        refine lv_ldc2d hx hb hown (hts _ kdL_isLine_81) dL_isLine_507 ?_
        obtain ⟨h_22, hf⟩ := ck hf
        refine lv_dmul hx hb dL_isLine_510 h_22 ?_
        obtain ⟨h_23, hf⟩ := ck hf
        refine lv_dadd hx hb dL_isLine_511 h_23 ?_
        refine lv_dcmp hx hb dL_isLine_512 ?_
        refine lv_if_ne (tgt := 520) hx hb dL_isLine_513 (by decide) (fun c_24 => ?_) (fun c_24 => ?_)
        · have hf := iq c_24 hf
          refine lv_iconst (v := (0 : Int32)) hx hb dL_isLine_520 (by decide) ?_
          refine lv_istore (lv' := [(12, .int (0 : Int32)), (0, .ref c0), (1, .ref v0), (2, .ref z0), (3, .int p3), (4, .int p4), (5, .ref p0), (6, .int v6_479), (8, .int v8_479), (10, .double v10_479)]) hx hb dL_isLine_521 hl (by decide) rfl (fun ls hl => ?_)
          refine lv_iconst (v := (0 : Int32)) hx hb dL_isLine_523 (by decide) ?_
          refine lv_istore (lv' := [(17, .int (0 : Int32)), (12, .int (0 : Int32)), (0, .ref c0), (1, .ref v0), (2, .ref z0), (3, .int p3), (4, .int p4), (5, .ref p0), (6, .int v6_479), (8, .int v8_479), (10, .double v10_479)]) hx hb dL_isLine_524 hl (by decide) rfl (fun ls hl => ?_)
          exact hB526 p0 δ_479 ψ_479 FU false (0 : Int32) n_479 _ _ hn ls hP hD hS (lv_sub hl [2, 3, 4, 5, 6, 7, 1, 0] rfl) hf
        · have hf := ip c_24 hf
          refine lv_iconst (v := (1 : Int32)) hx hb dL_isLine_516 (by decide) ?_
          refine lv_goto (tgt := 521) hx hb dL_isLine_517 (by decide) ?_
          refine lv_istore (lv' := [(12, .int (1 : Int32)), (0, .ref c0), (1, .ref v0), (2, .ref z0), (3, .int p3), (4, .int p4), (5, .ref p0), (6, .int v6_479), (8, .int v8_479), (10, .double v10_479)]) hx hb dL_isLine_521 hl (by decide) rfl (fun ls hl => ?_)
          refine lv_iconst (v := (0 : Int32)) hx hb dL_isLine_523 (by decide) ?_
          refine lv_istore (lv' := [(17, .int (0 : Int32)), (12, .int (1 : Int32)), (0, .ref c0), (1, .ref v0), (2, .ref z0), (3, .int p3), (4, .int p4), (5, .ref p0), (6, .int v6_479), (8, .int v8_479), (10, .double v10_479)]) hx hb dL_isLine_524 hl (by decide) rfl (fun ls hl => ?_)
          exact hB526 p0 δ_479 ψ_479 FU true (0 : Int32) n_479 _ _ hn ls hP hD hS (lv_sub hl [2, 3, 4, 5, 6, 7, 1, 0] rfl) hf
  have hB443 : ∀ (p0 : Nat) (v6_443 : Int32) (v8_443 : Int32) (v10_443 : UInt64) (v15_443 : Int32) (v16_443 : Int32) (t0_443 : Int32) (t1_443 : Int32) (δ_443 : Dr) (ψ_443 : (Nat → Int32)) (n_443 : Nat) (H : Heap) (locs : List Loc) (hn : n_443 ≤ cap) (ls : Array Slot), va_P g.1 vwCl (wC c0 h k0 x0 d0 ++ (wS g h a1 a2 a3 a4 σ ++ (wD g d0 d1 d2 δ_443 ++ (wV g v0 ν ++ (wZ g z0 ζ ++ (wP g p0 ψ_443)))))) H → va_D A (wC c0 h k0 x0 d0 ++ (wS g h a1 a2 a3 a4 σ ++ (wD g d0 d1 d2 δ_443 ++ (wV g v0 ν ++ (wZ g z0 ζ ++ (wP g p0 ψ_443)))))) → va_S A s.heap H locs → lv_has ls 19 [(0, .ref c0), (1, .ref v0), (2, .ref z0), (3, .int p3), (4, .int p4), (5, .ref p0), (6, .int v6_443), (8, .int v8_443), (10, .double v10_443), (15, .int v15_443), (16, .int v16_443)] → fL_isLine_443 cap σ ν ζ p3 p4 v6_443 v8_443 v10_443 v15_443 v16_443 t0_443 t1_443 δ_443 ψ_443 n_443 = some o → W p l e (headSpec wsL_isLine (rmL_isLine cap)).room s m ([.ref c0, .ref v0, .ref z0, .int p3, .int p4] : List Value).toArray below meth c H locs (3 * n_443) (61 * n_443) (MQ below (va_Qi (fun r' (_ : Unit) => r' = b2i o.1) (fun _ t => PQ g (wC c0 h k0 x0 d0 ++ (wS g h a1 a2 a3 a4 σ ++ (wD g d0 d1 d2 o.2 ++ (wV g v0 ν ++ (wZ g z0 ζ))))) A t) A) ([.ref c0, .ref v0, .ref z0, .int p3, .int p4] : List Value).toArray s (3 * cap) (61 * cap) A) (F0 m 443 ls [.int t1_443, .int t0_443]) := by
    intro p0  v6_443 v8_443 v10_443 v15_443 v16_443 t0_443 t1_443 δ_443 ψ_443 n_443 H locs hn ls hP hD hS hl hf
    unfold fL_isLine_443 at hf
    refine lv_icmp_ne (tgt := 520) hx hb dL_isLine_443 (by decide) (fun c_25 => ?_) (fun c_25 => ?_)
    · have hf := iq c_25 hf
      refine lv_iconst (v := (0 : Int32)) hx hb dL_isLine_520 (by decide) ?_
      refine lv_istore (lv' := [(12, .int (0 : Int32)), (0, .ref c0), (1, .ref v0), (2, .ref z0), (3, .int p3), (4, .int p4), (5, .ref p0), (6, .int v6_443), (8, .int v8_443), (10, .double v10_443), (15, .int v15_443), (16, .int v16_443)]) hx hb dL_isLine_521 hl (by decide) rfl (fun ls hl => ?_)
      refine lv_iconst (v := (0 : Int32)) hx hb dL_isLine_523 (by decide) ?_
      refine lv_istore (lv' := [(17, .int (0 : Int32)), (12, .int (0 : Int32)), (0, .ref c0), (1, .ref v0), (2, .ref z0), (3, .int p3), (4, .int p4), (5, .ref p0), (6, .int v6_443), (8, .int v8_443), (10, .double v10_443), (15, .int v15_443), (16, .int v16_443)]) hx hb dL_isLine_524 hl (by decide) rfl (fun ls hl => ?_)
      exact hB526 p0 δ_443 ψ_443 FU false (0 : Int32) n_443 _ _ hn ls hP hD hS (lv_sub hl [2, 3, 4, 5, 6, 7, 1, 0] rfl) hf
    · have hf := ip c_25 hf
      refine lv_aload_n hx hb dL_isLine_446 rfl (lv_at hl 0 rfl) ?_
      refine lv_iload_n hx hb dL_isLine_447 rfl (lv_at hl 3 rfl) ?_
      obtain ⟨r_26, e_26, hf⟩ := xov hf
      refine mcallVi (W0 := (wC c0 h k0 x0 d0 ++ (wS g h a1 a2 a3 a4 σ ++ (wD g d0 d1 d2 δ_443 ++ (wV g v0 ν ++ (wZ g z0 ζ ++ (wP g p0 ψ_443))))))) (Wc := (wC c0 h k0 x0 d0 ++ (wS g h a1 a2 a3 a4 σ))) (Wr := (wD g d0 d1 d2 δ_443 ++ (wV g v0 ν ++ (wZ g z0 ζ ++ (wP g p0 ψ_443))))) (W1 := (wC c0 h k0 x0 d0 ++ (wS g h a1 a2 a3 a4 σ))) (W2 := (wC c0 h k0 x0 d0 ++ (wS g h a1 a2 a3 a4 σ ++ (wD g d0 d1 d2 δ_443 ++ (wV g v0 ν ++ (wZ g z0 ζ ++ (wP g p0 ψ_443))))))) (As := [.int p3]) (rest := []) [0, 1, 2, 3, 4, 5] [6, 7, 8, 9, 10, 11] [6, 7, 8, 9, 10, 11, 0, 1, 2, 3, 4, 5] 4 0 ⟨hx, hb, hml, hown, hts⟩ hP hD hE hZ hS hA (cX6_lineRound_k_ok l g  c0 h k0 x0 d0 a1 a2 a3 a4 σ p3 _ e_26) (cwV 1 hts gL_isLine_X6_lineRound rfl rfl rfl hdX6_lineRound ⟨(Nat.le_of_ble_eq_true rfl), (Nat.le_of_ble_eq_true rfl)⟩) rfl rfl rfl (by decide) (by decide) (by decide) (by decide) rfl rfl rfl rfl hl.1 rfl (Nat.le_of_ble_eq_true rfl) ⟨(k3 hn), (k61 hn)⟩ dL_isLine_448 (fun H locs hP hD hS => ?_)
      refine W.cs (cells' := 3 * n_443) (slots' := 61 * n_443) (Nat.add_zero _) (Nat.add_zero _) ?_
      refine lv_iload hx hb dL_isLine_451 (lv_at hl 9 rfl) ?_
      refine lv_icmp_ne (tgt := 520) hx hb dL_isLine_453 (by decide) (fun c_27 => ?_) (fun c_27 => ?_)
      · have hf := iq c_27 hf
        refine lv_iconst (v := (0 : Int32)) hx hb dL_isLine_520 (by decide) ?_
        refine lv_istore (lv' := [(12, .int (0 : Int32)), (0, .ref c0), (1, .ref v0), (2, .ref z0), (3, .int p3), (4, .int p4), (5, .ref p0), (6, .int v6_443), (8, .int v8_443), (10, .double v10_443), (15, .int v15_443), (16, .int v16_443)]) hx hb dL_isLine_521 hl (by decide) rfl (fun ls hl => ?_)
        refine lv_iconst (v := (0 : Int32)) hx hb dL_isLine_523 (by decide) ?_
        refine lv_istore (lv' := [(17, .int (0 : Int32)), (12, .int (0 : Int32)), (0, .ref c0), (1, .ref v0), (2, .ref z0), (3, .int p3), (4, .int p4), (5, .ref p0), (6, .int v6_443), (8, .int v8_443), (10, .double v10_443), (15, .int v15_443), (16, .int v16_443)]) hx hb dL_isLine_524 hl (by decide) rfl (fun ls hl => ?_)
        exact hB526 p0 δ_443 ψ_443 FU false (0 : Int32) n_443 _ _ hn ls hP hD hS (lv_sub hl [2, 3, 4, 5, 6, 7, 1, 0] rfl) hf
      · have hf := ip c_27 hf
        refine lv_aload_n hx hb dL_isLine_456 rfl (lv_at hl 0 rfl) ?_
        refine lv_iload_n hx hb dL_isLine_457 rfl (lv_at hl 3 rfl) ?_
        obtain ⟨r_28, e_28, hf⟩ := xov hf
        refine mcallVi (W0 := (wC c0 h k0 x0 d0 ++ (wS g h a1 a2 a3 a4 σ ++ (wD g d0 d1 d2 δ_443 ++ (wV g v0 ν ++ (wZ g z0 ζ ++ (wP g p0 ψ_443))))))) (Wc := (wC c0 h k0 x0 d0 ++ (wS g h a1 a2 a3 a4 σ))) (Wr := (wD g d0 d1 d2 δ_443 ++ (wV g v0 ν ++ (wZ g z0 ζ ++ (wP g p0 ψ_443))))) (W1 := (wC c0 h k0 x0 d0 ++ (wS g h a1 a2 a3 a4 σ))) (W2 := (wC c0 h k0 x0 d0 ++ (wS g h a1 a2 a3 a4 σ ++ (wD g d0 d1 d2 δ_443 ++ (wV g v0 ν ++ (wZ g z0 ζ ++ (wP g p0 ψ_443))))))) (As := [.int p3]) (rest := []) [0, 1, 2, 3, 4, 5] [6, 7, 8, 9, 10, 11] [6, 7, 8, 9, 10, 11, 0, 1, 2, 3, 4, 5] 4 0 ⟨hx, hb, hml, hown, hts⟩ hP hD hE hZ hS hA (cX6_isSteady_k_ok l g  c0 h k0 x0 d0 a1 a2 a3 a4 σ p3 _ e_28) (cwV 1 hts gL_isLine_X6_isSteady rfl rfl rfl hdX6_isSteady ⟨(Nat.le_of_ble_eq_true rfl), (Nat.le_of_ble_eq_true rfl)⟩) rfl rfl rfl (by decide) (by decide) (by decide) (by decide) rfl rfl rfl rfl hl.1 rfl (Nat.le_of_ble_eq_true rfl) ⟨(k3 hn), (k61 hn)⟩ dL_isLine_458 (fun H locs hP hD hS => ?_)
        refine W.cs (cells' := 3 * n_443) (slots' := 61 * n_443) (Nat.add_zero _) (Nat.add_zero _) ?_
        refine lv_iload hx hb dL_isLine_461 (lv_at hl 10 rfl) ?_
        refine lv_iconst (v := (5 : Int32)) hx hb dL_isLine_463 (by decide) ?_
        refine lv_icmp_eq (tgt := 474) hx hb dL_isLine_464 (by decide) (fun c_29 => ?_) (fun c_29 => ?_)
        · have hf := ip c_29 hf
          refine lv_iconst (v := (1 : Int32)) hx hb dL_isLine_474 (by decide) ?_
          refine lv_goto (tgt := 479) hx hb dL_isLine_475 (by decide) ?_
          exact hB479 p0 v6_443 v8_443 v10_443 r_28 true δ_443 ψ_443 n_443 _ _ hn ls hP hD hS (lv_sub hl [0, 1, 2, 3, 4, 5, 6, 7, 8] rfl) hf
        · have hf := iq c_29 hf
          refine lv_iload hx hb dL_isLine_467 (lv_at hl 10 rfl) ?_
          refine lv_bipush (v := (-5 : Int32)) hx hb dL_isLine_469 (by decide) ?_
          refine lv_icmp_ne (tgt := 478) hx hb dL_isLine_471 (by decide) (fun c_30 => ?_) (fun c_30 => ?_)
          · have hf := iq c_30 hf
            refine lv_iconst (v := (0 : Int32)) hx hb dL_isLine_478 (by decide) ?_
            exact hB479 p0 v6_443 v8_443 v10_443 r_28 false δ_443 ψ_443 n_443 _ _ hn ls hP hD hS (lv_sub hl [0, 1, 2, 3, 4, 5, 6, 7, 8] rfl) hf
          · have hf := ip c_30 hf
            refine lv_iconst (v := (1 : Int32)) hx hb dL_isLine_474 (by decide) ?_
            refine lv_goto (tgt := 479) hx hb dL_isLine_475 (by decide) ?_
            exact hB479 p0 v6_443 v8_443 v10_443 r_28 true δ_443 ψ_443 n_443 _ _ hn ls hP hD hS (lv_sub hl [0, 1, 2, 3, 4, 5, 6, 7, 8] rfl) hf
  have hB373 : ∀ (p0 : Nat) (v6_373 : Int32) (v7_373 : Int32) (v8_373 : Int32) (v9_373 : Int32) (v10_373 : UInt64) (v12_373 : Bool) (v13_373 : Int32) (v14_373 : Bool) (v15_373 : Int32) (t0_373 : Int32) (δ_373 : Dr) (ψ_373 : (Nat → Int32)) (n_373 : Nat) (H : Heap) (locs : List Loc) (hn : n_373 ≤ cap) (ls : Array Slot), va_P g.1 vwCl (wC c0 h k0 x0 d0 ++ (wS g h a1 a2 a3 a4 σ ++ (wD g d0 d1 d2 δ_373 ++ (wV g v0 ν ++ (wZ g z0 ζ ++ (wP g p0 ψ_373)))))) H → va_D A (wC c0 h k0 x0 d0 ++ (wS g h a1 a2 a3 a4 σ ++ (wD g d0 d1 d2 δ_373 ++ (wV g v0 ν ++ (wZ g z0 ζ ++ (wP g p0 ψ_373)))))) → va_S A s.heap H locs → lv_has ls 19 [(0, .ref c0), (1, .ref v0), (2, .ref z0), (3, .int p3), (4, .int p4), (5, .ref p0), (6, .int v6_373), (7, .int v7_373), (8, .int v8_373), (9, .int v9_373), (10, .double v10_373), (12, .int (b2i v12_373)), (13, .int v13_373), (14, .int (b2i v14_373)), (15, .int v15_373)] → fL_isLine_373 cap σ ν ζ p3 p4 v6_373 v7_373 v8_373 v9_373 v10_373 v12_373 v13_373 v14_373 v15_373 t0_373 δ_373 ψ_373 n_373 = some o → W p l e (headSpec wsL_isLine (rmL_isLine cap)).room s m ([.ref c0, .ref v0, .ref z0, .int p3, .int p4] : List Value).toArray below meth c H locs (3 * n_373) (61 * n_373) (MQ below (va_Qi (fun r' (_ : Unit) => r' = b2i o.1) (fun _ t => PQ g (wC c0 h k0 x0 d0 ++ (wS g h a1 a2 a3 a4 σ ++ (wD g d0 d1 d2 o.2 ++ (wV g v0 ν ++ (wZ g z0 ζ))))) A t) A) ([.ref c0, .ref v0, .ref z0, .int p3, .int p4] : List Value).toArray s (3 * cap) (61 * cap) A) (F0 m 373 ls [.int t0_373]) := by
    intro p0  v6_373 v7_373 v8_373 v9_373 v10_373 v12_373 v13_373 v14_373 v15_373 t0_373 δ_373 ψ_373 n_373 H locs hn ls hP hD hS hl hf
    unfold fL_isLine_373 at hf
    refine lv_istore (lv' := [(16, .int t0_373), (0, .ref c0), (1, .ref v0), (2, .ref z0), (3, .int p3), (4, .int p4), (5, .ref p0), (6, .int v6_373), (7, .int v7_373), (8, .int v8_373), (9, .int v9_373), (10, .double v10_373), (12, .int (b2i v12_373)), (13, .int v13_373), (14, .int (b2i v14_373)), (15, .int v15_373)]) hx hb dL_isLine_373 hl (by decide) rfl (fun ls hl => ?_)
    refine lv_iload hx hb dL_isLine_375 (lv_at hl 12 rfl) ?_
    refine lv_beq (tgt := 520) hx hb dL_isLine_377 (by decide) (fun c_31 => ?_) (fun c_31 => ?_)
    · have hf := iq c_31 hf
      refine lv_iconst (v := (0 : Int32)) hx hb dL_isLine_520 (by decide) ?_
      refine lv_istore (lv' := [(12, .int (0 : Int32)), (16, .int t0_373), (0, .ref c0), (1, .ref v0), (2, .ref z0), (3, .int p3), (4, .int p4), (5, .ref p0), (6, .int v6_373), (7, .int v7_373), (8, .int v8_373), (9, .int v9_373), (10, .double v10_373), (13, .int v13_373), (14, .int (b2i v14_373)), (15, .int v15_373)]) hx hb dL_isLine_521 hl (by decide) rfl (fun ls hl => ?_)
      refine lv_iconst (v := (0 : Int32)) hx hb dL_isLine_523 (by decide) ?_
      refine lv_istore (lv' := [(17, .int (0 : Int32)), (12, .int (0 : Int32)), (16, .int t0_373), (0, .ref c0), (1, .ref v0), (2, .ref z0), (3, .int p3), (4, .int p4), (5, .ref p0), (6, .int v6_373), (7, .int v7_373), (8, .int v8_373), (9, .int v9_373), (10, .double v10_373), (13, .int v13_373), (14, .int (b2i v14_373)), (15, .int v15_373)]) hx hb dL_isLine_524 hl (by decide) rfl (fun ls hl => ?_)
      exact hB526 p0 δ_373 ψ_373 FU false (0 : Int32) n_373 _ _ hn ls hP hD hS (lv_sub hl [3, 4, 5, 6, 7, 8, 1, 0] rfl) hf
    · have hf := ip c_31 hf
      refine lv_aload_n hx hb dL_isLine_380 rfl (lv_at hl 1 rfl) ?_
      refine lv_iload_n hx hb dL_isLine_381 rfl (lv_at hl 4 rfl) ?_
      obtain ⟨r_32, e_32, hf⟩ := xov hf
      refine mcallVi (W0 := (wC c0 h k0 x0 d0 ++ (wS g h a1 a2 a3 a4 σ ++ (wD g d0 d1 d2 δ_373 ++ (wV g v0 ν ++ (wZ g z0 ζ ++ (wP g p0 ψ_373))))))) (Wc := (wC c0 h k0 x0 d0 ++ (wS g h a1 a2 a3 a4 σ))) (Wr := (wD g d0 d1 d2 δ_373 ++ (wV g v0 ν ++ (wZ g z0 ζ ++ (wP g p0 ψ_373))))) (W1 := (wC c0 h k0 x0 d0 ++ (wS g h a1 a2 a3 a4 σ))) (W2 := (wC c0 h k0 x0 d0 ++ (wS g h a1 a2 a3 a4 σ ++ (wD g d0 d1 d2 δ_373 ++ (wV g v0 ν ++ (wZ g z0 ζ ++ (wP g p0 ψ_373))))))) (As := [.int p3]) (rest := []) [0, 1, 2, 3, 4, 5] [6, 7, 8, 9, 10, 11] [6, 7, 8, 9, 10, 11, 0, 1, 2, 3, 4, 5] 4 0 ⟨hx, hb, hml, hown, hts⟩ hP hD hE hZ hS hA (cX6_placesOf_k_ok l g  c0 h k0 x0 d0 a1 a2 a3 a4 σ p3 _ e_32) (cwV 1 hts gL_isLine_X6_placesOf rfl rfl rfl hdX6_placesOf ⟨(Nat.le_of_ble_eq_true rfl), (Nat.le_of_ble_eq_true rfl)⟩) rfl rfl rfl (by decide) (by decide) (by decide) (by decide) rfl rfl rfl rfl hl.1 rfl (Nat.le_of_ble_eq_true rfl) ⟨(k3 hn), (k61 hn)⟩ dL_isLine_382 (fun H locs hP hD hS => ?_)
      refine W.cs (cells' := 3 * n_373) (slots' := 61 * n_373) (Nat.add_zero _) (Nat.add_zero _) ?_
      refine lv_iload hx hb dL_isLine_385 (lv_at hl 10 rfl) ?_
      refine lv_icmp_ne (tgt := 520) hx hb dL_isLine_387 (by decide) (fun c_33 => ?_) (fun c_33 => ?_)
      · have hf := iq c_33 hf
        refine lv_iconst (v := (0 : Int32)) hx hb dL_isLine_520 (by decide) ?_
        refine lv_istore (lv' := [(12, .int (0 : Int32)), (16, .int t0_373), (0, .ref c0), (1, .ref v0), (2, .ref z0), (3, .int p3), (4, .int p4), (5, .ref p0), (6, .int v6_373), (7, .int v7_373), (8, .int v8_373), (9, .int v9_373), (10, .double v10_373), (13, .int v13_373), (14, .int (b2i v14_373)), (15, .int v15_373)]) hx hb dL_isLine_521 hl (by decide) rfl (fun ls hl => ?_)
        refine lv_iconst (v := (0 : Int32)) hx hb dL_isLine_523 (by decide) ?_
        refine lv_istore (lv' := [(17, .int (0 : Int32)), (12, .int (0 : Int32)), (16, .int t0_373), (0, .ref c0), (1, .ref v0), (2, .ref z0), (3, .int p3), (4, .int p4), (5, .ref p0), (6, .int v6_373), (7, .int v7_373), (8, .int v8_373), (9, .int v9_373), (10, .double v10_373), (13, .int v13_373), (14, .int (b2i v14_373)), (15, .int v15_373)]) hx hb dL_isLine_524 hl (by decide) rfl (fun ls hl => ?_)
        exact hB526 p0 δ_373 ψ_373 FU false (0 : Int32) n_373 _ _ hn ls hP hD hS (lv_sub hl [3, 4, 5, 6, 7, 8, 1, 0] rfl) hf
      · have hf := ip c_33 hf
        refine lv_aload_n hx hb dL_isLine_390 rfl (lv_at hl 1 rfl) ?_
        refine lv_iload_n hx hb dL_isLine_391 rfl (lv_at hl 4 rfl) ?_
        obtain ⟨r_34, e_34, hf⟩ := xov hf
        refine mcallVi (W0 := (wC c0 h k0 x0 d0 ++ (wS g h a1 a2 a3 a4 σ ++ (wD g d0 d1 d2 δ_373 ++ (wV g v0 ν ++ (wZ g z0 ζ ++ (wP g p0 ψ_373))))))) (Wc := (wC c0 h k0 x0 d0 ++ (wS g h a1 a2 a3 a4 σ))) (Wr := (wD g d0 d1 d2 δ_373 ++ (wV g v0 ν ++ (wZ g z0 ζ ++ (wP g p0 ψ_373))))) (W1 := (wC c0 h k0 x0 d0 ++ (wS g h a1 a2 a3 a4 σ))) (W2 := (wC c0 h k0 x0 d0 ++ (wS g h a1 a2 a3 a4 σ ++ (wD g d0 d1 d2 δ_373 ++ (wV g v0 ν ++ (wZ g z0 ζ ++ (wP g p0 ψ_373))))))) (As := [.int p3]) (rest := []) [0, 1, 2, 3, 4, 5] [6, 7, 8, 9, 10, 11] [6, 7, 8, 9, 10, 11, 0, 1, 2, 3, 4, 5] 4 0 ⟨hx, hb, hml, hown, hts⟩ hP hD hE hZ hS hA (cX6_bestPlace_k_ok l g  c0 h k0 x0 d0 a1 a2 a3 a4 σ p3 _ e_34) (cwV 1 hts gL_isLine_X6_bestPlace rfl rfl rfl hdX6_bestPlace ⟨(Nat.le_of_ble_eq_true rfl), (Nat.le_of_ble_eq_true rfl)⟩) rfl rfl rfl (by decide) (by decide) (by decide) (by decide) rfl rfl rfl rfl hl.1 rfl (Nat.le_of_ble_eq_true rfl) ⟨(k3 hn), (k61 hn)⟩ dL_isLine_392 (fun H locs hP hD hS => ?_)
        refine W.cs (cells' := 3 * n_373) (slots' := 61 * n_373) (Nat.add_zero _) (Nat.add_zero _) ?_
        refine lv_aload_n hx hb dL_isLine_395 rfl (lv_at hl 2 rfl) ?_
        refine lv_aload_n hx hb dL_isLine_396 rfl (lv_at hl 3 rfl) ?_
        refine lv_iload_n hx hb dL_isLine_397 rfl (lv_at hl 4 rfl) ?_
        obtain ⟨h_35, hf⟩ := ck hf
        obtain ⟨r_35, e_35, hf⟩ := bo hf
        refine mcallSi (W0 := (wC c0 h k0 x0 d0 ++ (wS g h a1 a2 a3 a4 σ ++ (wD g d0 d1 d2 δ_373 ++ (wV g v0 ν ++ (wZ g z0 ζ ++ (wP g p0 ψ_373))))))) (Wc := (wV g v0 ν ++ (wZ g z0 ζ))) (Wr := (wC c0 h k0 x0 d0 ++ (wS g h a1 a2 a3 a4 σ ++ (wD g d0 d1 d2 δ_373 ++ (wP g p0 ψ_373))))) (W1 := (wV g v0 ν ++ (wZ g z0 ζ))) (W2 := (wC c0 h k0 x0 d0 ++ (wS g h a1 a2 a3 a4 σ ++ (wD g d0 d1 d2 δ_373 ++ (wV g v0 ν ++ (wZ g z0 ζ ++ (wP g p0 ψ_373))))))) (As := [.ref v0, .ref z0, .int p3]) (rest := [.int r_34]) [9, 10] [0, 1, 2, 3, 4, 5, 6, 7, 8, 11] [0, 1, 2, 3, 4, 5, 6, 7, 8, 10, 11, 9] ⟨hx, hb, hml, hown, hts⟩ hP hD hE hZ hS hA (cL_best_ok l hl0 g (uB ν p3) v0 z0 ν ζ p3 _ e_35) (va_cwS 3 hts gL_isLine_L_best rfl rfl rfl hdL_best.2 ⟨(Nat.le_of_ble_eq_true rfl), (Nat.le_of_ble_eq_true rfl)⟩) rfl rfl rfl (by decide) (by decide) (by decide) (by decide) rfl hl.1 rfl (Nat.le_of_ble_eq_true rfl) ⟨(kc3 h_35), (kc61 h_35)⟩ dL_isLine_398 (fun H locs hP hD hS => ?_)
        refine W.widen (k := 3 * (n_373 + (uB ν p3))) (n := 61 * (n_373 + (uB ν p3))) (by omega) (by omega) ?_
        refine lv_icmp_ne (tgt := 520) hx hb dL_isLine_401 (by decide) (fun c_36 => ?_) (fun c_36 => ?_)
        · have hf := iq c_36 hf
          refine lv_iconst (v := (0 : Int32)) hx hb dL_isLine_520 (by decide) ?_
          refine lv_istore (lv' := [(12, .int (0 : Int32)), (16, .int t0_373), (0, .ref c0), (1, .ref v0), (2, .ref z0), (3, .int p3), (4, .int p4), (5, .ref p0), (6, .int v6_373), (7, .int v7_373), (8, .int v8_373), (9, .int v9_373), (10, .double v10_373), (13, .int v13_373), (14, .int (b2i v14_373)), (15, .int v15_373)]) hx hb dL_isLine_521 hl (by decide) rfl (fun ls hl => ?_)
          refine lv_iconst (v := (0 : Int32)) hx hb dL_isLine_523 (by decide) ?_
          refine lv_istore (lv' := [(17, .int (0 : Int32)), (12, .int (0 : Int32)), (16, .int t0_373), (0, .ref c0), (1, .ref v0), (2, .ref z0), (3, .int p3), (4, .int p4), (5, .ref p0), (6, .int v6_373), (7, .int v7_373), (8, .int v8_373), (9, .int v9_373), (10, .double v10_373), (13, .int v13_373), (14, .int (b2i v14_373)), (15, .int v15_373)]) hx hb dL_isLine_524 hl (by decide) rfl (fun ls hl => ?_)
          exact hB526 p0 δ_373 ψ_373 FU false (0 : Int32) (n_373 + (uB ν p3)) _ _ h_35 ls hP hD hS (lv_sub hl [3, 4, 5, 6, 7, 8, 1, 0] rfl) hf
        · have hf := ip c_36 hf
          refine lv_aload_n hx hb dL_isLine_404 rfl (lv_at hl 1 rfl) ?_
          refine lv_iload_n hx hb dL_isLine_405 rfl (lv_at hl 4 rfl) ?_
          obtain ⟨r_37, e_37, hf⟩ := xov hf
          refine mcallVi (W0 := (wC c0 h k0 x0 d0 ++ (wS g h a1 a2 a3 a4 σ ++ (wD g d0 d1 d2 δ_373 ++ (wV g v0 ν ++ (wZ g z0 ζ ++ (wP g p0 ψ_373))))))) (Wc := (wC c0 h k0 x0 d0 ++ (wS g h a1 a2 a3 a4 σ))) (Wr := (wD g d0 d1 d2 δ_373 ++ (wV g v0 ν ++ (wZ g z0 ζ ++ (wP g p0 ψ_373))))) (W1 := (wC c0 h k0 x0 d0 ++ (wS g h a1 a2 a3 a4 σ))) (W2 := (wC c0 h k0 x0 d0 ++ (wS g h a1 a2 a3 a4 σ ++ (wD g d0 d1 d2 δ_373 ++ (wV g v0 ν ++ (wZ g z0 ζ ++ (wP g p0 ψ_373))))))) (As := [.int p3]) (rest := []) [0, 1, 2, 3, 4, 5] [6, 7, 8, 9, 10, 11] [6, 7, 8, 9, 10, 11, 0, 1, 2, 3, 4, 5] 4 0 ⟨hx, hb, hml, hown, hts⟩ hP hD hE hZ hS hA (cX6_isTurned_k_ok l g  c0 h k0 x0 d0 a1 a2 a3 a4 σ p3 _ e_37) (cwV 1 hts gL_isLine_X6_isTurned rfl rfl rfl hdX6_isTurned ⟨(Nat.le_of_ble_eq_true rfl), (Nat.le_of_ble_eq_true rfl)⟩) rfl rfl rfl (by decide) (by decide) (by decide) (by decide) rfl rfl rfl rfl hl.1 rfl (Nat.le_of_ble_eq_true rfl) ⟨(k3 h_35), (k61 h_35)⟩ dL_isLine_406 (fun H locs hP hD hS => ?_)
          refine W.cs (cells' := 3 * (n_373 + (uB ν p3))) (slots' := 61 * (n_373 + (uB ν p3))) (Nat.add_zero _) (Nat.add_zero _) ?_
          refine lv_iload hx hb dL_isLine_409 (lv_at hl 14 rfl) ?_
          refine lv_icmp_ne (tgt := 520) hx hb dL_isLine_411 (by decide) (fun c_38 => ?_) (fun c_38 => ?_)
          · have hf := iq c_38 hf
            refine lv_iconst (v := (0 : Int32)) hx hb dL_isLine_520 (by decide) ?_
            refine lv_istore (lv' := [(12, .int (0 : Int32)), (16, .int t0_373), (0, .ref c0), (1, .ref v0), (2, .ref z0), (3, .int p3), (4, .int p4), (5, .ref p0), (6, .int v6_373), (7, .int v7_373), (8, .int v8_373), (9, .int v9_373), (10, .double v10_373), (13, .int v13_373), (14, .int (b2i v14_373)), (15, .int v15_373)]) hx hb dL_isLine_521 hl (by decide) rfl (fun ls hl => ?_)
            refine lv_iconst (v := (0 : Int32)) hx hb dL_isLine_523 (by decide) ?_
            refine lv_istore (lv' := [(17, .int (0 : Int32)), (12, .int (0 : Int32)), (16, .int t0_373), (0, .ref c0), (1, .ref v0), (2, .ref z0), (3, .int p3), (4, .int p4), (5, .ref p0), (6, .int v6_373), (7, .int v7_373), (8, .int v8_373), (9, .int v9_373), (10, .double v10_373), (13, .int v13_373), (14, .int (b2i v14_373)), (15, .int v15_373)]) hx hb dL_isLine_524 hl (by decide) rfl (fun ls hl => ?_)
            exact hB526 p0 δ_373 ψ_373 FU false (0 : Int32) (n_373 + (uB ν p3)) _ _ h_35 ls hP hD hS (lv_sub hl [3, 4, 5, 6, 7, 8, 1, 0] rfl) hf
          · have hf := ip c_38 hf
            refine lv_aload_n hx hb dL_isLine_414 rfl (lv_at hl 1 rfl) ?_
            refine lv_iload_n hx hb dL_isLine_415 rfl (lv_at hl 4 rfl) ?_
            obtain ⟨r_39, e_39, hf⟩ := xov hf
            refine mcallVi (W0 := (wC c0 h k0 x0 d0 ++ (wS g h a1 a2 a3 a4 σ ++ (wD g d0 d1 d2 δ_373 ++ (wV g v0 ν ++ (wZ g z0 ζ ++ (wP g p0 ψ_373))))))) (Wc := (wC c0 h k0 x0 d0 ++ (wS g h a1 a2 a3 a4 σ))) (Wr := (wD g d0 d1 d2 δ_373 ++ (wV g v0 ν ++ (wZ g z0 ζ ++ (wP g p0 ψ_373))))) (W1 := (wC c0 h k0 x0 d0 ++ (wS g h a1 a2 a3 a4 σ))) (W2 := (wC c0 h k0 x0 d0 ++ (wS g h a1 a2 a3 a4 σ ++ (wD g d0 d1 d2 δ_373 ++ (wV g v0 ν ++ (wZ g z0 ζ ++ (wP g p0 ψ_373))))))) (As := [.int p3]) (rest := []) [0, 1, 2, 3, 4, 5] [6, 7, 8, 9, 10, 11] [6, 7, 8, 9, 10, 11, 0, 1, 2, 3, 4, 5] 4 0 ⟨hx, hb, hml, hown, hts⟩ hP hD hE hZ hS hA (cX6_readFrom_k_ok l g  c0 h k0 x0 d0 a1 a2 a3 a4 σ p3 _ e_39) (cwV 1 hts gL_isLine_X6_readFrom rfl rfl rfl hdX6_readFrom ⟨(Nat.le_of_ble_eq_true rfl), (Nat.le_of_ble_eq_true rfl)⟩) rfl rfl rfl (by decide) (by decide) (by decide) (by decide) rfl rfl rfl rfl hl.1 rfl (Nat.le_of_ble_eq_true rfl) ⟨(k3 h_35), (k61 h_35)⟩ dL_isLine_416 (fun H locs hP hD hS => ?_)
            refine W.cs (cells' := 3 * (n_373 + (uB ν p3))) (slots' := 61 * (n_373 + (uB ν p3))) (Nat.add_zero _) (Nat.add_zero _) ?_
            refine lv_iload hx hb dL_isLine_419 (lv_at hl 8 rfl) ?_
            refine lv_if_ge (tgt := 428) hx hb dL_isLine_421 (by decide) (fun c_40 => ?_) (fun c_40 => ?_)
            · have hf := ip c_40 hf
              refine lv_iload hx hb dL_isLine_428 (lv_at hl 14 rfl) ?_
              refine lv_beq (tgt := 438) hx hb dL_isLine_430 (by decide) (fun c_41 => ?_) (fun c_41 => ?_)
              · have hf := iq c_41 hf
                refine lv_aload hx hb dL_isLine_438 (lv_at hl 6 rfl) ?_
                refine lv_iload hx hb dL_isLine_440 (lv_at hl 8 rfl) ?_
                obtain ⟨h_42, hf⟩ := ck hf
                refine va_iald hx hb hE.1 hP 11 0 rfl rfl (vin h_42) dL_isLine_442 ?_
                exact hB443 p0 v6_373 v8_373 v10_373 v15_373 t0_373 r_39 (ψ_373 (Int32.toNatClampNeg v7_373)) δ_373 ψ_373 (n_373 + (uB ν p3)) _ _ h_35 ls hP hD hS (lv_sub hl [1, 2, 3, 4, 5, 6, 7, 9, 11, 15, 0] rfl) hf
              · have hf := ip c_41 hf
                refine lv_iload hx hb dL_isLine_433 (lv_at hl 13 rfl) ?_
                refine lv_goto (tgt := 443) hx hb dL_isLine_435 (by decide) ?_
                exact hB443 p0 v6_373 v8_373 v10_373 v15_373 t0_373 r_39 v13_373 δ_373 ψ_373 (n_373 + (uB ν p3)) _ _ h_35 ls hP hD hS (lv_sub hl [1, 2, 3, 4, 5, 6, 7, 9, 11, 15, 0] rfl) hf
            · have hf := iq c_40 hf
              refine lv_iconst (v := (-1 : Int32)) hx hb dL_isLine_424 (by decide) ?_
              refine lv_goto (tgt := 443) hx hb dL_isLine_425 (by decide) ?_
              exact hB443 p0 v6_373 v8_373 v10_373 v15_373 t0_373 r_39 (-1 : Int32) δ_373 ψ_373 (n_373 + (uB ν p3)) _ _ h_35 ls hP hD hS (lv_sub hl [1, 2, 3, 4, 5, 6, 7, 9, 11, 15, 0] rfl) hf
  have hB342 : ∀ (p0 : Nat) (v6_342 : Int32) (v7_342 : Int32) (v8_342 : Int32) (v9_342 : Int32) (v10_342 : UInt64) (v12_342 : Bool) (v13_342 : Int32) (t0_342 : Bool) (δ_342 : Dr) (ψ_342 : (Nat → Int32)) (n_342 : Nat) (H : Heap) (locs : List Loc) (hn : n_342 ≤ cap) (ls : Array Slot), va_P g.1 vwCl (wC c0 h k0 x0 d0 ++ (wS g h a1 a2 a3 a4 σ ++ (wD g d0 d1 d2 δ_342 ++ (wV g v0 ν ++ (wZ g z0 ζ ++ (wP g p0 ψ_342)))))) H → va_D A (wC c0 h k0 x0 d0 ++ (wS g h a1 a2 a3 a4 σ ++ (wD g d0 d1 d2 δ_342 ++ (wV g v0 ν ++ (wZ g z0 ζ ++ (wP g p0 ψ_342)))))) → va_S A s.heap H locs → lv_has ls 19 [(0, .ref c0), (1, .ref v0), (2, .ref z0), (3, .int p3), (4, .int p4), (5, .ref p0), (6, .int v6_342), (7, .int v7_342), (8, .int v8_342), (9, .int v9_342), (10, .double v10_342), (12, .int (b2i v12_342)), (13, .int v13_342)] → fL_isLine_342 cap σ ν ζ p3 p4 v6_342 v7_342 v8_342 v9_342 v10_342 v12_342 v13_342 t0_342 δ_342 ψ_342 n_342 = some o → W p l e (headSpec wsL_isLine (rmL_isLine cap)).room s m ([.ref c0, .ref v0, .ref z0, .int p3, .int p4] : List Value).toArray below meth c H locs (3 * n_342) (61 * n_342) (MQ below (va_Qi (fun r' (_ : Unit) => r' = b2i o.1) (fun _ t => PQ g (wC c0 h k0 x0 d0 ++ (wS g h a1 a2 a3 a4 σ ++ (wD g d0 d1 d2 o.2 ++ (wV g v0 ν ++ (wZ g z0 ζ))))) A t) A) ([.ref c0, .ref v0, .ref z0, .int p3, .int p4] : List Value).toArray s (3 * cap) (61 * cap) A) (F0 m 342 ls [.int (b2i t0_342)]) := by
    intro p0  v6_342 v7_342 v8_342 v9_342 v10_342 v12_342 v13_342 t0_342 δ_342 ψ_342 n_342 H locs hn ls hP hD hS hl hf
    unfold fL_isLine_342 at hf
    refine lv_istore (lv' := [(14, .int (b2i t0_342)), (0, .ref c0), (1, .ref v0), (2, .ref z0), (3, .int p3), (4, .int p4), (5, .ref p0), (6, .int v6_342), (7, .int v7_342), (8, .int v8_342), (9, .int v9_342), (10, .double v10_342), (12, .int (b2i v12_342)), (13, .int v13_342)]) hx hb dL_isLine_342 hl (by decide) rfl (fun ls hl => ?_)
    refine lv_aload_n hx hb dL_isLine_344 rfl (lv_at hl 2 rfl) ?_
    refine lv_aload_n hx hb dL_isLine_345 rfl (lv_at hl 3 rfl) ?_
    refine lv_iload_n hx hb dL_isLine_346 rfl (lv_at hl 4 rfl) ?_
    obtain ⟨h_43, hf⟩ := ck hf
    obtain ⟨r_43, e_43, hf⟩ := bo hf
    refine mcallSi (W0 := (wC c0 h k0 x0 d0 ++ (wS g h a1 a2 a3 a4 σ ++ (wD g d0 d1 d2 δ_342 ++ (wV g v0 ν ++ (wZ g z0 ζ ++ (wP g p0 ψ_342))))))) (Wc := (wV g v0 ν ++ (wZ g z0 ζ))) (Wr := (wC c0 h k0 x0 d0 ++ (wS g h a1 a2 a3 a4 σ ++ (wD g d0 d1 d2 δ_342 ++ (wP g p0 ψ_342))))) (W1 := (wV g v0 ν ++ (wZ g z0 ζ))) (W2 := (wC c0 h k0 x0 d0 ++ (wS g h a1 a2 a3 a4 σ ++ (wD g d0 d1 d2 δ_342 ++ (wV g v0 ν ++ (wZ g z0 ζ ++ (wP g p0 ψ_342))))))) (As := [.ref v0, .ref z0, .int p3]) (rest := []) [9, 10] [0, 1, 2, 3, 4, 5, 6, 7, 8, 11] [0, 1, 2, 3, 4, 5, 6, 7, 8, 10, 11, 9] ⟨hx, hb, hml, hown, hts⟩ hP hD hE hZ hS hA (cL_round_ok l hl0 g 2 v0 z0 ν ζ p3 _ e_43) (va_cwS 3 hts gL_isLine_L_round rfl rfl rfl hdL_round.2 ⟨(Nat.le_of_ble_eq_true rfl), (Nat.le_of_ble_eq_true rfl)⟩) rfl rfl rfl (by decide) (by decide) (by decide) (by decide) rfl hl.1 rfl (Nat.le_of_ble_eq_true rfl) ⟨(kc3 h_43), (kc61 h_43)⟩ dL_isLine_347 (fun H locs hP hD hS => ?_)
    refine W.widen (k := 3 * (n_342 + 2)) (n := 61 * (n_342 + 2)) (by omega) (by omega) ?_
    refine lv_istore (lv' := [(15, .int r_43), (14, .int (b2i t0_342)), (0, .ref c0), (1, .ref v0), (2, .ref z0), (3, .int p3), (4, .int p4), (5, .ref p0), (6, .int v6_342), (7, .int v7_342), (8, .int v8_342), (9, .int v9_342), (10, .double v10_342), (12, .int (b2i v12_342)), (13, .int v13_342)]) hx hb dL_isLine_350 hl (by decide) rfl (fun ls hl => ?_)
    refine lv_iload hx hb dL_isLine_352 (lv_at hl 0 rfl) ?_
    refine lv_if_ge (tgt := 361) hx hb dL_isLine_354 (by decide) (fun c_44 => ?_) (fun c_44 => ?_)
    · have hf := ip c_44 hf
      refine lv_aload_n hx hb dL_isLine_361 rfl (lv_at hl 3 rfl) ?_
      refine lv_iconst (v := (4 : Int32)) hx hb dL_isLine_362 (by decide) ?_
      refine lv_iload_n hx hb dL_isLine_363 rfl (lv_at hl 5 rfl) ?_
      refine lv_imul hx hb dL_isLine_364 ?_
      obtain ⟨h_45, hf⟩ := ck hf
      refine va_iald hx hb hE.1 hP 9 0 rfl rfl (vin h_45) dL_isLine_365 ?_
      refine lv_aload_n hx hb dL_isLine_366 rfl (lv_at hl 3 rfl) ?_
      refine lv_iconst (v := (4 : Int32)) hx hb dL_isLine_367 (by decide) ?_
      refine lv_iload hx hb dL_isLine_368 (lv_at hl 0 rfl) ?_
      refine lv_imul hx hb dL_isLine_370 ?_
      obtain ⟨h_46, hf⟩ := ck hf
      refine va_iald hx hb hE.1 hP 9 0 rfl rfl (vin h_46) dL_isLine_371 ?_
      refine lv_isub hx hb dL_isLine_372 ?_
      exact hB373 p0 v6_342 v7_342 v8_342 v9_342 v10_342 v12_342 v13_342 t0_342 r_43 ((ν (Int32.toNatClampNeg ((4 : Int32) * p3))) - (ν (Int32.toNatClampNeg ((4 : Int32) * r_43)))) δ_342 ψ_342 (n_342 + 2) _ _ h_43 ls hP hD hS (lv_sub hl [2, 3, 4, 5, 6, 7, 8, 9, 10, 11, 12, 13, 14, 1, 0] rfl) hf
    · have hf := iq c_44 hf
      refine lv_iconst (v := (5 : Int32)) hx hb dL_isLine_357 (by decide) ?_
      refine lv_goto (tgt := 373) hx hb dL_isLine_358 (by decide) ?_
      exact hB373 p0 v6_342 v7_342 v8_342 v9_342 v10_342 v12_342 v13_342 t0_342 r_43 (5 : Int32) δ_342 ψ_342 (n_342 + 2) _ _ h_43 ls hP hD hS (lv_sub hl [2, 3, 4, 5, 6, 7, 8, 9, 10, 11, 12, 13, 14, 1, 0] rfl) hf
  have hB314 : ∀ (p0 : Nat) (v6_314 : Int32) (v7_314 : Int32) (v8_314 : Int32) (v9_314 : Int32) (v10_314 : UInt64) (v12_314 : Bool) (t0_314 : Int32) (δ_314 : Dr) (ψ_314 : (Nat → Int32)) (n_314 : Nat) (H : Heap) (locs : List Loc) (hn : n_314 ≤ cap) (ls : Array Slot), va_P g.1 vwCl (wC c0 h k0 x0 d0 ++ (wS g h a1 a2 a3 a4 σ ++ (wD g d0 d1 d2 δ_314 ++ (wV g v0 ν ++ (wZ g z0 ζ ++ (wP g p0 ψ_314)))))) H → va_D A (wC c0 h k0 x0 d0 ++ (wS g h a1 a2 a3 a4 σ ++ (wD g d0 d1 d2 δ_314 ++ (wV g v0 ν ++ (wZ g z0 ζ ++ (wP g p0 ψ_314)))))) → va_S A s.heap H locs → lv_has ls 19 [(0, .ref c0), (1, .ref v0), (2, .ref z0), (3, .int p3), (4, .int p4), (5, .ref p0), (6, .int v6_314), (7, .int v7_314), (8, .int v8_314), (9, .int v9_314), (10, .double v10_314), (12, .int (b2i v12_314))] → fL_isLine_314 cap σ ν ζ p3 p4 v6_314 v7_314 v8_314 v9_314 v10_314 v12_314 t0_314 δ_314 ψ_314 n_314 = some o → W p l e (headSpec wsL_isLine (rmL_isLine cap)).room s m ([.ref c0, .ref v0, .ref z0, .int p3, .int p4] : List Value).toArray below meth c H locs (3 * n_314) (61 * n_314) (MQ below (va_Qi (fun r' (_ : Unit) => r' = b2i o.1) (fun _ t => PQ g (wC c0 h k0 x0 d0 ++ (wS g h a1 a2 a3 a4 σ ++ (wD g d0 d1 d2 o.2 ++ (wV g v0 ν ++ (wZ g z0 ζ))))) A t) A) ([.ref c0, .ref v0, .ref z0, .int p3, .int p4] : List Value).toArray s (3 * cap) (61 * cap) A) (F0 m 314 ls [.int t0_314]) := by
    intro p0  v6_314 v7_314 v8_314 v9_314 v10_314 v12_314 t0_314 δ_314 ψ_314 n_314 H locs hn ls hP hD hS hl hf
    unfold fL_isLine_314 at hf
    refine lv_istore (lv' := [(13, .int t0_314), (0, .ref c0), (1, .ref v0), (2, .ref z0), (3, .int p3), (4, .int p4), (5, .ref p0), (6, .int v6_314), (7, .int v7_314), (8, .int v8_314), (9, .int v9_314), (10, .double v10_314), (12, .int (b2i v12_314))]) hx hb dL_isLine_314 hl (by decide) rfl (fun ls hl => ?_)
    refine lv_iload hx hb dL_isLine_316 (lv_at hl 8 rfl) ?_
    refine lv_if_lt (tgt := 341) hx hb dL_isLine_318 (by decide) (fun c_47 => ?_) (fun c_47 => ?_)
    · have hf := ip c_47 hf
      refine lv_iconst (v := (0 : Int32)) hx hb dL_isLine_341 (by decide) ?_
      exact hB342 p0 v6_314 v7_314 v8_314 v9_314 v10_314 v12_314 t0_314 false δ_314 ψ_314 n_314 _ _ hn ls hP hD hS (lv_sub hl [1, 2, 3, 4, 5, 6, 7, 8, 9, 10, 11, 12, 0] rfl) hf
    · have hf := iq c_47 hf
      refine lv_iload hx hb dL_isLine_321 (lv_at hl 0 rfl) ?_
      refine lv_bipush (v := (24 : Int32)) hx hb dL_isLine_323 (by decide) ?_
      refine lv_irm hx hb dL_isLine_325 (by decide) ?_
      refine lv_aload hx hb dL_isLine_326 (lv_at hl 6 rfl) ?_
      refine lv_iload hx hb dL_isLine_328 (lv_at hl 8 rfl) ?_
      obtain ⟨h_48, hf⟩ := ck hf
      refine va_iald hx hb hE.1 hP 11 0 rfl rfl (vin h_48) dL_isLine_330 ?_
      refine lv_bipush (v := (24 : Int32)) hx hb dL_isLine_331 (by decide) ?_
      refine lv_irm hx hb dL_isLine_333 (by decide) ?_
      refine lv_icmp_ge (tgt := 341) hx hb dL_isLine_334 (by decide) (fun c_49 => ?_) (fun c_49 => ?_)
      · have hf := ip c_49 hf
        refine lv_iconst (v := (0 : Int32)) hx hb dL_isLine_341 (by decide) ?_
        exact hB342 p0 v6_314 v7_314 v8_314 v9_314 v10_314 v12_314 t0_314 false δ_314 ψ_314 n_314 _ _ hn ls hP hD hS (lv_sub hl [1, 2, 3, 4, 5, 6, 7, 8, 9, 10, 11, 12, 0] rfl) hf
      · have hf := iq c_49 hf
        refine lv_iconst (v := (1 : Int32)) hx hb dL_isLine_337 (by decide) ?_
        refine lv_goto (tgt := 342) hx hb dL_isLine_338 (by decide) ?_
        exact hB342 p0 v6_314 v7_314 v8_314 v9_314 v10_314 v12_314 t0_314 true δ_314 ψ_314 n_314 _ _ hn ls hP hD hS (lv_sub hl [1, 2, 3, 4, 5, 6, 7, 8, 9, 10, 11, 12, 0] rfl) hf
  have hB292 : ∀ (p0 : Nat) (v6_292 : Int32) (v7_292 : Int32) (v8_292 : Int32) (v9_292 : Int32) (v10_292 : UInt64) (v12_292 : Bool) (δ_292 : Dr) (ψ_292 : (Nat → Int32)) (n_292 : Nat) (H : Heap) (locs : List Loc) (hn : n_292 ≤ cap) (ls : Array Slot), va_P g.1 vwCl (wC c0 h k0 x0 d0 ++ (wS g h a1 a2 a3 a4 σ ++ (wD g d0 d1 d2 δ_292 ++ (wV g v0 ν ++ (wZ g z0 ζ ++ (wP g p0 ψ_292)))))) H → va_D A (wC c0 h k0 x0 d0 ++ (wS g h a1 a2 a3 a4 σ ++ (wD g d0 d1 d2 δ_292 ++ (wV g v0 ν ++ (wZ g z0 ζ ++ (wP g p0 ψ_292)))))) → va_S A s.heap H locs → lv_has ls 19 [(0, .ref c0), (1, .ref v0), (2, .ref z0), (3, .int p3), (4, .int p4), (5, .ref p0), (6, .int v6_292), (7, .int v7_292), (8, .int v8_292), (9, .int v9_292), (10, .double v10_292), (12, .int (b2i v12_292))] → fL_isLine_292 cap σ ν ζ p3 p4 v6_292 v7_292 v8_292 v9_292 v10_292 v12_292 δ_292 ψ_292 n_292 = some o → W p l e (headSpec wsL_isLine (rmL_isLine cap)).room s m ([.ref c0, .ref v0, .ref z0, .int p3, .int p4] : List Value).toArray below meth c H locs (3 * n_292) (61 * n_292) (MQ below (va_Qi (fun r' (_ : Unit) => r' = b2i o.1) (fun _ t => PQ g (wC c0 h k0 x0 d0 ++ (wS g h a1 a2 a3 a4 σ ++ (wD g d0 d1 d2 o.2 ++ (wV g v0 ν ++ (wZ g z0 ζ))))) A t) A) ([.ref c0, .ref v0, .ref z0, .int p3, .int p4] : List Value).toArray s (3 * cap) (61 * cap) A) (F0 m 292 ls []) := by
    intro p0  v6_292 v7_292 v8_292 v9_292 v10_292 v12_292 δ_292 ψ_292 n_292 H locs hn ls hP hD hS hl hf
    unfold fL_isLine_292 at hf
    refine lv_iload hx hb dL_isLine_292 (lv_at hl 7 rfl) ?_
    refine lv_if_ge (tgt := 301) hx hb dL_isLine_294 (by decide) (fun c_50 => ?_) (fun c_50 => ?_)
    · have hf := ip c_50 hf
      refine lv_aload hx hb dL_isLine_301 (lv_at hl 5 rfl) ?_
      refine lv_iload hx hb dL_isLine_303 (lv_at hl 7 rfl) ?_
      refine lv_aload_n hx hb dL_isLine_305 rfl (lv_at hl 1 rfl) ?_
      refine lv_iload_n hx hb dL_isLine_306 rfl (lv_at hl 3 rfl) ?_
      obtain ⟨r_51, e_51, hf⟩ := bo hf
      refine pcallS (W0 := (wC c0 h k0 x0 d0 ++ (wS g h a1 a2 a3 a4 σ ++ (wD g d0 d1 d2 δ_292 ++ (wV g v0 ν ++ (wZ g z0 ζ ++ (wP g p0 ψ_292))))))) (As := [.ref v0, .int p3]) (rest := [.int v7_292, .ref p0]) [9] ⟨hx, hb, hml, hown, hts⟩ hP hE hZ hS (cL_size_ok l g v0 ν p3 e_51) (va_cwS 2 hts gL_isLine_L_size rfl rfl rfl hdL_size.2 ⟨(Nat.le_of_ble_eq_true rfl), (Nat.le_of_ble_eq_true rfl)⟩) rfl rfl hl.1 rfl (Nat.le_of_ble_eq_true rfl) ⟨(k3 hn), (k61 hn)⟩ dL_isLine_307 ?_
      refine lv_iadd hx hb dL_isLine_310 ?_
      refine lv_iconst (v := (1 : Int32)) hx hb dL_isLine_311 (by decide) ?_
      refine lv_isub hx hb dL_isLine_312 ?_
      obtain ⟨h_52, hf⟩ := ck hf
      refine va_iald hx hb hE.1 hP 11 0 rfl rfl (vin h_52) dL_isLine_313 ?_
      exact hB314 p0 v6_292 v7_292 v8_292 v9_292 v10_292 v12_292 (ψ_292 (Int32.toNatClampNeg ((v7_292 + r_51) - (1 : Int32)))) δ_292 ψ_292 n_292 _ _ hn ls hP hD hS (lv_sub hl [0, 1, 2, 3, 4, 5, 6, 7, 8, 9, 10, 11] rfl) hf
    · have hf := iq c_50 hf
      refine lv_iconst (v := (0 : Int32)) hx hb dL_isLine_297 (by decide) ?_
      refine lv_goto (tgt := 314) hx hb dL_isLine_298 (by decide) ?_
      exact hB314 p0 v6_292 v7_292 v8_292 v9_292 v10_292 v12_292 (0 : Int32) δ_292 ψ_292 n_292 _ _ hn ls hP hD hS (lv_sub hl [0, 1, 2, 3, 4, 5, 6, 7, 8, 9, 10, 11] rfl) hf
  have hB112 : ∀ (p0 : Nat) (v6_112 : Int32) (v7_112 : Int32) (δ_112 : Dr) (ψ_112 : (Nat → Int32)) (n112 : Nat) (v8_112 : Int32) (v9_112 : Int32) (v10_112 : UInt64) (v12_112 : Bool) (v13_112 : Int32) (n_112 : Nat) (H : Heap) (locs : List Loc) (hn : n_112 ≤ cap) (ls : Array Slot), va_P g.1 vwCl (wC c0 h k0 x0 d0 ++ (wS g h a1 a2 a3 a4 σ ++ (wD g d0 d1 d2 δ_112 ++ (wV g v0 ν ++ (wZ g z0 ζ ++ (wP g p0 ψ_112)))))) H → va_D A (wC c0 h k0 x0 d0 ++ (wS g h a1 a2 a3 a4 σ ++ (wD g d0 d1 d2 δ_112 ++ (wV g v0 ν ++ (wZ g z0 ζ ++ (wP g p0 ψ_112)))))) → va_S A s.heap H locs → lv_has ls 19 [(0, .ref c0), (1, .ref v0), (2, .ref z0), (3, .int p3), (4, .int p4), (5, .ref p0), (6, .int v6_112), (7, .int v7_112), (8, .int v8_112), (9, .int v9_112), (10, .double v10_112), (12, .int (b2i v12_112)), (13, .int v13_112)] → fL_isLine_112 cap σ ν ζ p3 p4 v6_112 v7_112 δ_112 ψ_112 n112 v8_112 v9_112 v10_112 v12_112 v13_112 n_112 = some o → W p l e (headSpec wsL_isLine (rmL_isLine cap)).room s m ([.ref c0, .ref v0, .ref z0, .int p3, .int p4] : List Value).toArray below meth c H locs (3 * n_112) (61 * n_112) (MQ below (va_Qi (fun r' (_ : Unit) => r' = b2i o.1) (fun _ t => PQ g (wC c0 h k0 x0 d0 ++ (wS g h a1 a2 a3 a4 σ ++ (wD g d0 d1 d2 o.2 ++ (wV g v0 ν ++ (wZ g z0 ζ))))) A t) A) ([.ref c0, .ref v0, .ref z0, .int p3, .int p4] : List Value).toArray s (3 * cap) (61 * cap) A) (F0 m 112 ls []) := by
    intro p0 v6_112 v7_112 δ_112 ψ_112 n112
    induction n112 with
    | zero => intro v8_112 v9_112 v10_112 v12_112 v13_112 n_112 H locs hn ls hP hD hS hl hf; exact nomatch (show (none : Option (Bool × Dr)) = some _ from hf)
    | succ n112 ih112 =>
      have hB209 : ∀ (v8_209 : Int32) (v10_209 : UInt64) (v13_209 : Int32) (v14_209 : Int32) (t0_209 : Int32) (t1_209 : Bool) (n_209 : Nat) (H : Heap) (locs : List Loc) (hn : n_209 ≤ cap) (ls : Array Slot), va_P g.1 vwCl (wC c0 h k0 x0 d0 ++ (wS g h a1 a2 a3 a4 σ ++ (wD g d0 d1 d2 δ_112 ++ (wV g v0 ν ++ (wZ g z0 ζ ++ (wP g p0 ψ_112)))))) H → va_D A (wC c0 h k0 x0 d0 ++ (wS g h a1 a2 a3 a4 σ ++ (wD g d0 d1 d2 δ_112 ++ (wV g v0 ν ++ (wZ g z0 ζ ++ (wP g p0 ψ_112)))))) → va_S A s.heap H locs → lv_has ls 19 [(0, .ref c0), (1, .ref v0), (2, .ref z0), (3, .int p3), (4, .int p4), (5, .ref p0), (6, .int v6_112), (7, .int v7_112), (8, .int v8_209), (10, .double v10_209), (13, .int v13_209), (14, .int v14_209)] → fL_isLine_209 cap σ ν ζ p3 p4 v6_112 v7_112 δ_112 ψ_112 (fL_isLine_112 cap σ ν ζ p3 p4 v6_112 v7_112 δ_112 ψ_112 n112) v8_209 v10_209 v13_209 v14_209 t0_209 t1_209 n_209 = some o → W p l e (headSpec wsL_isLine (rmL_isLine cap)).room s m ([.ref c0, .ref v0, .ref z0, .int p3, .int p4] : List Value).toArray below meth c H locs (3 * n_209) (61 * n_209) (MQ below (va_Qi (fun r' (_ : Unit) => r' = b2i o.1) (fun _ t => PQ g (wC c0 h k0 x0 d0 ++ (wS g h a1 a2 a3 a4 σ ++ (wD g d0 d1 d2 o.2 ++ (wV g v0 ν ++ (wZ g z0 ζ))))) A t) A) ([.ref c0, .ref v0, .ref z0, .int p3, .int p4] : List Value).toArray s (3 * cap) (61 * cap) A) (F0 m 209 ls [.int (b2i t1_209), .int t0_209]) := by
        intro  v8_209 v10_209 v13_209 v14_209 t0_209 t1_209 n_209 H locs hn ls hP hD hS hl hf
        unfold fL_isLine_209 at hf
        refine lv_iadd hx hb dL_isLine_209 ?_
        refine lv_istore (lv' := [(9, .int (t0_209 + (b2i t1_209))), (0, .ref c0), (1, .ref v0), (2, .ref z0), (3, .int p3), (4, .int p4), (5, .ref p0), (6, .int v6_112), (7, .int v7_112), (8, .int v8_209), (10, .double v10_209), (13, .int v13_209), (14, .int v14_209)]) hx hb dL_isLine_210 hl (by decide) rfl (fun ls hl => ?_)
        refine lv_aload_n hx hb dL_isLine_212 rfl (lv_at hl 1 rfl) ?_
        refine lv_iload_n hx hb dL_isLine_213 rfl (lv_at hl 4 rfl) ?_
        refine lv_iload hx hb dL_isLine_214 (lv_at hl 11 rfl) ?_
        obtain ⟨r_53, e_53, hf⟩ := xov hf
        refine mcallVi (W0 := (wC c0 h k0 x0 d0 ++ (wS g h a1 a2 a3 a4 σ ++ (wD g d0 d1 d2 δ_112 ++ (wV g v0 ν ++ (wZ g z0 ζ ++ (wP g p0 ψ_112))))))) (Wc := (wC c0 h k0 x0 d0 ++ (wS g h a1 a2 a3 a4 σ))) (Wr := (wD g d0 d1 d2 δ_112 ++ (wV g v0 ν ++ (wZ g z0 ζ ++ (wP g p0 ψ_112))))) (W1 := (wC c0 h k0 x0 d0 ++ (wS g h a1 a2 a3 a4 σ))) (W2 := (wC c0 h k0 x0 d0 ++ (wS g h a1 a2 a3 a4 σ ++ (wD g d0 d1 d2 δ_112 ++ (wV g v0 ν ++ (wZ g z0 ζ ++ (wP g p0 ψ_112))))))) (As := [.int p3, .int v13_209]) (rest := []) [0, 1, 2, 3, 4, 5] [6, 7, 8, 9, 10, 11] [6, 7, 8, 9, 10, 11, 0, 1, 2, 3, 4, 5] 4 0 ⟨hx, hb, hml, hown, hts⟩ hP hD hE hZ hS hA (cX6_pointOf_k_ok l g  c0 h k0 x0 d0 a1 a2 a3 a4 σ p3 v13_209 _ e_53) (cwV 2 hts gL_isLine_X6_pointOf rfl rfl rfl hdX6_pointOf ⟨(Nat.le_of_ble_eq_true rfl), (Nat.le_of_ble_eq_true rfl)⟩) rfl rfl rfl (by decide) (by decide) (by decide) (by decide) rfl rfl rfl rfl hl.1 rfl (Nat.le_of_ble_eq_true rfl) ⟨(k3 hn), (k61 hn)⟩ dL_isLine_216 (fun H locs hP hD hS => ?_)
        refine W.cs (cells' := 3 * n_209) (slots' := 61 * n_209) (Nat.add_zero _) (Nat.add_zero _) ?_
        refine lv_aload hx hb dL_isLine_219 (lv_at hl 6 rfl) ?_
        refine lv_iload hx hb dL_isLine_221 (lv_at hl 11 rfl) ?_
        obtain ⟨h_54, hf⟩ := ck hf
        refine va_iald hx hb hE.1 hP 11 0 rfl rfl (vin h_54) dL_isLine_223 ?_
        refine lv_icmp_ne (tgt := 283) hx hb dL_isLine_224 (by decide) (fun c_55 => ?_) (fun c_55 => ?_)
        · have hf := iq c_55 hf
          refine lv_iconst (v := (0 : Int32)) hx hb dL_isLine_283 (by decide) ?_
          refine lv_istore (lv' := [(12, .int (0 : Int32)), (9, .int (t0_209 + (b2i t1_209))), (0, .ref c0), (1, .ref v0), (2, .ref z0), (3, .int p3), (4, .int p4), (5, .ref p0), (6, .int v6_112), (7, .int v7_112), (8, .int v8_209), (10, .double v10_209), (13, .int v13_209), (14, .int v14_209)]) hx hb dL_isLine_284 hl (by decide) rfl (fun ls hl => ?_)
          refine lv_iinc (v := (v13_209 + 1)) (lv' := [(13, .int (v13_209 + 1)), (12, .int (0 : Int32)), (9, .int (t0_209 + (b2i t1_209))), (0, .ref c0), (1, .ref v0), (2, .ref z0), (3, .int p3), (4, .int p4), (5, .ref p0), (6, .int v6_112), (7, .int v7_112), (8, .int v8_209), (10, .double v10_209), (14, .int v14_209)]) hx hb dL_isLine_286 hl (k := 12) rfl rfl (by decide) rfl (fun ls hl => ?_)
          refine lv_goto (tgt := 112) hx hb dL_isLine_289 (by decide) ?_
          exact ih112 v8_209 (t0_209 + (b2i t1_209)) v10_209 false (v13_209 + 1) n_209 _ _ hn ls hP hD hS (lv_sub hl [3, 4, 5, 6, 7, 8, 9, 10, 11, 2, 12, 1, 0] rfl) hf
        · have hf := ip c_55 hf
          refine lv_aload_n hx hb dL_isLine_227 rfl (lv_at hl 1 rfl) ?_
          refine lv_iload_n hx hb dL_isLine_228 rfl (lv_at hl 4 rfl) ?_
          refine lv_iload hx hb dL_isLine_229 (lv_at hl 11 rfl) ?_
          obtain ⟨r_56, e_56, hf⟩ := xov hf
          refine mcallVi (W0 := (wC c0 h k0 x0 d0 ++ (wS g h a1 a2 a3 a4 σ ++ (wD g d0 d1 d2 δ_112 ++ (wV g v0 ν ++ (wZ g z0 ζ ++ (wP g p0 ψ_112))))))) (Wc := (wC c0 h k0 x0 d0 ++ (wS g h a1 a2 a3 a4 σ))) (Wr := (wD g d0 d1 d2 δ_112 ++ (wV g v0 ν ++ (wZ g z0 ζ ++ (wP g p0 ψ_112))))) (W1 := (wC c0 h k0 x0 d0 ++ (wS g h a1 a2 a3 a4 σ))) (W2 := (wC c0 h k0 x0 d0 ++ (wS g h a1 a2 a3 a4 σ ++ (wD g d0 d1 d2 δ_112 ++ (wV g v0 ν ++ (wZ g z0 ζ ++ (wP g p0 ψ_112))))))) (As := [.int p3, .int v13_209]) (rest := []) [0, 1, 2, 3, 4, 5] [6, 7, 8, 9, 10, 11] [6, 7, 8, 9, 10, 11, 0, 1, 2, 3, 4, 5] 4 0 ⟨hx, hb, hml, hown, hts⟩ hP hD hE hZ hS hA (cX6_bendAt_k_ok l g  c0 h k0 x0 d0 a1 a2 a3 a4 σ p3 v13_209 _ e_56) (cwV 2 hts gL_isLine_X6_bendAt rfl rfl rfl hdX6_bendAt ⟨(Nat.le_of_ble_eq_true rfl), (Nat.le_of_ble_eq_true rfl)⟩) rfl rfl rfl (by decide) (by decide) (by decide) (by decide) rfl rfl rfl rfl hl.1 rfl (Nat.le_of_ble_eq_true rfl) ⟨(k3 hn), (k61 hn)⟩ dL_isLine_231 (fun H locs hP hD hS => ?_)
          refine W.cs (cells' := 3 * n_209) (slots' := 61 * n_209) (Nat.add_zero _) (Nat.add_zero _) ?_
          refine lv_aload_n hx hb dL_isLine_234 rfl (lv_at hl 2 rfl) ?_
          refine lv_aload_n hx hb dL_isLine_235 rfl (lv_at hl 3 rfl) ?_
          refine lv_iload_n hx hb dL_isLine_236 rfl (lv_at hl 4 rfl) ?_
          refine lv_aload hx hb dL_isLine_237 (lv_at hl 6 rfl) ?_
          refine lv_iload hx hb dL_isLine_239 (lv_at hl 11 rfl) ?_
          obtain ⟨r_57, e_57, hf⟩ := bo hf
          refine pcallS (W0 := (wC c0 h k0 x0 d0 ++ (wS g h a1 a2 a3 a4 σ ++ (wD g d0 d1 d2 δ_112 ++ (wV g v0 ν ++ (wZ g z0 ζ ++ (wP g p0 ψ_112))))))) (As := [.ref v0, .ref z0, .int p3, .ref p0, .int v13_209]) (rest := [.int r_56]) [9, 10, 11] ⟨hx, hb, hml, hown, hts⟩ hP hE hZ hS (cL_bend_ok l g v0 z0 p0 ν ζ ψ_112 p3 v13_209 e_57) (va_cwS 5 hts gL_isLine_L_bend rfl rfl rfl hdL_bend.2 ⟨(Nat.le_of_ble_eq_true rfl), (Nat.le_of_ble_eq_true rfl)⟩) rfl rfl hl.1 rfl (Nat.le_of_ble_eq_true rfl) ⟨(k3 hn), (k61 hn)⟩ dL_isLine_241 ?_
          refine lv_icmp_ne (tgt := 283) hx hb dL_isLine_244 (by decide) (fun c_58 => ?_) (fun c_58 => ?_)
          · have hf := iq c_58 hf
            refine lv_iconst (v := (0 : Int32)) hx hb dL_isLine_283 (by decide) ?_
            refine lv_istore (lv' := [(12, .int (0 : Int32)), (9, .int (t0_209 + (b2i t1_209))), (0, .ref c0), (1, .ref v0), (2, .ref z0), (3, .int p3), (4, .int p4), (5, .ref p0), (6, .int v6_112), (7, .int v7_112), (8, .int v8_209), (10, .double v10_209), (13, .int v13_209), (14, .int v14_209)]) hx hb dL_isLine_284 hl (by decide) rfl (fun ls hl => ?_)
            refine lv_iinc (v := (v13_209 + 1)) (lv' := [(13, .int (v13_209 + 1)), (12, .int (0 : Int32)), (9, .int (t0_209 + (b2i t1_209))), (0, .ref c0), (1, .ref v0), (2, .ref z0), (3, .int p3), (4, .int p4), (5, .ref p0), (6, .int v6_112), (7, .int v7_112), (8, .int v8_209), (10, .double v10_209), (14, .int v14_209)]) hx hb dL_isLine_286 hl (k := 12) rfl rfl (by decide) rfl (fun ls hl => ?_)
            refine lv_goto (tgt := 112) hx hb dL_isLine_289 (by decide) ?_
            exact ih112 v8_209 (t0_209 + (b2i t1_209)) v10_209 false (v13_209 + 1) n_209 _ _ hn ls hP hD hS (lv_sub hl [3, 4, 5, 6, 7, 8, 9, 10, 11, 2, 12, 1, 0] rfl) hf
          · have hf := ip c_58 hf
            refine lv_aload_n hx hb dL_isLine_247 rfl (lv_at hl 1 rfl) ?_
            refine lv_iload_n hx hb dL_isLine_248 rfl (lv_at hl 4 rfl) ?_
            refine lv_iload hx hb dL_isLine_249 (lv_at hl 11 rfl) ?_
            obtain ⟨r_59, e_59, hf⟩ := xov hf
            refine mcallVi (W0 := (wC c0 h k0 x0 d0 ++ (wS g h a1 a2 a3 a4 σ ++ (wD g d0 d1 d2 δ_112 ++ (wV g v0 ν ++ (wZ g z0 ζ ++ (wP g p0 ψ_112))))))) (Wc := (wC c0 h k0 x0 d0 ++ (wS g h a1 a2 a3 a4 σ))) (Wr := (wD g d0 d1 d2 δ_112 ++ (wV g v0 ν ++ (wZ g z0 ζ ++ (wP g p0 ψ_112))))) (W1 := (wC c0 h k0 x0 d0 ++ (wS g h a1 a2 a3 a4 σ))) (W2 := (wC c0 h k0 x0 d0 ++ (wS g h a1 a2 a3 a4 σ ++ (wD g d0 d1 d2 δ_112 ++ (wV g v0 ν ++ (wZ g z0 ζ ++ (wP g p0 ψ_112))))))) (As := [.int p3, .int v13_209]) (rest := []) [0, 1, 2, 3, 4, 5] [6, 7, 8, 9, 10, 11] [6, 7, 8, 9, 10, 11, 0, 1, 2, 3, 4, 5] 4 0 ⟨hx, hb, hml, hown, hts⟩ hP hD hE hZ hS hA (cX6_bendOf_k_ok l g  c0 h k0 x0 d0 a1 a2 a3 a4 σ p3 v13_209 _ e_59) (cwV 2 hts gL_isLine_X6_bendOf rfl rfl rfl hdX6_bendOf ⟨(Nat.le_of_ble_eq_true rfl), (Nat.le_of_ble_eq_true rfl)⟩) rfl rfl rfl (by decide) (by decide) (by decide) (by decide) rfl rfl rfl rfl hl.1 rfl (Nat.le_of_ble_eq_true rfl) ⟨(k3 hn), (k61 hn)⟩ dL_isLine_251 (fun H locs hP hD hS => ?_)
            refine W.cs (cells' := 3 * n_209) (slots' := 61 * n_209) (Nat.add_zero _) (Nat.add_zero _) ?_
            refine lv_aload_n hx hb dL_isLine_254 rfl (lv_at hl 2 rfl) ?_
            refine lv_aload_n hx hb dL_isLine_255 rfl (lv_at hl 3 rfl) ?_
            refine lv_iload_n hx hb dL_isLine_256 rfl (lv_at hl 4 rfl) ?_
            refine lv_aload hx hb dL_isLine_257 (lv_at hl 6 rfl) ?_
            refine lv_iload hx hb dL_isLine_259 (lv_at hl 11 rfl) ?_
            obtain ⟨r_60, e_60, hf⟩ := bo hf
            refine pcallS (W0 := (wC c0 h k0 x0 d0 ++ (wS g h a1 a2 a3 a4 σ ++ (wD g d0 d1 d2 δ_112 ++ (wV g v0 ν ++ (wZ g z0 ζ ++ (wP g p0 ψ_112))))))) (As := [.ref v0, .ref z0, .int p3, .ref p0, .int v13_209]) (rest := [.int r_59]) [9, 10, 11] ⟨hx, hb, hml, hown, hts⟩ hP hE hZ hS (cL_bends_ok l g v0 z0 p0 ν ζ ψ_112 p3 v13_209 e_60) (va_cwS 5 hts gL_isLine_L_bends rfl rfl rfl hdL_bends.2 ⟨(Nat.le_of_ble_eq_true rfl), (Nat.le_of_ble_eq_true rfl)⟩) rfl rfl hl.1 rfl (Nat.le_of_ble_eq_true rfl) ⟨(k3 hn), (k61 hn)⟩ dL_isLine_261 ?_
            refine lv_icmp_ne (tgt := 283) hx hb dL_isLine_264 (by decide) (fun c_61 => ?_) (fun c_61 => ?_)
            · have hf := iq c_61 hf
              refine lv_iconst (v := (0 : Int32)) hx hb dL_isLine_283 (by decide) ?_
              refine lv_istore (lv' := [(12, .int (0 : Int32)), (9, .int (t0_209 + (b2i t1_209))), (0, .ref c0), (1, .ref v0), (2, .ref z0), (3, .int p3), (4, .int p4), (5, .ref p0), (6, .int v6_112), (7, .int v7_112), (8, .int v8_209), (10, .double v10_209), (13, .int v13_209), (14, .int v14_209)]) hx hb dL_isLine_284 hl (by decide) rfl (fun ls hl => ?_)
              refine lv_iinc (v := (v13_209 + 1)) (lv' := [(13, .int (v13_209 + 1)), (12, .int (0 : Int32)), (9, .int (t0_209 + (b2i t1_209))), (0, .ref c0), (1, .ref v0), (2, .ref z0), (3, .int p3), (4, .int p4), (5, .ref p0), (6, .int v6_112), (7, .int v7_112), (8, .int v8_209), (10, .double v10_209), (14, .int v14_209)]) hx hb dL_isLine_286 hl (k := 12) rfl rfl (by decide) rfl (fun ls hl => ?_)
              refine lv_goto (tgt := 112) hx hb dL_isLine_289 (by decide) ?_
              exact ih112 v8_209 (t0_209 + (b2i t1_209)) v10_209 false (v13_209 + 1) n_209 _ _ hn ls hP hD hS (lv_sub hl [3, 4, 5, 6, 7, 8, 9, 10, 11, 2, 12, 1, 0] rfl) hf
            · have hf := ip c_61 hf
              refine lv_aload_n hx hb dL_isLine_267 rfl (lv_at hl 1 rfl) ?_
              refine lv_iload_n hx hb dL_isLine_268 rfl (lv_at hl 4 rfl) ?_
              refine lv_iload hx hb dL_isLine_269 (lv_at hl 11 rfl) ?_
              obtain ⟨r_62, e_62, hf⟩ := xov hf
              refine mcallVi (W0 := (wC c0 h k0 x0 d0 ++ (wS g h a1 a2 a3 a4 σ ++ (wD g d0 d1 d2 δ_112 ++ (wV g v0 ν ++ (wZ g z0 ζ ++ (wP g p0 ψ_112))))))) (Wc := (wC c0 h k0 x0 d0 ++ (wS g h a1 a2 a3 a4 σ))) (Wr := (wD g d0 d1 d2 δ_112 ++ (wV g v0 ν ++ (wZ g z0 ζ ++ (wP g p0 ψ_112))))) (W1 := (wC c0 h k0 x0 d0 ++ (wS g h a1 a2 a3 a4 σ))) (W2 := (wC c0 h k0 x0 d0 ++ (wS g h a1 a2 a3 a4 σ ++ (wD g d0 d1 d2 δ_112 ++ (wV g v0 ν ++ (wZ g z0 ζ ++ (wP g p0 ψ_112))))))) (As := [.int p3, .int v13_209]) (rest := []) [0, 1, 2, 3, 4, 5] [6, 7, 8, 9, 10, 11] [6, 7, 8, 9, 10, 11, 0, 1, 2, 3, 4, 5] 4 0 ⟨hx, hb, hml, hown, hts⟩ hP hD hE hZ hS hA (cX6_whyNotLabelled_k_ok l g  c0 h k0 x0 d0 a1 a2 a3 a4 σ p3 v13_209 _ e_62) (cwV 2 hts gL_isLine_X6_whyNotLabelled rfl rfl rfl hdX6_whyNotLabelled ⟨(Nat.le_of_ble_eq_true rfl), (Nat.le_of_ble_eq_true rfl)⟩) rfl rfl rfl (by decide) (by decide) (by decide) (by decide) rfl rfl rfl rfl hl.1 rfl (Nat.le_of_ble_eq_true rfl) ⟨(k3 hn), (k61 hn)⟩ dL_isLine_271 (fun H locs hP hD hS => ?_)
              refine W.cs (cells' := 3 * n_209) (slots' := 61 * n_209) (Nat.add_zero _) (Nat.add_zero _) ?_
              refine lv_iload hx hb dL_isLine_274 (lv_at hl 12 rfl) ?_
              refine lv_icmp_ne (tgt := 283) hx hb dL_isLine_276 (by decide) (fun c_63 => ?_) (fun c_63 => ?_)
              · have hf := iq c_63 hf
                refine lv_iconst (v := (0 : Int32)) hx hb dL_isLine_283 (by decide) ?_
                refine lv_istore (lv' := [(12, .int (0 : Int32)), (9, .int (t0_209 + (b2i t1_209))), (0, .ref c0), (1, .ref v0), (2, .ref z0), (3, .int p3), (4, .int p4), (5, .ref p0), (6, .int v6_112), (7, .int v7_112), (8, .int v8_209), (10, .double v10_209), (13, .int v13_209), (14, .int v14_209)]) hx hb dL_isLine_284 hl (by decide) rfl (fun ls hl => ?_)
                refine lv_iinc (v := (v13_209 + 1)) (lv' := [(13, .int (v13_209 + 1)), (12, .int (0 : Int32)), (9, .int (t0_209 + (b2i t1_209))), (0, .ref c0), (1, .ref v0), (2, .ref z0), (3, .int p3), (4, .int p4), (5, .ref p0), (6, .int v6_112), (7, .int v7_112), (8, .int v8_209), (10, .double v10_209), (14, .int v14_209)]) hx hb dL_isLine_286 hl (k := 12) rfl rfl (by decide) rfl (fun ls hl => ?_)
                refine lv_goto (tgt := 112) hx hb dL_isLine_289 (by decide) ?_
                exact ih112 v8_209 (t0_209 + (b2i t1_209)) v10_209 false (v13_209 + 1) n_209 _ _ hn ls hP hD hS (lv_sub hl [3, 4, 5, 6, 7, 8, 9, 10, 11, 2, 12, 1, 0] rfl) hf
              · have hf := ip c_63 hf
                refine lv_iconst (v := (1 : Int32)) hx hb dL_isLine_279 (by decide) ?_
                refine lv_goto (tgt := 284) hx hb dL_isLine_280 (by decide) ?_
                refine lv_istore (lv' := [(12, .int (1 : Int32)), (9, .int (t0_209 + (b2i t1_209))), (0, .ref c0), (1, .ref v0), (2, .ref z0), (3, .int p3), (4, .int p4), (5, .ref p0), (6, .int v6_112), (7, .int v7_112), (8, .int v8_209), (10, .double v10_209), (13, .int v13_209), (14, .int v14_209)]) hx hb dL_isLine_284 hl (by decide) rfl (fun ls hl => ?_)
                refine lv_iinc (v := (v13_209 + 1)) (lv' := [(13, .int (v13_209 + 1)), (12, .int (1 : Int32)), (9, .int (t0_209 + (b2i t1_209))), (0, .ref c0), (1, .ref v0), (2, .ref z0), (3, .int p3), (4, .int p4), (5, .ref p0), (6, .int v6_112), (7, .int v7_112), (8, .int v8_209), (10, .double v10_209), (14, .int v14_209)]) hx hb dL_isLine_286 hl (k := 12) rfl rfl (by decide) rfl (fun ls hl => ?_)
                refine lv_goto (tgt := 112) hx hb dL_isLine_289 (by decide) ?_
                exact ih112 v8_209 (t0_209 + (b2i t1_209)) v10_209 true (v13_209 + 1) n_209 _ _ hn ls hP hD hS (lv_sub hl [3, 4, 5, 6, 7, 8, 9, 10, 11, 2, 12, 1, 0] rfl) hf
      have hB182 : ∀ (v8_182 : Int32) (v9_182 : Int32) (v13_182 : Int32) (t0_182 : UInt64) (t1_182 : UInt64) (n_182 : Nat) (H : Heap) (locs : List Loc) (hn : n_182 ≤ cap) (ls : Array Slot), va_P g.1 vwCl (wC c0 h k0 x0 d0 ++ (wS g h a1 a2 a3 a4 σ ++ (wD g d0 d1 d2 δ_112 ++ (wV g v0 ν ++ (wZ g z0 ζ ++ (wP g p0 ψ_112)))))) H → va_D A (wC c0 h k0 x0 d0 ++ (wS g h a1 a2 a3 a4 σ ++ (wD g d0 d1 d2 δ_112 ++ (wV g v0 ν ++ (wZ g z0 ζ ++ (wP g p0 ψ_112)))))) → va_S A s.heap H locs → lv_has ls 19 [(0, .ref c0), (1, .ref v0), (2, .ref z0), (3, .int p3), (4, .int p4), (5, .ref p0), (6, .int v6_112), (7, .int v7_112), (8, .int v8_182), (9, .int v9_182), (13, .int v13_182)] → fL_isLine_182 cap σ ν ζ p3 p4 v6_112 v7_112 δ_112 ψ_112 (fL_isLine_112 cap σ ν ζ p3 p4 v6_112 v7_112 δ_112 ψ_112 n112) v8_182 v9_182 v13_182 t0_182 t1_182 n_182 = some o → W p l e (headSpec wsL_isLine (rmL_isLine cap)).room s m ([.ref c0, .ref v0, .ref z0, .int p3, .int p4] : List Value).toArray below meth c H locs (3 * n_182) (61 * n_182) (MQ below (va_Qi (fun r' (_ : Unit) => r' = b2i o.1) (fun _ t => PQ g (wC c0 h k0 x0 d0 ++ (wS g h a1 a2 a3 a4 σ ++ (wD g d0 d1 d2 o.2 ++ (wV g v0 ν ++ (wZ g z0 ζ))))) A t) A) ([.ref c0, .ref v0, .ref z0, .int p3, .int p4] : List Value).toArray s (3 * cap) (61 * cap) A) (F0 m 182 ls [.double t1_182, .double t0_182]) := by
        intro  v8_182 v9_182 v13_182 t0_182 t1_182 n_182 H locs hn ls hP hD hS hl hf
        unfold fL_isLine_182 at hf
        obtain ⟨h_64, hf⟩ := ck hf
        refine lv_dadd hx hb dL_isLine_182 h_64 ?_
        refine lv_dstore (lv' := [(10, .double (FP.dadd t0_182 t1_182)), (0, .ref c0), (1, .ref v0), (2, .ref z0), (3, .int p3), (4, .int p4), (5, .ref p0), (6, .int v6_112), (7, .int v7_112), (8, .int v8_182), (9, .int v9_182), (13, .int v13_182)]) hx hb dL_isLine_183 hl (by decide) rfl (fun ls hl => ?_)
        refine lv_aload_n hx hb dL_isLine_185 rfl (lv_at hl 2 rfl) ?_
        refine lv_aload_n hx hb dL_isLine_186 rfl (lv_at hl 3 rfl) ?_
        refine lv_iload_n hx hb dL_isLine_187 rfl (lv_at hl 4 rfl) ?_
        refine lv_aload hx hb dL_isLine_188 (lv_at hl 6 rfl) ?_
        refine lv_iload hx hb dL_isLine_190 (lv_at hl 11 rfl) ?_
        obtain ⟨h_65, hf⟩ := ck hf
        obtain ⟨r_65, e_65, hf⟩ := bo hf
        refine mcallSi (W0 := (wC c0 h k0 x0 d0 ++ (wS g h a1 a2 a3 a4 σ ++ (wD g d0 d1 d2 δ_112 ++ (wV g v0 ν ++ (wZ g z0 ζ ++ (wP g p0 ψ_112))))))) (Wc := (wV g v0 ν ++ (wZ g z0 ζ ++ (wP g p0 ψ_112)))) (Wr := (wC c0 h k0 x0 d0 ++ (wS g h a1 a2 a3 a4 σ ++ (wD g d0 d1 d2 δ_112)))) (W1 := (wV g v0 ν ++ (wZ g z0 ζ ++ (wP g p0 ψ_112)))) (W2 := (wC c0 h k0 x0 d0 ++ (wS g h a1 a2 a3 a4 σ ++ (wD g d0 d1 d2 δ_112 ++ (wV g v0 ν ++ (wZ g z0 ζ ++ (wP g p0 ψ_112))))))) (As := [.ref v0, .ref z0, .int p3, .ref p0, .int v13_182]) (rest := []) [9, 10, 11] [0, 1, 2, 3, 4, 5, 6, 7, 8] [0, 1, 2, 3, 4, 5, 6, 7, 8, 9, 10, 11] ⟨hx, hb, hml, hown, hts⟩ hP hD hE hZ hS hA (cL_against_ok l hl0 g (uA ν p3 v13_182) v0 z0 p0 ν ζ ψ_112 p3 v13_182 _ e_65) (va_cwS 5 hts gL_isLine_L_against rfl rfl rfl hdL_against.2 ⟨(Nat.le_of_ble_eq_true rfl), (Nat.le_of_ble_eq_true rfl)⟩) rfl rfl rfl (by decide) (by decide) (by decide) (by decide) rfl hl.1 rfl (Nat.le_of_ble_eq_true rfl) ⟨(kc3 h_65), (kc61 h_65)⟩ dL_isLine_192 (fun H locs hP hD hS => ?_)
        refine W.widen (k := 3 * (n_182 + (uA ν p3 v13_182))) (n := 61 * (n_182 + (uA ν p3 v13_182))) (by omega) (by omega) ?_
        refine lv_istore (lv' := [(14, .int r_65), (10, .double (FP.dadd t0_182 t1_182)), (0, .ref c0), (1, .ref v0), (2, .ref z0), (3, .int p3), (4, .int p4), (5, .ref p0), (6, .int v6_112), (7, .int v7_112), (8, .int v8_182), (9, .int v9_182), (13, .int v13_182)]) hx hb dL_isLine_195 hl (by decide) rfl (fun ls hl => ?_)
        refine lv_iload hx hb dL_isLine_197 (lv_at hl 11 rfl) ?_
        refine lv_iload hx hb dL_isLine_199 (lv_at hl 0 rfl) ?_
        refine lv_if_ne (tgt := 208) hx hb dL_isLine_201 (by decide) (fun c_66 => ?_) (fun c_66 => ?_)
        · have hf := iq c_66 hf
          refine lv_iconst (v := (0 : Int32)) hx hb dL_isLine_208 (by decide) ?_
          exact hB209 v8_182 (FP.dadd t0_182 t1_182) v13_182 r_65 v9_182 false (n_182 + (uA ν p3 v13_182)) _ _ h_65 ls hP hD hS (lv_sub hl [2, 3, 4, 5, 6, 7, 8, 9, 10, 1, 12, 0] rfl) hf
        · have hf := ip c_66 hf
          refine lv_iconst (v := (1 : Int32)) hx hb dL_isLine_204 (by decide) ?_
          refine lv_goto (tgt := 209) hx hb dL_isLine_205 (by decide) ?_
          exact hB209 v8_182 (FP.dadd t0_182 t1_182) v13_182 r_65 v9_182 true (n_182 + (uA ν p3 v13_182)) _ _ h_65 ls hP hD hS (lv_sub hl [2, 3, 4, 5, 6, 7, 8, 9, 10, 1, 12, 0] rfl) hf
      have hB146 : ∀ (v9_146 : Int32) (v10_146 : UInt64) (v13_146 : Int32) (t0_146 : Int32) (t1_146 : Int32) (n_146 : Nat) (H : Heap) (locs : List Loc) (hn : n_146 ≤ cap) (ls : Array Slot), va_P g.1 vwCl (wC c0 h k0 x0 d0 ++ (wS g h a1 a2 a3 a4 σ ++ (wD g d0 d1 d2 δ_112 ++ (wV g v0 ν ++ (wZ g z0 ζ ++ (wP g p0 ψ_112)))))) H → va_D A (wC c0 h k0 x0 d0 ++ (wS g h a1 a2 a3 a4 σ ++ (wD g d0 d1 d2 δ_112 ++ (wV g v0 ν ++ (wZ g z0 ζ ++ (wP g p0 ψ_112)))))) → va_S A s.heap H locs → lv_has ls 19 [(0, .ref c0), (1, .ref v0), (2, .ref z0), (3, .int p3), (4, .int p4), (5, .ref p0), (6, .int v6_112), (7, .int v7_112), (9, .int v9_146), (10, .double v10_146), (13, .int v13_146)] → fL_isLine_146 cap σ ν ζ p3 p4 v6_112 v7_112 δ_112 ψ_112 (fL_isLine_112 cap σ ν ζ p3 p4 v6_112 v7_112 δ_112 ψ_112 n112) v9_146 v10_146 v13_146 t0_146 t1_146 n_146 = some o → W p l e (headSpec wsL_isLine (rmL_isLine cap)).room s m ([.ref c0, .ref v0, .ref z0, .int p3, .int p4] : List Value).toArray below meth c H locs (3 * n_146) (61 * n_146) (MQ below (va_Qi (fun r' (_ : Unit) => r' = b2i o.1) (fun _ t => PQ g (wC c0 h k0 x0 d0 ++ (wS g h a1 a2 a3 a4 σ ++ (wD g d0 d1 d2 o.2 ++ (wV g v0 ν ++ (wZ g z0 ζ))))) A t) A) ([.ref c0, .ref v0, .ref z0, .int p3, .int p4] : List Value).toArray s (3 * cap) (61 * cap) A) (F0 m 146 ls [.int t1_146, .int t0_146]) := by
        intro  v9_146 v10_146 v13_146 t0_146 t1_146 n_146 H locs hn ls hP hD hS hl hf
        unfold fL_isLine_146 at hf
        refine lv_iadd hx hb dL_isLine_146 ?_
        refine lv_istore (lv' := [(8, .int (t0_146 + t1_146)), (0, .ref c0), (1, .ref v0), (2, .ref z0), (3, .int p3), (4, .int p4), (5, .ref p0), (6, .int v6_112), (7, .int v7_112), (9, .int v9_146), (10, .double v10_146), (13, .int v13_146)]) hx hb dL_isLine_147 hl (by decide) rfl (fun ls hl => ?_)
        refine lv_dload hx hb dL_isLine_149 (lv_at hl 10 rfl) ?_
        refine lv_iload hx hb dL_isLine_151 (lv_at hl 11 rfl) ?_
        refine lv_iload hx hb dL_isLine_153 (lv_at hl 7 rfl) ?_
        refine lv_icmp_ne (tgt := 162) hx hb dL_isLine_155 (by decide) (fun c_67 => ?_) (fun c_67 => ?_)
        · have hf := iq c_67 hf
          refine lv_aload_n hx hb dL_isLine_162 rfl (lv_at hl 3 rfl) ?_
          refine lv_iload_n hx hb dL_isLine_163 rfl (lv_at hl 4 rfl) ?_
          refine lv_iload hx hb dL_isLine_164 (lv_at hl 11 rfl) ?_
          obtain ⟨r_68, e_68, hf⟩ := bo hf
          refine pcallS (W0 := (wC c0 h k0 x0 d0 ++ (wS g h a1 a2 a3 a4 σ ++ (wD g d0 d1 d2 δ_112 ++ (wV g v0 ν ++ (wZ g z0 ζ ++ (wP g p0 ψ_112))))))) (As := [.ref z0, .int p3, .int v13_146]) (rest := [.double v10_146]) [10] ⟨hx, hb, hml, hown, hts⟩ hP hE hZ hS (cL_dir_ok l g z0 ζ p3 v13_146 e_68) (va_cwS 3 hts gL_isLine_L_dir rfl rfl rfl hdL_dir.2 ⟨(Nat.le_of_ble_eq_true rfl), (Nat.le_of_ble_eq_true rfl)⟩) rfl rfl hl.1 rfl (Nat.le_of_ble_eq_true rfl) ⟨(k3 hn), (k61 hn)⟩ dL_isLine_166 ?_
          refine lv_iconst (v := (2 : Int32)) hx hb dL_isLine_169 (by decide) ?_
          refine lv_irm hx hb dL_isLine_170 (by decide) ?_
          refine lv_iconst (v := (1 : Int32)) hx hb dL_isLine_171 (by decide) ?_
          refine lv_icmp_ne (tgt := 181) hx hb dL_isLine_172 (by decide) (fun c_69 => ?_) (fun c_69 => ?_)
          · have hf := iq c_69 hf
            refine lv_dconst1 hx hb dL_isLine_181 ?_
            exact hB182 (t0_146 + t1_146) v9_146 v13_146 v10_146 (0x3ff0000000000000 : UInt64) n_146 _ _ hn ls hP hD hS (lv_sub hl [1, 2, 3, 4, 5, 6, 7, 8, 0, 9, 11] rfl) hf
          · have hf := ip c_69 hf
            refine lv_ldc2d hx hb hown (hts _ kdL_isLine_81) dL_isLine_175 ?_
            refine lv_goto (tgt := 182) hx hb dL_isLine_178 (by decide) ?_
            exact hB182 (t0_146 + t1_146) v9_146 v13_146 v10_146 (0x3ff6a09e667f3bcd : UInt64) n_146 _ _ hn ls hP hD hS (lv_sub hl [1, 2, 3, 4, 5, 6, 7, 8, 0, 9, 11] rfl) hf
        · have hf := ip c_67 hf
          refine lv_dconst0 hx hb dL_isLine_158 ?_
          refine lv_goto (tgt := 182) hx hb dL_isLine_159 (by decide) ?_
          exact hB182 (t0_146 + t1_146) v9_146 v13_146 v10_146 (0 : UInt64) n_146 _ _ hn ls hP hD hS (lv_sub hl [1, 2, 3, 4, 5, 6, 7, 8, 0, 9, 11] rfl) hf
      intro v8_112 v9_112 v10_112 v12_112 v13_112 n_112 H locs hn ls hP hD hS hl hf
      rw [fL_isLine_112] at hf
      refine lv_iload hx hb dL_isLine_112 (lv_at hl 12 rfl) ?_
      refine lv_iload hx hb dL_isLine_114 (lv_at hl 6 rfl) ?_
      refine lv_icmp_gt (tgt := 292) hx hb dL_isLine_116 (by decide) (fun c_70 => ?_) (fun c_70 => ?_)
      · have hf := ip c_70 hf
        exact hB292 p0 v6_112 v7_112 v8_112 v9_112 v10_112 v12_112 δ_112 ψ_112 n_112 _ _ hn ls hP hD hS (lv_sub hl [0, 1, 2, 3, 4, 5, 6, 7, 8, 9, 10, 11] rfl) hf
      · have hf := iq c_70 hf
        refine lv_iload hx hb dL_isLine_119 (lv_at hl 11 rfl) ?_
        refine lv_beq (tgt := 292) hx hb dL_isLine_121 (by decide) (fun c_71 => ?_) (fun c_71 => ?_)
        · have hf := iq c_71 hf
          exact hB292 p0 v6_112 v7_112 v8_112 v9_112 v10_112 v12_112 δ_112 ψ_112 n_112 _ _ hn ls hP hD hS (lv_sub hl [0, 1, 2, 3, 4, 5, 6, 7, 8, 9, 10, 11] rfl) hf
        · have hf := ip c_71 hf
          refine lv_iload hx hb dL_isLine_124 (lv_at hl 8 rfl) ?_
          refine lv_iload hx hb dL_isLine_126 (lv_at hl 12 rfl) ?_
          refine lv_iload hx hb dL_isLine_128 (lv_at hl 6 rfl) ?_
          refine lv_icmp_ge (tgt := 145) hx hb dL_isLine_130 (by decide) (fun c_72 => ?_) (fun c_72 => ?_)
          · have hf := ip c_72 hf
            refine lv_iconst (v := (0 : Int32)) hx hb dL_isLine_145 (by decide) ?_
            exact hB146 v9_112 v10_112 v13_112 v8_112 (0 : Int32) n_112 _ _ hn ls hP hD hS (lv_sub hl [0, 1, 2, 3, 4, 5, 6, 7, 9, 10, 12] rfl) hf
          · have hf := iq c_72 hf
            refine lv_aload_n hx hb dL_isLine_133 rfl (lv_at hl 2 rfl) ?_
            refine lv_iload_n hx hb dL_isLine_134 rfl (lv_at hl 3 rfl) ?_
            refine lv_iload hx hb dL_isLine_135 (lv_at hl 12 rfl) ?_
            obtain ⟨r_73, e_73, hf⟩ := bo hf
            refine pcallS (W0 := (wC c0 h k0 x0 d0 ++ (wS g h a1 a2 a3 a4 σ ++ (wD g d0 d1 d2 δ_112 ++ (wV g v0 ν ++ (wZ g z0 ζ ++ (wP g p0 ψ_112))))))) (As := [.ref z0, .int p3, .int v13_112]) (rest := [.int v8_112]) [10] ⟨hx, hb, hml, hown, hts⟩ hP hE hZ hS (cL_dir_ok l g z0 ζ p3 v13_112 e_73) (va_cwS 3 hts gL_isLine_L_dir rfl rfl rfl hdL_dir.2 ⟨(Nat.le_of_ble_eq_true rfl), (Nat.le_of_ble_eq_true rfl)⟩) rfl rfl hl.1 rfl (Nat.le_of_ble_eq_true rfl) ⟨(k3 hn), (k61 hn)⟩ dL_isLine_137 ?_
            refine lv_iconst (v := (2 : Int32)) hx hb dL_isLine_140 (by decide) ?_
            refine lv_irm hx hb dL_isLine_141 (by decide) ?_
            refine lv_goto (tgt := 146) hx hb dL_isLine_142 (by decide) ?_
            exact hB146 v9_112 v10_112 v13_112 v8_112 (irm r_73 (2 : Int32)) n_112 _ _ hn ls hP hD hS (lv_sub hl [0, 1, 2, 3, 4, 5, 6, 7, 9, 10, 12] rfl) hf
  unfold fL_isLine at hf
  refine lv_bipush (v := (61 : Int32)) hx hb dL_isLine_0 (by decide) ?_
  obtain ⟨h_74, hf⟩ := ck hf
  refine newaI (N' := 61) (W0 := (wC c0 h k0 x0 d0 ++ (wS g h a1 a2 a3 a4 σ ++ (wD g d0 d1 d2 δ ++ (wV g v0 ν ++ (wZ g z0 ζ)))))) hx hb (hts _ naL_isLine) hE hP hD hS hA (by decide) (by decide) (Nat.le_of_ble_eq_true rfl) (ka3 h_74) (ka61 h_74) dL_isLine_2 (fun p0 H hP hD hS => ?_)
  have hP : va_P g.1 vwCl (wC c0 h k0 x0 d0 ++ (wS g h a1 a2 a3 a4 σ ++ (wD g d0 d1 d2 δ ++ (wV g v0 ν ++ (wZ g z0 ζ ++ (wP g p0 (fun _ => (0 : Int32)))))))) H := hP
  have hD : va_D A (wC c0 h k0 x0 d0 ++ (wS g h a1 a2 a3 a4 σ ++ (wD g d0 d1 d2 δ ++ (wV g v0 ν ++ (wZ g z0 ζ ++ (wP g p0 (fun _ => (0 : Int32)))))))) := hD
  refine W.widen (k := 3 * (0 + 1)) (n := 61 * (0 + 1)) (by omega) (by omega) ?_
  refine lv_astore (lv' := [(5, .ref p0), (0, .ref c0), (1, .ref v0), (2, .ref z0), (3, .int p3), (4, .int p4)]) hx hb dL_isLine_4 hl (by decide) rfl (fun ls hl => ?_)
  refine lv_aload_n hx hb dL_isLine_6 rfl (lv_at hl 2 rfl) ?_
  refine lv_aload_n hx hb dL_isLine_7 rfl (lv_at hl 3 rfl) ?_
  refine lv_iload_n hx hb dL_isLine_8 rfl (lv_at hl 4 rfl) ?_
  refine lv_aload hx hb dL_isLine_9 (lv_at hl 0 rfl) ?_
  obtain ⟨r_75, e_75, hf⟩ := bo hf
  refine mcallSv (W0 := (wC c0 h k0 x0 d0 ++ (wS g h a1 a2 a3 a4 σ ++ (wD g d0 d1 d2 δ ++ (wV g v0 ν ++ (wZ g z0 ζ ++ (wP g p0 (fun _ => (0 : Int32))))))))) (Wc := (wV g v0 ν ++ (wZ g z0 ζ ++ (wP g p0 (fun _ => (0 : Int32)))))) (Wr := (wC c0 h k0 x0 d0 ++ (wS g h a1 a2 a3 a4 σ ++ (wD g d0 d1 d2 δ)))) (W1 := (wV g v0 ν ++ (wZ g z0 ζ ++ (wP g p0 r_75)))) (W2 := (wC c0 h k0 x0 d0 ++ (wS g h a1 a2 a3 a4 σ ++ (wD g d0 d1 d2 δ ++ (wV g v0 ν ++ (wZ g z0 ζ ++ (wP g p0 r_75))))))) (As := [.ref v0, .ref z0, .int p3, .ref p0]) (rest := []) [9, 10, 11] [0, 1, 2, 3, 4, 5, 6, 7, 8] [0, 1, 2, 3, 4, 5, 6, 7, 8, 9, 10, 11] ⟨hx, hb, hml, hown, hts⟩ hP hD hE hZ hS hA (cL_walks_ok l g  v0 z0 p0 ν ζ (fun _ => (0 : Int32)) p3 _ e_75) (va_cwS 4 hts gL_isLine_L_walks rfl rfl rfl hdL_walks.2 ⟨(Nat.le_of_ble_eq_true rfl), (Nat.le_of_ble_eq_true rfl)⟩) rfl rfl rfl (by decide) (by decide) (by decide) (by decide) rfl hl.1 rfl (Nat.le_of_ble_eq_true rfl) ⟨(k3 h_74), (k61 h_74)⟩ dL_isLine_11 (fun H locs hP hD hS => ?_)
  refine W.cs (cells' := 3 * (0 + 1)) (slots' := 61 * (0 + 1)) (Nat.add_zero _) (Nat.add_zero _) ?_
  refine lv_aload_n hx hb dL_isLine_14 rfl (lv_at hl 2 rfl) ?_
  refine lv_iconst (v := (4 : Int32)) hx hb dL_isLine_15 (by decide) ?_
  refine lv_iload_n hx hb dL_isLine_16 rfl (lv_at hl 4 rfl) ?_
  refine lv_imul hx hb dL_isLine_17 ?_
  refine lv_iconst (v := (2 : Int32)) hx hb dL_isLine_18 (by decide) ?_
  refine lv_iadd hx hb dL_isLine_19 ?_
  obtain ⟨h_76, hf⟩ := ck hf
  refine va_iald hx hb hE.1 hP 9 0 rfl rfl (vin h_76) dL_isLine_20 ?_
  refine lv_istore (lv' := [(6, .int (ν (Int32.toNatClampNeg (((4 : Int32) * p3) + (2 : Int32))))), (5, .ref p0), (0, .ref c0), (1, .ref v0), (2, .ref z0), (3, .int p3), (4, .int p4)]) hx hb dL_isLine_21 hl (by decide) rfl (fun ls hl => ?_)
  refine lv_aload_n hx hb dL_isLine_23 rfl (lv_at hl 3 rfl) ?_
  refine lv_iconst (v := (4 : Int32)) hx hb dL_isLine_24 (by decide) ?_
  refine lv_iload_n hx hb dL_isLine_25 rfl (lv_at hl 5 rfl) ?_
  refine lv_imul hx hb dL_isLine_26 ?_
  refine lv_iconst (v := (3 : Int32)) hx hb dL_isLine_27 (by decide) ?_
  refine lv_iadd hx hb dL_isLine_28 ?_
  obtain ⟨h_77, hf⟩ := ck hf
  refine va_iald hx hb hE.1 hP 9 0 rfl rfl (vin h_77) dL_isLine_29 ?_
  refine lv_istore (lv' := [(7, .int (ν (Int32.toNatClampNeg (((4 : Int32) * p3) + (3 : Int32))))), (6, .int (ν (Int32.toNatClampNeg (((4 : Int32) * p3) + (2 : Int32))))), (5, .ref p0), (0, .ref c0), (1, .ref v0), (2, .ref z0), (3, .int p3), (4, .int p4)]) hx hb dL_isLine_30 hl (by decide) rfl (fun ls hl => ?_)
  refine lv_iconst (v := (0 : Int32)) hx hb dL_isLine_32 (by decide) ?_
  refine lv_istore (lv' := [(8, .int (0 : Int32)), (7, .int (ν (Int32.toNatClampNeg (((4 : Int32) * p3) + (3 : Int32))))), (6, .int (ν (Int32.toNatClampNeg (((4 : Int32) * p3) + (2 : Int32))))), (5, .ref p0), (0, .ref c0), (1, .ref v0), (2, .ref z0), (3, .int p3), (4, .int p4)]) hx hb dL_isLine_33 hl (by decide) rfl (fun ls hl => ?_)
  refine lv_iconst (v := (0 : Int32)) hx hb dL_isLine_35 (by decide) ?_
  refine lv_istore (lv' := [(9, .int (0 : Int32)), (8, .int (0 : Int32)), (7, .int (ν (Int32.toNatClampNeg (((4 : Int32) * p3) + (3 : Int32))))), (6, .int (ν (Int32.toNatClampNeg (((4 : Int32) * p3) + (2 : Int32))))), (5, .ref p0), (0, .ref c0), (1, .ref v0), (2, .ref z0), (3, .int p3), (4, .int p4)]) hx hb dL_isLine_36 hl (by decide) rfl (fun ls hl => ?_)
  refine lv_dconst0 hx hb dL_isLine_38 ?_
  refine lv_dstore (lv' := [(10, .double (0 : UInt64)), (9, .int (0 : Int32)), (8, .int (0 : Int32)), (7, .int (ν (Int32.toNatClampNeg (((4 : Int32) * p3) + (3 : Int32))))), (6, .int (ν (Int32.toNatClampNeg (((4 : Int32) * p3) + (2 : Int32))))), (5, .ref p0), (0, .ref c0), (1, .ref v0), (2, .ref z0), (3, .int p3), (4, .int p4)]) hx hb dL_isLine_39 hl (by decide) rfl (fun ls hl => ?_)
  refine lv_aload_n hx hb dL_isLine_41 rfl (lv_at hl 6 rfl) ?_
  refine lv_iload_n hx hb dL_isLine_42 rfl (lv_at hl 9 rfl) ?_
  obtain ⟨r_78, e_78, hf⟩ := xov hf
  refine mcallVi (W0 := (wC c0 h k0 x0 d0 ++ (wS g h a1 a2 a3 a4 σ ++ (wD g d0 d1 d2 δ ++ (wV g v0 ν ++ (wZ g z0 ζ ++ (wP g p0 r_75))))))) (Wc := (wC c0 h k0 x0 d0 ++ (wS g h a1 a2 a3 a4 σ))) (Wr := (wD g d0 d1 d2 δ ++ (wV g v0 ν ++ (wZ g z0 ζ ++ (wP g p0 r_75))))) (W1 := (wC c0 h k0 x0 d0 ++ (wS g h a1 a2 a3 a4 σ))) (W2 := (wC c0 h k0 x0 d0 ++ (wS g h a1 a2 a3 a4 σ ++ (wD g d0 d1 d2 δ ++ (wV g v0 ν ++ (wZ g z0 ζ ++ (wP g p0 r_75))))))) (As := [.int p3]) (rest := []) [0, 1, 2, 3, 4, 5] [6, 7, 8, 9, 10, 11] [6, 7, 8, 9, 10, 11, 0, 1, 2, 3, 4, 5] 4 0 ⟨hx, hb, hml, hown, hts⟩ hP hD hE hZ hS hA (cX6_levelOf_k_ok l g  c0 h k0 x0 d0 a1 a2 a3 a4 σ p3 _ e_78) (cwV 1 hts gL_isLine_X6_levelOf rfl rfl rfl hdX6_levelOf ⟨(Nat.le_of_ble_eq_true rfl), (Nat.le_of_ble_eq_true rfl)⟩) rfl rfl rfl (by decide) (by decide) (by decide) (by decide) rfl rfl rfl rfl hl.1 rfl (Nat.le_of_ble_eq_true rfl) ⟨(k3 h_74), (k61 h_74)⟩ dL_isLine_43 (fun H locs hP hD hS => ?_)
  refine W.cs (cells' := 3 * (0 + 1)) (slots' := 61 * (0 + 1)) (Nat.add_zero _) (Nat.add_zero _) ?_
  refine lv_aload_n hx hb dL_isLine_46 rfl (lv_at hl 7 rfl) ?_
  refine lv_iconst (v := (4 : Int32)) hx hb dL_isLine_47 (by decide) ?_
  refine lv_iload_n hx hb dL_isLine_48 rfl (lv_at hl 9 rfl) ?_
  refine lv_imul hx hb dL_isLine_49 ?_
  obtain ⟨h_79, hf⟩ := ck hf
  refine va_iald hx hb hE.1 hP 9 0 rfl rfl (vin h_79) dL_isLine_50 ?_
  refine lv_icmp_ne (tgt := 106) hx hb dL_isLine_51 (by decide) (fun c_80 => ?_) (fun c_80 => ?_)
  · have hf := iq c_80 hf
    refine lv_iconst (v := (0 : Int32)) hx hb dL_isLine_106 (by decide) ?_
    refine lv_istore (lv' := [(12, .int (0 : Int32)), (10, .double (0 : UInt64)), (9, .int (0 : Int32)), (8, .int (0 : Int32)), (7, .int (ν (Int32.toNatClampNeg (((4 : Int32) * p3) + (3 : Int32))))), (6, .int (ν (Int32.toNatClampNeg (((4 : Int32) * p3) + (2 : Int32))))), (5, .ref p0), (0, .ref c0), (1, .ref v0), (2, .ref z0), (3, .int p3), (4, .int p4)]) hx hb dL_isLine_107 hl (by decide) rfl (fun ls hl => ?_)
    refine lv_iconst (v := (0 : Int32)) hx hb dL_isLine_109 (by decide) ?_
    refine lv_istore (lv' := [(13, .int (0 : Int32)), (12, .int (0 : Int32)), (10, .double (0 : UInt64)), (9, .int (0 : Int32)), (8, .int (0 : Int32)), (7, .int (ν (Int32.toNatClampNeg (((4 : Int32) * p3) + (3 : Int32))))), (6, .int (ν (Int32.toNatClampNeg (((4 : Int32) * p3) + (2 : Int32))))), (5, .ref p0), (0, .ref c0), (1, .ref v0), (2, .ref z0), (3, .int p3), (4, .int p4)]) hx hb dL_isLine_110 hl (by decide) rfl (fun ls hl => ?_)
    exact hB112 p0 (ν (Int32.toNatClampNeg (((4 : Int32) * p3) + (2 : Int32)))) (ν (Int32.toNatClampNeg (((4 : Int32) * p3) + (3 : Int32)))) δ r_75 FU (0 : Int32) (0 : Int32) (0 : UInt64) false (0 : Int32) (0 + 1) _ _ h_74 ls hP hD hS (lv_sub hl [8, 9, 10, 11, 12, 7, 6, 5, 4, 3, 2, 1, 0] rfl) hf
  · have hf := ip c_80 hf
    refine lv_aload_n hx hb dL_isLine_54 rfl (lv_at hl 6 rfl) ?_
    refine lv_iload_n hx hb dL_isLine_55 rfl (lv_at hl 9 rfl) ?_
    obtain ⟨r_81, e_81, hf⟩ := xov hf
    refine mcallVi (W0 := (wC c0 h k0 x0 d0 ++ (wS g h a1 a2 a3 a4 σ ++ (wD g d0 d1 d2 δ ++ (wV g v0 ν ++ (wZ g z0 ζ ++ (wP g p0 r_75))))))) (Wc := (wC c0 h k0 x0 d0 ++ (wS g h a1 a2 a3 a4 σ))) (Wr := (wD g d0 d1 d2 δ ++ (wV g v0 ν ++ (wZ g z0 ζ ++ (wP g p0 r_75))))) (W1 := (wC c0 h k0 x0 d0 ++ (wS g h a1 a2 a3 a4 σ))) (W2 := (wC c0 h k0 x0 d0 ++ (wS g h a1 a2 a3 a4 σ ++ (wD g d0 d1 d2 δ ++ (wV g v0 ν ++ (wZ g z0 ζ ++ (wP g p0 r_75))))))) (As := [.int p3]) (rest := []) [0, 1, 2, 3, 4, 5] [6, 7, 8, 9, 10, 11] [6, 7, 8, 9, 10, 11, 0, 1, 2, 3, 4, 5] 4 0 ⟨hx, hb, hml, hown, hts⟩ hP hD hE hZ hS hA (cX6_stepsOf_k_ok l g  c0 h k0 x0 d0 a1 a2 a3 a4 σ p3 _ e_81) (cwV 1 hts gL_isLine_X6_stepsOf rfl rfl rfl hdX6_stepsOf ⟨(Nat.le_of_ble_eq_true rfl), (Nat.le_of_ble_eq_true rfl)⟩) rfl rfl rfl (by decide) (by decide) (by decide) (by decide) rfl rfl rfl rfl hl.1 rfl (Nat.le_of_ble_eq_true rfl) ⟨(k3 h_74), (k61 h_74)⟩ dL_isLine_56 (fun H locs hP hD hS => ?_)
    refine W.cs (cells' := 3 * (0 + 1)) (slots' := 61 * (0 + 1)) (Nat.add_zero _) (Nat.add_zero _) ?_
    refine lv_iload hx hb dL_isLine_59 (lv_at hl 4 rfl) ?_
    refine lv_icmp_ne (tgt := 106) hx hb dL_isLine_61 (by decide) (fun c_82 => ?_) (fun c_82 => ?_)
    · have hf := iq c_82 hf
      refine lv_iconst (v := (0 : Int32)) hx hb dL_isLine_106 (by decide) ?_
      refine lv_istore (lv' := [(12, .int (0 : Int32)), (10, .double (0 : UInt64)), (9, .int (0 : Int32)), (8, .int (0 : Int32)), (7, .int (ν (Int32.toNatClampNeg (((4 : Int32) * p3) + (3 : Int32))))), (6, .int (ν (Int32.toNatClampNeg (((4 : Int32) * p3) + (2 : Int32))))), (5, .ref p0), (0, .ref c0), (1, .ref v0), (2, .ref z0), (3, .int p3), (4, .int p4)]) hx hb dL_isLine_107 hl (by decide) rfl (fun ls hl => ?_)
      refine lv_iconst (v := (0 : Int32)) hx hb dL_isLine_109 (by decide) ?_
      refine lv_istore (lv' := [(13, .int (0 : Int32)), (12, .int (0 : Int32)), (10, .double (0 : UInt64)), (9, .int (0 : Int32)), (8, .int (0 : Int32)), (7, .int (ν (Int32.toNatClampNeg (((4 : Int32) * p3) + (3 : Int32))))), (6, .int (ν (Int32.toNatClampNeg (((4 : Int32) * p3) + (2 : Int32))))), (5, .ref p0), (0, .ref c0), (1, .ref v0), (2, .ref z0), (3, .int p3), (4, .int p4)]) hx hb dL_isLine_110 hl (by decide) rfl (fun ls hl => ?_)
      exact hB112 p0 (ν (Int32.toNatClampNeg (((4 : Int32) * p3) + (2 : Int32)))) (ν (Int32.toNatClampNeg (((4 : Int32) * p3) + (3 : Int32)))) δ r_75 FU (0 : Int32) (0 : Int32) (0 : UInt64) false (0 : Int32) (0 + 1) _ _ h_74 ls hP hD hS (lv_sub hl [8, 9, 10, 11, 12, 7, 6, 5, 4, 3, 2, 1, 0] rfl) hf
    · have hf := ip c_82 hf
      refine lv_aload_n hx hb dL_isLine_64 rfl (lv_at hl 6 rfl) ?_
      refine lv_iload_n hx hb dL_isLine_65 rfl (lv_at hl 9 rfl) ?_
      obtain ⟨r_83, e_83, hf⟩ := xov hf
      refine mcallVi (W0 := (wC c0 h k0 x0 d0 ++ (wS g h a1 a2 a3 a4 σ ++ (wD g d0 d1 d2 δ ++ (wV g v0 ν ++ (wZ g z0 ζ ++ (wP g p0 r_75))))))) (Wc := (wC c0 h k0 x0 d0 ++ (wS g h a1 a2 a3 a4 σ))) (Wr := (wD g d0 d1 d2 δ ++ (wV g v0 ν ++ (wZ g z0 ζ ++ (wP g p0 r_75))))) (W1 := (wC c0 h k0 x0 d0 ++ (wS g h a1 a2 a3 a4 σ))) (W2 := (wC c0 h k0 x0 d0 ++ (wS g h a1 a2 a3 a4 σ ++ (wD g d0 d1 d2 δ ++ (wV g v0 ν ++ (wZ g z0 ζ ++ (wP g p0 r_75))))))) (As := [.int p3]) (rest := []) [0, 1, 2, 3, 4, 5] [6, 7, 8, 9, 10, 11] [6, 7, 8, 9, 10, 11, 0, 1, 2, 3, 4, 5] 4 0 ⟨hx, hb, hml, hown, hts⟩ hP hD hE hZ hS hA (cX6_isClosed_k_ok l g  c0 h k0 x0 d0 a1 a2 a3 a4 σ p3 _ e_83) (cwV 1 hts gL_isLine_X6_isClosed rfl rfl rfl hdX6_isClosed ⟨(Nat.le_of_ble_eq_true rfl), (Nat.le_of_ble_eq_true rfl)⟩) rfl rfl rfl (by decide) (by decide) (by decide) (by decide) rfl rfl rfl rfl hl.1 rfl (Nat.le_of_ble_eq_true rfl) ⟨(k3 h_74), (k61 h_74)⟩ dL_isLine_66 (fun H locs hP hD hS => ?_)
      refine W.cs (cells' := 3 * (0 + 1)) (slots' := 61 * (0 + 1)) (Nat.add_zero _) (Nat.add_zero _) ?_
      refine lv_aload_n hx hb dL_isLine_69 rfl (lv_at hl 7 rfl) ?_
      refine lv_iload_n hx hb dL_isLine_70 rfl (lv_at hl 9 rfl) ?_
      refine lv_aload hx hb dL_isLine_71 (lv_at hl 5 rfl) ?_
      obtain ⟨r_84, e_84, hf⟩ := bo hf
      refine pcallS (W0 := (wC c0 h k0 x0 d0 ++ (wS g h a1 a2 a3 a4 σ ++ (wD g d0 d1 d2 δ ++ (wV g v0 ν ++ (wZ g z0 ζ ++ (wP g p0 r_75))))))) (As := [.ref v0, .int p3, .ref p0]) (rest := [.int (b2i r_83)]) [9, 11] ⟨hx, hb, hml, hown, hts⟩ hP hE hZ hS (cL_closed_ok l g v0 p0 ν r_75 p3 e_84) (va_cwS 3 hts gL_isLine_L_closed rfl rfl rfl hdL_closed.2 ⟨(Nat.le_of_ble_eq_true rfl), (Nat.le_of_ble_eq_true rfl)⟩) rfl rfl hl.1 rfl (Nat.le_of_ble_eq_true rfl) ⟨(k3 h_74), (k61 h_74)⟩ dL_isLine_73 ?_
      refine lv_icmp_ne (tgt := 106) hx hb dL_isLine_76 (by decide) (fun c_85 => ?_) (fun c_85 => ?_)
      · have hf := iq c_85 hf
        refine lv_iconst (v := (0 : Int32)) hx hb dL_isLine_106 (by decide) ?_
        refine lv_istore (lv' := [(12, .int (0 : Int32)), (10, .double (0 : UInt64)), (9, .int (0 : Int32)), (8, .int (0 : Int32)), (7, .int (ν (Int32.toNatClampNeg (((4 : Int32) * p3) + (3 : Int32))))), (6, .int (ν (Int32.toNatClampNeg (((4 : Int32) * p3) + (2 : Int32))))), (5, .ref p0), (0, .ref c0), (1, .ref v0), (2, .ref z0), (3, .int p3), (4, .int p4)]) hx hb dL_isLine_107 hl (by decide) rfl (fun ls hl => ?_)
        refine lv_iconst (v := (0 : Int32)) hx hb dL_isLine_109 (by decide) ?_
        refine lv_istore (lv' := [(13, .int (0 : Int32)), (12, .int (0 : Int32)), (10, .double (0 : UInt64)), (9, .int (0 : Int32)), (8, .int (0 : Int32)), (7, .int (ν (Int32.toNatClampNeg (((4 : Int32) * p3) + (3 : Int32))))), (6, .int (ν (Int32.toNatClampNeg (((4 : Int32) * p3) + (2 : Int32))))), (5, .ref p0), (0, .ref c0), (1, .ref v0), (2, .ref z0), (3, .int p3), (4, .int p4)]) hx hb dL_isLine_110 hl (by decide) rfl (fun ls hl => ?_)
        exact hB112 p0 (ν (Int32.toNatClampNeg (((4 : Int32) * p3) + (2 : Int32)))) (ν (Int32.toNatClampNeg (((4 : Int32) * p3) + (3 : Int32)))) δ r_75 FU (0 : Int32) (0 : Int32) (0 : UInt64) false (0 : Int32) (0 + 1) _ _ h_74 ls hP hD hS (lv_sub hl [8, 9, 10, 11, 12, 7, 6, 5, 4, 3, 2, 1, 0] rfl) hf
      · have hf := ip c_85 hf
        refine lv_aload_n hx hb dL_isLine_79 rfl (lv_at hl 6 rfl) ?_
        refine lv_iload_n hx hb dL_isLine_80 rfl (lv_at hl 9 rfl) ?_
        obtain ⟨r_86, e_86, hf⟩ := xov hf
        refine mcallVi (W0 := (wC c0 h k0 x0 d0 ++ (wS g h a1 a2 a3 a4 σ ++ (wD g d0 d1 d2 δ ++ (wV g v0 ν ++ (wZ g z0 ζ ++ (wP g p0 r_75))))))) (Wc := (wC c0 h k0 x0 d0 ++ (wS g h a1 a2 a3 a4 σ))) (Wr := (wD g d0 d1 d2 δ ++ (wV g v0 ν ++ (wZ g z0 ζ ++ (wP g p0 r_75))))) (W1 := (wC c0 h k0 x0 d0 ++ (wS g h a1 a2 a3 a4 σ))) (W2 := (wC c0 h k0 x0 d0 ++ (wS g h a1 a2 a3 a4 σ ++ (wD g d0 d1 d2 δ ++ (wV g v0 ν ++ (wZ g z0 ζ ++ (wP g p0 r_75))))))) (As := [.int p3]) (rest := []) [0, 1, 2, 3, 4, 5] [6, 7, 8, 9, 10, 11] [6, 7, 8, 9, 10, 11, 0, 1, 2, 3, 4, 5] 4 0 ⟨hx, hb, hml, hown, hts⟩ hP hD hE hZ hS hA (cX6_sizeOf_k_ok l g  c0 h k0 x0 d0 a1 a2 a3 a4 σ p3 _ e_86) (cwV 1 hts gL_isLine_X6_sizeOf rfl rfl rfl hdX6_sizeOf ⟨(Nat.le_of_ble_eq_true rfl), (Nat.le_of_ble_eq_true rfl)⟩) rfl rfl rfl (by decide) (by decide) (by decide) (by decide) rfl rfl rfl rfl hl.1 rfl (Nat.le_of_ble_eq_true rfl) ⟨(k3 h_74), (k61 h_74)⟩ dL_isLine_81 (fun H locs hP hD hS => ?_)
        refine W.cs (cells' := 3 * (0 + 1)) (slots' := 61 * (0 + 1)) (Nat.add_zero _) (Nat.add_zero _) ?_
        refine lv_aload_n hx hb dL_isLine_84 rfl (lv_at hl 7 rfl) ?_
        refine lv_iload_n hx hb dL_isLine_85 rfl (lv_at hl 9 rfl) ?_
        obtain ⟨r_87, e_87, hf⟩ := bo hf
        refine pcallS (W0 := (wC c0 h k0 x0 d0 ++ (wS g h a1 a2 a3 a4 σ ++ (wD g d0 d1 d2 δ ++ (wV g v0 ν ++ (wZ g z0 ζ ++ (wP g p0 r_75))))))) (As := [.ref v0, .int p3]) (rest := [.int r_86]) [9] ⟨hx, hb, hml, hown, hts⟩ hP hE hZ hS (cL_size_ok l g v0 ν p3 e_87) (va_cwS 2 hts gL_isLine_L_size rfl rfl rfl hdL_size.2 ⟨(Nat.le_of_ble_eq_true rfl), (Nat.le_of_ble_eq_true rfl)⟩) rfl rfl hl.1 rfl (Nat.le_of_ble_eq_true rfl) ⟨(k3 h_74), (k61 h_74)⟩ dL_isLine_86 ?_
        refine lv_icmp_ne (tgt := 106) hx hb dL_isLine_89 (by decide) (fun c_88 => ?_) (fun c_88 => ?_)
        · have hf := iq c_88 hf
          refine lv_iconst (v := (0 : Int32)) hx hb dL_isLine_106 (by decide) ?_
          refine lv_istore (lv' := [(12, .int (0 : Int32)), (10, .double (0 : UInt64)), (9, .int (0 : Int32)), (8, .int (0 : Int32)), (7, .int (ν (Int32.toNatClampNeg (((4 : Int32) * p3) + (3 : Int32))))), (6, .int (ν (Int32.toNatClampNeg (((4 : Int32) * p3) + (2 : Int32))))), (5, .ref p0), (0, .ref c0), (1, .ref v0), (2, .ref z0), (3, .int p3), (4, .int p4)]) hx hb dL_isLine_107 hl (by decide) rfl (fun ls hl => ?_)
          refine lv_iconst (v := (0 : Int32)) hx hb dL_isLine_109 (by decide) ?_
          refine lv_istore (lv' := [(13, .int (0 : Int32)), (12, .int (0 : Int32)), (10, .double (0 : UInt64)), (9, .int (0 : Int32)), (8, .int (0 : Int32)), (7, .int (ν (Int32.toNatClampNeg (((4 : Int32) * p3) + (3 : Int32))))), (6, .int (ν (Int32.toNatClampNeg (((4 : Int32) * p3) + (2 : Int32))))), (5, .ref p0), (0, .ref c0), (1, .ref v0), (2, .ref z0), (3, .int p3), (4, .int p4)]) hx hb dL_isLine_110 hl (by decide) rfl (fun ls hl => ?_)
          exact hB112 p0 (ν (Int32.toNatClampNeg (((4 : Int32) * p3) + (2 : Int32)))) (ν (Int32.toNatClampNeg (((4 : Int32) * p3) + (3 : Int32)))) δ r_75 FU (0 : Int32) (0 : Int32) (0 : UInt64) false (0 : Int32) (0 + 1) _ _ h_74 ls hP hD hS (lv_sub hl [8, 9, 10, 11, 12, 7, 6, 5, 4, 3, 2, 1, 0] rfl) hf
        · have hf := ip c_88 hf
          refine lv_aload_n hx hb dL_isLine_92 rfl (lv_at hl 6 rfl) ?_
          refine lv_iload_n hx hb dL_isLine_93 rfl (lv_at hl 9 rfl) ?_
          obtain ⟨r_89, e_89, hf⟩ := xov hf
          refine mcallVi (W0 := (wC c0 h k0 x0 d0 ++ (wS g h a1 a2 a3 a4 σ ++ (wD g d0 d1 d2 δ ++ (wV g v0 ν ++ (wZ g z0 ζ ++ (wP g p0 r_75))))))) (Wc := (wC c0 h k0 x0 d0 ++ (wS g h a1 a2 a3 a4 σ))) (Wr := (wD g d0 d1 d2 δ ++ (wV g v0 ν ++ (wZ g z0 ζ ++ (wP g p0 r_75))))) (W1 := (wC c0 h k0 x0 d0 ++ (wS g h a1 a2 a3 a4 σ))) (W2 := (wC c0 h k0 x0 d0 ++ (wS g h a1 a2 a3 a4 σ ++ (wD g d0 d1 d2 δ ++ (wV g v0 ν ++ (wZ g z0 ζ ++ (wP g p0 r_75))))))) (As := [.int p3]) (rest := []) [0, 1, 2, 3, 4, 5] [6, 7, 8, 9, 10, 11] [6, 7, 8, 9, 10, 11, 0, 1, 2, 3, 4, 5] 4 0 ⟨hx, hb, hml, hown, hts⟩ hP hD hE hZ hS hA (cX6_labelOf_k_ok l g  c0 h k0 x0 d0 a1 a2 a3 a4 σ p3 _ e_89) (cwV 1 hts gL_isLine_X6_labelOf rfl rfl rfl hdX6_labelOf ⟨(Nat.le_of_ble_eq_true rfl), (Nat.le_of_ble_eq_true rfl)⟩) rfl rfl rfl (by decide) (by decide) (by decide) (by decide) rfl rfl rfl rfl hl.1 rfl (Nat.le_of_ble_eq_true rfl) ⟨(k3 h_74), (k61 h_74)⟩ dL_isLine_94 (fun H locs hP hD hS => ?_)
          refine W.cs (cells' := 3 * (0 + 1)) (slots' := 61 * (0 + 1)) (Nat.add_zero _) (Nat.add_zero _) ?_
          refine lv_iload hx hb dL_isLine_97 (lv_at hl 3 rfl) ?_
          refine lv_icmp_ne (tgt := 106) hx hb dL_isLine_99 (by decide) (fun c_90 => ?_) (fun c_90 => ?_)
          · have hf := iq c_90 hf
            refine lv_iconst (v := (0 : Int32)) hx hb dL_isLine_106 (by decide) ?_
            refine lv_istore (lv' := [(12, .int (0 : Int32)), (10, .double (0 : UInt64)), (9, .int (0 : Int32)), (8, .int (0 : Int32)), (7, .int (ν (Int32.toNatClampNeg (((4 : Int32) * p3) + (3 : Int32))))), (6, .int (ν (Int32.toNatClampNeg (((4 : Int32) * p3) + (2 : Int32))))), (5, .ref p0), (0, .ref c0), (1, .ref v0), (2, .ref z0), (3, .int p3), (4, .int p4)]) hx hb dL_isLine_107 hl (by decide) rfl (fun ls hl => ?_)
            refine lv_iconst (v := (0 : Int32)) hx hb dL_isLine_109 (by decide) ?_
            refine lv_istore (lv' := [(13, .int (0 : Int32)), (12, .int (0 : Int32)), (10, .double (0 : UInt64)), (9, .int (0 : Int32)), (8, .int (0 : Int32)), (7, .int (ν (Int32.toNatClampNeg (((4 : Int32) * p3) + (3 : Int32))))), (6, .int (ν (Int32.toNatClampNeg (((4 : Int32) * p3) + (2 : Int32))))), (5, .ref p0), (0, .ref c0), (1, .ref v0), (2, .ref z0), (3, .int p3), (4, .int p4)]) hx hb dL_isLine_110 hl (by decide) rfl (fun ls hl => ?_)
            exact hB112 p0 (ν (Int32.toNatClampNeg (((4 : Int32) * p3) + (2 : Int32)))) (ν (Int32.toNatClampNeg (((4 : Int32) * p3) + (3 : Int32)))) δ r_75 FU (0 : Int32) (0 : Int32) (0 : UInt64) false (0 : Int32) (0 + 1) _ _ h_74 ls hP hD hS (lv_sub hl [8, 9, 10, 11, 12, 7, 6, 5, 4, 3, 2, 1, 0] rfl) hf
          · have hf := ip c_90 hf
            refine lv_iconst (v := (1 : Int32)) hx hb dL_isLine_102 (by decide) ?_
            refine lv_goto (tgt := 107) hx hb dL_isLine_103 (by decide) ?_
            refine lv_istore (lv' := [(12, .int (1 : Int32)), (10, .double (0 : UInt64)), (9, .int (0 : Int32)), (8, .int (0 : Int32)), (7, .int (ν (Int32.toNatClampNeg (((4 : Int32) * p3) + (3 : Int32))))), (6, .int (ν (Int32.toNatClampNeg (((4 : Int32) * p3) + (2 : Int32))))), (5, .ref p0), (0, .ref c0), (1, .ref v0), (2, .ref z0), (3, .int p3), (4, .int p4)]) hx hb dL_isLine_107 hl (by decide) rfl (fun ls hl => ?_)
            refine lv_iconst (v := (0 : Int32)) hx hb dL_isLine_109 (by decide) ?_
            refine lv_istore (lv' := [(13, .int (0 : Int32)), (12, .int (1 : Int32)), (10, .double (0 : UInt64)), (9, .int (0 : Int32)), (8, .int (0 : Int32)), (7, .int (ν (Int32.toNatClampNeg (((4 : Int32) * p3) + (3 : Int32))))), (6, .int (ν (Int32.toNatClampNeg (((4 : Int32) * p3) + (2 : Int32))))), (5, .ref p0), (0, .ref c0), (1, .ref v0), (2, .ref z0), (3, .int p3), (4, .int p4)]) hx hb dL_isLine_110 hl (by decide) rfl (fun ls hl => ?_)
            exact hB112 p0 (ν (Int32.toNatClampNeg (((4 : Int32) * p3) + (2 : Int32)))) (ν (Int32.toNatClampNeg (((4 : Int32) * p3) + (3 : Int32)))) δ r_75 FU (0 : Int32) (0 : Int32) (0 : UInt64) true (0 : Int32) (0 + 1) _ _ h_74 ls hP hD hS (lv_sub hl [8, 9, 10, 11, 12, 7, 6, 5, 4, 3, 2, 1, 0] rfl) hf
