section Ztold
variable {ρ : Type} {Y : zLy} {p : Program} {l : Launch} {e : Env} {R : Room} {s : State} {m : MethodId} {args : Array Value} {below : List Frame} {meth : Method} {c : Code} {nl k n : Nat} {kq : ρ → State → Prop} {lv : List (Nat × Value)} {rest : List Value} {pc pc' : Nat} {cc : ByteArray} {ret : Option FieldType} {Y0 : zLy}
def fL_told_p75 (k38 : zSt → Int → Int → Option (Int × zSt)) (k62 : zSt → Int → Int → Int → Int → Int → Int → Option (Int × zSt)) : Nat → zSt → Int → Int → Int → Int → Int → Int → Int → Option (Int × zSt)
  | 0, _, _, _, _, _, _, _, _ => none
  | fu + 1, g, a8, a9, a10, a11, a12, a13, a14 =>
    (if i32 a9 < i32 a14 then
    zck ((0 : Int) ≤ (8 * a14) ∧ (8 * a14) < 56) (
    zlet (g.1 400 (Int.toNat (8 * a14))) (fun x3 =>
    fL_told_p75 k38 k62 fu g a8 a9 a10 a11 a12 a13 x3))
    else
    (if i32 a14 = i32 a9 then
    zlet (a10 + 1) (fun x2 =>
    k62 g a8 a9 x2 a11 a12 (a13 + 1))
    else
    zlet (a10 + 0) (fun x1 =>
    k62 g a8 a9 x1 a11 a12 (a13 + 1))))
def fL_told_p548 (k38 : zSt → Int → Int → Option (Int × zSt)) (k293 : zSt → Int → Int → Int → Option (Int × zSt)) (g : zSt) (y0 : Int) (y1 : Int) (a8 : Int) (a9 : Int) (a13 : Int) (a14 : Int) : Option (Int × zSt) :=
    (if i32 y0 = i32 y1 then
    zbd (fX7_terminal g a9 a13 5) (fun v4 =>
    (if i32 v4 = i32 a14 then
    k293 g a8 a9 (a13 + 1)
    else
    zck ((0 : Int) = 0 ∨ (0 : Int) = 1) (some (0, g))))
    else
    zck ((0 : Int) = 0 ∨ (0 : Int) = 1) (some (0, g)))
def fL_told_p515 (k38 : zSt → Int → Int → Option (Int × zSt)) (k293 : zSt → Int → Int → Int → Option (Int × zSt)) (g : zSt) (y0 : Int) (y1 : Int) (a8 : Int) (a9 : Int) (a13 : Int) (a14 : Int) : Option (Int × zSt) :=
    (if i32 y0 = i32 y1 then
    zbd (fX7_terminal g a9 a13 4) (fun v5 =>
    (if i32 a9 = i32 0 then
    fL_told_p548 k38 k293 g v5 (-1) a8 a9 a13 a14
    else
    zck ((0 : Int) ≤ (((8 * a9) + 5) + a13) ∧ (((8 * a9) + 5) + a13) < 56) (
    fL_told_p548 k38 k293 g v5 (g.1 400 (Int.toNat (((8 * a9) + 5) + a13))) a8 a9 a13 a14)))
    else
    zck ((0 : Int) = 0 ∨ (0 : Int) = 1) (some (0, g)))
def fL_told_p482 (k38 : zSt → Int → Int → Option (Int × zSt)) (k293 : zSt → Int → Int → Int → Option (Int × zSt)) (g : zSt) (y0 : Int) (y1 : Int) (a8 : Int) (a9 : Int) (a13 : Int) (a14 : Int) : Option (Int × zSt) :=
    (if i32 y0 = i32 y1 then
    zbd (fX7_terminal g a9 a13 3) (fun v6 =>
    (if i32 a9 = i32 0 then
    fL_told_p515 k38 k293 g v6 (-1) a8 a9 a13 a14
    else
    zck ((0 : Int) ≤ (((8 * a9) + 3) + a13) ∧ (((8 * a9) + 3) + a13) < 56) (
    fL_told_p515 k38 k293 g v6 (g.1 400 (Int.toNat (((8 * a9) + 3) + a13))) a8 a9 a13 a14)))
    else
    zck ((0 : Int) = 0 ∨ (0 : Int) = 1) (some (0, g)))
def fL_told_p451 (k38 : zSt → Int → Int → Option (Int × zSt)) (k293 : zSt → Int → Int → Int → Option (Int × zSt)) (g : zSt) (y0 : Int) (y1 : Int) (a8 : Int) (a9 : Int) (a13 : Int) (a14 : Int) (a15 : Int) : Option (Int × zSt) :=
    (if i32 y0 = i32 y1 then
    zbd (fX7_terminal g a9 a13 2) (fun v7 =>
    (if i32 a15 = i32 0 then
    fL_told_p482 k38 k293 g v7 0 a8 a9 a13 a14
    else
    zck ((0 : Int) ≤ ((2 * a9) + a13) ∧ ((2 * a9) + a13) < 14) (
    fL_told_p482 k38 k293 g v7 (g.1 411 (Int.toNat ((2 * a9) + a13))) a8 a9 a13 a14)))
    else
    zck ((0 : Int) = 0 ∨ (0 : Int) = 1) (some (0, g)))
def fL_told_p405 (k38 : zSt → Int → Int → Option (Int × zSt)) (k293 : zSt → Int → Int → Int → Option (Int × zSt)) (g : zSt) (y0 : Int) (y1 : Int) (a9 : Int) (a13 : Int) (a14 : Int) (a15 : Int) : Option (Int × zSt) :=
    zlet (y0 + y1) (fun x8 =>
    zbd (fX7_terminal g a9 a13 0) (fun v9 =>
    zck ((0 : Int) ≤ ((2 * a9) + a13) ∧ ((2 * a9) + a13) < 14) (
    (if i32 v9 = i32 (zmo (g.1 410 (Int.toNat ((2 * a9) + a13))) 2) then
    zbd (fX7_terminal g a9 a13 1) (fun v10 =>
    (if i32 a15 = i32 0 then
    fL_told_p451 k38 k293 g v10 0 x8 a9 a13 a14 a15
    else
    fL_told_p451 k38 k293 g v10 1 x8 a9 a13 a14 a15))
    else
    zck ((0 : Int) = 0 ∨ (0 : Int) = 1) (some (0, g))))))
def fL_told_p380 (k38 : zSt → Int → Int → Option (Int × zSt)) (k293 : zSt → Int → Int → Int → Option (Int × zSt)) (g : zSt) (y0 : Int) (a8 : Int) (a9 : Int) (a13 : Int) (a14 : Int) : Option (Int × zSt) :=
    (if i32 0 < i32 a9 then
    zck ((0 : Int) ≤ (((8 * a9) + 5) + a13) ∧ (((8 * a9) + 5) + a13) < 56) (
    fL_told_p405 k38 k293 g a8 (g.1 400 (Int.toNat (((8 * a9) + 5) + a13))) a9 a13 a14 y0)
    else
    fL_told_p405 k38 k293 g a8 0 a9 a13 a14 y0)
def fL_told_p305 (k38 : zSt → Int → Int → Option (Int × zSt)) (k293 : zSt → Int → Int → Int → Option (Int × zSt)) : Nat → zSt → Int → Int → Int → Int → Int → Option (Int × zSt)
  | 0, _, _, _, _, _, _ => none
  | fu + 1, g, a8, a9, a13, a14, a15 =>
    zck ((0 : Int) ≤ 2 ∧ 2 < 9) (
    (if i32 a15 < i32 (g.1 403 (Int.toNat 2)) then
    zck ((0 : Int) ≤ (3 * a15) ∧ (3 * a15) < 18) (
    (if i32 (g.1 402 (Int.toNat (3 * a15))) = i32 a9 then
    zck ((0 : Int) ≤ ((3 * a15) + 1) ∧ ((3 * a15) + 1) < 18) (
    (if i32 (g.1 402 (Int.toNat ((3 * a15) + 1))) = i32 a13 then
    zck ((0 : Int) ≤ ((3 * a15) + 2) ∧ ((3 * a15) + 2) < 18) (
    zlet (a14 + (g.1 402 (Int.toNat ((3 * a15) + 2)))) (fun x13 =>
    fL_told_p305 k38 k293 fu g a8 a9 a13 x13 (a15 + 1)))
    else
    zlet (a14 + 0) (fun x12 =>
    fL_told_p305 k38 k293 fu g a8 a9 a13 x12 (a15 + 1))))
    else
    zlet (a14 + 0) (fun x11 =>
    fL_told_p305 k38 k293 fu g a8 a9 a13 x11 (a15 + 1))))
    else
    zck ((0 : Int) ≤ ((2 * a9) + a13) ∧ ((2 * a9) + a13) < 14) (
    (if i32 1 < i32 (g.1 410 (Int.toNat ((2 * a9) + a13))) then
    fL_told_p380 k38 k293 g 1 a8 a9 a13 a14
    else
    fL_told_p380 k38 k293 g 0 a8 a9 a13 a14))))
def fL_told_p293 (k38 : zSt → Int → Int → Option (Int × zSt)) : Nat → zSt → Int → Int → Int → Option (Int × zSt)
  | 0, _, _, _, _ => none
  | fu + 1, g, a8, a9, a13 =>
    (if i32 a13 < i32 2 then
    fL_told_p305 k38 (fL_told_p293 k38 fu) zfu g a8 a9 a13 0 0
    else
    k38 g a8 (a9 + 1))
def fL_told_p187 (k38 : zSt → Int → Int → Option (Int × zSt)) : Nat → zSt → Int → Int → Int → Int → Int → Int → Option (Int × zSt)
  | 0, _, _, _, _, _, _, _ => none
  | fu + 1, g, a8, a9, a10, a11, a12, a13 =>
    (if i32 a13 < i32 3 then
    zbd (fX7_box g a9 a13) (fun v18 =>
    (if i32 a9 = i32 0 then
    (if i32 v18 = i32 (-1) then
    fL_told_p187 k38 fu g a8 a9 a10 a11 a12 (a13 + 1)
    else
    zck ((0 : Int) = 0 ∨ (0 : Int) = 1) (some (0, g)))
    else
    zck ((0 : Int) ≤ ((8 * a9) + a13) ∧ ((8 * a9) + a13) < 56) (
    (if i32 v18 = i32 (g.1 400 (Int.toNat ((8 * a9) + a13))) then
    fL_told_p187 k38 fu g a8 a9 a10 a11 a12 (a13 + 1)
    else
    zck ((0 : Int) = 0 ∨ (0 : Int) = 1) (some (0, g))))))
    else
    zbd (fX7_box g a9 3) (fun v14 =>
    zck ((0 : Int) ≤ ((8 * a9) + 7) ∧ ((8 * a9) + 7) < 56) (
    (if i32 v14 = i32 (g.1 400 (Int.toNat ((8 * a9) + 7))) then
    zbd (fX7_box g a9 4) (fun v15 =>
    (if i32 v15 = i32 a10 then
    zbd (fX7_box g a9 5) (fun v16 =>
    (if i32 v16 = i32 a11 then
    zbd (fX7_box g a9 6) (fun v17 =>
    (if i32 v17 = i32 a12 then
    fL_told_p293 k38 zfu g a8 a9 0
    else
    zck ((0 : Int) = 0 ∨ (0 : Int) = 1) (some (0, g))))
    else
    zck ((0 : Int) = 0 ∨ (0 : Int) = 1) (some (0, g))))
    else
    zck ((0 : Int) = 0 ∨ (0 : Int) = 1) (some (0, g))))
    else
    zck ((0 : Int) = 0 ∨ (0 : Int) = 1) (some (0, g))))))
def fL_told_p120 (k38 : zSt → Int → Int → Option (Int × zSt)) : Nat → zSt → Int → Int → Int → Int → Int → Int → Option (Int × zSt)
  | 0, _, _, _, _, _, _, _ => none
  | fu + 1, g, a8, a9, a10, a11, a12, a13 =>
    zck ((0 : Int) ≤ 1 ∧ 1 < 9) (
    (if i32 a13 < i32 (g.1 403 (Int.toNat 1)) then
    zck ((0 : Int) ≤ (3 * a13) ∧ (3 * a13) < 24) (
    (if i32 (g.1 401 (Int.toNat (3 * a13))) = i32 a9 then
    zck ((0 : Int) ≤ ((3 * a13) + 1) ∧ ((3 * a13) + 1) < 24) (
    zlet (a12 + (g.1 401 (Int.toNat ((3 * a13) + 1)))) (fun x19 =>
    zbd (fL_dark g a13 400 401 410) (fun v20 =>
    (if i32 v20 = i32 0 then
    zlet (a11 + 1) (fun x22 =>
    fL_told_p120 k38 fu g a8 a9 a10 x22 x19 (a13 + 1))
    else
    zlet (a11 + 0) (fun x21 =>
    fL_told_p120 k38 fu g a8 a9 a10 x21 x19 (a13 + 1))))))
    else
    fL_told_p120 k38 fu g a8 a9 a10 a11 a12 (a13 + 1)))
    else
    fL_told_p187 k38 zfu g a8 a9 a10 a11 a12 0))
def fL_told_p62 (k38 : zSt → Int → Int → Option (Int × zSt)) : Nat → zSt → Int → Int → Int → Int → Int → Int → Option (Int × zSt)
  | 0, _, _, _, _, _, _, _ => none
  | fu + 1, g, a8, a9, a10, a11, a12, a13 =>
    zck ((0 : Int) ≤ 0 ∧ 0 < 9) (
    (if i32 a13 < i32 (g.1 403 (Int.toNat 0)) then
    fL_told_p75 k38 (fL_told_p62 k38 fu) zfu g a8 a9 a10 a11 a12 a13 a13
    else
    fL_told_p120 k38 zfu g a8 a9 a10 a11 a12 0))
def fL_told_p594 (k582 : zSt → Int → Int → Option (Int × zSt)) : Nat → zSt → Int → Int → Int → Option (Int × zSt)
  | 0, _, _, _, _ => none
  | fu + 1, g, a8, a9, a10 =>
    (if i32 a10 < i32 3 then
    zbd (fX7_lantern g a9 a10) (fun v25 =>
    zck ((0 : Int) ≤ ((3 * a9) + a10) ∧ ((3 * a9) + a10) < 24) (
    (if i32 v25 = i32 (g.1 401 (Int.toNat ((3 * a9) + a10))) then
    fL_told_p594 k582 fu g a8 a9 (a10 + 1)
    else
    zck ((0 : Int) = 0 ∨ (0 : Int) = 1) (some (0, g)))))
    else
    zbd (fX7_lantern g a9 3) (fun v23 =>
    zbd (fL_dark g a9 400 401 410) (fun v24 =>
    (if i32 v23 = i32 v24 then
    k582 g a8 (a9 + 1)
    else
    zck ((0 : Int) = 0 ∨ (0 : Int) = 1) (some (0, g))))))
def fL_told_p670 (k658 : zSt → Int → Int → Option (Int × zSt)) : Nat → zSt → Int → Int → Int → Option (Int × zSt)
  | 0, _, _, _, _ => none
  | fu + 1, g, a8, a9, a10 =>
    (if i32 a10 < i32 3 then
    zbd (fX7_faultAt g a9 a10) (fun v28 =>
    zck ((0 : Int) ≤ ((3 * a9) + a10) ∧ ((3 * a9) + a10) < 18) (
    (if i32 v28 = i32 (g.1 402 (Int.toNat ((3 * a9) + a10))) then
    fL_told_p670 k658 fu g a8 a9 (a10 + 1)
    else
    zck ((0 : Int) = 0 ∨ (0 : Int) = 1) (some (0, g)))))
    else
    zbd (fX7_faultAt g a9 3) (fun v26 =>
    zck ((0 : Int) ≤ (3 * a9) ∧ (3 * a9) < 18) (
    zck ((0 : Int) ≤ ((3 * a9) + 1) ∧ ((3 * a9) + 1) < 18) (
    zck ((0 : Int) ≤ ((2 * (g.1 402 (Int.toNat (3 * a9)))) + (g.1 402 (Int.toNat ((3 * a9) + 1)))) ∧ ((2 * (g.1 402 (Int.toNat (3 * a9)))) + (g.1 402 (Int.toNat ((3 * a9) + 1)))) < 14) (
    (if i32 v26 = i32 (zmo (g.1 410 (Int.toNat ((2 * (g.1 402 (Int.toNat (3 * a9)))) + (g.1 402 (Int.toNat ((3 * a9) + 1)))))) 2) then
    zbd (fX7_faultAt g a9 4) (fun v27 =>
    zck ((0 : Int) ≤ a9 ∧ a9 < 6) (
    (if i32 v27 = i32 (g.1 412 (Int.toNat a9)) then
    k658 g a8 (a9 + 1)
    else
    zck ((0 : Int) = 0 ∨ (0 : Int) = 1) (some (0, g)))))
    else
    zck ((0 : Int) = 0 ∨ (0 : Int) = 1) (some (0, g))))))))
def fL_told_p952  (g : zSt) (y0 : Int) (y1 : Int) (a8 : Int) : Option (Int × zSt) :=
    (if i32 y0 = i32 y1 then
    zbd (fX7_count g 5) (fun v29 =>
    (if i32 v29 = i32 a8 then
    zbd (fX7_count g 6) (fun v30 =>
    zck ((0 : Int) ≤ 3 ∧ 3 < 9) (
    (if i32 v30 = i32 (g.1 403 (Int.toNat 3)) then
    zck ((1 : Int) = 0 ∨ (1 : Int) = 1) (some (1, g))
    else
    zck ((0 : Int) = 0 ∨ (0 : Int) = 1) (some (0, g)))))
    else
    zck ((0 : Int) = 0 ∨ (0 : Int) = 1) (some (0, g))))
    else
    zck ((0 : Int) = 0 ∨ (0 : Int) = 1) (some (0, g)))
def fL_told_p848  : Nat → zSt → Int → Int → Int → Int → Option (Int × zSt)
  | 0, _, _, _, _, _ => none
  | fu + 1, g, a8, a9, a10, a12 =>
    (if i32 a12 < i32 8 then
    zbd (fX7_count g (a12 + 3)) (fun v37 =>
    zck ((0 : Int) ≤ a12 ∧ a12 < 9) (
    (if i32 v37 = i32 (g.1 403 (Int.toNat a12)) then
    fL_told_p848 fu g a8 a9 a10 (a12 + 1)
    else
    zck ((0 : Int) = 0 ∨ (0 : Int) = 1) (some (0, g)))))
    else
    zbd (fX7_count g 0) (fun v31 =>
    zck ((0 : Int) ≤ 0 ∧ 0 < 9) (
    (if i32 v31 = i32 (g.1 403 (Int.toNat 0)) then
    zbd (fX7_count g 1) (fun v32 =>
    zck ((0 : Int) ≤ 1 ∧ 1 < 9) (
    (if i32 v32 = i32 (g.1 403 (Int.toNat 1)) then
    zbd (fX7_count g 2) (fun v33 =>
    zbd (fL_burn g 400 401 403 410 0) (fun v34 =>
    (if i32 v33 = i32 v34 then
    zbd (fX7_count g 3) (fun v35 =>
    zck ((0 : Int) ≤ 2 ∧ 2 < 9) (
    (if i32 v35 = i32 (g.1 403 (Int.toNat 2)) then
    zbd (fX7_count g 4) (fun v36 =>
    (if i32 a9 < i32 a10 then
    fL_told_p952 g v36 a9 a8
    else
    fL_told_p952 g v36 a10 a8))
    else
    zck ((0 : Int) = 0 ∨ (0 : Int) = 1) (some (0, g)))))
    else
    zck ((0 : Int) = 0 ∨ (0 : Int) = 1) (some (0, g)))))
    else
    zck ((0 : Int) = 0 ∨ (0 : Int) = 1) (some (0, g)))))
    else
    zck ((0 : Int) = 0 ∨ (0 : Int) = 1) (some (0, g))))))
def fL_told_p658  : Nat → zSt → Int → Int → Option (Int × zSt)
  | 0, _, _, _ => none
  | fu + 1, g, a8, a9 =>
    zck ((0 : Int) ≤ 2 ∧ 2 < 9) (
    (if i32 a9 < i32 (g.1 403 (Int.toNat 2)) then
    fL_told_p670 (fL_told_p658 fu) zfu g a8 a9 0
    else
    zbd (fL_lamp g 0 402 403 410) (fun v38 =>
    zbd (fL_lamp g 1 402 403 410) (fun v39 =>
    zck ((0 : Int) ≤ 6 ∧ 6 < 9) (
    zck ((0 : Int) ≤ 7 ∧ 7 < 9) (
    zlet ((g.1 403 (Int.toNat 6)) + (g.1 403 (Int.toNat 7))) (fun x40 =>
    zbd (fX7_lamp g 0) (fun v41 =>
    (if i32 v41 = i32 v38 then
    zbd (fX7_lamp g 1) (fun v42 =>
    (if i32 v42 = i32 v39 then
    zbd (fX7_lossShare g) (fun u43 =>
    (if i32 x40 = i32 0 then
    (if i32 (zdc u43 (FP.dconst0) .l) = i32 0 then
    fL_told_p848 zfu g a8 v38 v39 4
    else
    zck ((0 : Int) = 0 ∨ (0 : Int) = 1) (some (0, g)))
    else
    zck ((0 : Int) ≤ 7 ∧ 7 < 9) (
    zck (znb (FP.dmul (FP.dconst1) (FP.i2d (i32 (g.1 403 (Int.toNat 7))))) = true) (
    zck (znb (FP.ddiv (FP.dmul (FP.dconst1) (FP.i2d (i32 (g.1 403 (Int.toNat 7))))) (FP.i2d (i32 x40))) = true) (
    (if i32 (zdc u43 (FP.ddiv (FP.dmul (FP.dconst1) (FP.i2d (i32 (g.1 403 (Int.toNat 7))))) (FP.i2d (i32 x40))) .l) = i32 0 then
    fL_told_p848 zfu g a8 v38 v39 4
    else
    zck ((0 : Int) = 0 ∨ (0 : Int) = 1) (some (0, g))))))))
    else
    zck ((0 : Int) = 0 ∨ (0 : Int) = 1) (some (0, g))))
    else
    zck ((0 : Int) = 0 ∨ (0 : Int) = 1) (some (0, g)))))))))))
def fL_told_p582  : Nat → zSt → Int → Int → Option (Int × zSt)
  | 0, _, _, _ => none
  | fu + 1, g, a8, a9 =>
    zck ((0 : Int) ≤ 1 ∧ 1 < 9) (
    (if i32 a9 < i32 (g.1 403 (Int.toNat 1)) then
    fL_told_p594 (fL_told_p582 fu) zfu g a8 a9 0
    else
    fL_told_p658 zfu g a8 0))
def fL_told_p38  : Nat → zSt → Int → Int → Option (Int × zSt)
  | 0, _, _, _ => none
  | fu + 1, g, a8, a9 =>
    zck ((0 : Int) ≤ 0 ∧ 0 < 9) (
    (if i32 a9 < i32 (g.1 403 (Int.toNat 0)) then
    zlet (a9 + 1) (fun x44 =>
    fL_told_p62 (fL_told_p38 fu) zfu g a8 a9 0 0 0 x44)
    else
    fL_told_p582 zfu g a8 0))
def fL_told (g : zSt) : Option (Int × zSt) :=
    zbd (fL_find g 400 401 402 403 410 411 412) (fun g45 =>
    fL_told_p38 zfu g45 0 0)
theorem wL_told_p75 (cx : zCx Y p s m args meth c RL cL_told 16 (some .boolean)) (hlv : zlv Y = 1) (hup : zUq Y0 Y s) {k38 : zSt → Int → Int → Option (Int × zSt)} {k62 : zSt → Int → Int → Int → Int → Int → Int → Option (Int × zSt)} (hk38 : ∀ (g : zSt) (a8 : Int) (a9 : Int), zWo Y p l e (zra 3 34 4) s m args below meth c 16 3 34 (fun q : Int × zSt => MQ below (zQi Y0 q.1 q.2) args s 3 34 (zA Y0)) g [(0, .ref (zad Y 0)), (1, .ref (zad Y 400)), (2, .ref (zad Y 401)), (3, .ref (zad Y 402)), (4, .ref (zad Y 403)), (5, .ref (zad Y 410)), (6, .ref (zad Y 411)), (7, .ref (zad Y 412)), (8, .int (i32 a8)), (9, .int (i32 a9))] ([]) 38 (k38 g a8 a9)) (hk62 : ∀ (g : zSt) (a8 : Int) (a9 : Int) (a10 : Int) (a11 : Int) (a12 : Int) (a13 : Int), zWo Y p l e (zra 3 34 4) s m args below meth c 16 3 34 (fun q : Int × zSt => MQ below (zQi Y0 q.1 q.2) args s 3 34 (zA Y0)) g [(0, .ref (zad Y 0)), (1, .ref (zad Y 400)), (2, .ref (zad Y 401)), (3, .ref (zad Y 402)), (4, .ref (zad Y 403)), (5, .ref (zad Y 410)), (6, .ref (zad Y 411)), (7, .ref (zad Y 412)), (8, .int (i32 a8)), (9, .int (i32 a9)), (10, .int (i32 a10)), (11, .int (i32 a11)), (12, .int (i32 a12)), (13, .int (i32 a13))] ([]) 62 (k62 g a8 a9 a10 a11 a12 a13)) : ∀ (fu : Nat) (g : zSt) (a8 : Int) (a9 : Int) (a10 : Int) (a11 : Int) (a12 : Int) (a13 : Int) (a14 : Int), zWo Y p l e (zra 3 34 4) s m args below meth c 16 3 34 (fun q : Int × zSt => MQ below (zQi Y0 q.1 q.2) args s 3 34 (zA Y0)) g [(0, .ref (zad Y 0)), (1, .ref (zad Y 400)), (2, .ref (zad Y 401)), (3, .ref (zad Y 402)), (4, .ref (zad Y 403)), (5, .ref (zad Y 410)), (6, .ref (zad Y 411)), (7, .ref (zad Y 412)), (8, .int (i32 a8)), (9, .int (i32 a9)), (10, .int (i32 a10)), (11, .int (i32 a11)), (12, .int (i32 a12)), (13, .int (i32 a13)), (14, .int (i32 a14))] ([]) 75 (fL_told_p75 k38 k62 fu g a8 a9 a10 a11 a12 a13 a14) := by
  intro fu
  induction fu with
  | zero => intro g a8 a9 a10 a11 a12 a13 a14; exact zr_none
  | succ fu ih =>
    intro g a8 a9 a10 a11 a12 a13 a14
    rw [fL_told_p75]
    refine zr_iload (pc' := 77) cx rfl 14 dL_told_75 rfl ?_
    refine zr_iload (pc' := 79) cx rfl 9 dL_told_77 rfl ?_
    refine zr_icmp_le (pc' := 82) cx rfl (tgt := 94) dL_told_79 rfl ?_ ?_
    · refine zr_iload (pc' := 96) cx rfl 10 dL_told_94 rfl ?_
      refine zr_iload (pc' := 98) cx rfl 14 dL_told_96 rfl ?_
      refine zr_iload (pc' := 100) cx rfl 9 dL_told_98 rfl ?_
      refine zr_icmp_ne (pc' := 103) cx rfl (tgt := 107) dL_told_100 rfl ?_ ?_
      · refine zr_iconst (pc' := 108) cx rfl dL_told_107 ?_
        refine zr_iadd (pc' := 109) cx rfl dL_told_108 ?_
        refine zr_leti (fun x1 => ?_)
        refine zr_istore (pc' := 111) cx rfl (lv' := [(10, .int (i32 x1)), (0, .ref (zad Y 0)), (1, .ref (zad Y 400)), (2, .ref (zad Y 401)), (3, .ref (zad Y 402)), (4, .ref (zad Y 403)), (5, .ref (zad Y 410)), (6, .ref (zad Y 411)), (7, .ref (zad Y 412)), (8, .int (i32 a8)), (9, .int (i32 a9)), (11, .int (i32 a11)), (12, .int (i32 a12)), (13, .int (i32 a13)), (14, .int (i32 a14))]) dL_told_109 (by decide) rfl ?_
        refine zr_iinc (pc' := 114) cx rfl (lv' := [(13, .int (i32 (a13 + 1))), (10, .int (i32 x1)), (0, .ref (zad Y 0)), (1, .ref (zad Y 400)), (2, .ref (zad Y 401)), (3, .ref (zad Y 402)), (4, .ref (zad Y 403)), (5, .ref (zad Y 410)), (6, .ref (zad Y 411)), (7, .ref (zad Y 412)), (8, .int (i32 a8)), (9, .int (i32 a9)), (11, .int (i32 a11)), (12, .int (i32 a12)), (14, .int (i32 a14))]) 13 dL_told_111 rfl (by decide) rfl ?_
        refine zr_goto cx (tgt := 62) dL_told_114 rfl ?_
        refine zr_sub [2, 3, 4, 5, 6, 7, 8, 9, 10, 11, 1, 12, 13, 0] rfl ?_
        exact hk62 g a8 a9 x1 a11 a12 (a13 + 1)
      · refine zr_iconst (pc' := 104) cx rfl dL_told_103 ?_
        refine zr_gotoS cx (tgt := 108) dL_told_104 rfl ?_
        refine zr_iadd (pc' := 109) cx rfl dL_told_108 ?_
        refine zr_leti (fun x2 => ?_)
        refine zr_istore (pc' := 111) cx rfl (lv' := [(10, .int (i32 x2)), (0, .ref (zad Y 0)), (1, .ref (zad Y 400)), (2, .ref (zad Y 401)), (3, .ref (zad Y 402)), (4, .ref (zad Y 403)), (5, .ref (zad Y 410)), (6, .ref (zad Y 411)), (7, .ref (zad Y 412)), (8, .int (i32 a8)), (9, .int (i32 a9)), (11, .int (i32 a11)), (12, .int (i32 a12)), (13, .int (i32 a13)), (14, .int (i32 a14))]) dL_told_109 (by decide) rfl ?_
        refine zr_iinc (pc' := 114) cx rfl (lv' := [(13, .int (i32 (a13 + 1))), (10, .int (i32 x2)), (0, .ref (zad Y 0)), (1, .ref (zad Y 400)), (2, .ref (zad Y 401)), (3, .ref (zad Y 402)), (4, .ref (zad Y 403)), (5, .ref (zad Y 410)), (6, .ref (zad Y 411)), (7, .ref (zad Y 412)), (8, .int (i32 a8)), (9, .int (i32 a9)), (11, .int (i32 a11)), (12, .int (i32 a12)), (14, .int (i32 a14))]) 13 dL_told_111 rfl (by decide) rfl ?_
        refine zr_goto cx (tgt := 62) dL_told_114 rfl ?_
        refine zr_sub [2, 3, 4, 5, 6, 7, 8, 9, 10, 11, 1, 12, 13, 0] rfl ?_
        exact hk62 g a8 a9 x2 a11 a12 (a13 + 1)
    · refine zr_aload_n (pc' := 83) cx rfl 1 dL_told_82 rfl rfl ?_
      refine zr_bipush (pc' := 85) cx rfl dL_told_83 (by decide +kernel) ?_
      refine zr_iload (pc' := 87) cx rfl 14 dL_told_85 rfl ?_
      refine zr_imul (pc' := 88) cx rfl dL_told_87 ?_
      refine zr_iald (pc' := 89) cx rfl 16 zkc_400 (by decide) (L := 56) rfl dL_told_88 ?_
      refine zr_leti (fun x3 => ?_)
      refine zr_istore (pc' := 91) cx rfl (lv' := [(14, .int (i32 x3)), (0, .ref (zad Y 0)), (1, .ref (zad Y 400)), (2, .ref (zad Y 401)), (3, .ref (zad Y 402)), (4, .ref (zad Y 403)), (5, .ref (zad Y 410)), (6, .ref (zad Y 411)), (7, .ref (zad Y 412)), (8, .int (i32 a8)), (9, .int (i32 a9)), (10, .int (i32 a10)), (11, .int (i32 a11)), (12, .int (i32 a12)), (13, .int (i32 a13))]) dL_told_89 (by decide) rfl ?_
      refine zr_goto cx (tgt := 75) dL_told_91 rfl ?_
      refine zr_sub [1, 2, 3, 4, 5, 6, 7, 8, 9, 10, 11, 12, 13, 14, 0] rfl ?_
      exact ih g a8 a9 a10 a11 a12 a13 x3
theorem wL_told_p548 (cx : zCx Y p s m args meth c RL cL_told 16 (some .boolean)) (hlv : zlv Y = 1) (hup : zUq Y0 Y s) {k38 : zSt → Int → Int → Option (Int × zSt)} {k293 : zSt → Int → Int → Int → Option (Int × zSt)} (hk38 : ∀ (g : zSt) (a8 : Int) (a9 : Int), zWo Y p l e (zra 3 34 4) s m args below meth c 16 3 34 (fun q : Int × zSt => MQ below (zQi Y0 q.1 q.2) args s 3 34 (zA Y0)) g [(0, .ref (zad Y 0)), (1, .ref (zad Y 400)), (2, .ref (zad Y 401)), (3, .ref (zad Y 402)), (4, .ref (zad Y 403)), (5, .ref (zad Y 410)), (6, .ref (zad Y 411)), (7, .ref (zad Y 412)), (8, .int (i32 a8)), (9, .int (i32 a9))] ([]) 38 (k38 g a8 a9)) (hk293 : ∀ (g : zSt) (a8 : Int) (a9 : Int) (a13 : Int), zWo Y p l e (zra 3 34 4) s m args below meth c 16 3 34 (fun q : Int × zSt => MQ below (zQi Y0 q.1 q.2) args s 3 34 (zA Y0)) g [(0, .ref (zad Y 0)), (1, .ref (zad Y 400)), (2, .ref (zad Y 401)), (3, .ref (zad Y 402)), (4, .ref (zad Y 403)), (5, .ref (zad Y 410)), (6, .ref (zad Y 411)), (7, .ref (zad Y 412)), (8, .int (i32 a8)), (9, .int (i32 a9)), (13, .int (i32 a13))] ([]) 293 (k293 g a8 a9 a13)) : ∀ (g : zSt) (y0 : Int) (y1 : Int) (a8 : Int) (a9 : Int) (a13 : Int) (a14 : Int), zWo Y p l e (zra 3 34 4) s m args below meth c 16 3 34 (fun q : Int × zSt => MQ below (zQi Y0 q.1 q.2) args s 3 34 (zA Y0)) g [(0, .ref (zad Y 0)), (1, .ref (zad Y 400)), (2, .ref (zad Y 401)), (3, .ref (zad Y 402)), (4, .ref (zad Y 403)), (5, .ref (zad Y 410)), (6, .ref (zad Y 411)), (7, .ref (zad Y 412)), (8, .int (i32 a8)), (9, .int (i32 a9)), (13, .int (i32 a13)), (14, .int (i32 a14))] (.int (i32 y1) :: .int (i32 y0) :: []) 548 (fL_told_p548 k38 k293 g y0 y1 a8 a9 a13 a14) := by
  intro g y0 y1 a8 a9 a13 a14
  unfold fL_told_p548
  refine zr_icmp_ne (pc' := 551) cx rfl (tgt := 565) dL_told_548 rfl ?_ ?_
  · refine zr_iconst (pc' := 566) cx rfl dL_told_565 ?_
    exact zr_zretU cx hup dL_told_566
  · refine zr_aload_n (pc' := 552) cx rfl 0 dL_told_551 rfl rfl ?_
    refine zr_iload (pc' := 554) cx rfl 9 dL_told_552 rfl ?_
    refine zr_iload (pc' := 556) cx rfl 10 dL_told_554 rfl ?_
    refine zr_iconst (pc' := 557) cx rfl dL_told_556 ?_
    refine zc_L_27 (pc' := 560) cx rfl  ⟨Nat.le_of_ble_eq_true rfl, Nat.le_of_ble_eq_true rfl⟩ ⟨Nat.le_of_ble_eq_true rfl, Nat.le_of_ble_eq_true rfl⟩ (Nat.le_of_ble_eq_true rfl) dL_told_557 (fun v4 => ?_)
    refine zr_iload (pc' := 562) cx rfl 11 dL_told_560 rfl ?_
    refine zr_icmp_eq (pc' := 565) cx rfl (tgt := 567) dL_told_562 rfl ?_ ?_
    · refine zr_iinc (pc' := 570) cx rfl (lv' := [(13, .int (i32 (a13 + 1))), (0, .ref (zad Y 0)), (1, .ref (zad Y 400)), (2, .ref (zad Y 401)), (3, .ref (zad Y 402)), (4, .ref (zad Y 403)), (5, .ref (zad Y 410)), (6, .ref (zad Y 411)), (7, .ref (zad Y 412)), (8, .int (i32 a8)), (9, .int (i32 a9)), (14, .int (i32 a14))]) 10 dL_told_567 rfl (by decide) rfl ?_
      refine zr_goto cx (tgt := 293) dL_told_570 rfl ?_
      refine zr_sub [1, 2, 3, 4, 5, 6, 7, 8, 9, 10, 0] rfl ?_
      exact hk293 g a8 a9 (a13 + 1)
    · refine zr_iconst (pc' := 566) cx rfl dL_told_565 ?_
      exact zr_zretU cx hup dL_told_566
theorem wL_told_p515 (cx : zCx Y p s m args meth c RL cL_told 16 (some .boolean)) (hlv : zlv Y = 1) (hup : zUq Y0 Y s) {k38 : zSt → Int → Int → Option (Int × zSt)} {k293 : zSt → Int → Int → Int → Option (Int × zSt)} (hk38 : ∀ (g : zSt) (a8 : Int) (a9 : Int), zWo Y p l e (zra 3 34 4) s m args below meth c 16 3 34 (fun q : Int × zSt => MQ below (zQi Y0 q.1 q.2) args s 3 34 (zA Y0)) g [(0, .ref (zad Y 0)), (1, .ref (zad Y 400)), (2, .ref (zad Y 401)), (3, .ref (zad Y 402)), (4, .ref (zad Y 403)), (5, .ref (zad Y 410)), (6, .ref (zad Y 411)), (7, .ref (zad Y 412)), (8, .int (i32 a8)), (9, .int (i32 a9))] ([]) 38 (k38 g a8 a9)) (hk293 : ∀ (g : zSt) (a8 : Int) (a9 : Int) (a13 : Int), zWo Y p l e (zra 3 34 4) s m args below meth c 16 3 34 (fun q : Int × zSt => MQ below (zQi Y0 q.1 q.2) args s 3 34 (zA Y0)) g [(0, .ref (zad Y 0)), (1, .ref (zad Y 400)), (2, .ref (zad Y 401)), (3, .ref (zad Y 402)), (4, .ref (zad Y 403)), (5, .ref (zad Y 410)), (6, .ref (zad Y 411)), (7, .ref (zad Y 412)), (8, .int (i32 a8)), (9, .int (i32 a9)), (13, .int (i32 a13))] ([]) 293 (k293 g a8 a9 a13)) : ∀ (g : zSt) (y0 : Int) (y1 : Int) (a8 : Int) (a9 : Int) (a13 : Int) (a14 : Int), zWo Y p l e (zra 3 34 4) s m args below meth c 16 3 34 (fun q : Int × zSt => MQ below (zQi Y0 q.1 q.2) args s 3 34 (zA Y0)) g [(0, .ref (zad Y 0)), (1, .ref (zad Y 400)), (2, .ref (zad Y 401)), (3, .ref (zad Y 402)), (4, .ref (zad Y 403)), (5, .ref (zad Y 410)), (6, .ref (zad Y 411)), (7, .ref (zad Y 412)), (8, .int (i32 a8)), (9, .int (i32 a9)), (13, .int (i32 a13)), (14, .int (i32 a14))] (.int (i32 y1) :: .int (i32 y0) :: []) 515 (fL_told_p515 k38 k293 g y0 y1 a8 a9 a13 a14) := by
  intro g y0 y1 a8 a9 a13 a14
  unfold fL_told_p515
  refine zr_icmp_ne (pc' := 518) cx rfl (tgt := 565) dL_told_515 rfl ?_ ?_
  · refine zr_iconst (pc' := 566) cx rfl dL_told_565 ?_
    exact zr_zretU cx hup dL_told_566
  · refine zr_aload_n (pc' := 519) cx rfl 0 dL_told_518 rfl rfl ?_
    refine zr_iload (pc' := 521) cx rfl 9 dL_told_519 rfl ?_
    refine zr_iload (pc' := 523) cx rfl 10 dL_told_521 rfl ?_
    refine zr_iconst (pc' := 524) cx rfl dL_told_523 ?_
    refine zc_L_27 (pc' := 527) cx rfl  ⟨Nat.le_of_ble_eq_true rfl, Nat.le_of_ble_eq_true rfl⟩ ⟨Nat.le_of_ble_eq_true rfl, Nat.le_of_ble_eq_true rfl⟩ (Nat.le_of_ble_eq_true rfl) dL_told_524 (fun v5 => ?_)
    refine zr_iload (pc' := 529) cx rfl 9 dL_told_527 rfl ?_
    refine zr_if_ne (pc' := 532) cx rfl (tgt := 536) dL_told_529 rfl ?_ ?_
    · refine zr_aload_n (pc' := 537) cx rfl 1 dL_told_536 rfl rfl ?_
      refine zr_bipush (pc' := 539) cx rfl dL_told_537 (by decide +kernel) ?_
      refine zr_iload (pc' := 541) cx rfl 9 dL_told_539 rfl ?_
      refine zr_imul (pc' := 542) cx rfl dL_told_541 ?_
      refine zr_iconst (pc' := 543) cx rfl dL_told_542 ?_
      refine zr_iadd (pc' := 544) cx rfl dL_told_543 ?_
      refine zr_iload (pc' := 546) cx rfl 10 dL_told_544 rfl ?_
      refine zr_iadd (pc' := 547) cx rfl dL_told_546 ?_
      refine zr_iald (pc' := 548) cx rfl 16 zkc_400 (by decide) (L := 56) rfl dL_told_547 ?_
      refine zr_sub [0, 1, 2, 3, 4, 5, 6, 7, 8, 9, 10, 11] rfl ?_
      exact wL_told_p548 cx hlv hup hk38 hk293 g v5 (g.1 400 (Int.toNat (((8 * a9) + 5) + a13))) a8 a9 a13 a14
    · refine zr_iconst (pc' := 533) cx rfl dL_told_532 ?_
      refine zr_gotoS cx (tgt := 548) dL_told_533 rfl ?_
      refine zr_sub [0, 1, 2, 3, 4, 5, 6, 7, 8, 9, 10, 11] rfl ?_
      exact wL_told_p548 cx hlv hup hk38 hk293 g v5 (-1) a8 a9 a13 a14
theorem wL_told_p482 (cx : zCx Y p s m args meth c RL cL_told 16 (some .boolean)) (hlv : zlv Y = 1) (hup : zUq Y0 Y s) {k38 : zSt → Int → Int → Option (Int × zSt)} {k293 : zSt → Int → Int → Int → Option (Int × zSt)} (hk38 : ∀ (g : zSt) (a8 : Int) (a9 : Int), zWo Y p l e (zra 3 34 4) s m args below meth c 16 3 34 (fun q : Int × zSt => MQ below (zQi Y0 q.1 q.2) args s 3 34 (zA Y0)) g [(0, .ref (zad Y 0)), (1, .ref (zad Y 400)), (2, .ref (zad Y 401)), (3, .ref (zad Y 402)), (4, .ref (zad Y 403)), (5, .ref (zad Y 410)), (6, .ref (zad Y 411)), (7, .ref (zad Y 412)), (8, .int (i32 a8)), (9, .int (i32 a9))] ([]) 38 (k38 g a8 a9)) (hk293 : ∀ (g : zSt) (a8 : Int) (a9 : Int) (a13 : Int), zWo Y p l e (zra 3 34 4) s m args below meth c 16 3 34 (fun q : Int × zSt => MQ below (zQi Y0 q.1 q.2) args s 3 34 (zA Y0)) g [(0, .ref (zad Y 0)), (1, .ref (zad Y 400)), (2, .ref (zad Y 401)), (3, .ref (zad Y 402)), (4, .ref (zad Y 403)), (5, .ref (zad Y 410)), (6, .ref (zad Y 411)), (7, .ref (zad Y 412)), (8, .int (i32 a8)), (9, .int (i32 a9)), (13, .int (i32 a13))] ([]) 293 (k293 g a8 a9 a13)) : ∀ (g : zSt) (y0 : Int) (y1 : Int) (a8 : Int) (a9 : Int) (a13 : Int) (a14 : Int), zWo Y p l e (zra 3 34 4) s m args below meth c 16 3 34 (fun q : Int × zSt => MQ below (zQi Y0 q.1 q.2) args s 3 34 (zA Y0)) g [(0, .ref (zad Y 0)), (1, .ref (zad Y 400)), (2, .ref (zad Y 401)), (3, .ref (zad Y 402)), (4, .ref (zad Y 403)), (5, .ref (zad Y 410)), (6, .ref (zad Y 411)), (7, .ref (zad Y 412)), (8, .int (i32 a8)), (9, .int (i32 a9)), (13, .int (i32 a13)), (14, .int (i32 a14))] (.int (i32 y1) :: .int (i32 y0) :: []) 482 (fL_told_p482 k38 k293 g y0 y1 a8 a9 a13 a14) := by
  intro g y0 y1 a8 a9 a13 a14
  unfold fL_told_p482
  refine zr_icmp_ne (pc' := 485) cx rfl (tgt := 565) dL_told_482 rfl ?_ ?_
  · refine zr_iconst (pc' := 566) cx rfl dL_told_565 ?_
    exact zr_zretU cx hup dL_told_566
  · refine zr_aload_n (pc' := 486) cx rfl 0 dL_told_485 rfl rfl ?_
    refine zr_iload (pc' := 488) cx rfl 9 dL_told_486 rfl ?_
    refine zr_iload (pc' := 490) cx rfl 10 dL_told_488 rfl ?_
    refine zr_iconst (pc' := 491) cx rfl dL_told_490 ?_
    refine zc_L_27 (pc' := 494) cx rfl  ⟨Nat.le_of_ble_eq_true rfl, Nat.le_of_ble_eq_true rfl⟩ ⟨Nat.le_of_ble_eq_true rfl, Nat.le_of_ble_eq_true rfl⟩ (Nat.le_of_ble_eq_true rfl) dL_told_491 (fun v6 => ?_)
    refine zr_iload (pc' := 496) cx rfl 9 dL_told_494 rfl ?_
    refine zr_if_ne (pc' := 499) cx rfl (tgt := 503) dL_told_496 rfl ?_ ?_
    · refine zr_aload_n (pc' := 504) cx rfl 1 dL_told_503 rfl rfl ?_
      refine zr_bipush (pc' := 506) cx rfl dL_told_504 (by decide +kernel) ?_
      refine zr_iload (pc' := 508) cx rfl 9 dL_told_506 rfl ?_
      refine zr_imul (pc' := 509) cx rfl dL_told_508 ?_
      refine zr_iconst (pc' := 510) cx rfl dL_told_509 ?_
      refine zr_iadd (pc' := 511) cx rfl dL_told_510 ?_
      refine zr_iload (pc' := 513) cx rfl 10 dL_told_511 rfl ?_
      refine zr_iadd (pc' := 514) cx rfl dL_told_513 ?_
      refine zr_iald (pc' := 515) cx rfl 16 zkc_400 (by decide) (L := 56) rfl dL_told_514 ?_
      refine zr_sub [0, 1, 2, 3, 4, 5, 6, 7, 8, 9, 10, 11] rfl ?_
      exact wL_told_p515 cx hlv hup hk38 hk293 g v6 (g.1 400 (Int.toNat (((8 * a9) + 3) + a13))) a8 a9 a13 a14
    · refine zr_iconst (pc' := 500) cx rfl dL_told_499 ?_
      refine zr_gotoS cx (tgt := 515) dL_told_500 rfl ?_
      refine zr_sub [0, 1, 2, 3, 4, 5, 6, 7, 8, 9, 10, 11] rfl ?_
      exact wL_told_p515 cx hlv hup hk38 hk293 g v6 (-1) a8 a9 a13 a14
theorem wL_told_p451 (cx : zCx Y p s m args meth c RL cL_told 16 (some .boolean)) (hlv : zlv Y = 1) (hup : zUq Y0 Y s) {k38 : zSt → Int → Int → Option (Int × zSt)} {k293 : zSt → Int → Int → Int → Option (Int × zSt)} (hk38 : ∀ (g : zSt) (a8 : Int) (a9 : Int), zWo Y p l e (zra 3 34 4) s m args below meth c 16 3 34 (fun q : Int × zSt => MQ below (zQi Y0 q.1 q.2) args s 3 34 (zA Y0)) g [(0, .ref (zad Y 0)), (1, .ref (zad Y 400)), (2, .ref (zad Y 401)), (3, .ref (zad Y 402)), (4, .ref (zad Y 403)), (5, .ref (zad Y 410)), (6, .ref (zad Y 411)), (7, .ref (zad Y 412)), (8, .int (i32 a8)), (9, .int (i32 a9))] ([]) 38 (k38 g a8 a9)) (hk293 : ∀ (g : zSt) (a8 : Int) (a9 : Int) (a13 : Int), zWo Y p l e (zra 3 34 4) s m args below meth c 16 3 34 (fun q : Int × zSt => MQ below (zQi Y0 q.1 q.2) args s 3 34 (zA Y0)) g [(0, .ref (zad Y 0)), (1, .ref (zad Y 400)), (2, .ref (zad Y 401)), (3, .ref (zad Y 402)), (4, .ref (zad Y 403)), (5, .ref (zad Y 410)), (6, .ref (zad Y 411)), (7, .ref (zad Y 412)), (8, .int (i32 a8)), (9, .int (i32 a9)), (13, .int (i32 a13))] ([]) 293 (k293 g a8 a9 a13)) : ∀ (g : zSt) (y0 : Int) (y1 : Int) (a8 : Int) (a9 : Int) (a13 : Int) (a14 : Int) (a15 : Int), zWo Y p l e (zra 3 34 4) s m args below meth c 16 3 34 (fun q : Int × zSt => MQ below (zQi Y0 q.1 q.2) args s 3 34 (zA Y0)) g [(0, .ref (zad Y 0)), (1, .ref (zad Y 400)), (2, .ref (zad Y 401)), (3, .ref (zad Y 402)), (4, .ref (zad Y 403)), (5, .ref (zad Y 410)), (6, .ref (zad Y 411)), (7, .ref (zad Y 412)), (8, .int (i32 a8)), (9, .int (i32 a9)), (13, .int (i32 a13)), (14, .int (i32 a14)), (15, .int (i32 a15))] (.int (i32 y1) :: .int (i32 y0) :: []) 451 (fL_told_p451 k38 k293 g y0 y1 a8 a9 a13 a14 a15) := by
  intro g y0 y1 a8 a9 a13 a14 a15
  unfold fL_told_p451
  refine zr_icmp_ne (pc' := 454) cx rfl (tgt := 565) dL_told_451 rfl ?_ ?_
  · refine zr_iconst (pc' := 566) cx rfl dL_told_565 ?_
    exact zr_zretU cx hup dL_told_566
  · refine zr_aload_n (pc' := 455) cx rfl 0 dL_told_454 rfl rfl ?_
    refine zr_iload (pc' := 457) cx rfl 9 dL_told_455 rfl ?_
    refine zr_iload (pc' := 459) cx rfl 10 dL_told_457 rfl ?_
    refine zr_iconst (pc' := 460) cx rfl dL_told_459 ?_
    refine zc_L_27 (pc' := 463) cx rfl  ⟨Nat.le_of_ble_eq_true rfl, Nat.le_of_ble_eq_true rfl⟩ ⟨Nat.le_of_ble_eq_true rfl, Nat.le_of_ble_eq_true rfl⟩ (Nat.le_of_ble_eq_true rfl) dL_told_460 (fun v7 => ?_)
    refine zr_iload (pc' := 465) cx rfl 12 dL_told_463 rfl ?_
    refine zr_if_eq (pc' := 468) cx rfl (tgt := 481) dL_told_465 rfl ?_ ?_
    · refine zr_iconst (pc' := 482) cx rfl dL_told_481 ?_
      refine zr_sub [0, 1, 2, 3, 4, 5, 6, 7, 8, 9, 10, 11] rfl ?_
      exact wL_told_p482 cx hlv hup hk38 hk293 g v7 0 a8 a9 a13 a14
    · refine zr_aload (pc' := 470) cx rfl 6 dL_told_468 rfl ?_
      refine zr_iconst (pc' := 471) cx rfl dL_told_470 ?_
      refine zr_iload (pc' := 473) cx rfl 9 dL_told_471 rfl ?_
      refine zr_imul (pc' := 474) cx rfl dL_told_473 ?_
      refine zr_iload (pc' := 476) cx rfl 10 dL_told_474 rfl ?_
      refine zr_iadd (pc' := 477) cx rfl dL_told_476 ?_
      refine zr_iald (pc' := 478) cx rfl 18 (zkc_411 hlv) (by decide) (L := 14) rfl dL_told_477 ?_
      refine zr_gotoS cx (tgt := 482) dL_told_478 rfl ?_
      refine zr_sub [0, 1, 2, 3, 4, 5, 6, 7, 8, 9, 10, 11] rfl ?_
      exact wL_told_p482 cx hlv hup hk38 hk293 g v7 (g.1 411 (Int.toNat ((2 * a9) + a13))) a8 a9 a13 a14
theorem wL_told_p405 (cx : zCx Y p s m args meth c RL cL_told 16 (some .boolean)) (hlv : zlv Y = 1) (hup : zUq Y0 Y s) {k38 : zSt → Int → Int → Option (Int × zSt)} {k293 : zSt → Int → Int → Int → Option (Int × zSt)} (hk38 : ∀ (g : zSt) (a8 : Int) (a9 : Int), zWo Y p l e (zra 3 34 4) s m args below meth c 16 3 34 (fun q : Int × zSt => MQ below (zQi Y0 q.1 q.2) args s 3 34 (zA Y0)) g [(0, .ref (zad Y 0)), (1, .ref (zad Y 400)), (2, .ref (zad Y 401)), (3, .ref (zad Y 402)), (4, .ref (zad Y 403)), (5, .ref (zad Y 410)), (6, .ref (zad Y 411)), (7, .ref (zad Y 412)), (8, .int (i32 a8)), (9, .int (i32 a9))] ([]) 38 (k38 g a8 a9)) (hk293 : ∀ (g : zSt) (a8 : Int) (a9 : Int) (a13 : Int), zWo Y p l e (zra 3 34 4) s m args below meth c 16 3 34 (fun q : Int × zSt => MQ below (zQi Y0 q.1 q.2) args s 3 34 (zA Y0)) g [(0, .ref (zad Y 0)), (1, .ref (zad Y 400)), (2, .ref (zad Y 401)), (3, .ref (zad Y 402)), (4, .ref (zad Y 403)), (5, .ref (zad Y 410)), (6, .ref (zad Y 411)), (7, .ref (zad Y 412)), (8, .int (i32 a8)), (9, .int (i32 a9)), (13, .int (i32 a13))] ([]) 293 (k293 g a8 a9 a13)) : ∀ (g : zSt) (y0 : Int) (y1 : Int) (a9 : Int) (a13 : Int) (a14 : Int) (a15 : Int), zWo Y p l e (zra 3 34 4) s m args below meth c 16 3 34 (fun q : Int × zSt => MQ below (zQi Y0 q.1 q.2) args s 3 34 (zA Y0)) g [(0, .ref (zad Y 0)), (1, .ref (zad Y 400)), (2, .ref (zad Y 401)), (3, .ref (zad Y 402)), (4, .ref (zad Y 403)), (5, .ref (zad Y 410)), (6, .ref (zad Y 411)), (7, .ref (zad Y 412)), (9, .int (i32 a9)), (13, .int (i32 a13)), (14, .int (i32 a14)), (15, .int (i32 a15))] (.int (i32 y1) :: .int (i32 y0) :: []) 405 (fL_told_p405 k38 k293 g y0 y1 a9 a13 a14 a15) := by
  intro g y0 y1 a9 a13 a14 a15
  unfold fL_told_p405
  refine zr_iadd (pc' := 406) cx rfl dL_told_405 ?_
  refine zr_leti (fun x8 => ?_)
  refine zr_istore (pc' := 408) cx rfl (lv' := [(8, .int (i32 x8)), (0, .ref (zad Y 0)), (1, .ref (zad Y 400)), (2, .ref (zad Y 401)), (3, .ref (zad Y 402)), (4, .ref (zad Y 403)), (5, .ref (zad Y 410)), (6, .ref (zad Y 411)), (7, .ref (zad Y 412)), (9, .int (i32 a9)), (13, .int (i32 a13)), (14, .int (i32 a14)), (15, .int (i32 a15))]) dL_told_406 (by decide) rfl ?_
  refine zr_aload_n (pc' := 409) cx rfl 1 dL_told_408 rfl rfl ?_
  refine zr_iload (pc' := 411) cx rfl 9 dL_told_409 rfl ?_
  refine zr_iload (pc' := 413) cx rfl 10 dL_told_411 rfl ?_
  refine zr_iconst (pc' := 414) cx rfl dL_told_413 ?_
  refine zc_L_27 (pc' := 417) cx rfl  ⟨Nat.le_of_ble_eq_true rfl, Nat.le_of_ble_eq_true rfl⟩ ⟨Nat.le_of_ble_eq_true rfl, Nat.le_of_ble_eq_true rfl⟩ (Nat.le_of_ble_eq_true rfl) dL_told_414 (fun v9 => ?_)
  refine zr_aload (pc' := 419) cx rfl 6 dL_told_417 rfl ?_
  refine zr_iconst (pc' := 420) cx rfl dL_told_419 ?_
  refine zr_iload (pc' := 422) cx rfl 9 dL_told_420 rfl ?_
  refine zr_imul (pc' := 423) cx rfl dL_told_422 ?_
  refine zr_iload (pc' := 425) cx rfl 10 dL_told_423 rfl ?_
  refine zr_iadd (pc' := 426) cx rfl dL_told_425 ?_
  refine zr_iald (pc' := 427) cx rfl 18 (zkc_410 hlv) (by decide) (L := 14) rfl dL_told_426 ?_
  refine zr_iconst (pc' := 428) cx rfl dL_told_427 ?_
  refine zr_irem (pc' := 429) cx rfl (by decide +kernel) dL_told_428 ?_
  refine zr_icmp_ne (pc' := 432) cx rfl (tgt := 565) dL_told_429 rfl ?_ ?_
  · refine zr_iconst (pc' := 566) cx rfl dL_told_565 ?_
    exact zr_zretU cx hup dL_told_566
  · refine zr_aload_n (pc' := 433) cx rfl 1 dL_told_432 rfl rfl ?_
    refine zr_iload (pc' := 435) cx rfl 9 dL_told_433 rfl ?_
    refine zr_iload (pc' := 437) cx rfl 10 dL_told_435 rfl ?_
    refine zr_iconst (pc' := 438) cx rfl dL_told_437 ?_
    refine zc_L_27 (pc' := 441) cx rfl  ⟨Nat.le_of_ble_eq_true rfl, Nat.le_of_ble_eq_true rfl⟩ ⟨Nat.le_of_ble_eq_true rfl, Nat.le_of_ble_eq_true rfl⟩ (Nat.le_of_ble_eq_true rfl) dL_told_438 (fun v10 => ?_)
    refine zr_iload (pc' := 443) cx rfl 12 dL_told_441 rfl ?_
    refine zr_if_eq (pc' := 446) cx rfl (tgt := 450) dL_told_443 rfl ?_ ?_
    · refine zr_iconst (pc' := 451) cx rfl dL_told_450 ?_
      refine zr_sub [1, 2, 3, 4, 5, 6, 7, 8, 0, 9, 10, 11, 12] rfl ?_
      exact wL_told_p451 cx hlv hup hk38 hk293 g v10 0 x8 a9 a13 a14 a15
    · refine zr_iconst (pc' := 447) cx rfl dL_told_446 ?_
      refine zr_gotoS cx (tgt := 451) dL_told_447 rfl ?_
      refine zr_sub [1, 2, 3, 4, 5, 6, 7, 8, 0, 9, 10, 11, 12] rfl ?_
      exact wL_told_p451 cx hlv hup hk38 hk293 g v10 1 x8 a9 a13 a14 a15
theorem wL_told_p380 (cx : zCx Y p s m args meth c RL cL_told 16 (some .boolean)) (hlv : zlv Y = 1) (hup : zUq Y0 Y s) {k38 : zSt → Int → Int → Option (Int × zSt)} {k293 : zSt → Int → Int → Int → Option (Int × zSt)} (hk38 : ∀ (g : zSt) (a8 : Int) (a9 : Int), zWo Y p l e (zra 3 34 4) s m args below meth c 16 3 34 (fun q : Int × zSt => MQ below (zQi Y0 q.1 q.2) args s 3 34 (zA Y0)) g [(0, .ref (zad Y 0)), (1, .ref (zad Y 400)), (2, .ref (zad Y 401)), (3, .ref (zad Y 402)), (4, .ref (zad Y 403)), (5, .ref (zad Y 410)), (6, .ref (zad Y 411)), (7, .ref (zad Y 412)), (8, .int (i32 a8)), (9, .int (i32 a9))] ([]) 38 (k38 g a8 a9)) (hk293 : ∀ (g : zSt) (a8 : Int) (a9 : Int) (a13 : Int), zWo Y p l e (zra 3 34 4) s m args below meth c 16 3 34 (fun q : Int × zSt => MQ below (zQi Y0 q.1 q.2) args s 3 34 (zA Y0)) g [(0, .ref (zad Y 0)), (1, .ref (zad Y 400)), (2, .ref (zad Y 401)), (3, .ref (zad Y 402)), (4, .ref (zad Y 403)), (5, .ref (zad Y 410)), (6, .ref (zad Y 411)), (7, .ref (zad Y 412)), (8, .int (i32 a8)), (9, .int (i32 a9)), (13, .int (i32 a13))] ([]) 293 (k293 g a8 a9 a13)) : ∀ (g : zSt) (y0 : Int) (a8 : Int) (a9 : Int) (a13 : Int) (a14 : Int), zWo Y p l e (zra 3 34 4) s m args below meth c 16 3 34 (fun q : Int × zSt => MQ below (zQi Y0 q.1 q.2) args s 3 34 (zA Y0)) g [(0, .ref (zad Y 0)), (1, .ref (zad Y 400)), (2, .ref (zad Y 401)), (3, .ref (zad Y 402)), (4, .ref (zad Y 403)), (5, .ref (zad Y 410)), (6, .ref (zad Y 411)), (7, .ref (zad Y 412)), (8, .int (i32 a8)), (9, .int (i32 a9)), (13, .int (i32 a13)), (14, .int (i32 a14))] (.int (i32 y0) :: []) 380 (fL_told_p380 k38 k293 g y0 a8 a9 a13 a14) := by
  intro g y0 a8 a9 a13 a14
  unfold fL_told_p380
  refine zr_istore (pc' := 382) cx rfl (lv' := [(15, .int (i32 y0)), (0, .ref (zad Y 0)), (1, .ref (zad Y 400)), (2, .ref (zad Y 401)), (3, .ref (zad Y 402)), (4, .ref (zad Y 403)), (5, .ref (zad Y 410)), (6, .ref (zad Y 411)), (7, .ref (zad Y 412)), (8, .int (i32 a8)), (9, .int (i32 a9)), (13, .int (i32 a13)), (14, .int (i32 a14))]) dL_told_380 (by decide) rfl ?_
  refine zr_iload (pc' := 384) cx rfl 9 dL_told_382 rfl ?_
  refine zr_iload (pc' := 386) cx rfl 10 dL_told_384 rfl ?_
  refine zr_if_le (pc' := 389) cx rfl (tgt := 404) dL_told_386 rfl ?_ ?_
  · refine zr_iconst (pc' := 405) cx rfl dL_told_404 ?_
    refine zr_sub [1, 2, 3, 4, 5, 6, 7, 8, 10, 11, 12, 0] rfl ?_
    exact wL_told_p405 cx hlv hup hk38 hk293 g a8 0 a9 a13 a14 y0
  · refine zr_aload_n (pc' := 390) cx rfl 2 dL_told_389 rfl rfl ?_
    refine zr_bipush (pc' := 392) cx rfl dL_told_390 (by decide +kernel) ?_
    refine zr_iload (pc' := 394) cx rfl 10 dL_told_392 rfl ?_
    refine zr_imul (pc' := 395) cx rfl dL_told_394 ?_
    refine zr_iconst (pc' := 396) cx rfl dL_told_395 ?_
    refine zr_iadd (pc' := 397) cx rfl dL_told_396 ?_
    refine zr_iload (pc' := 399) cx rfl 11 dL_told_397 rfl ?_
    refine zr_iadd (pc' := 400) cx rfl dL_told_399 ?_
    refine zr_iald (pc' := 401) cx rfl 16 zkc_400 (by decide) (L := 56) rfl dL_told_400 ?_
    refine zr_gotoS cx (tgt := 405) dL_told_401 rfl ?_
    refine zr_sub [1, 2, 3, 4, 5, 6, 7, 8, 10, 11, 12, 0] rfl ?_
    exact wL_told_p405 cx hlv hup hk38 hk293 g a8 (g.1 400 (Int.toNat (((8 * a9) + 5) + a13))) a9 a13 a14 y0
theorem wL_told_p305 (cx : zCx Y p s m args meth c RL cL_told 16 (some .boolean)) (hlv : zlv Y = 1) (hup : zUq Y0 Y s) {k38 : zSt → Int → Int → Option (Int × zSt)} {k293 : zSt → Int → Int → Int → Option (Int × zSt)} (hk38 : ∀ (g : zSt) (a8 : Int) (a9 : Int), zWo Y p l e (zra 3 34 4) s m args below meth c 16 3 34 (fun q : Int × zSt => MQ below (zQi Y0 q.1 q.2) args s 3 34 (zA Y0)) g [(0, .ref (zad Y 0)), (1, .ref (zad Y 400)), (2, .ref (zad Y 401)), (3, .ref (zad Y 402)), (4, .ref (zad Y 403)), (5, .ref (zad Y 410)), (6, .ref (zad Y 411)), (7, .ref (zad Y 412)), (8, .int (i32 a8)), (9, .int (i32 a9))] ([]) 38 (k38 g a8 a9)) (hk293 : ∀ (g : zSt) (a8 : Int) (a9 : Int) (a13 : Int), zWo Y p l e (zra 3 34 4) s m args below meth c 16 3 34 (fun q : Int × zSt => MQ below (zQi Y0 q.1 q.2) args s 3 34 (zA Y0)) g [(0, .ref (zad Y 0)), (1, .ref (zad Y 400)), (2, .ref (zad Y 401)), (3, .ref (zad Y 402)), (4, .ref (zad Y 403)), (5, .ref (zad Y 410)), (6, .ref (zad Y 411)), (7, .ref (zad Y 412)), (8, .int (i32 a8)), (9, .int (i32 a9)), (13, .int (i32 a13))] ([]) 293 (k293 g a8 a9 a13)) : ∀ (fu : Nat) (g : zSt) (a8 : Int) (a9 : Int) (a13 : Int) (a14 : Int) (a15 : Int), zWo Y p l e (zra 3 34 4) s m args below meth c 16 3 34 (fun q : Int × zSt => MQ below (zQi Y0 q.1 q.2) args s 3 34 (zA Y0)) g [(0, .ref (zad Y 0)), (1, .ref (zad Y 400)), (2, .ref (zad Y 401)), (3, .ref (zad Y 402)), (4, .ref (zad Y 403)), (5, .ref (zad Y 410)), (6, .ref (zad Y 411)), (7, .ref (zad Y 412)), (8, .int (i32 a8)), (9, .int (i32 a9)), (13, .int (i32 a13)), (14, .int (i32 a14)), (15, .int (i32 a15))] ([]) 305 (fL_told_p305 k38 k293 fu g a8 a9 a13 a14 a15) := by
  intro fu
  induction fu with
  | zero => intro g a8 a9 a13 a14 a15; exact zr_none
  | succ fu ih =>
    intro g a8 a9 a13 a14 a15
    rw [fL_told_p305]
    refine zr_iload (pc' := 307) cx rfl 12 dL_told_305 rfl ?_
    refine zr_aload (pc' := 309) cx rfl 4 dL_told_307 rfl ?_
    refine zr_iconst (pc' := 310) cx rfl dL_told_309 ?_
    refine zr_iald (pc' := 311) cx rfl 13 zkc_403 (by decide) (L := 9) rfl dL_told_310 ?_
    refine zr_icmp_ge (pc' := 314) cx rfl (tgt := 361) dL_told_311 rfl ?_ ?_
    · refine zr_aload (pc' := 363) cx rfl 5 dL_told_361 rfl ?_
      refine zr_iconst (pc' := 364) cx rfl dL_told_363 ?_
      refine zr_iload (pc' := 366) cx rfl 9 dL_told_364 rfl ?_
      refine zr_imul (pc' := 367) cx rfl dL_told_366 ?_
      refine zr_iload (pc' := 369) cx rfl 10 dL_told_367 rfl ?_
      refine zr_iadd (pc' := 370) cx rfl dL_told_369 ?_
      refine zr_iald (pc' := 371) cx rfl 18 (zkc_410 hlv) (by decide) (L := 14) rfl dL_told_370 ?_
      refine zr_iconst (pc' := 372) cx rfl dL_told_371 ?_
      refine zr_icmp_le (pc' := 375) cx rfl (tgt := 379) dL_told_372 rfl ?_ ?_
      · refine zr_iconst (pc' := 380) cx rfl dL_told_379 ?_
        refine zr_sub [0, 1, 2, 3, 4, 5, 6, 7, 8, 9, 10, 11] rfl ?_
        exact wL_told_p380 cx hlv hup hk38 hk293 g 0 a8 a9 a13 a14
      · refine zr_iconst (pc' := 376) cx rfl dL_told_375 ?_
        refine zr_gotoS cx (tgt := 380) dL_told_376 rfl ?_
        refine zr_sub [0, 1, 2, 3, 4, 5, 6, 7, 8, 9, 10, 11] rfl ?_
        exact wL_told_p380 cx hlv hup hk38 hk293 g 1 a8 a9 a13 a14
    · refine zr_iload (pc' := 316) cx rfl 11 dL_told_314 rfl ?_
      refine zr_aload_n (pc' := 317) cx rfl 3 dL_told_316 rfl rfl ?_
      refine zr_iconst (pc' := 318) cx rfl dL_told_317 ?_
      refine zr_iload (pc' := 320) cx rfl 12 dL_told_318 rfl ?_
      refine zr_imul (pc' := 321) cx rfl dL_told_320 ?_
      refine zr_iald (pc' := 322) cx rfl 17 zkc_402 (by decide) (L := 18) rfl dL_told_321 ?_
      refine zr_iload (pc' := 324) cx rfl 9 dL_told_322 rfl ?_
      refine zr_icmp_ne (pc' := 327) cx rfl (tgt := 351) dL_told_324 rfl ?_ ?_
      · refine zr_iconst (pc' := 352) cx rfl dL_told_351 ?_
        refine zr_iadd (pc' := 353) cx rfl dL_told_352 ?_
        refine zr_leti (fun x11 => ?_)
        refine zr_istore (pc' := 355) cx rfl (lv' := [(14, .int (i32 x11)), (0, .ref (zad Y 0)), (1, .ref (zad Y 400)), (2, .ref (zad Y 401)), (3, .ref (zad Y 402)), (4, .ref (zad Y 403)), (5, .ref (zad Y 410)), (6, .ref (zad Y 411)), (7, .ref (zad Y 412)), (8, .int (i32 a8)), (9, .int (i32 a9)), (13, .int (i32 a13)), (15, .int (i32 a15))]) dL_told_353 (by decide) rfl ?_
        refine zr_iinc (pc' := 358) cx rfl (lv' := [(15, .int (i32 (a15 + 1))), (14, .int (i32 x11)), (0, .ref (zad Y 0)), (1, .ref (zad Y 400)), (2, .ref (zad Y 401)), (3, .ref (zad Y 402)), (4, .ref (zad Y 403)), (5, .ref (zad Y 410)), (6, .ref (zad Y 411)), (7, .ref (zad Y 412)), (8, .int (i32 a8)), (9, .int (i32 a9)), (13, .int (i32 a13))]) 12 dL_told_355 rfl (by decide) rfl ?_
        refine zr_goto cx (tgt := 305) dL_told_358 rfl ?_
        refine zr_sub [2, 3, 4, 5, 6, 7, 8, 9, 10, 11, 12, 1, 0] rfl ?_
        exact ih g a8 a9 a13 x11 (a15 + 1)
      · refine zr_aload_n (pc' := 328) cx rfl 3 dL_told_327 rfl rfl ?_
        refine zr_iconst (pc' := 329) cx rfl dL_told_328 ?_
        refine zr_iload (pc' := 331) cx rfl 12 dL_told_329 rfl ?_
        refine zr_imul (pc' := 332) cx rfl dL_told_331 ?_
        refine zr_iconst (pc' := 333) cx rfl dL_told_332 ?_
        refine zr_iadd (pc' := 334) cx rfl dL_told_333 ?_
        refine zr_iald (pc' := 335) cx rfl 17 zkc_402 (by decide) (L := 18) rfl dL_told_334 ?_
        refine zr_iload (pc' := 337) cx rfl 10 dL_told_335 rfl ?_
        refine zr_icmp_ne (pc' := 340) cx rfl (tgt := 351) dL_told_337 rfl ?_ ?_
        · refine zr_iconst (pc' := 352) cx rfl dL_told_351 ?_
          refine zr_iadd (pc' := 353) cx rfl dL_told_352 ?_
          refine zr_leti (fun x12 => ?_)
          refine zr_istore (pc' := 355) cx rfl (lv' := [(14, .int (i32 x12)), (0, .ref (zad Y 0)), (1, .ref (zad Y 400)), (2, .ref (zad Y 401)), (3, .ref (zad Y 402)), (4, .ref (zad Y 403)), (5, .ref (zad Y 410)), (6, .ref (zad Y 411)), (7, .ref (zad Y 412)), (8, .int (i32 a8)), (9, .int (i32 a9)), (13, .int (i32 a13)), (15, .int (i32 a15))]) dL_told_353 (by decide) rfl ?_
          refine zr_iinc (pc' := 358) cx rfl (lv' := [(15, .int (i32 (a15 + 1))), (14, .int (i32 x12)), (0, .ref (zad Y 0)), (1, .ref (zad Y 400)), (2, .ref (zad Y 401)), (3, .ref (zad Y 402)), (4, .ref (zad Y 403)), (5, .ref (zad Y 410)), (6, .ref (zad Y 411)), (7, .ref (zad Y 412)), (8, .int (i32 a8)), (9, .int (i32 a9)), (13, .int (i32 a13))]) 12 dL_told_355 rfl (by decide) rfl ?_
          refine zr_goto cx (tgt := 305) dL_told_358 rfl ?_
          refine zr_sub [2, 3, 4, 5, 6, 7, 8, 9, 10, 11, 12, 1, 0] rfl ?_
          exact ih g a8 a9 a13 x12 (a15 + 1)
        · refine zr_aload_n (pc' := 341) cx rfl 3 dL_told_340 rfl rfl ?_
          refine zr_iconst (pc' := 342) cx rfl dL_told_341 ?_
          refine zr_iload (pc' := 344) cx rfl 12 dL_told_342 rfl ?_
          refine zr_imul (pc' := 345) cx rfl dL_told_344 ?_
          refine zr_iconst (pc' := 346) cx rfl dL_told_345 ?_
          refine zr_iadd (pc' := 347) cx rfl dL_told_346 ?_
          refine zr_iald (pc' := 348) cx rfl 17 zkc_402 (by decide) (L := 18) rfl dL_told_347 ?_
          refine zr_gotoS cx (tgt := 352) dL_told_348 rfl ?_
          refine zr_iadd (pc' := 353) cx rfl dL_told_352 ?_
          refine zr_leti (fun x13 => ?_)
          refine zr_istore (pc' := 355) cx rfl (lv' := [(14, .int (i32 x13)), (0, .ref (zad Y 0)), (1, .ref (zad Y 400)), (2, .ref (zad Y 401)), (3, .ref (zad Y 402)), (4, .ref (zad Y 403)), (5, .ref (zad Y 410)), (6, .ref (zad Y 411)), (7, .ref (zad Y 412)), (8, .int (i32 a8)), (9, .int (i32 a9)), (13, .int (i32 a13)), (15, .int (i32 a15))]) dL_told_353 (by decide) rfl ?_
          refine zr_iinc (pc' := 358) cx rfl (lv' := [(15, .int (i32 (a15 + 1))), (14, .int (i32 x13)), (0, .ref (zad Y 0)), (1, .ref (zad Y 400)), (2, .ref (zad Y 401)), (3, .ref (zad Y 402)), (4, .ref (zad Y 403)), (5, .ref (zad Y 410)), (6, .ref (zad Y 411)), (7, .ref (zad Y 412)), (8, .int (i32 a8)), (9, .int (i32 a9)), (13, .int (i32 a13))]) 12 dL_told_355 rfl (by decide) rfl ?_
          refine zr_goto cx (tgt := 305) dL_told_358 rfl ?_
          refine zr_sub [2, 3, 4, 5, 6, 7, 8, 9, 10, 11, 12, 1, 0] rfl ?_
          exact ih g a8 a9 a13 x13 (a15 + 1)
theorem wL_told_p293 (cx : zCx Y p s m args meth c RL cL_told 16 (some .boolean)) (hlv : zlv Y = 1) (hup : zUq Y0 Y s) {k38 : zSt → Int → Int → Option (Int × zSt)} (hk38 : ∀ (g : zSt) (a8 : Int) (a9 : Int), zWo Y p l e (zra 3 34 4) s m args below meth c 16 3 34 (fun q : Int × zSt => MQ below (zQi Y0 q.1 q.2) args s 3 34 (zA Y0)) g [(0, .ref (zad Y 0)), (1, .ref (zad Y 400)), (2, .ref (zad Y 401)), (3, .ref (zad Y 402)), (4, .ref (zad Y 403)), (5, .ref (zad Y 410)), (6, .ref (zad Y 411)), (7, .ref (zad Y 412)), (8, .int (i32 a8)), (9, .int (i32 a9))] ([]) 38 (k38 g a8 a9)) : ∀ (fu : Nat) (g : zSt) (a8 : Int) (a9 : Int) (a13 : Int), zWo Y p l e (zra 3 34 4) s m args below meth c 16 3 34 (fun q : Int × zSt => MQ below (zQi Y0 q.1 q.2) args s 3 34 (zA Y0)) g [(0, .ref (zad Y 0)), (1, .ref (zad Y 400)), (2, .ref (zad Y 401)), (3, .ref (zad Y 402)), (4, .ref (zad Y 403)), (5, .ref (zad Y 410)), (6, .ref (zad Y 411)), (7, .ref (zad Y 412)), (8, .int (i32 a8)), (9, .int (i32 a9)), (13, .int (i32 a13))] ([]) 293 (fL_told_p293 k38 fu g a8 a9 a13) := by
  intro fu
  induction fu with
  | zero => intro g a8 a9 a13; exact zr_none
  | succ fu ih =>
    intro g a8 a9 a13
    rw [fL_told_p293]
    refine zr_iload (pc' := 295) cx rfl 10 dL_told_293 rfl ?_
    refine zr_iconst (pc' := 296) cx rfl dL_told_295 ?_
    refine zr_icmp_ge (pc' := 299) cx rfl (tgt := 573) dL_told_296 rfl ?_ ?_
    · refine zr_iinc (pc' := 576) cx rfl (lv' := [(9, .int (i32 (a9 + 1))), (0, .ref (zad Y 0)), (1, .ref (zad Y 400)), (2, .ref (zad Y 401)), (3, .ref (zad Y 402)), (4, .ref (zad Y 403)), (5, .ref (zad Y 410)), (6, .ref (zad Y 411)), (7, .ref (zad Y 412)), (8, .int (i32 a8)), (13, .int (i32 a13))]) 9 dL_told_573 rfl (by decide) rfl ?_
      refine zr_goto cx (tgt := 38) dL_told_576 rfl ?_
      refine zr_sub [1, 2, 3, 4, 5, 6, 7, 8, 9, 0] rfl ?_
      exact hk38 g a8 (a9 + 1)
    · refine zr_iconst (pc' := 300) cx rfl dL_told_299 ?_
      refine zr_istore (pc' := 302) cx rfl (lv' := [(14, .int (i32 0)), (0, .ref (zad Y 0)), (1, .ref (zad Y 400)), (2, .ref (zad Y 401)), (3, .ref (zad Y 402)), (4, .ref (zad Y 403)), (5, .ref (zad Y 410)), (6, .ref (zad Y 411)), (7, .ref (zad Y 412)), (8, .int (i32 a8)), (9, .int (i32 a9)), (13, .int (i32 a13))]) dL_told_300 (by decide) rfl ?_
      refine zr_iconst (pc' := 303) cx rfl dL_told_302 ?_
      refine zr_istore (pc' := 305) cx rfl (lv' := [(15, .int (i32 0)), (14, .int (i32 0)), (0, .ref (zad Y 0)), (1, .ref (zad Y 400)), (2, .ref (zad Y 401)), (3, .ref (zad Y 402)), (4, .ref (zad Y 403)), (5, .ref (zad Y 410)), (6, .ref (zad Y 411)), (7, .ref (zad Y 412)), (8, .int (i32 a8)), (9, .int (i32 a9)), (13, .int (i32 a13))]) dL_told_303 (by decide) rfl ?_
      refine zr_sub [2, 3, 4, 5, 6, 7, 8, 9, 10, 11, 12, 1, 0] rfl ?_
      exact wL_told_p305 cx hlv hup hk38 ih zfu g a8 a9 a13 0 0
theorem wL_told_p187 (cx : zCx Y p s m args meth c RL cL_told 16 (some .boolean)) (hlv : zlv Y = 1) (hup : zUq Y0 Y s) {k38 : zSt → Int → Int → Option (Int × zSt)} (hk38 : ∀ (g : zSt) (a8 : Int) (a9 : Int), zWo Y p l e (zra 3 34 4) s m args below meth c 16 3 34 (fun q : Int × zSt => MQ below (zQi Y0 q.1 q.2) args s 3 34 (zA Y0)) g [(0, .ref (zad Y 0)), (1, .ref (zad Y 400)), (2, .ref (zad Y 401)), (3, .ref (zad Y 402)), (4, .ref (zad Y 403)), (5, .ref (zad Y 410)), (6, .ref (zad Y 411)), (7, .ref (zad Y 412)), (8, .int (i32 a8)), (9, .int (i32 a9))] ([]) 38 (k38 g a8 a9)) : ∀ (fu : Nat) (g : zSt) (a8 : Int) (a9 : Int) (a10 : Int) (a11 : Int) (a12 : Int) (a13 : Int), zWo Y p l e (zra 3 34 4) s m args below meth c 16 3 34 (fun q : Int × zSt => MQ below (zQi Y0 q.1 q.2) args s 3 34 (zA Y0)) g [(0, .ref (zad Y 0)), (1, .ref (zad Y 400)), (2, .ref (zad Y 401)), (3, .ref (zad Y 402)), (4, .ref (zad Y 403)), (5, .ref (zad Y 410)), (6, .ref (zad Y 411)), (7, .ref (zad Y 412)), (8, .int (i32 a8)), (9, .int (i32 a9)), (10, .int (i32 a10)), (11, .int (i32 a11)), (12, .int (i32 a12)), (13, .int (i32 a13))] ([]) 187 (fL_told_p187 k38 fu g a8 a9 a10 a11 a12 a13) := by
  intro fu
  induction fu with
  | zero => intro g a8 a9 a10 a11 a12 a13; exact zr_none
  | succ fu ih =>
    intro g a8 a9 a10 a11 a12 a13
    rw [fL_told_p187]
    refine zr_iload (pc' := 189) cx rfl 13 dL_told_187 rfl ?_
    refine zr_iconst (pc' := 190) cx rfl dL_told_189 ?_
    refine zr_icmp_ge (pc' := 193) cx rfl (tgt := 231) dL_told_190 rfl ?_ ?_
    · refine zr_aload_n (pc' := 232) cx rfl 0 dL_told_231 rfl rfl ?_
      refine zr_iload (pc' := 234) cx rfl 9 dL_told_232 rfl ?_
      refine zr_iconst (pc' := 235) cx rfl dL_told_234 ?_
      refine zc_L_21 (pc' := 238) cx rfl  ⟨Nat.le_of_ble_eq_true rfl, Nat.le_of_ble_eq_true rfl⟩ ⟨Nat.le_of_ble_eq_true rfl, Nat.le_of_ble_eq_true rfl⟩ (Nat.le_of_ble_eq_true rfl) dL_told_235 (fun v14 => ?_)
      refine zr_aload_n (pc' := 239) cx rfl 1 dL_told_238 rfl rfl ?_
      refine zr_bipush (pc' := 241) cx rfl dL_told_239 (by decide +kernel) ?_
      refine zr_iload (pc' := 243) cx rfl 9 dL_told_241 rfl ?_
      refine zr_imul (pc' := 244) cx rfl dL_told_243 ?_
      refine zr_bipush (pc' := 246) cx rfl dL_told_244 (by decide +kernel) ?_
      refine zr_iadd (pc' := 247) cx rfl dL_told_246 ?_
      refine zr_iald (pc' := 248) cx rfl 16 zkc_400 (by decide) (L := 56) rfl dL_told_247 ?_
      refine zr_icmp_ne (pc' := 251) cx rfl (tgt := 288) dL_told_248 rfl ?_ ?_
      · refine zr_iconst (pc' := 289) cx rfl dL_told_288 ?_
        exact zr_zretU cx hup dL_told_289
      · refine zr_aload_n (pc' := 252) cx rfl 0 dL_told_251 rfl rfl ?_
        refine zr_iload (pc' := 254) cx rfl 9 dL_told_252 rfl ?_
        refine zr_iconst (pc' := 255) cx rfl dL_told_254 ?_
        refine zc_L_21 (pc' := 258) cx rfl  ⟨Nat.le_of_ble_eq_true rfl, Nat.le_of_ble_eq_true rfl⟩ ⟨Nat.le_of_ble_eq_true rfl, Nat.le_of_ble_eq_true rfl⟩ (Nat.le_of_ble_eq_true rfl) dL_told_255 (fun v15 => ?_)
        refine zr_iload (pc' := 260) cx rfl 10 dL_told_258 rfl ?_
        refine zr_icmp_ne (pc' := 263) cx rfl (tgt := 288) dL_told_260 rfl ?_ ?_
        · refine zr_iconst (pc' := 289) cx rfl dL_told_288 ?_
          exact zr_zretU cx hup dL_told_289
        · refine zr_aload_n (pc' := 264) cx rfl 0 dL_told_263 rfl rfl ?_
          refine zr_iload (pc' := 266) cx rfl 9 dL_told_264 rfl ?_
          refine zr_iconst (pc' := 267) cx rfl dL_told_266 ?_
          refine zc_L_21 (pc' := 270) cx rfl  ⟨Nat.le_of_ble_eq_true rfl, Nat.le_of_ble_eq_true rfl⟩ ⟨Nat.le_of_ble_eq_true rfl, Nat.le_of_ble_eq_true rfl⟩ (Nat.le_of_ble_eq_true rfl) dL_told_267 (fun v16 => ?_)
          refine zr_iload (pc' := 272) cx rfl 11 dL_told_270 rfl ?_
          refine zr_icmp_ne (pc' := 275) cx rfl (tgt := 288) dL_told_272 rfl ?_ ?_
          · refine zr_iconst (pc' := 289) cx rfl dL_told_288 ?_
            exact zr_zretU cx hup dL_told_289
          · refine zr_aload_n (pc' := 276) cx rfl 0 dL_told_275 rfl rfl ?_
            refine zr_iload (pc' := 278) cx rfl 9 dL_told_276 rfl ?_
            refine zr_bipush (pc' := 280) cx rfl dL_told_278 (by decide +kernel) ?_
            refine zc_L_21 (pc' := 283) cx rfl  ⟨Nat.le_of_ble_eq_true rfl, Nat.le_of_ble_eq_true rfl⟩ ⟨Nat.le_of_ble_eq_true rfl, Nat.le_of_ble_eq_true rfl⟩ (Nat.le_of_ble_eq_true rfl) dL_told_280 (fun v17 => ?_)
            refine zr_iload (pc' := 285) cx rfl 12 dL_told_283 rfl ?_
            refine zr_icmp_eq (pc' := 288) cx rfl (tgt := 290) dL_told_285 rfl ?_ ?_
            · refine zr_iconst (pc' := 291) cx rfl dL_told_290 ?_
              refine zr_istore (pc' := 293) cx rfl (lv' := [(13, .int (i32 0)), (0, .ref (zad Y 0)), (1, .ref (zad Y 400)), (2, .ref (zad Y 401)), (3, .ref (zad Y 402)), (4, .ref (zad Y 403)), (5, .ref (zad Y 410)), (6, .ref (zad Y 411)), (7, .ref (zad Y 412)), (8, .int (i32 a8)), (9, .int (i32 a9)), (10, .int (i32 a10)), (11, .int (i32 a11)), (12, .int (i32 a12))]) dL_told_291 (by decide) rfl ?_
              refine zr_sub [1, 2, 3, 4, 5, 6, 7, 8, 9, 10, 0] rfl ?_
              exact wL_told_p293 cx hlv hup hk38 zfu g a8 a9 0
            · refine zr_iconst (pc' := 289) cx rfl dL_told_288 ?_
              exact zr_zretU cx hup dL_told_289
    · refine zr_aload_n (pc' := 194) cx rfl 0 dL_told_193 rfl rfl ?_
      refine zr_iload (pc' := 196) cx rfl 9 dL_told_194 rfl ?_
      refine zr_iload (pc' := 198) cx rfl 13 dL_told_196 rfl ?_
      refine zc_L_21 (pc' := 201) cx rfl  ⟨Nat.le_of_ble_eq_true rfl, Nat.le_of_ble_eq_true rfl⟩ ⟨Nat.le_of_ble_eq_true rfl, Nat.le_of_ble_eq_true rfl⟩ (Nat.le_of_ble_eq_true rfl) dL_told_198 (fun v18 => ?_)
      refine zr_iload (pc' := 203) cx rfl 9 dL_told_201 rfl ?_
      refine zr_if_ne (pc' := 206) cx rfl (tgt := 210) dL_told_203 rfl ?_ ?_
      · refine zr_aload_n (pc' := 211) cx rfl 1 dL_told_210 rfl rfl ?_
        refine zr_bipush (pc' := 213) cx rfl dL_told_211 (by decide +kernel) ?_
        refine zr_iload (pc' := 215) cx rfl 9 dL_told_213 rfl ?_
        refine zr_imul (pc' := 216) cx rfl dL_told_215 ?_
        refine zr_iload (pc' := 218) cx rfl 13 dL_told_216 rfl ?_
        refine zr_iadd (pc' := 219) cx rfl dL_told_218 ?_
        refine zr_iald (pc' := 220) cx rfl 16 zkc_400 (by decide) (L := 56) rfl dL_told_219 ?_
        refine zr_icmp_eq (pc' := 223) cx rfl (tgt := 225) dL_told_220 rfl ?_ ?_
        · refine zr_iinc (pc' := 228) cx rfl (lv' := [(13, .int (i32 (a13 + 1))), (0, .ref (zad Y 0)), (1, .ref (zad Y 400)), (2, .ref (zad Y 401)), (3, .ref (zad Y 402)), (4, .ref (zad Y 403)), (5, .ref (zad Y 410)), (6, .ref (zad Y 411)), (7, .ref (zad Y 412)), (8, .int (i32 a8)), (9, .int (i32 a9)), (10, .int (i32 a10)), (11, .int (i32 a11)), (12, .int (i32 a12))]) 13 dL_told_225 rfl (by decide) rfl ?_
          refine zr_goto cx (tgt := 187) dL_told_228 rfl ?_
          refine zr_sub [1, 2, 3, 4, 5, 6, 7, 8, 9, 10, 11, 12, 13, 0] rfl ?_
          exact ih g a8 a9 a10 a11 a12 (a13 + 1)
        · refine zr_iconst (pc' := 224) cx rfl dL_told_223 ?_
          exact zr_zretU cx hup dL_told_224
      · refine zr_iconst (pc' := 207) cx rfl dL_told_206 ?_
        refine zr_gotoS cx (tgt := 220) dL_told_207 rfl ?_
        refine zr_icmp_eq (pc' := 223) cx rfl (tgt := 225) dL_told_220 rfl ?_ ?_
        · refine zr_iinc (pc' := 228) cx rfl (lv' := [(13, .int (i32 (a13 + 1))), (0, .ref (zad Y 0)), (1, .ref (zad Y 400)), (2, .ref (zad Y 401)), (3, .ref (zad Y 402)), (4, .ref (zad Y 403)), (5, .ref (zad Y 410)), (6, .ref (zad Y 411)), (7, .ref (zad Y 412)), (8, .int (i32 a8)), (9, .int (i32 a9)), (10, .int (i32 a10)), (11, .int (i32 a11)), (12, .int (i32 a12))]) 13 dL_told_225 rfl (by decide) rfl ?_
          refine zr_goto cx (tgt := 187) dL_told_228 rfl ?_
          refine zr_sub [1, 2, 3, 4, 5, 6, 7, 8, 9, 10, 11, 12, 13, 0] rfl ?_
          exact ih g a8 a9 a10 a11 a12 (a13 + 1)
        · refine zr_iconst (pc' := 224) cx rfl dL_told_223 ?_
          exact zr_zretU cx hup dL_told_224
theorem wL_told_p120 (cx : zCx Y p s m args meth c RL cL_told 16 (some .boolean)) (hlv : zlv Y = 1) (hup : zUq Y0 Y s) {k38 : zSt → Int → Int → Option (Int × zSt)} (hk38 : ∀ (g : zSt) (a8 : Int) (a9 : Int), zWo Y p l e (zra 3 34 4) s m args below meth c 16 3 34 (fun q : Int × zSt => MQ below (zQi Y0 q.1 q.2) args s 3 34 (zA Y0)) g [(0, .ref (zad Y 0)), (1, .ref (zad Y 400)), (2, .ref (zad Y 401)), (3, .ref (zad Y 402)), (4, .ref (zad Y 403)), (5, .ref (zad Y 410)), (6, .ref (zad Y 411)), (7, .ref (zad Y 412)), (8, .int (i32 a8)), (9, .int (i32 a9))] ([]) 38 (k38 g a8 a9)) : ∀ (fu : Nat) (g : zSt) (a8 : Int) (a9 : Int) (a10 : Int) (a11 : Int) (a12 : Int) (a13 : Int), zWo Y p l e (zra 3 34 4) s m args below meth c 16 3 34 (fun q : Int × zSt => MQ below (zQi Y0 q.1 q.2) args s 3 34 (zA Y0)) g [(0, .ref (zad Y 0)), (1, .ref (zad Y 400)), (2, .ref (zad Y 401)), (3, .ref (zad Y 402)), (4, .ref (zad Y 403)), (5, .ref (zad Y 410)), (6, .ref (zad Y 411)), (7, .ref (zad Y 412)), (8, .int (i32 a8)), (9, .int (i32 a9)), (10, .int (i32 a10)), (11, .int (i32 a11)), (12, .int (i32 a12)), (13, .int (i32 a13))] ([]) 120 (fL_told_p120 k38 fu g a8 a9 a10 a11 a12 a13) := by
  intro fu
  induction fu with
  | zero => intro g a8 a9 a10 a11 a12 a13; exact zr_none
  | succ fu ih =>
    intro g a8 a9 a10 a11 a12 a13
    rw [fL_told_p120]
    refine zr_iload (pc' := 122) cx rfl 13 dL_told_120 rfl ?_
    refine zr_aload (pc' := 124) cx rfl 4 dL_told_122 rfl ?_
    refine zr_iconst (pc' := 125) cx rfl dL_told_124 ?_
    refine zr_iald (pc' := 126) cx rfl 13 zkc_403 (by decide) (L := 9) rfl dL_told_125 ?_
    refine zr_icmp_ge (pc' := 129) cx rfl (tgt := 184) dL_told_126 rfl ?_ ?_
    · refine zr_iconst (pc' := 185) cx rfl dL_told_184 ?_
      refine zr_istore (pc' := 187) cx rfl (lv' := [(13, .int (i32 0)), (0, .ref (zad Y 0)), (1, .ref (zad Y 400)), (2, .ref (zad Y 401)), (3, .ref (zad Y 402)), (4, .ref (zad Y 403)), (5, .ref (zad Y 410)), (6, .ref (zad Y 411)), (7, .ref (zad Y 412)), (8, .int (i32 a8)), (9, .int (i32 a9)), (10, .int (i32 a10)), (11, .int (i32 a11)), (12, .int (i32 a12))]) dL_told_185 (by decide) rfl ?_
      refine zr_sub [1, 2, 3, 4, 5, 6, 7, 8, 9, 10, 11, 12, 13, 0] rfl ?_
      exact wL_told_p187 cx hlv hup hk38 zfu g a8 a9 a10 a11 a12 0
    · refine zr_aload_n (pc' := 130) cx rfl 2 dL_told_129 rfl rfl ?_
      refine zr_iconst (pc' := 131) cx rfl dL_told_130 ?_
      refine zr_iload (pc' := 133) cx rfl 13 dL_told_131 rfl ?_
      refine zr_imul (pc' := 134) cx rfl dL_told_133 ?_
      refine zr_iald (pc' := 135) cx rfl 11 zkc_401 (by decide) (L := 24) rfl dL_told_134 ?_
      refine zr_iload (pc' := 137) cx rfl 9 dL_told_135 rfl ?_
      refine zr_icmp_eq (pc' := 140) cx rfl (tgt := 143) dL_told_137 rfl ?_ ?_
      · refine zr_iload (pc' := 145) cx rfl 12 dL_told_143 rfl ?_
        refine zr_aload_n (pc' := 146) cx rfl 2 dL_told_145 rfl rfl ?_
        refine zr_iconst (pc' := 147) cx rfl dL_told_146 ?_
        refine zr_iload (pc' := 149) cx rfl 13 dL_told_147 rfl ?_
        refine zr_imul (pc' := 150) cx rfl dL_told_149 ?_
        refine zr_iconst (pc' := 151) cx rfl dL_told_150 ?_
        refine zr_iadd (pc' := 152) cx rfl dL_told_151 ?_
        refine zr_iald (pc' := 153) cx rfl 11 zkc_401 (by decide) (L := 24) rfl dL_told_152 ?_
        refine zr_iadd (pc' := 154) cx rfl dL_told_153 ?_
        refine zr_leti (fun x19 => ?_)
        refine zr_istore (pc' := 156) cx rfl (lv' := [(12, .int (i32 x19)), (0, .ref (zad Y 0)), (1, .ref (zad Y 400)), (2, .ref (zad Y 401)), (3, .ref (zad Y 402)), (4, .ref (zad Y 403)), (5, .ref (zad Y 410)), (6, .ref (zad Y 411)), (7, .ref (zad Y 412)), (8, .int (i32 a8)), (9, .int (i32 a9)), (10, .int (i32 a10)), (11, .int (i32 a11)), (13, .int (i32 a13))]) dL_told_154 (by decide) rfl ?_
        refine zr_iload (pc' := 158) cx rfl 12 dL_told_156 rfl ?_
        refine zr_iload (pc' := 160) cx rfl 13 dL_told_158 rfl ?_
        refine zr_aload_n (pc' := 161) cx rfl 2 dL_told_160 rfl rfl ?_
        refine zr_aload_n (pc' := 162) cx rfl 3 dL_told_161 rfl rfl ?_
        refine zr_aload (pc' := 164) cx rfl 6 dL_told_162 rfl ?_
        refine zc_L_8 (pc' := 167) cx rfl zkc_400 zkc_401 (zkc_410 hlv) ⟨Nat.le_of_ble_eq_true rfl, Nat.le_of_ble_eq_true rfl⟩ ⟨Nat.le_of_ble_eq_true rfl, Nat.le_of_ble_eq_true rfl⟩ (Nat.le_of_ble_eq_true rfl) dL_told_164 (fun v20 => ?_)
        refine zr_if_ne (pc' := 170) cx rfl (tgt := 174) dL_told_167 rfl ?_ ?_
        · refine zr_iconst (pc' := 175) cx rfl dL_told_174 ?_
          refine zr_iadd (pc' := 176) cx rfl dL_told_175 ?_
          refine zr_leti (fun x21 => ?_)
          refine zr_istore (pc' := 178) cx rfl (lv' := [(11, .int (i32 x21)), (12, .int (i32 x19)), (0, .ref (zad Y 0)), (1, .ref (zad Y 400)), (2, .ref (zad Y 401)), (3, .ref (zad Y 402)), (4, .ref (zad Y 403)), (5, .ref (zad Y 410)), (6, .ref (zad Y 411)), (7, .ref (zad Y 412)), (8, .int (i32 a8)), (9, .int (i32 a9)), (10, .int (i32 a10)), (13, .int (i32 a13))]) dL_told_176 (by decide) rfl ?_
          refine zr_iinc (pc' := 181) cx rfl (lv' := [(13, .int (i32 (a13 + 1))), (11, .int (i32 x21)), (12, .int (i32 x19)), (0, .ref (zad Y 0)), (1, .ref (zad Y 400)), (2, .ref (zad Y 401)), (3, .ref (zad Y 402)), (4, .ref (zad Y 403)), (5, .ref (zad Y 410)), (6, .ref (zad Y 411)), (7, .ref (zad Y 412)), (8, .int (i32 a8)), (9, .int (i32 a9)), (10, .int (i32 a10))]) 13 dL_told_178 rfl (by decide) rfl ?_
          refine zr_goto cx (tgt := 120) dL_told_181 rfl ?_
          refine zr_sub [3, 4, 5, 6, 7, 8, 9, 10, 11, 12, 13, 1, 2, 0] rfl ?_
          exact ih g a8 a9 a10 x21 x19 (a13 + 1)
        · refine zr_iconst (pc' := 171) cx rfl dL_told_170 ?_
          refine zr_gotoS cx (tgt := 175) dL_told_171 rfl ?_
          refine zr_iadd (pc' := 176) cx rfl dL_told_175 ?_
          refine zr_leti (fun x22 => ?_)
          refine zr_istore (pc' := 178) cx rfl (lv' := [(11, .int (i32 x22)), (12, .int (i32 x19)), (0, .ref (zad Y 0)), (1, .ref (zad Y 400)), (2, .ref (zad Y 401)), (3, .ref (zad Y 402)), (4, .ref (zad Y 403)), (5, .ref (zad Y 410)), (6, .ref (zad Y 411)), (7, .ref (zad Y 412)), (8, .int (i32 a8)), (9, .int (i32 a9)), (10, .int (i32 a10)), (13, .int (i32 a13))]) dL_told_176 (by decide) rfl ?_
          refine zr_iinc (pc' := 181) cx rfl (lv' := [(13, .int (i32 (a13 + 1))), (11, .int (i32 x22)), (12, .int (i32 x19)), (0, .ref (zad Y 0)), (1, .ref (zad Y 400)), (2, .ref (zad Y 401)), (3, .ref (zad Y 402)), (4, .ref (zad Y 403)), (5, .ref (zad Y 410)), (6, .ref (zad Y 411)), (7, .ref (zad Y 412)), (8, .int (i32 a8)), (9, .int (i32 a9)), (10, .int (i32 a10))]) 13 dL_told_178 rfl (by decide) rfl ?_
          refine zr_goto cx (tgt := 120) dL_told_181 rfl ?_
          refine zr_sub [3, 4, 5, 6, 7, 8, 9, 10, 11, 12, 13, 1, 2, 0] rfl ?_
          exact ih g a8 a9 a10 x22 x19 (a13 + 1)
      · refine zr_goto cx (tgt := 178) dL_told_140 rfl ?_
        refine zr_iinc (pc' := 181) cx rfl (lv' := [(13, .int (i32 (a13 + 1))), (0, .ref (zad Y 0)), (1, .ref (zad Y 400)), (2, .ref (zad Y 401)), (3, .ref (zad Y 402)), (4, .ref (zad Y 403)), (5, .ref (zad Y 410)), (6, .ref (zad Y 411)), (7, .ref (zad Y 412)), (8, .int (i32 a8)), (9, .int (i32 a9)), (10, .int (i32 a10)), (11, .int (i32 a11)), (12, .int (i32 a12))]) 13 dL_told_178 rfl (by decide) rfl ?_
        refine zr_goto cx (tgt := 120) dL_told_181 rfl ?_
        refine zr_sub [1, 2, 3, 4, 5, 6, 7, 8, 9, 10, 11, 12, 13, 0] rfl ?_
        exact ih g a8 a9 a10 a11 a12 (a13 + 1)
theorem wL_told_p62 (cx : zCx Y p s m args meth c RL cL_told 16 (some .boolean)) (hlv : zlv Y = 1) (hup : zUq Y0 Y s) {k38 : zSt → Int → Int → Option (Int × zSt)} (hk38 : ∀ (g : zSt) (a8 : Int) (a9 : Int), zWo Y p l e (zra 3 34 4) s m args below meth c 16 3 34 (fun q : Int × zSt => MQ below (zQi Y0 q.1 q.2) args s 3 34 (zA Y0)) g [(0, .ref (zad Y 0)), (1, .ref (zad Y 400)), (2, .ref (zad Y 401)), (3, .ref (zad Y 402)), (4, .ref (zad Y 403)), (5, .ref (zad Y 410)), (6, .ref (zad Y 411)), (7, .ref (zad Y 412)), (8, .int (i32 a8)), (9, .int (i32 a9))] ([]) 38 (k38 g a8 a9)) : ∀ (fu : Nat) (g : zSt) (a8 : Int) (a9 : Int) (a10 : Int) (a11 : Int) (a12 : Int) (a13 : Int), zWo Y p l e (zra 3 34 4) s m args below meth c 16 3 34 (fun q : Int × zSt => MQ below (zQi Y0 q.1 q.2) args s 3 34 (zA Y0)) g [(0, .ref (zad Y 0)), (1, .ref (zad Y 400)), (2, .ref (zad Y 401)), (3, .ref (zad Y 402)), (4, .ref (zad Y 403)), (5, .ref (zad Y 410)), (6, .ref (zad Y 411)), (7, .ref (zad Y 412)), (8, .int (i32 a8)), (9, .int (i32 a9)), (10, .int (i32 a10)), (11, .int (i32 a11)), (12, .int (i32 a12)), (13, .int (i32 a13))] ([]) 62 (fL_told_p62 k38 fu g a8 a9 a10 a11 a12 a13) := by
  intro fu
  induction fu with
  | zero => intro g a8 a9 a10 a11 a12 a13; exact zr_none
  | succ fu ih =>
    intro g a8 a9 a10 a11 a12 a13
    rw [fL_told_p62]
    refine zr_iload (pc' := 64) cx rfl 13 dL_told_62 rfl ?_
    refine zr_aload (pc' := 66) cx rfl 4 dL_told_64 rfl ?_
    refine zr_iconst (pc' := 67) cx rfl dL_told_66 ?_
    refine zr_iald (pc' := 68) cx rfl 13 zkc_403 (by decide) (L := 9) rfl dL_told_67 ?_
    refine zr_icmp_ge (pc' := 71) cx rfl (tgt := 117) dL_told_68 rfl ?_ ?_
    · refine zr_iconst (pc' := 118) cx rfl dL_told_117 ?_
      refine zr_istore (pc' := 120) cx rfl (lv' := [(13, .int (i32 0)), (0, .ref (zad Y 0)), (1, .ref (zad Y 400)), (2, .ref (zad Y 401)), (3, .ref (zad Y 402)), (4, .ref (zad Y 403)), (5, .ref (zad Y 410)), (6, .ref (zad Y 411)), (7, .ref (zad Y 412)), (8, .int (i32 a8)), (9, .int (i32 a9)), (10, .int (i32 a10)), (11, .int (i32 a11)), (12, .int (i32 a12))]) dL_told_118 (by decide) rfl ?_
      refine zr_sub [1, 2, 3, 4, 5, 6, 7, 8, 9, 10, 11, 12, 13, 0] rfl ?_
      exact wL_told_p120 cx hlv hup hk38 zfu g a8 a9 a10 a11 a12 0
    · refine zr_iload (pc' := 73) cx rfl 13 dL_told_71 rfl ?_
      refine zr_istore (pc' := 75) cx rfl (lv' := [(14, .int (i32 a13)), (0, .ref (zad Y 0)), (1, .ref (zad Y 400)), (2, .ref (zad Y 401)), (3, .ref (zad Y 402)), (4, .ref (zad Y 403)), (5, .ref (zad Y 410)), (6, .ref (zad Y 411)), (7, .ref (zad Y 412)), (8, .int (i32 a8)), (9, .int (i32 a9)), (10, .int (i32 a10)), (11, .int (i32 a11)), (12, .int (i32 a12)), (13, .int (i32 a13))]) dL_told_73 (by decide) rfl ?_
      refine zr_sub [1, 2, 3, 4, 5, 6, 7, 8, 9, 10, 11, 12, 13, 14, 0] rfl ?_
      exact wL_told_p75 cx hlv hup hk38 ih zfu g a8 a9 a10 a11 a12 a13 a13
theorem wL_told_p594 (cx : zCx Y p s m args meth c RL cL_told 16 (some .boolean)) (hlv : zlv Y = 1) (hup : zUq Y0 Y s) {k582 : zSt → Int → Int → Option (Int × zSt)} (hk582 : ∀ (g : zSt) (a8 : Int) (a9 : Int), zWo Y p l e (zra 3 34 4) s m args below meth c 16 3 34 (fun q : Int × zSt => MQ below (zQi Y0 q.1 q.2) args s 3 34 (zA Y0)) g [(0, .ref (zad Y 0)), (1, .ref (zad Y 400)), (2, .ref (zad Y 401)), (3, .ref (zad Y 402)), (4, .ref (zad Y 403)), (5, .ref (zad Y 410)), (7, .ref (zad Y 412)), (8, .int (i32 a8)), (9, .int (i32 a9))] ([]) 582 (k582 g a8 a9)) : ∀ (fu : Nat) (g : zSt) (a8 : Int) (a9 : Int) (a10 : Int), zWo Y p l e (zra 3 34 4) s m args below meth c 16 3 34 (fun q : Int × zSt => MQ below (zQi Y0 q.1 q.2) args s 3 34 (zA Y0)) g [(0, .ref (zad Y 0)), (1, .ref (zad Y 400)), (2, .ref (zad Y 401)), (3, .ref (zad Y 402)), (4, .ref (zad Y 403)), (5, .ref (zad Y 410)), (7, .ref (zad Y 412)), (8, .int (i32 a8)), (9, .int (i32 a9)), (10, .int (i32 a10))] ([]) 594 (fL_told_p594 k582 fu g a8 a9 a10) := by
  intro fu
  induction fu with
  | zero => intro g a8 a9 a10; exact zr_none
  | succ fu ih =>
    intro g a8 a9 a10
    rw [fL_told_p594]
    refine zr_iload (pc' := 596) cx rfl 9 dL_told_594 rfl ?_
    refine zr_iconst (pc' := 597) cx rfl dL_told_596 ?_
    refine zr_icmp_ge (pc' := 600) cx rfl (tgt := 628) dL_told_597 rfl ?_ ?_
    · refine zr_aload_n (pc' := 629) cx rfl 0 dL_told_628 rfl rfl ?_
      refine zr_iload (pc' := 631) cx rfl 8 dL_told_629 rfl ?_
      refine zr_iconst (pc' := 632) cx rfl dL_told_631 ?_
      refine zc_L_31 (pc' := 635) cx rfl  ⟨Nat.le_of_ble_eq_true rfl, Nat.le_of_ble_eq_true rfl⟩ ⟨Nat.le_of_ble_eq_true rfl, Nat.le_of_ble_eq_true rfl⟩ (Nat.le_of_ble_eq_true rfl) dL_told_632 (fun v23 => ?_)
      refine zr_iload (pc' := 637) cx rfl 8 dL_told_635 rfl ?_
      refine zr_aload_n (pc' := 638) cx rfl 1 dL_told_637 rfl rfl ?_
      refine zr_aload_n (pc' := 639) cx rfl 2 dL_told_638 rfl rfl ?_
      refine zr_aload (pc' := 641) cx rfl 5 dL_told_639 rfl ?_
      refine zc_L_8 (pc' := 644) cx rfl zkc_400 zkc_401 (zkc_410 hlv) ⟨Nat.le_of_ble_eq_true rfl, Nat.le_of_ble_eq_true rfl⟩ ⟨Nat.le_of_ble_eq_true rfl, Nat.le_of_ble_eq_true rfl⟩ (Nat.le_of_ble_eq_true rfl) dL_told_641 (fun v24 => ?_)
      refine zr_icmp_eq (pc' := 647) cx rfl (tgt := 649) dL_told_644 rfl ?_ ?_
      · refine zr_iinc (pc' := 652) cx rfl (lv' := [(9, .int (i32 (a9 + 1))), (0, .ref (zad Y 0)), (1, .ref (zad Y 400)), (2, .ref (zad Y 401)), (3, .ref (zad Y 402)), (4, .ref (zad Y 403)), (5, .ref (zad Y 410)), (7, .ref (zad Y 412)), (8, .int (i32 a8)), (10, .int (i32 a10))]) 8 dL_told_649 rfl (by decide) rfl ?_
        refine zr_goto cx (tgt := 582) dL_told_652 rfl ?_
        refine zr_sub [1, 2, 3, 4, 5, 6, 7, 8, 0] rfl ?_
        exact hk582 g a8 (a9 + 1)
      · refine zr_iconst (pc' := 648) cx rfl dL_told_647 ?_
        exact zr_zretU cx hup dL_told_648
    · refine zr_aload_n (pc' := 601) cx rfl 0 dL_told_600 rfl rfl ?_
      refine zr_iload (pc' := 603) cx rfl 8 dL_told_601 rfl ?_
      refine zr_iload (pc' := 605) cx rfl 9 dL_told_603 rfl ?_
      refine zc_L_31 (pc' := 608) cx rfl  ⟨Nat.le_of_ble_eq_true rfl, Nat.le_of_ble_eq_true rfl⟩ ⟨Nat.le_of_ble_eq_true rfl, Nat.le_of_ble_eq_true rfl⟩ (Nat.le_of_ble_eq_true rfl) dL_told_605 (fun v25 => ?_)
      refine zr_aload_n (pc' := 609) cx rfl 2 dL_told_608 rfl rfl ?_
      refine zr_iconst (pc' := 610) cx rfl dL_told_609 ?_
      refine zr_iload (pc' := 612) cx rfl 8 dL_told_610 rfl ?_
      refine zr_imul (pc' := 613) cx rfl dL_told_612 ?_
      refine zr_iload (pc' := 615) cx rfl 9 dL_told_613 rfl ?_
      refine zr_iadd (pc' := 616) cx rfl dL_told_615 ?_
      refine zr_iald (pc' := 617) cx rfl 11 zkc_401 (by decide) (L := 24) rfl dL_told_616 ?_
      refine zr_icmp_eq (pc' := 620) cx rfl (tgt := 622) dL_told_617 rfl ?_ ?_
      · refine zr_iinc (pc' := 625) cx rfl (lv' := [(10, .int (i32 (a10 + 1))), (0, .ref (zad Y 0)), (1, .ref (zad Y 400)), (2, .ref (zad Y 401)), (3, .ref (zad Y 402)), (4, .ref (zad Y 403)), (5, .ref (zad Y 410)), (7, .ref (zad Y 412)), (8, .int (i32 a8)), (9, .int (i32 a9))]) 9 dL_told_622 rfl (by decide) rfl ?_
        refine zr_goto cx (tgt := 594) dL_told_625 rfl ?_
        refine zr_sub [1, 2, 3, 4, 5, 6, 7, 8, 9, 0] rfl ?_
        exact ih g a8 a9 (a10 + 1)
      · refine zr_iconst (pc' := 621) cx rfl dL_told_620 ?_
        exact zr_zretU cx hup dL_told_621
theorem wL_told_p670 (cx : zCx Y p s m args meth c RL cL_told 16 (some .boolean)) (hlv : zlv Y = 1) (hup : zUq Y0 Y s) {k658 : zSt → Int → Int → Option (Int × zSt)} (hk658 : ∀ (g : zSt) (a8 : Int) (a9 : Int), zWo Y p l e (zra 3 34 4) s m args below meth c 16 3 34 (fun q : Int × zSt => MQ below (zQi Y0 q.1 q.2) args s 3 34 (zA Y0)) g [(0, .ref (zad Y 0)), (1, .ref (zad Y 400)), (2, .ref (zad Y 401)), (3, .ref (zad Y 402)), (4, .ref (zad Y 403)), (5, .ref (zad Y 410)), (7, .ref (zad Y 412)), (8, .int (i32 a8)), (9, .int (i32 a9))] ([]) 658 (k658 g a8 a9)) : ∀ (fu : Nat) (g : zSt) (a8 : Int) (a9 : Int) (a10 : Int), zWo Y p l e (zra 3 34 4) s m args below meth c 16 3 34 (fun q : Int × zSt => MQ below (zQi Y0 q.1 q.2) args s 3 34 (zA Y0)) g [(0, .ref (zad Y 0)), (1, .ref (zad Y 400)), (2, .ref (zad Y 401)), (3, .ref (zad Y 402)), (4, .ref (zad Y 403)), (5, .ref (zad Y 410)), (7, .ref (zad Y 412)), (8, .int (i32 a8)), (9, .int (i32 a9)), (10, .int (i32 a10))] ([]) 670 (fL_told_p670 k658 fu g a8 a9 a10) := by
  intro fu
  induction fu with
  | zero => intro g a8 a9 a10; exact zr_none
  | succ fu ih =>
    intro g a8 a9 a10
    rw [fL_told_p670]
    refine zr_iload (pc' := 672) cx rfl 9 dL_told_670 rfl ?_
    refine zr_iconst (pc' := 673) cx rfl dL_told_672 ?_
    refine zr_icmp_ge (pc' := 676) cx rfl (tgt := 704) dL_told_673 rfl ?_ ?_
    · refine zr_aload_n (pc' := 705) cx rfl 0 dL_told_704 rfl rfl ?_
      refine zr_iload (pc' := 707) cx rfl 8 dL_told_705 rfl ?_
      refine zr_iconst (pc' := 708) cx rfl dL_told_707 ?_
      refine zc_L_34 (pc' := 711) cx rfl  ⟨Nat.le_of_ble_eq_true rfl, Nat.le_of_ble_eq_true rfl⟩ ⟨Nat.le_of_ble_eq_true rfl, Nat.le_of_ble_eq_true rfl⟩ (Nat.le_of_ble_eq_true rfl) dL_told_708 (fun v26 => ?_)
      refine zr_aload (pc' := 713) cx rfl 5 dL_told_711 rfl ?_
      refine zr_iconst (pc' := 714) cx rfl dL_told_713 ?_
      refine zr_aload_n (pc' := 715) cx rfl 3 dL_told_714 rfl rfl ?_
      refine zr_iconst (pc' := 716) cx rfl dL_told_715 ?_
      refine zr_iload (pc' := 718) cx rfl 8 dL_told_716 rfl ?_
      refine zr_imul (pc' := 719) cx rfl dL_told_718 ?_
      refine zr_iald (pc' := 720) cx rfl 17 zkc_402 (by decide) (L := 18) rfl dL_told_719 ?_
      refine zr_imul (pc' := 721) cx rfl dL_told_720 ?_
      refine zr_aload_n (pc' := 722) cx rfl 3 dL_told_721 rfl rfl ?_
      refine zr_iconst (pc' := 723) cx rfl dL_told_722 ?_
      refine zr_iload (pc' := 725) cx rfl 8 dL_told_723 rfl ?_
      refine zr_imul (pc' := 726) cx rfl dL_told_725 ?_
      refine zr_iconst (pc' := 727) cx rfl dL_told_726 ?_
      refine zr_iadd (pc' := 728) cx rfl dL_told_727 ?_
      refine zr_iald (pc' := 729) cx rfl 17 zkc_402 (by decide) (L := 18) rfl dL_told_728 ?_
      refine zr_iadd (pc' := 730) cx rfl dL_told_729 ?_
      refine zr_iald (pc' := 731) cx rfl 18 (zkc_410 hlv) (by decide) (L := 14) rfl dL_told_730 ?_
      refine zr_iconst (pc' := 732) cx rfl dL_told_731 ?_
      refine zr_irem (pc' := 733) cx rfl (by decide +kernel) dL_told_732 ?_
      refine zr_icmp_ne (pc' := 736) cx rfl (tgt := 751) dL_told_733 rfl ?_ ?_
      · refine zr_iconst (pc' := 752) cx rfl dL_told_751 ?_
        exact zr_zretU cx hup dL_told_752
      · refine zr_aload_n (pc' := 737) cx rfl 0 dL_told_736 rfl rfl ?_
        refine zr_iload (pc' := 739) cx rfl 8 dL_told_737 rfl ?_
        refine zr_iconst (pc' := 740) cx rfl dL_told_739 ?_
        refine zc_L_34 (pc' := 743) cx rfl  ⟨Nat.le_of_ble_eq_true rfl, Nat.le_of_ble_eq_true rfl⟩ ⟨Nat.le_of_ble_eq_true rfl, Nat.le_of_ble_eq_true rfl⟩ (Nat.le_of_ble_eq_true rfl) dL_told_740 (fun v27 => ?_)
        refine zr_aload (pc' := 745) cx rfl 6 dL_told_743 rfl ?_
        refine zr_iload (pc' := 747) cx rfl 8 dL_told_745 rfl ?_
        refine zr_iald (pc' := 748) cx rfl 19 (zkc_412 hlv) (by decide) (L := 6) rfl dL_told_747 ?_
        refine zr_icmp_eq (pc' := 751) cx rfl (tgt := 753) dL_told_748 rfl ?_ ?_
        · refine zr_iinc (pc' := 756) cx rfl (lv' := [(9, .int (i32 (a9 + 1))), (0, .ref (zad Y 0)), (1, .ref (zad Y 400)), (2, .ref (zad Y 401)), (3, .ref (zad Y 402)), (4, .ref (zad Y 403)), (5, .ref (zad Y 410)), (7, .ref (zad Y 412)), (8, .int (i32 a8)), (10, .int (i32 a10))]) 8 dL_told_753 rfl (by decide) rfl ?_
          refine zr_goto cx (tgt := 658) dL_told_756 rfl ?_
          refine zr_sub [1, 2, 3, 4, 5, 6, 7, 8, 0] rfl ?_
          exact hk658 g a8 (a9 + 1)
        · refine zr_iconst (pc' := 752) cx rfl dL_told_751 ?_
          exact zr_zretU cx hup dL_told_752
    · refine zr_aload_n (pc' := 677) cx rfl 0 dL_told_676 rfl rfl ?_
      refine zr_iload (pc' := 679) cx rfl 8 dL_told_677 rfl ?_
      refine zr_iload (pc' := 681) cx rfl 9 dL_told_679 rfl ?_
      refine zc_L_34 (pc' := 684) cx rfl  ⟨Nat.le_of_ble_eq_true rfl, Nat.le_of_ble_eq_true rfl⟩ ⟨Nat.le_of_ble_eq_true rfl, Nat.le_of_ble_eq_true rfl⟩ (Nat.le_of_ble_eq_true rfl) dL_told_681 (fun v28 => ?_)
      refine zr_aload_n (pc' := 685) cx rfl 3 dL_told_684 rfl rfl ?_
      refine zr_iconst (pc' := 686) cx rfl dL_told_685 ?_
      refine zr_iload (pc' := 688) cx rfl 8 dL_told_686 rfl ?_
      refine zr_imul (pc' := 689) cx rfl dL_told_688 ?_
      refine zr_iload (pc' := 691) cx rfl 9 dL_told_689 rfl ?_
      refine zr_iadd (pc' := 692) cx rfl dL_told_691 ?_
      refine zr_iald (pc' := 693) cx rfl 17 zkc_402 (by decide) (L := 18) rfl dL_told_692 ?_
      refine zr_icmp_eq (pc' := 696) cx rfl (tgt := 698) dL_told_693 rfl ?_ ?_
      · refine zr_iinc (pc' := 701) cx rfl (lv' := [(10, .int (i32 (a10 + 1))), (0, .ref (zad Y 0)), (1, .ref (zad Y 400)), (2, .ref (zad Y 401)), (3, .ref (zad Y 402)), (4, .ref (zad Y 403)), (5, .ref (zad Y 410)), (7, .ref (zad Y 412)), (8, .int (i32 a8)), (9, .int (i32 a9))]) 9 dL_told_698 rfl (by decide) rfl ?_
        refine zr_goto cx (tgt := 670) dL_told_701 rfl ?_
        refine zr_sub [1, 2, 3, 4, 5, 6, 7, 8, 9, 0] rfl ?_
        exact ih g a8 a9 (a10 + 1)
      · refine zr_iconst (pc' := 697) cx rfl dL_told_696 ?_
        exact zr_zretU cx hup dL_told_697
theorem wL_told_p952 (cx : zCx Y p s m args meth c RL cL_told 16 (some .boolean)) (hlv : zlv Y = 1) (hup : zUq Y0 Y s)   : ∀ (g : zSt) (y0 : Int) (y1 : Int) (a8 : Int), zWo Y p l e (zra 3 34 4) s m args below meth c 16 3 34 (fun q : Int × zSt => MQ below (zQi Y0 q.1 q.2) args s 3 34 (zA Y0)) g [(0, .ref (zad Y 0)), (4, .ref (zad Y 403)), (8, .int (i32 a8))] (.int (i32 y1) :: .int (i32 y0) :: []) 952 (fL_told_p952 g y0 y1 a8) := by
  intro g y0 y1 a8
  unfold fL_told_p952
  refine zr_icmp_ne (pc' := 955) cx rfl (tgt := 982) dL_told_952 rfl ?_ ?_
  · refine zr_iconst (pc' := 983) cx rfl dL_told_982 ?_
    exact zr_zretU cx hup dL_told_983
  · refine zr_aload_n (pc' := 956) cx rfl 0 dL_told_955 rfl rfl ?_
    refine zr_iconst (pc' := 957) cx rfl dL_told_956 ?_
    refine zc_L_44 (pc' := 960) cx rfl  ⟨Nat.le_of_ble_eq_true rfl, Nat.le_of_ble_eq_true rfl⟩ ⟨Nat.le_of_ble_eq_true rfl, Nat.le_of_ble_eq_true rfl⟩ (Nat.le_of_ble_eq_true rfl) dL_told_957 (fun v29 => ?_)
    refine zr_iload (pc' := 962) cx rfl 2 dL_told_960 rfl ?_
    refine zr_icmp_ne (pc' := 965) cx rfl (tgt := 982) dL_told_962 rfl ?_ ?_
    · refine zr_iconst (pc' := 983) cx rfl dL_told_982 ?_
      exact zr_zretU cx hup dL_told_983
    · refine zr_aload_n (pc' := 966) cx rfl 0 dL_told_965 rfl rfl ?_
      refine zr_bipush (pc' := 968) cx rfl dL_told_966 (by decide +kernel) ?_
      refine zc_L_44 (pc' := 971) cx rfl  ⟨Nat.le_of_ble_eq_true rfl, Nat.le_of_ble_eq_true rfl⟩ ⟨Nat.le_of_ble_eq_true rfl, Nat.le_of_ble_eq_true rfl⟩ (Nat.le_of_ble_eq_true rfl) dL_told_968 (fun v30 => ?_)
      refine zr_aload (pc' := 973) cx rfl 1 dL_told_971 rfl ?_
      refine zr_iconst (pc' := 974) cx rfl dL_told_973 ?_
      refine zr_iald (pc' := 975) cx rfl 13 zkc_403 (by decide) (L := 9) rfl dL_told_974 ?_
      refine zr_icmp_ne (pc' := 978) cx rfl (tgt := 982) dL_told_975 rfl ?_ ?_
      · refine zr_iconst (pc' := 983) cx rfl dL_told_982 ?_
        exact zr_zretU cx hup dL_told_983
      · refine zr_iconst (pc' := 979) cx rfl dL_told_978 ?_
        refine zr_gotoS cx (tgt := 983) dL_told_979 rfl ?_
        exact zr_zretU cx hup dL_told_983
theorem wL_told_p848 (cx : zCx Y p s m args meth c RL cL_told 16 (some .boolean)) (hlv : zlv Y = 1) (hup : zUq Y0 Y s)   : ∀ (fu : Nat) (g : zSt) (a8 : Int) (a9 : Int) (a10 : Int) (a12 : Int), zWo Y p l e (zra 3 34 4) s m args below meth c 16 3 34 (fun q : Int × zSt => MQ below (zQi Y0 q.1 q.2) args s 3 34 (zA Y0)) g [(0, .ref (zad Y 0)), (1, .ref (zad Y 400)), (2, .ref (zad Y 401)), (4, .ref (zad Y 403)), (5, .ref (zad Y 410)), (8, .int (i32 a8)), (9, .int (i32 a9)), (10, .int (i32 a10)), (12, .int (i32 a12))] ([]) 848 (fL_told_p848 fu g a8 a9 a10 a12) := by
  intro fu
  induction fu with
  | zero => intro g a8 a9 a10 a12; exact zr_none
  | succ fu ih =>
    intro g a8 a9 a10 a12
    rw [fL_told_p848]
    refine zr_iload (pc' := 850) cx rfl 8 dL_told_848 rfl ?_
    refine zr_bipush (pc' := 852) cx rfl dL_told_850 (by decide +kernel) ?_
    refine zr_icmp_ge (pc' := 855) cx rfl (tgt := 879) dL_told_852 rfl ?_ ?_
    · refine zr_aload_n (pc' := 880) cx rfl 0 dL_told_879 rfl rfl ?_
      refine zr_iconst (pc' := 881) cx rfl dL_told_880 ?_
      refine zc_L_44 (pc' := 884) cx rfl  ⟨Nat.le_of_ble_eq_true rfl, Nat.le_of_ble_eq_true rfl⟩ ⟨Nat.le_of_ble_eq_true rfl, Nat.le_of_ble_eq_true rfl⟩ (Nat.le_of_ble_eq_true rfl) dL_told_881 (fun v31 => ?_)
      refine zr_aload (pc' := 886) cx rfl 3 dL_told_884 rfl ?_
      refine zr_iconst (pc' := 887) cx rfl dL_told_886 ?_
      refine zr_iald (pc' := 888) cx rfl 13 zkc_403 (by decide) (L := 9) rfl dL_told_887 ?_
      refine zr_icmp_ne (pc' := 891) cx rfl (tgt := 982) dL_told_888 rfl ?_ ?_
      · refine zr_iconst (pc' := 983) cx rfl dL_told_982 ?_
        exact zr_zretU cx hup dL_told_983
      · refine zr_aload_n (pc' := 892) cx rfl 0 dL_told_891 rfl rfl ?_
        refine zr_iconst (pc' := 893) cx rfl dL_told_892 ?_
        refine zc_L_44 (pc' := 896) cx rfl  ⟨Nat.le_of_ble_eq_true rfl, Nat.le_of_ble_eq_true rfl⟩ ⟨Nat.le_of_ble_eq_true rfl, Nat.le_of_ble_eq_true rfl⟩ (Nat.le_of_ble_eq_true rfl) dL_told_893 (fun v32 => ?_)
        refine zr_aload (pc' := 898) cx rfl 3 dL_told_896 rfl ?_
        refine zr_iconst (pc' := 899) cx rfl dL_told_898 ?_
        refine zr_iald (pc' := 900) cx rfl 13 zkc_403 (by decide) (L := 9) rfl dL_told_899 ?_
        refine zr_icmp_ne (pc' := 903) cx rfl (tgt := 982) dL_told_900 rfl ?_ ?_
        · refine zr_iconst (pc' := 983) cx rfl dL_told_982 ?_
          exact zr_zretU cx hup dL_told_983
        · refine zr_aload_n (pc' := 904) cx rfl 0 dL_told_903 rfl rfl ?_
          refine zr_iconst (pc' := 905) cx rfl dL_told_904 ?_
          refine zc_L_44 (pc' := 908) cx rfl  ⟨Nat.le_of_ble_eq_true rfl, Nat.le_of_ble_eq_true rfl⟩ ⟨Nat.le_of_ble_eq_true rfl, Nat.le_of_ble_eq_true rfl⟩ (Nat.le_of_ble_eq_true rfl) dL_told_905 (fun v33 => ?_)
          refine zr_aload_n (pc' := 909) cx rfl 1 dL_told_908 rfl rfl ?_
          refine zr_aload_n (pc' := 910) cx rfl 2 dL_told_909 rfl rfl ?_
          refine zr_aload (pc' := 912) cx rfl 3 dL_told_910 rfl ?_
          refine zr_aload (pc' := 914) cx rfl 4 dL_told_912 rfl ?_
          refine zr_iconst (pc' := 915) cx rfl dL_told_914 ?_
          refine zc_L_47 (pc' := 918) cx rfl zkc_400 zkc_401 zkc_403 (zkc_410 hlv) ⟨Nat.le_of_ble_eq_true rfl, Nat.le_of_ble_eq_true rfl⟩ ⟨Nat.le_of_ble_eq_true rfl, Nat.le_of_ble_eq_true rfl⟩ (Nat.le_of_ble_eq_true rfl) dL_told_915 (fun v34 => ?_)
          refine zr_icmp_ne (pc' := 921) cx rfl (tgt := 982) dL_told_918 rfl ?_ ?_
          · refine zr_iconst (pc' := 983) cx rfl dL_told_982 ?_
            exact zr_zretU cx hup dL_told_983
          · refine zr_aload_n (pc' := 922) cx rfl 0 dL_told_921 rfl rfl ?_
            refine zr_iconst (pc' := 923) cx rfl dL_told_922 ?_
            refine zc_L_44 (pc' := 926) cx rfl  ⟨Nat.le_of_ble_eq_true rfl, Nat.le_of_ble_eq_true rfl⟩ ⟨Nat.le_of_ble_eq_true rfl, Nat.le_of_ble_eq_true rfl⟩ (Nat.le_of_ble_eq_true rfl) dL_told_923 (fun v35 => ?_)
            refine zr_aload (pc' := 928) cx rfl 3 dL_told_926 rfl ?_
            refine zr_iconst (pc' := 929) cx rfl dL_told_928 ?_
            refine zr_iald (pc' := 930) cx rfl 13 zkc_403 (by decide) (L := 9) rfl dL_told_929 ?_
            refine zr_icmp_ne (pc' := 933) cx rfl (tgt := 982) dL_told_930 rfl ?_ ?_
            · refine zr_iconst (pc' := 983) cx rfl dL_told_982 ?_
              exact zr_zretU cx hup dL_told_983
            · refine zr_aload_n (pc' := 934) cx rfl 0 dL_told_933 rfl rfl ?_
              refine zr_iconst (pc' := 935) cx rfl dL_told_934 ?_
              refine zc_L_44 (pc' := 938) cx rfl  ⟨Nat.le_of_ble_eq_true rfl, Nat.le_of_ble_eq_true rfl⟩ ⟨Nat.le_of_ble_eq_true rfl, Nat.le_of_ble_eq_true rfl⟩ (Nat.le_of_ble_eq_true rfl) dL_told_935 (fun v36 => ?_)
              refine zr_iload (pc' := 940) cx rfl 6 dL_told_938 rfl ?_
              refine zr_iload (pc' := 942) cx rfl 7 dL_told_940 rfl ?_
              refine zr_icmp_ge (pc' := 945) cx rfl (tgt := 950) dL_told_942 rfl ?_ ?_
              · refine zr_iload (pc' := 952) cx rfl 7 dL_told_950 rfl ?_
                refine zr_sub [0, 3, 5] rfl ?_
                exact wL_told_p952 cx hlv hup g v36 a10 a8
              · refine zr_iload (pc' := 947) cx rfl 6 dL_told_945 rfl ?_
                refine zr_gotoS cx (tgt := 952) dL_told_947 rfl ?_
                refine zr_sub [0, 3, 5] rfl ?_
                exact wL_told_p952 cx hlv hup g v36 a9 a8
    · refine zr_aload_n (pc' := 856) cx rfl 0 dL_told_855 rfl rfl ?_
      refine zr_iload (pc' := 858) cx rfl 8 dL_told_856 rfl ?_
      refine zr_iconst (pc' := 859) cx rfl dL_told_858 ?_
      refine zr_iadd (pc' := 860) cx rfl dL_told_859 ?_
      refine zc_L_44 (pc' := 863) cx rfl  ⟨Nat.le_of_ble_eq_true rfl, Nat.le_of_ble_eq_true rfl⟩ ⟨Nat.le_of_ble_eq_true rfl, Nat.le_of_ble_eq_true rfl⟩ (Nat.le_of_ble_eq_true rfl) dL_told_860 (fun v37 => ?_)
      refine zr_aload (pc' := 865) cx rfl 3 dL_told_863 rfl ?_
      refine zr_iload (pc' := 867) cx rfl 8 dL_told_865 rfl ?_
      refine zr_iald (pc' := 868) cx rfl 13 zkc_403 (by decide) (L := 9) rfl dL_told_867 ?_
      refine zr_icmp_eq (pc' := 871) cx rfl (tgt := 873) dL_told_868 rfl ?_ ?_
      · refine zr_iinc (pc' := 876) cx rfl (lv' := [(12, .int (i32 (a12 + 1))), (0, .ref (zad Y 0)), (1, .ref (zad Y 400)), (2, .ref (zad Y 401)), (4, .ref (zad Y 403)), (5, .ref (zad Y 410)), (8, .int (i32 a8)), (9, .int (i32 a9)), (10, .int (i32 a10))]) 8 dL_told_873 rfl (by decide) rfl ?_
        refine zr_goto cx (tgt := 848) dL_told_876 rfl ?_
        refine zr_sub [1, 2, 3, 4, 5, 6, 7, 8, 0] rfl ?_
        exact ih g a8 a9 a10 (a12 + 1)
      · refine zr_iconst (pc' := 872) cx rfl dL_told_871 ?_
        exact zr_zretU cx hup dL_told_872
theorem wL_told_p658 (cx : zCx Y p s m args meth c RL cL_told 16 (some .boolean)) (hlv : zlv Y = 1) (hup : zUq Y0 Y s)   : ∀ (fu : Nat) (g : zSt) (a8 : Int) (a9 : Int), zWo Y p l e (zra 3 34 4) s m args below meth c 16 3 34 (fun q : Int × zSt => MQ below (zQi Y0 q.1 q.2) args s 3 34 (zA Y0)) g [(0, .ref (zad Y 0)), (1, .ref (zad Y 400)), (2, .ref (zad Y 401)), (3, .ref (zad Y 402)), (4, .ref (zad Y 403)), (5, .ref (zad Y 410)), (7, .ref (zad Y 412)), (8, .int (i32 a8)), (9, .int (i32 a9))] ([]) 658 (fL_told_p658 fu g a8 a9) := by
  intro fu
  induction fu with
  | zero => intro g a8 a9; exact zr_none
  | succ fu ih =>
    intro g a8 a9
    rw [fL_told_p658]
    refine zr_iload (pc' := 660) cx rfl 8 dL_told_658 rfl ?_
    refine zr_aload (pc' := 662) cx rfl 4 dL_told_660 rfl ?_
    refine zr_iconst (pc' := 663) cx rfl dL_told_662 ?_
    refine zr_iald (pc' := 664) cx rfl 13 zkc_403 (by decide) (L := 9) rfl dL_told_663 ?_
    refine zr_icmp_ge (pc' := 667) cx rfl (tgt := 759) dL_told_664 rfl ?_ ?_
    · refine zr_iconst (pc' := 760) cx rfl dL_told_759 ?_
      refine zr_aload_n (pc' := 761) cx rfl 3 dL_told_760 rfl rfl ?_
      refine zr_aload (pc' := 763) cx rfl 4 dL_told_761 rfl ?_
      refine zr_aload (pc' := 765) cx rfl 5 dL_told_763 rfl ?_
      refine zc_L_14 (pc' := 768) cx rfl zkc_402 zkc_403 (zkc_410 hlv) ⟨Nat.le_of_ble_eq_true rfl, Nat.le_of_ble_eq_true rfl⟩ ⟨Nat.le_of_ble_eq_true rfl, Nat.le_of_ble_eq_true rfl⟩ (Nat.le_of_ble_eq_true rfl) dL_told_765 (fun v38 => ?_)
      refine zr_istore (pc' := 770) cx rfl (lv' := [(9, .int (i32 v38)), (0, .ref (zad Y 0)), (1, .ref (zad Y 400)), (2, .ref (zad Y 401)), (3, .ref (zad Y 402)), (4, .ref (zad Y 403)), (5, .ref (zad Y 410)), (7, .ref (zad Y 412)), (8, .int (i32 a8))]) dL_told_768 (by decide) rfl ?_
      refine zr_iconst (pc' := 771) cx rfl dL_told_770 ?_
      refine zr_aload_n (pc' := 772) cx rfl 4 dL_told_771 rfl rfl ?_
      refine zr_aload (pc' := 774) cx rfl 5 dL_told_772 rfl ?_
      refine zr_aload (pc' := 776) cx rfl 6 dL_told_774 rfl ?_
      refine zc_L_14 (pc' := 779) cx rfl zkc_402 zkc_403 (zkc_410 hlv) ⟨Nat.le_of_ble_eq_true rfl, Nat.le_of_ble_eq_true rfl⟩ ⟨Nat.le_of_ble_eq_true rfl, Nat.le_of_ble_eq_true rfl⟩ (Nat.le_of_ble_eq_true rfl) dL_told_776 (fun v39 => ?_)
      refine zr_istore (pc' := 781) cx rfl (lv' := [(10, .int (i32 v39)), (9, .int (i32 v38)), (0, .ref (zad Y 0)), (1, .ref (zad Y 400)), (2, .ref (zad Y 401)), (3, .ref (zad Y 402)), (4, .ref (zad Y 403)), (5, .ref (zad Y 410)), (7, .ref (zad Y 412)), (8, .int (i32 a8))]) dL_told_779 (by decide) rfl ?_
      refine zr_aload (pc' := 783) cx rfl 6 dL_told_781 rfl ?_
      refine zr_bipush (pc' := 785) cx rfl dL_told_783 (by decide +kernel) ?_
      refine zr_iald (pc' := 786) cx rfl 13 zkc_403 (by decide) (L := 9) rfl dL_told_785 ?_
      refine zr_aload (pc' := 788) cx rfl 6 dL_told_786 rfl ?_
      refine zr_bipush (pc' := 790) cx rfl dL_told_788 (by decide +kernel) ?_
      refine zr_iald (pc' := 791) cx rfl 13 zkc_403 (by decide) (L := 9) rfl dL_told_790 ?_
      refine zr_iadd (pc' := 792) cx rfl dL_told_791 ?_
      refine zr_leti (fun x40 => ?_)
      refine zr_istore (pc' := 794) cx rfl (lv' := [(11, .int (i32 x40)), (10, .int (i32 v39)), (9, .int (i32 v38)), (0, .ref (zad Y 0)), (1, .ref (zad Y 400)), (2, .ref (zad Y 401)), (3, .ref (zad Y 402)), (4, .ref (zad Y 403)), (5, .ref (zad Y 410)), (7, .ref (zad Y 412)), (8, .int (i32 a8))]) dL_told_792 (by decide) rfl ?_
      refine zr_aload_n (pc' := 795) cx rfl 3 dL_told_794 rfl rfl ?_
      refine zr_iconst (pc' := 796) cx rfl dL_told_795 ?_
      refine zc_L_37 (pc' := 799) cx rfl  ⟨Nat.le_of_ble_eq_true rfl, Nat.le_of_ble_eq_true rfl⟩ ⟨Nat.le_of_ble_eq_true rfl, Nat.le_of_ble_eq_true rfl⟩ (Nat.le_of_ble_eq_true rfl) dL_told_796 (fun v41 => ?_)
      refine zr_iload (pc' := 801) cx rfl 2 dL_told_799 rfl ?_
      refine zr_icmp_ne (pc' := 804) cx rfl (tgt := 843) dL_told_801 rfl ?_ ?_
      · refine zr_iconst (pc' := 844) cx rfl dL_told_843 ?_
        exact zr_zretU cx hup dL_told_844
      · refine zr_aload_n (pc' := 805) cx rfl 3 dL_told_804 rfl rfl ?_
        refine zr_iconst (pc' := 806) cx rfl dL_told_805 ?_
        refine zc_L_37 (pc' := 809) cx rfl  ⟨Nat.le_of_ble_eq_true rfl, Nat.le_of_ble_eq_true rfl⟩ ⟨Nat.le_of_ble_eq_true rfl, Nat.le_of_ble_eq_true rfl⟩ (Nat.le_of_ble_eq_true rfl) dL_told_806 (fun v42 => ?_)
        refine zr_iload (pc' := 811) cx rfl 1 dL_told_809 rfl ?_
        refine zr_icmp_ne (pc' := 814) cx rfl (tgt := 843) dL_told_811 rfl ?_ ?_
        · refine zr_iconst (pc' := 844) cx rfl dL_told_843 ?_
          exact zr_zretU cx hup dL_told_844
        · refine zr_aload_n (pc' := 815) cx rfl 3 dL_told_814 rfl rfl ?_
          refine zc_L_40 (pc' := 818) cx rfl  ⟨Nat.le_of_ble_eq_true rfl, Nat.le_of_ble_eq_true rfl⟩ ⟨Nat.le_of_ble_eq_true rfl, Nat.le_of_ble_eq_true rfl⟩ (Nat.le_of_ble_eq_true rfl) dL_told_815 (fun u43 => ?_)
          refine zr_iload (pc' := 820) cx rfl 0 dL_told_818 rfl ?_
          refine zr_if_ne (pc' := 823) cx rfl (tgt := 827) dL_told_820 rfl ?_ ?_
          · refine zr_dconst1 (pc' := 828) cx rfl dL_told_827 ?_
            refine zr_aload (pc' := 830) cx rfl 7 dL_told_828 rfl ?_
            refine zr_bipush (pc' := 832) cx rfl dL_told_830 (by decide +kernel) ?_
            refine zr_iald (pc' := 833) cx rfl 13 zkc_403 (by decide) (L := 9) rfl dL_told_832 ?_
            refine zr_i2d (pc' := 834) cx rfl dL_told_833 ?_
            refine zr_dmul (pc' := 835) cx rfl dL_told_834 ?_
            refine zr_iload (pc' := 837) cx rfl 0 dL_told_835 rfl ?_
            refine zr_i2d (pc' := 838) cx rfl dL_told_837 ?_
            refine zr_ddiv (pc' := 839) cx rfl dL_told_838 ?_
            refine zr_dcmp (pc' := 840) cx rfl dL_told_839 ?_
            refine zr_if_eq (pc' := 843) cx rfl (tgt := 845) dL_told_840 rfl ?_ ?_
            · refine zr_iconst (pc' := 846) cx rfl dL_told_845 ?_
              refine zr_istore (pc' := 848) cx rfl (lv' := [(12, .int (i32 4)), (11, .int (i32 x40)), (10, .int (i32 v39)), (9, .int (i32 v38)), (0, .ref (zad Y 0)), (1, .ref (zad Y 400)), (2, .ref (zad Y 401)), (3, .ref (zad Y 402)), (4, .ref (zad Y 403)), (5, .ref (zad Y 410)), (7, .ref (zad Y 412)), (8, .int (i32 a8))]) dL_told_846 (by decide) rfl ?_
              refine zr_sub [4, 5, 6, 8, 9, 11, 3, 2, 0] rfl ?_
              exact wL_told_p848 cx hlv hup zfu g a8 v38 v39 4
            · refine zr_iconst (pc' := 844) cx rfl dL_told_843 ?_
              exact zr_zretU cx hup dL_told_844
          · refine zr_dconst0 (pc' := 824) cx rfl dL_told_823 ?_
            refine zr_gotoS cx (tgt := 839) dL_told_824 rfl ?_
            refine zr_dcmp (pc' := 840) cx rfl dL_told_839 ?_
            refine zr_if_eq (pc' := 843) cx rfl (tgt := 845) dL_told_840 rfl ?_ ?_
            · refine zr_iconst (pc' := 846) cx rfl dL_told_845 ?_
              refine zr_istore (pc' := 848) cx rfl (lv' := [(12, .int (i32 4)), (11, .int (i32 x40)), (10, .int (i32 v39)), (9, .int (i32 v38)), (0, .ref (zad Y 0)), (1, .ref (zad Y 400)), (2, .ref (zad Y 401)), (3, .ref (zad Y 402)), (4, .ref (zad Y 403)), (5, .ref (zad Y 410)), (7, .ref (zad Y 412)), (8, .int (i32 a8))]) dL_told_846 (by decide) rfl ?_
              refine zr_sub [4, 5, 6, 8, 9, 11, 3, 2, 0] rfl ?_
              exact wL_told_p848 cx hlv hup zfu g a8 v38 v39 4
            · refine zr_iconst (pc' := 844) cx rfl dL_told_843 ?_
              exact zr_zretU cx hup dL_told_844
    · refine zr_iconst (pc' := 668) cx rfl dL_told_667 ?_
      refine zr_istore (pc' := 670) cx rfl (lv' := [(10, .int (i32 0)), (0, .ref (zad Y 0)), (1, .ref (zad Y 400)), (2, .ref (zad Y 401)), (3, .ref (zad Y 402)), (4, .ref (zad Y 403)), (5, .ref (zad Y 410)), (7, .ref (zad Y 412)), (8, .int (i32 a8)), (9, .int (i32 a9))]) dL_told_668 (by decide) rfl ?_
      refine zr_sub [1, 2, 3, 4, 5, 6, 7, 8, 9, 0] rfl ?_
      exact wL_told_p670 cx hlv hup ih zfu g a8 a9 0
theorem wL_told_p582 (cx : zCx Y p s m args meth c RL cL_told 16 (some .boolean)) (hlv : zlv Y = 1) (hup : zUq Y0 Y s)   : ∀ (fu : Nat) (g : zSt) (a8 : Int) (a9 : Int), zWo Y p l e (zra 3 34 4) s m args below meth c 16 3 34 (fun q : Int × zSt => MQ below (zQi Y0 q.1 q.2) args s 3 34 (zA Y0)) g [(0, .ref (zad Y 0)), (1, .ref (zad Y 400)), (2, .ref (zad Y 401)), (3, .ref (zad Y 402)), (4, .ref (zad Y 403)), (5, .ref (zad Y 410)), (7, .ref (zad Y 412)), (8, .int (i32 a8)), (9, .int (i32 a9))] ([]) 582 (fL_told_p582 fu g a8 a9) := by
  intro fu
  induction fu with
  | zero => intro g a8 a9; exact zr_none
  | succ fu ih =>
    intro g a8 a9
    rw [fL_told_p582]
    refine zr_iload (pc' := 584) cx rfl 8 dL_told_582 rfl ?_
    refine zr_aload (pc' := 586) cx rfl 4 dL_told_584 rfl ?_
    refine zr_iconst (pc' := 587) cx rfl dL_told_586 ?_
    refine zr_iald (pc' := 588) cx rfl 13 zkc_403 (by decide) (L := 9) rfl dL_told_587 ?_
    refine zr_icmp_ge (pc' := 591) cx rfl (tgt := 655) dL_told_588 rfl ?_ ?_
    · refine zr_iconst (pc' := 656) cx rfl dL_told_655 ?_
      refine zr_istore (pc' := 658) cx rfl (lv' := [(9, .int (i32 0)), (0, .ref (zad Y 0)), (1, .ref (zad Y 400)), (2, .ref (zad Y 401)), (3, .ref (zad Y 402)), (4, .ref (zad Y 403)), (5, .ref (zad Y 410)), (7, .ref (zad Y 412)), (8, .int (i32 a8))]) dL_told_656 (by decide) rfl ?_
      refine zr_sub [1, 2, 3, 4, 5, 6, 7, 8, 0] rfl ?_
      exact wL_told_p658 cx hlv hup zfu g a8 0
    · refine zr_iconst (pc' := 592) cx rfl dL_told_591 ?_
      refine zr_istore (pc' := 594) cx rfl (lv' := [(10, .int (i32 0)), (0, .ref (zad Y 0)), (1, .ref (zad Y 400)), (2, .ref (zad Y 401)), (3, .ref (zad Y 402)), (4, .ref (zad Y 403)), (5, .ref (zad Y 410)), (7, .ref (zad Y 412)), (8, .int (i32 a8)), (9, .int (i32 a9))]) dL_told_592 (by decide) rfl ?_
      refine zr_sub [1, 2, 3, 4, 5, 6, 7, 8, 9, 0] rfl ?_
      exact wL_told_p594 cx hlv hup ih zfu g a8 a9 0
theorem wL_told_p38 (cx : zCx Y p s m args meth c RL cL_told 16 (some .boolean)) (hlv : zlv Y = 1) (hup : zUq Y0 Y s)   : ∀ (fu : Nat) (g : zSt) (a8 : Int) (a9 : Int), zWo Y p l e (zra 3 34 4) s m args below meth c 16 3 34 (fun q : Int × zSt => MQ below (zQi Y0 q.1 q.2) args s 3 34 (zA Y0)) g [(0, .ref (zad Y 0)), (1, .ref (zad Y 400)), (2, .ref (zad Y 401)), (3, .ref (zad Y 402)), (4, .ref (zad Y 403)), (5, .ref (zad Y 410)), (6, .ref (zad Y 411)), (7, .ref (zad Y 412)), (8, .int (i32 a8)), (9, .int (i32 a9))] ([]) 38 (fL_told_p38 fu g a8 a9) := by
  intro fu
  induction fu with
  | zero => intro g a8 a9; exact zr_none
  | succ fu ih =>
    intro g a8 a9
    rw [fL_told_p38]
    refine zr_iload (pc' := 40) cx rfl 9 dL_told_38 rfl ?_
    refine zr_aload (pc' := 42) cx rfl 4 dL_told_40 rfl ?_
    refine zr_iconst (pc' := 43) cx rfl dL_told_42 ?_
    refine zr_iald (pc' := 44) cx rfl 13 zkc_403 (by decide) (L := 9) rfl dL_told_43 ?_
    refine zr_icmp_ge (pc' := 47) cx rfl (tgt := 579) dL_told_44 rfl ?_ ?_
    · refine zr_iconst (pc' := 580) cx rfl dL_told_579 ?_
      refine zr_istore (pc' := 582) cx rfl (lv' := [(9, .int (i32 0)), (0, .ref (zad Y 0)), (1, .ref (zad Y 400)), (2, .ref (zad Y 401)), (3, .ref (zad Y 402)), (4, .ref (zad Y 403)), (5, .ref (zad Y 410)), (6, .ref (zad Y 411)), (7, .ref (zad Y 412)), (8, .int (i32 a8))]) dL_told_580 (by decide) rfl ?_
      refine zr_sub [1, 2, 3, 4, 5, 6, 8, 9, 0] rfl ?_
      exact wL_told_p582 cx hlv hup zfu g a8 0
    · refine zr_iconst (pc' := 48) cx rfl dL_told_47 ?_
      refine zr_istore (pc' := 50) cx rfl (lv' := [(10, .int (i32 0)), (0, .ref (zad Y 0)), (1, .ref (zad Y 400)), (2, .ref (zad Y 401)), (3, .ref (zad Y 402)), (4, .ref (zad Y 403)), (5, .ref (zad Y 410)), (6, .ref (zad Y 411)), (7, .ref (zad Y 412)), (8, .int (i32 a8)), (9, .int (i32 a9))]) dL_told_48 (by decide) rfl ?_
      refine zr_iconst (pc' := 51) cx rfl dL_told_50 ?_
      refine zr_istore (pc' := 53) cx rfl (lv' := [(11, .int (i32 0)), (10, .int (i32 0)), (0, .ref (zad Y 0)), (1, .ref (zad Y 400)), (2, .ref (zad Y 401)), (3, .ref (zad Y 402)), (4, .ref (zad Y 403)), (5, .ref (zad Y 410)), (6, .ref (zad Y 411)), (7, .ref (zad Y 412)), (8, .int (i32 a8)), (9, .int (i32 a9))]) dL_told_51 (by decide) rfl ?_
      refine zr_iconst (pc' := 54) cx rfl dL_told_53 ?_
      refine zr_istore (pc' := 56) cx rfl (lv' := [(12, .int (i32 0)), (11, .int (i32 0)), (10, .int (i32 0)), (0, .ref (zad Y 0)), (1, .ref (zad Y 400)), (2, .ref (zad Y 401)), (3, .ref (zad Y 402)), (4, .ref (zad Y 403)), (5, .ref (zad Y 410)), (6, .ref (zad Y 411)), (7, .ref (zad Y 412)), (8, .int (i32 a8)), (9, .int (i32 a9))]) dL_told_54 (by decide) rfl ?_
      refine zr_iload (pc' := 58) cx rfl 12 dL_told_56 rfl ?_
      refine zr_iconst (pc' := 59) cx rfl dL_told_58 ?_
      refine zr_iadd (pc' := 60) cx rfl dL_told_59 ?_
      refine zr_leti (fun x44 => ?_)
      refine zr_istore (pc' := 62) cx rfl (lv' := [(13, .int (i32 x44)), (12, .int (i32 0)), (11, .int (i32 0)), (10, .int (i32 0)), (0, .ref (zad Y 0)), (1, .ref (zad Y 400)), (2, .ref (zad Y 401)), (3, .ref (zad Y 402)), (4, .ref (zad Y 403)), (5, .ref (zad Y 410)), (6, .ref (zad Y 411)), (7, .ref (zad Y 412)), (8, .int (i32 a8)), (9, .int (i32 a9))]) dL_told_60 (by decide) rfl ?_
      refine zr_sub [4, 5, 6, 7, 8, 9, 10, 11, 12, 13, 3, 2, 1, 0] rfl ?_
      exact wL_told_p62 cx hlv hup ih zfu g a8 a9 0 0 0 x44
theorem wL_told (cx : zCx Y p s m args meth c RL cL_told 16 (some .boolean)) (hlv : zlv Y = 1) (hup : zUq Y0 Y s) (g : zSt)  : zWo Y p l e (zra 3 34 4) s m args below meth c 16 3 34 (fun q : Int × zSt => MQ below (zQi Y0 q.1 q.2) args s 3 34 (zA Y0)) g [(0, .ref (zad Y 0)), (1, .ref (zad Y 400)), (2, .ref (zad Y 401)), (3, .ref (zad Y 402)), (4, .ref (zad Y 403)), (5, .ref (zad Y 410)), (6, .ref (zad Y 411)), (7, .ref (zad Y 412))] ([]) 18 (fL_told g) := by
  unfold fL_told
  refine zr_aload_n (pc' := 19) cx rfl 1 dL_told_18 rfl rfl ?_
  refine zr_aload_n (pc' := 20) cx rfl 2 dL_told_19 rfl rfl ?_
  refine zr_aload_n (pc' := 21) cx rfl 3 dL_told_20 rfl rfl ?_
  refine zr_aload (pc' := 23) cx rfl 4 dL_told_21 rfl ?_
  refine zr_aload (pc' := 25) cx rfl 5 dL_told_23 rfl ?_
  refine zr_aload (pc' := 27) cx rfl 6 dL_told_25 rfl ?_
  refine zr_aload (pc' := 29) cx rfl 7 dL_told_27 rfl ?_
  refine zc_L_17 (pc' := 32) cx rfl zkc_400 zkc_401 zkc_402 zkc_403 (zkc_410 hlv) (zkc_411 hlv) (zkc_412 hlv) ⟨Nat.le_of_ble_eq_true rfl, Nat.le_of_ble_eq_true rfl⟩ ⟨Nat.le_of_ble_eq_true rfl, Nat.le_of_ble_eq_true rfl⟩ (Nat.le_of_ble_eq_true rfl) dL_told_29 (fun g45 => ?_)
  refine zr_iconst (pc' := 33) cx rfl dL_told_32 ?_
  refine zr_istore (pc' := 35) cx rfl (lv' := [(8, .int (i32 0)), (0, .ref (zad Y 0)), (1, .ref (zad Y 400)), (2, .ref (zad Y 401)), (3, .ref (zad Y 402)), (4, .ref (zad Y 403)), (5, .ref (zad Y 410)), (6, .ref (zad Y 411)), (7, .ref (zad Y 412))]) dL_told_33 (by decide) rfl ?_
  refine zr_iconst (pc' := 36) cx rfl dL_told_35 ?_
  refine zr_istore (pc' := 38) cx rfl (lv' := [(9, .int (i32 0)), (8, .int (i32 0)), (0, .ref (zad Y 0)), (1, .ref (zad Y 400)), (2, .ref (zad Y 401)), (3, .ref (zad Y 402)), (4, .ref (zad Y 403)), (5, .ref (zad Y 410)), (6, .ref (zad Y 411)), (7, .ref (zad Y 412))]) dL_told_36 (by decide) rfl ?_
  refine zr_sub [2, 3, 4, 5, 6, 7, 8, 9, 1, 0] rfl ?_
  exact wL_told_p38 cx hlv hup zfu g45 0 0
end Ztold
