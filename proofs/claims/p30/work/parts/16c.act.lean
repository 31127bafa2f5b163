section Zact
variable {ρ : Type} {Y : zLy} {p : Program} {l : Launch} {e : Env} {R : Room} {s : State} {m : MethodId} {args : Array Value} {below : List Frame} {meth : Method} {c : Code} {nl k n : Nat} {kq : ρ → State → Prop} {lv : List (Nat × Value)} {rest : List Value} {pc pc' : Nat} {cc : ByteArray} {ret : Option FieldType}
def fL_act_p234  (g : zSt) (y1 : Int) (y2 : Int) (y3 : Int) (y4 : Int) : Option (Int × zSt) :=
    zbe (fX7_addBox g y1 y2 y3 y4) (fun v1 g2 =>
    zck ((0 : Int) ≤ 0 ∧ 0 < 9) (
    (if i32 v1 = i32 ((g2.1 403 (Int.toNat 0)) - 1) then
    zck ((1 : Int) = 0 ∨ (1 : Int) = 1) (some (1, g2))
    else
    zck ((0 : Int) = 0 ∨ (0 : Int) = 1) (some (0, g2)))))
def fL_act_p132  (g : zSt) (y1 : Int) (y2 : Int) (y3 : Int) (y4 : Int) (a11 : Int) (a12 : Int) : Option (Int × zSt) :=
    zbd (fL_at g y3 y4) (fun v3 =>
    zck ((0 : Int) ≤ y1 ∧ y1 < 56) (zlet (zwr g 400 (Int.toNat y1) (y2 + v3)) (fun g4 =>
    zck ((0 : Int) ≤ (a12 + 5) ∧ (a12 + 5) < 56) (zlet (zwr g4 400 (Int.toNat (a12 + 5)) 0) (fun g5 =>
    zck ((0 : Int) ≤ (a12 + 6) ∧ (a12 + 6) < 56) (zlet (zwr g5 400 (Int.toNat (a12 + 6)) 0) (fun g6 =>
    zck ((0 : Int) ≤ ((8 * a11) + 7) ∧ ((8 * a11) + 7) < 56) (
    zck ((0 : Int) ≤ (a12 + 7) ∧ (a12 + 7) < 56) (zlet (zwr g6 400 (Int.toNat (a12 + 7)) ((g6.1 400 (Int.toNat ((8 * a11) + 7))) + 1)) (fun g7 =>
    zck ((0 : Int) ≤ 0 ∧ 0 < 9) (
    zck ((0 : Int) ≤ 0 ∧ 0 < 9) (zlet (zwr g7 403 (Int.toNat 0) ((g7.1 403 (Int.toNat 0)) + 1)) (fun g8 =>
    zbe (fL_settle g8 400 401 402 403 404 405 406) (fun v9 g10 =>
    zck ((0 : Int) ≤ (a12 + 3) ∧ (a12 + 3) < 56) (
    zck ((0 : Int) ≤ (a12 + 4) ∧ (a12 + 4) < 56) (
    zck ((0 : Int) ≤ (a12 + 1) ∧ (a12 + 1) < 56) (
    (if i32 (g10.1 400 (Int.toNat (a12 + 1))) = i32 1 then
    fL_act_p234 g10 a11 (g10.1 400 (Int.toNat (a12 + 3))) (g10.1 400 (Int.toNat (a12 + 4))) 1
    else
    fL_act_p234 g10 a11 (g10.1 400 (Int.toNat (a12 + 3))) (g10.1 400 (Int.toNat (a12 + 4))) 0))))))))))))))))))
def fL_act_p98  (g : zSt) (y1 : Int) (y2 : Int) (y3 : Int) (y4 : Int) (a2 : Int) (a3 : Int) (a11 : Int) (a12 : Int) : Option (Int × zSt) :=
    zbd (fL_at g y3 y4) (fun v11 =>
    zck ((0 : Int) ≤ y1 ∧ y1 < 56) (zlet (zwr g 400 (Int.toNat y1) (y2 + v11)) (fun g12 =>
    zbd (fL_at g12 (zsr a2 6) 3) (fun v13 =>
    (if i32 v13 = i32 0 then
    fL_act_p132 g12 (a12 + 4) 1 (zsr a3 6) 60 a11 a12
    else
    fL_act_p132 g12 (a12 + 4) 1 (zsr a3 6) 20 a11 a12)))))
def fL_act_p63  (g : zSt) (y1 : Int) (y2 : Int) (a2 : Int) (a3 : Int) (a11 : Int) (a12 : Int) : Option (Int × zSt) :=
    zck ((0 : Int) ≤ y1 ∧ y1 < 56) (zlet (zwr g 400 (Int.toNat y1) y2) (fun g14 =>
    zck ((0 : Int) ≤ (a12 + 2) ∧ (a12 + 2) < 56) (zlet (zwr g14 400 (Int.toNat (a12 + 2)) 1) (fun g15 =>
    zbd (fL_at g15 (zsr a2 6) 3) (fun v16 =>
    (if i32 v16 = i32 0 then
    fL_act_p98 g15 (a12 + 3) 1 a3 60 a2 a3 a11 a12
    else
    fL_act_p98 g15 (a12 + 3) 1 a3 20 a2 a3 a11 a12))))))
def fL_act_p365  (g : zSt) (y1 : Int) (y2 : Int) (y3 : Int) : Option (Int × zSt) :=
    zbe (fX7_hang g y1 y2 y3) (fun v17 g18 =>
    zck ((0 : Int) ≤ 1 ∧ 1 < 9) (
    (if i32 v17 = i32 ((g18.1 403 (Int.toNat 1)) - 1) then
    zck ((1 : Int) = 0 ∨ (1 : Int) = 1) (some (1, g18))
    else
    zck ((0 : Int) = 0 ∨ (0 : Int) = 1) (some (0, g18)))))
def fL_act_p551  : Nat → zSt → Int → Int → Int → Option (Int × zSt)
  | 0, _, _, _, _ => none
  | fu + 1, g, a12, a13, a14 =>
    zck ((0 : Int) ≤ 2 ∧ 2 < 9) (
    (if i32 a14 < i32 (3 * (g.1 403 (Int.toNat 2))) then
    zck ((0 : Int) ≤ (a14 + 3) ∧ (a14 + 3) < 18) (
    zck ((0 : Int) ≤ a14 ∧ a14 < 18) (zlet (zwr g 402 (Int.toNat a14) (g.1 402 (Int.toNat (a14 + 3)))) (fun g23 =>
    fL_act_p551 fu g23 a12 a13 (a14 + 1))))
    else
    zbe (fL_settle g 400 401 402 403 404 405 406) (fun v19 g20 =>
    zbe (fX7_mend g20 a12) (fun v21 g22 =>
    (if i32 v21 = i32 a13 then
    zck ((1 : Int) = 0 ∨ (1 : Int) = 1) (some (1, g22))
    else
    zck ((0 : Int) = 0 ∨ (0 : Int) = 1) (some (0, g22)))))))
def fL_act_p692  : Nat → zSt → Int → Int → Int → Option (Int × zSt)
  | 0, _, _, _, _ => none
  | fu + 1, g, a12, a13, a14 =>
    zck ((0 : Int) ≤ 1 ∧ 1 < 9) (
    (if i32 a14 < i32 (3 * (g.1 403 (Int.toNat 1))) then
    zck ((0 : Int) ≤ (a14 + 3) ∧ (a14 + 3) < 24) (
    zck ((0 : Int) ≤ a14 ∧ a14 < 24) (zlet (zwr g 401 (Int.toNat a14) (g.1 401 (Int.toNat (a14 + 3)))) (fun g28 =>
    fL_act_p692 fu g28 a12 a13 (a14 + 1))))
    else
    zbe (fL_settle g 400 401 402 403 404 405 406) (fun v24 g25 =>
    zbe (fX7_takeDown g25 a12) (fun v26 g27 =>
    (if i32 v26 = i32 a13 then
    zck ((1 : Int) = 0 ∨ (1 : Int) = 1) (some (1, g27))
    else
    zck ((0 : Int) = 0 ∨ (0 : Int) = 1) (some (0, g27)))))))
def fL_act_p676  (g : zSt) (y0 : Int) (a12 : Int) : Option (Int × zSt) :=
    zck ((0 : Int) ≤ 1 ∧ 1 < 9) (
    zck ((0 : Int) ≤ 1 ∧ 1 < 9) (zlet (zwr g 403 (Int.toNat 1) ((g.1 403 (Int.toNat 1)) - 1)) (fun g29 =>
    zlet (3 * a12) (fun x30 =>
    fL_act_p692 zfu g29 a12 y0 x30))))
def fL_act_p872  (g : zSt) (y1 : Int) (y2 : Int) (y3 : Int) (y4 : Int) (a12 : Int) (a13 : Int) : Option (Int × zSt) :=
    zck ((0 : Int) ≤ y1 ∧ y1 < 9) (zlet (zwr g 403 (Int.toNat y1) (y2 + (y3 * y4))) (fun g31 =>
    zbe (fX7_burn g31 a12) (fun v32 g33 =>
    (if i32 v32 = i32 a13 then
    zck ((1 : Int) = 0 ∨ (1 : Int) = 1) (some (1, g33))
    else
    zck ((0 : Int) = 0 ∨ (0 : Int) = 1) (some (0, g33))))))
def fL_act_p922  (g : zSt) (y0 : Int) (a1 : Int) (a11 : Int) : Option (Int × zSt) :=
    zck ((0 : Int) ≤ ((8 * a11) + y0) ∧ ((8 * a11) + y0) < 56) (
    zck ((0 : Int) ≤ ((8 * a11) + y0) ∧ ((8 * a11) + y0) < 56) (zlet (zwr g 400 (Int.toNat ((8 * a11) + y0)) (1 - (g.1 400 (Int.toNat ((8 * a11) + y0))))) (fun g34 =>
    zbe (fL_settle g34 400 401 402 403 404 405 406) (fun v35 g36 =>
    (if i32 a1 = i32 12 then
    zbe (fX7_toggle g36 a11) (fun v40 g41 =>
    zck ((0 : Int) ≤ ((8 * a11) + 2) ∧ ((8 * a11) + 2) < 56) (
    (if i32 v40 = i32 (g41.1 400 (Int.toNat ((8 * a11) + 2))) then
    zck ((1 : Int) = 0 ∨ (1 : Int) = 1) (some (1, g41))
    else
    zck ((0 : Int) = 0 ∨ (0 : Int) = 1) (some (0, g41)))))
    else
    zbe (fX7_cross g36 a11) (fun v37 g38 =>
    zbd (fL_burn g38 400 401 403 404 0) (fun v39 =>
    (if i32 v37 = i32 v39 then
    zck ((1 : Int) = 0 ∨ (1 : Int) = 1) (some (1, g38))
    else
    zck ((0 : Int) = 0 ∨ (0 : Int) = 1) (some (0, g38))))))))))
def fL_act (g : zSt) (a1 : Int) (a2 : Int) (a3 : Int) : Option (Int × zSt) :=
    zck ((0 : Int) ≤ 0 ∧ 0 < 9) (
    zbd (fL_at g a2 (g.1 403 (Int.toNat 0))) (fun v42 =>
    (if i32 a1 < i32 3 then
    zck ((0 : Int) ≤ 0 ∧ 0 < 9) (
    (if i32 (g.1 403 (Int.toNat 0)) = i32 7 then
    zck ((1 : Int) = 0 ∨ (1 : Int) = 1) (some (1, g))
    else
    zck ((0 : Int) ≤ 0 ∧ 0 < 9) (
    zlet (8 * (g.1 403 (Int.toNat 0))) (fun x92 =>
    zck ((0 : Int) ≤ x92 ∧ x92 < 56) (zlet (zwr g 400 (Int.toNat x92) v42) (fun g93 =>
    zbd (fL_at g93 (zsr a2 4) 3) (fun v94 =>
    (if i32 v94 = i32 0 then
    fL_act_p63 g93 (x92 + 1) 1 a2 a3 v42 x92
    else
    fL_act_p63 g93 (x92 + 1) 0 a2 a3 v42 x92))))))))
    else
    (if i32 a1 < i32 6 then
    zck ((0 : Int) ≤ 1 ∧ 1 < 9) (
    (if i32 (g.1 403 (Int.toNat 1)) = i32 8 then
    zck ((1 : Int) = 0 ∨ (1 : Int) = 1) (some (1, g))
    else
    zck ((0 : Int) ≤ 1 ∧ 1 < 9) (
    zlet (3 * (g.1 403 (Int.toNat 1))) (fun x83 =>
    zck ((0 : Int) ≤ x83 ∧ x83 < 24) (zlet (zwr g 401 (Int.toNat x83) v42) (fun g84 =>
    zbd (fL_at g84 a3 9) (fun v85 =>
    zck ((0 : Int) ≤ (x83 + 1) ∧ (x83 + 1) < 24) (zlet (zwr g84 401 (Int.toNat (x83 + 1)) (1 + v85)) (fun g86 =>
    zbd (fL_at g86 (zsr a3 4) 2) (fun v87 =>
    zck ((0 : Int) ≤ (x83 + 2) ∧ (x83 + 2) < 24) (zlet (zwr g86 401 (Int.toNat (x83 + 2)) v87) (fun g88 =>
    zck ((0 : Int) ≤ 1 ∧ 1 < 9) (
    zck ((0 : Int) ≤ 1 ∧ 1 < 9) (zlet (zwr g88 403 (Int.toNat 1) ((g88.1 403 (Int.toNat 1)) + 1)) (fun g89 =>
    zbe (fL_settle g89 400 401 402 403 404 405 406) (fun v90 g91 =>
    zck ((0 : Int) ≤ (x83 + 1) ∧ (x83 + 1) < 24) (
    zck ((0 : Int) ≤ (x83 + 2) ∧ (x83 + 2) < 24) (
    (if i32 (g91.1 401 (Int.toNat (x83 + 2))) = i32 1 then
    fL_act_p365 g91 v42 (g91.1 401 (Int.toNat (x83 + 1))) 1
    else
    fL_act_p365 g91 v42 (g91.1 401 (Int.toNat (x83 + 1))) 0)))))))))))))))))))
    else
    (if i32 a1 < i32 9 then
    zck ((0 : Int) ≤ 2 ∧ 2 < 9) (
    (if i32 (g.1 403 (Int.toNat 2)) = i32 5 then
    zck ((1 : Int) = 0 ∨ (1 : Int) = 1) (some (1, g))
    else
    zck ((0 : Int) ≤ 2 ∧ 2 < 9) (
    zlet (3 * (g.1 403 (Int.toNat 2))) (fun x72 =>
    zck ((0 : Int) ≤ x72 ∧ x72 < 18) (zlet (zwr g 402 (Int.toNat x72) v42) (fun g73 =>
    zbd (fL_at g73 a3 2) (fun v74 =>
    zck ((0 : Int) ≤ (x72 + 1) ∧ (x72 + 1) < 18) (zlet (zwr g73 402 (Int.toNat (x72 + 1)) v74) (fun g75 =>
    zbd (fL_at g75 (zsr a3 2) 30) (fun v76 =>
    zck ((0 : Int) ≤ (x72 + 2) ∧ (x72 + 2) < 18) (zlet (zwr g75 402 (Int.toNat (x72 + 2)) (1 + v76)) (fun g77 =>
    zck ((0 : Int) ≤ 2 ∧ 2 < 9) (
    zck ((0 : Int) ≤ 2 ∧ 2 < 9) (zlet (zwr g77 403 (Int.toNat 2) ((g77.1 403 (Int.toNat 2)) + 1)) (fun g78 =>
    zbe (fL_settle g78 400 401 402 403 404 405 406) (fun v79 g80 =>
    zck ((0 : Int) ≤ (x72 + 1) ∧ (x72 + 1) < 18) (
    zck ((0 : Int) ≤ (x72 + 2) ∧ (x72 + 2) < 18) (
    zbe (fX7_fault g80 v42 (g80.1 402 (Int.toNat (x72 + 1))) (g80.1 402 (Int.toNat (x72 + 2)))) (fun v81 g82 =>
    (if i32 v81 = i32 v79 then
    zck ((1 : Int) = 0 ∨ (1 : Int) = 1) (some (1, g82))
    else
    zck ((0 : Int) = 0 ∨ (0 : Int) = 1) (some (0, g82))))))))))))))))))))))
    else
    (if i32 a1 = i32 9 then
    zck ((0 : Int) ≤ 2 ∧ 2 < 9) (
    (if i32 (g.1 403 (Int.toNat 2)) = i32 0 then
    zck ((1 : Int) = 0 ∨ (1 : Int) = 1) (some (1, g))
    else
    zck ((0 : Int) ≤ 2 ∧ 2 < 9) (
    zbd (fL_at g a2 (g.1 403 (Int.toNat 2))) (fun v68 =>
    zck ((0 : Int) ≤ ((3 * v68) + 2) ∧ ((3 * v68) + 2) < 18) (
    zlet (g.1 402 (Int.toNat ((3 * v68) + 2))) (fun x69 =>
    zck ((0 : Int) ≤ 2 ∧ 2 < 9) (
    zck ((0 : Int) ≤ 2 ∧ 2 < 9) (zlet (zwr g 403 (Int.toNat 2) ((g.1 403 (Int.toNat 2)) - 1)) (fun g70 =>
    zlet (3 * v68) (fun x71 =>
    fL_act_p551 zfu g70 v68 x69 x71))))))))))
    else
    (if i32 a1 = i32 10 then
    zck ((0 : Int) ≤ 1 ∧ 1 < 9) (
    (if i32 (g.1 403 (Int.toNat 1)) = i32 0 then
    zck ((1 : Int) = 0 ∨ (1 : Int) = 1) (some (1, g))
    else
    zck ((0 : Int) ≤ 1 ∧ 1 < 9) (
    zbd (fL_at g a2 (g.1 403 (Int.toNat 1))) (fun v65 =>
    zbd (fL_find g 400 401 402 403 404 405 406) (fun g66 =>
    zbd (fL_dark g66 v65 400 401 404) (fun v67 =>
    (if i32 v67 = i32 0 then
    fL_act_p676 g66 1 v65
    else
    fL_act_p676 g66 0 v65)))))))
    else
    (if i32 a1 = i32 11 then
    zbd (fL_find g 400 401 402 403 404 405 406) (fun g56 =>
    zbd (fL_at g56 a3 1000) (fun v57 =>
    zlet (1 + v57) (fun x58 =>
    zbd (fL_burn g56 400 401 403 404 1) (fun v59 =>
    zlet (x58 * v59) (fun x60 =>
    zbd (fL_lamp g56 0 402 403 404) (fun v61 =>
    zbd (fL_lamp g56 1 402 403 404) (fun v62 =>
    zck ((0 : Int) ≤ 5 ∧ 5 < 9) (
    zck ((0 : Int) ≤ 5 ∧ 5 < 9) (zlet (zwr g56 403 (Int.toNat 5) ((g56.1 403 (Int.toNat 5)) + x58)) (fun g63 =>
    zck ((0 : Int) ≤ 6 ∧ 6 < 9) (
    zck ((0 : Int) ≤ 6 ∧ 6 < 9) (zlet (zwr g63 403 (Int.toNat 6) ((g63.1 403 (Int.toNat 6)) + x60)) (fun g64 =>
    zck ((0 : Int) ≤ 7 ∧ 7 < 9) (
    (if i32 v61 < i32 v62 then
    fL_act_p872 g64 7 (g64.1 403 (Int.toNat 7)) x58 v61 x58 x60
    else
    fL_act_p872 g64 7 (g64.1 403 (Int.toNat 7)) x58 v62 x58 x60)))))))))))))))
    else
    (if i32 v42 = i32 0 then
    zck ((1 : Int) = 0 ∨ (1 : Int) = 1) (some (1, g))
    else
    (if i32 a1 = i32 12 then
    (if i32 a1 = i32 12 then
    fL_act_p922 g 2 a1 v42
    else
    fL_act_p922 g 1 a1 v42)
    else
    (if i32 a1 = i32 13 then
    (if i32 a1 = i32 12 then
    fL_act_p922 g 2 a1 v42
    else
    fL_act_p922 g 1 a1 v42)
    else
    zck ((0 : Int) ≤ 3 ∧ 3 < 9) (
    (if i32 (g.1 403 (Int.toNat 3)) = i32 0 then
    zck ((0 : Int) ≤ 3 ∧ 3 < 9) (
    zck ((0 : Int) ≤ 3 ∧ 3 < 9) (zlet (zwr g 403 (Int.toNat 3) ((g.1 403 (Int.toNat 3)) + 3)) (fun g53 =>
    zbe (fX7_buyFuses g53 3) (fun v54 g55 =>
    zck ((0 : Int) ≤ 3 ∧ 3 < 9) (
    (if i32 v54 = i32 (g55.1 403 (Int.toNat 3)) then
    zck ((1 : Int) = 0 ∨ (1 : Int) = 1) (some (1, g55))
    else
    zck ((0 : Int) = 0 ∨ (0 : Int) = 1) (some (0, g55))))))))
    else
    zbd (fL_at g (zsr a2 5) 2) (fun v43 =>
    zck ((0 : Int) ≤ 3 ∧ 3 < 9) (
    zck ((0 : Int) ≤ 3 ∧ 3 < 9) (zlet (zwr g 403 (Int.toNat 3) ((g.1 403 (Int.toNat 3)) - 1)) (fun g44 =>
    zbd (fL_at g44 a3 60) (fun v45 =>
    zck ((0 : Int) ≤ (((8 * v42) + 3) + v43) ∧ (((8 * v42) + 3) + v43) < 56) (zlet (zwr g44 400 (Int.toNat (((8 * v42) + 3) + v43)) (1 + v45)) (fun g46 =>
    zck ((0 : Int) ≤ (((8 * v42) + 5) + v43) ∧ (((8 * v42) + 5) + v43) < 56) (zlet (zwr g46 400 (Int.toNat (((8 * v42) + 5) + v43)) 0) (fun g47 =>
    zck ((0 : Int) ≤ (((8 * v42) + 3) + v43) ∧ (((8 * v42) + 3) + v43) < 56) (
    zlet (g47.1 400 (Int.toNat (((8 * v42) + 3) + v43))) (fun x48 =>
    zbe (fL_settle g47 400 401 402 403 404 405 406) (fun v49 g50 =>
    zbe (fX7_replace g50 v42 v43 x48) (fun v51 g52 =>
    zck ((0 : Int) ≤ (((8 * v42) + 5) + v43) ∧ (((8 * v42) + 5) + v43) < 56) (
    (if i32 v51 = i32 (1 - (g52.1 400 (Int.toNat (((8 * v42) + 5) + v43)))) then
    zck ((1 : Int) = 0 ∨ (1 : Int) = 1) (some (1, g52))
    else
    zck ((0 : Int) = 0 ∨ (0 : Int) = 1) (some (0, g52))))))))))))))))))))))))))))))
theorem wL_act_p234 (cx : zCx Y p s m args meth c RL cL_act 16 (some .boolean))   : ∀ (g : zSt) (y1 : Int) (y2 : Int) (y3 : Int) (y4 : Int), zWo Y p l e (zrm 5) s m args below meth c 16 0 0 (fun q : Int × zSt => MQ below (zQi Y q.1 q.2) args s 0 0 (zA Y)) g [(7, .ref (zad Y 403))] (.int (i32 y4) :: .int (i32 y3) :: .int (i32 y2) :: .int (i32 y1) :: .ref (zad Y 0) :: []) 234 (fL_act_p234 g y1 y2 y3 y4) := by
  intro g y1 y2 y3 y4
  unfold fL_act_p234
  refine zc_L_71 (pc' := 237) cx rfl  ⟨Nat.le_of_ble_eq_true rfl, Nat.le_of_ble_eq_true rfl⟩ ⟨Nat.zero_le _, Nat.zero_le _⟩ (Nat.le_of_ble_eq_true rfl) dL_act_234 (fun v1 g2 => ?_)
  refine zr_aload (pc' := 239) cx rfl 0 dL_act_237 rfl ?_
  refine zr_iconst (pc' := 240) cx rfl dL_act_239 ?_
  refine zr_iald (pc' := 241) cx rfl 13 zkc_403 (by decide) (L := 9) rfl dL_act_240 ?_
  refine zr_iconst (pc' := 242) cx rfl dL_act_241 ?_
  refine zr_isub (pc' := 243) cx rfl dL_act_242 ?_
  refine zr_icmp_ne (pc' := 246) cx rfl (tgt := 250) dL_act_243 rfl ?_ ?_
  · refine zr_iconst (pc' := 251) cx rfl dL_act_250 ?_
    exact zr_zretE cx dL_act_251
  · refine zr_iconst (pc' := 247) cx rfl dL_act_246 ?_
    refine zr_gotoS cx (tgt := 251) dL_act_247 rfl ?_
    exact zr_zretE cx dL_act_251
theorem wL_act_p132 (cx : zCx Y p s m args meth c RL cL_act 16 (some .boolean))   : ∀ (g : zSt) (y1 : Int) (y2 : Int) (y3 : Int) (y4 : Int) (a11 : Int) (a12 : Int), zWo Y p l e (zrm 5) s m args below meth c 16 0 0 (fun q : Int × zSt => MQ below (zQi Y q.1 q.2) args s 0 0 (zA Y)) g [(0, .ref (zad Y 0)), (4, .ref (zad Y 400)), (5, .ref (zad Y 401)), (6, .ref (zad Y 402)), (7, .ref (zad Y 403)), (8, .ref (zad Y 404)), (9, .ref (zad Y 405)), (10, .ref (zad Y 406)), (11, .int (i32 a11)), (12, .int (i32 a12))] (.int (i32 y4) :: .int (i32 y3) :: .int (i32 y2) :: .int (i32 y1) :: .ref (zad Y 400) :: []) 132 (fL_act_p132 g y1 y2 y3 y4 a11 a12) := by
  intro g y1 y2 y3 y4 a11 a12
  unfold fL_act_p132
  refine zc_L_51 (pc' := 135) cx rfl  ⟨Nat.le_of_ble_eq_true rfl, Nat.le_of_ble_eq_true rfl⟩ ⟨Nat.zero_le _, Nat.zero_le _⟩ (Nat.le_of_ble_eq_true rfl) dL_act_132 (fun v3 => ?_)
  refine zr_iadd (pc' := 136) cx rfl dL_act_135 ?_
  refine zr_iast (pc' := 137) cx rfl 16 zkc_400 (by decide) (L := 56) rfl dL_act_136 ?_
  refine zr_letS (fun g4 => ?_)
  refine zr_aload (pc' := 139) cx rfl 1 dL_act_137 rfl ?_
  refine zr_iload (pc' := 141) cx rfl 9 dL_act_139 rfl ?_
  refine zr_iconst (pc' := 142) cx rfl dL_act_141 ?_
  refine zr_iadd (pc' := 143) cx rfl dL_act_142 ?_
  refine zr_iconst (pc' := 144) cx rfl dL_act_143 ?_
  refine zr_iast (pc' := 145) cx rfl 16 zkc_400 (by decide) (L := 56) rfl dL_act_144 ?_
  refine zr_letS (fun g5 => ?_)
  refine zr_aload (pc' := 147) cx rfl 1 dL_act_145 rfl ?_
  refine zr_iload (pc' := 149) cx rfl 9 dL_act_147 rfl ?_
  refine zr_bipush (pc' := 151) cx rfl dL_act_149 (by decide +kernel) ?_
  refine zr_iadd (pc' := 152) cx rfl dL_act_151 ?_
  refine zr_iconst (pc' := 153) cx rfl dL_act_152 ?_
  refine zr_iast (pc' := 154) cx rfl 16 zkc_400 (by decide) (L := 56) rfl dL_act_153 ?_
  refine zr_letS (fun g6 => ?_)
  refine zr_aload (pc' := 156) cx rfl 1 dL_act_154 rfl ?_
  refine zr_iload (pc' := 158) cx rfl 9 dL_act_156 rfl ?_
  refine zr_bipush (pc' := 160) cx rfl dL_act_158 (by decide +kernel) ?_
  refine zr_iadd (pc' := 161) cx rfl dL_act_160 ?_
  refine zr_aload (pc' := 163) cx rfl 1 dL_act_161 rfl ?_
  refine zr_bipush (pc' := 165) cx rfl dL_act_163 (by decide +kernel) ?_
  refine zr_iload (pc' := 167) cx rfl 8 dL_act_165 rfl ?_
  refine zr_imul (pc' := 168) cx rfl dL_act_167 ?_
  refine zr_bipush (pc' := 170) cx rfl dL_act_168 (by decide +kernel) ?_
  refine zr_iadd (pc' := 171) cx rfl dL_act_170 ?_
  refine zr_iald (pc' := 172) cx rfl 16 zkc_400 (by decide) (L := 56) rfl dL_act_171 ?_
  refine zr_iconst (pc' := 173) cx rfl dL_act_172 ?_
  refine zr_iadd (pc' := 174) cx rfl dL_act_173 ?_
  refine zr_iast (pc' := 175) cx rfl 16 zkc_400 (by decide) (L := 56) rfl dL_act_174 ?_
  refine zr_letS (fun g7 => ?_)
  refine zr_aload (pc' := 177) cx rfl 4 dL_act_175 rfl ?_
  refine zr_iconst (pc' := 178) cx rfl dL_act_177 ?_
  refine zr_dup2 (pc' := 179) cx rfl dL_act_178 rfl rfl ?_
  refine zr_iald (pc' := 180) cx rfl 13 zkc_403 (by decide) (L := 9) rfl dL_act_179 ?_
  refine zr_iconst (pc' := 181) cx rfl dL_act_180 ?_
  refine zr_iadd (pc' := 182) cx rfl dL_act_181 ?_
  refine zr_iast (pc' := 183) cx rfl 13 zkc_403 (by decide) (L := 9) rfl dL_act_182 ?_
  refine zr_letS (fun g8 => ?_)
  refine zr_aload (pc' := 185) cx rfl 1 dL_act_183 rfl ?_
  refine zr_aload (pc' := 187) cx rfl 2 dL_act_185 rfl ?_
  refine zr_aload (pc' := 189) cx rfl 3 dL_act_187 rfl ?_
  refine zr_aload (pc' := 191) cx rfl 4 dL_act_189 rfl ?_
  refine zr_aload (pc' := 193) cx rfl 5 dL_act_191 rfl ?_
  refine zr_aload (pc' := 195) cx rfl 6 dL_act_193 rfl ?_
  refine zr_aload (pc' := 197) cx rfl 7 dL_act_195 rfl ?_
  refine zc_L_54 (pc' := 200) cx rfl zkc_400 zkc_401 zkc_402 zkc_403 zkc_404 zkc_405 zkc_406 ⟨Nat.le_of_ble_eq_true rfl, Nat.le_of_ble_eq_true rfl⟩ ⟨Nat.zero_le _, Nat.zero_le _⟩ (Nat.le_of_ble_eq_true rfl) dL_act_197 (fun v9 g10 => ?_)
  refine zr_pop (pc' := 201) cx rfl dL_act_200 rfl ?_
  refine zr_aload_n (pc' := 202) cx rfl 0 dL_act_201 rfl rfl ?_
  refine zr_iload (pc' := 204) cx rfl 8 dL_act_202 rfl ?_
  refine zr_aload (pc' := 206) cx rfl 1 dL_act_204 rfl ?_
  refine zr_iload (pc' := 208) cx rfl 9 dL_act_206 rfl ?_
  refine zr_iconst (pc' := 209) cx rfl dL_act_208 ?_
  refine zr_iadd (pc' := 210) cx rfl dL_act_209 ?_
  refine zr_iald (pc' := 211) cx rfl 16 zkc_400 (by decide) (L := 56) rfl dL_act_210 ?_
  refine zr_aload (pc' := 213) cx rfl 1 dL_act_211 rfl ?_
  refine zr_iload (pc' := 215) cx rfl 9 dL_act_213 rfl ?_
  refine zr_iconst (pc' := 216) cx rfl dL_act_215 ?_
  refine zr_iadd (pc' := 217) cx rfl dL_act_216 ?_
  refine zr_iald (pc' := 218) cx rfl 16 zkc_400 (by decide) (L := 56) rfl dL_act_217 ?_
  refine zr_aload (pc' := 220) cx rfl 1 dL_act_218 rfl ?_
  refine zr_iload (pc' := 222) cx rfl 9 dL_act_220 rfl ?_
  refine zr_iconst (pc' := 223) cx rfl dL_act_222 ?_
  refine zr_iadd (pc' := 224) cx rfl dL_act_223 ?_
  refine zr_iald (pc' := 225) cx rfl 16 zkc_400 (by decide) (L := 56) rfl dL_act_224 ?_
  refine zr_iconst (pc' := 226) cx rfl dL_act_225 ?_
  refine zr_icmp_ne (pc' := 229) cx rfl (tgt := 233) dL_act_226 rfl ?_ ?_
  · refine zr_iconst (pc' := 234) cx rfl dL_act_233 ?_
    refine zr_sub [4] rfl ?_
    exact wL_act_p234 cx g10 a11 (g10.1 400 (Int.toNat (a12 + 3))) (g10.1 400 (Int.toNat (a12 + 4))) 0
  · refine zr_iconst (pc' := 230) cx rfl dL_act_229 ?_
    refine zr_gotoS cx (tgt := 234) dL_act_230 rfl ?_
    refine zr_sub [4] rfl ?_
    exact wL_act_p234 cx g10 a11 (g10.1 400 (Int.toNat (a12 + 3))) (g10.1 400 (Int.toNat (a12 + 4))) 1
theorem wL_act_p98 (cx : zCx Y p s m args meth c RL cL_act 16 (some .boolean))   : ∀ (g : zSt) (y1 : Int) (y2 : Int) (y3 : Int) (y4 : Int) (a2 : Int) (a3 : Int) (a11 : Int) (a12 : Int), zWo Y p l e (zrm 5) s m args below meth c 16 0 0 (fun q : Int × zSt => MQ below (zQi Y q.1 q.2) args s 0 0 (zA Y)) g [(0, .ref (zad Y 0)), (2, .int (i32 a2)), (3, .int (i32 a3)), (4, .ref (zad Y 400)), (5, .ref (zad Y 401)), (6, .ref (zad Y 402)), (7, .ref (zad Y 403)), (8, .ref (zad Y 404)), (9, .ref (zad Y 405)), (10, .ref (zad Y 406)), (11, .int (i32 a11)), (12, .int (i32 a12))] (.int (i32 y4) :: .int (i32 y3) :: .int (i32 y2) :: .int (i32 y1) :: .ref (zad Y 400) :: []) 98 (fL_act_p98 g y1 y2 y3 y4 a2 a3 a11 a12) := by
  intro g y1 y2 y3 y4 a2 a3 a11 a12
  unfold fL_act_p98
  refine zc_L_51 (pc' := 101) cx rfl  ⟨Nat.le_of_ble_eq_true rfl, Nat.le_of_ble_eq_true rfl⟩ ⟨Nat.zero_le _, Nat.zero_le _⟩ (Nat.le_of_ble_eq_true rfl) dL_act_98 (fun v11 => ?_)
  refine zr_iadd (pc' := 102) cx rfl dL_act_101 ?_
  refine zr_iast (pc' := 103) cx rfl 16 zkc_400 (by decide) (L := 56) rfl dL_act_102 ?_
  refine zr_letS (fun g12 => ?_)
  refine zr_aload (pc' := 105) cx rfl 3 dL_act_103 rfl ?_
  refine zr_iload (pc' := 107) cx rfl 11 dL_act_105 rfl ?_
  refine zr_iconst (pc' := 108) cx rfl dL_act_107 ?_
  refine zr_iadd (pc' := 109) cx rfl dL_act_108 ?_
  refine zr_iconst (pc' := 110) cx rfl dL_act_109 ?_
  refine zr_iload_n (pc' := 111) cx rfl 2 dL_act_110 rfl rfl ?_
  refine zr_bipush (pc' := 113) cx rfl dL_act_111 (by decide +kernel) ?_
  refine zr_ishr (pc' := 114) cx rfl dL_act_113 ?_
  refine zr_iload_n (pc' := 115) cx rfl 1 dL_act_114 rfl rfl ?_
  refine zr_bipush (pc' := 117) cx rfl dL_act_115 (by decide +kernel) ?_
  refine zr_ishr (pc' := 118) cx rfl dL_act_117 ?_
  refine zr_iconst (pc' := 119) cx rfl dL_act_118 ?_
  refine zc_L_51 (pc' := 122) cx rfl  ⟨Nat.le_of_ble_eq_true rfl, Nat.le_of_ble_eq_true rfl⟩ ⟨Nat.zero_le _, Nat.zero_le _⟩ (Nat.le_of_ble_eq_true rfl) dL_act_119 (fun v13 => ?_)
  refine zr_if_ne (pc' := 125) cx rfl (tgt := 130) dL_act_122 rfl ?_ ?_
  · refine zr_bipush (pc' := 132) cx rfl dL_act_130 (by decide +kernel) ?_
    refine zr_sub [0, 3, 4, 5, 6, 7, 8, 9, 10, 11] rfl ?_
    exact wL_act_p132 cx g12 (a12 + 4) 1 (zsr a3 6) 20 a11 a12
  · refine zr_bipush (pc' := 127) cx rfl dL_act_125 (by decide +kernel) ?_
    refine zr_gotoS cx (tgt := 132) dL_act_127 rfl ?_
    refine zr_sub [0, 3, 4, 5, 6, 7, 8, 9, 10, 11] rfl ?_
    exact wL_act_p132 cx g12 (a12 + 4) 1 (zsr a3 6) 60 a11 a12
theorem wL_act_p63 (cx : zCx Y p s m args meth c RL cL_act 16 (some .boolean))   : ∀ (g : zSt) (y1 : Int) (y2 : Int) (a2 : Int) (a3 : Int) (a11 : Int) (a12 : Int), zWo Y p l e (zrm 5) s m args below meth c 16 0 0 (fun q : Int × zSt => MQ below (zQi Y q.1 q.2) args s 0 0 (zA Y)) g [(0, .ref (zad Y 0)), (2, .int (i32 a2)), (3, .int (i32 a3)), (4, .ref (zad Y 400)), (5, .ref (zad Y 401)), (6, .ref (zad Y 402)), (7, .ref (zad Y 403)), (8, .ref (zad Y 404)), (9, .ref (zad Y 405)), (10, .ref (zad Y 406)), (11, .int (i32 a11)), (12, .int (i32 a12))] (.int (i32 y2) :: .int (i32 y1) :: .ref (zad Y 400) :: []) 63 (fL_act_p63 g y1 y2 a2 a3 a11 a12) := by
  intro g y1 y2 a2 a3 a11 a12
  unfold fL_act_p63
  refine zr_iast (pc' := 64) cx rfl 16 zkc_400 (by decide) (L := 56) rfl dL_act_63 ?_
  refine zr_letS (fun g14 => ?_)
  refine zr_aload (pc' := 66) cx rfl 3 dL_act_64 rfl ?_
  refine zr_iload (pc' := 68) cx rfl 11 dL_act_66 rfl ?_
  refine zr_iconst (pc' := 69) cx rfl dL_act_68 ?_
  refine zr_iadd (pc' := 70) cx rfl dL_act_69 ?_
  refine zr_iconst (pc' := 71) cx rfl dL_act_70 ?_
  refine zr_iast (pc' := 72) cx rfl 16 zkc_400 (by decide) (L := 56) rfl dL_act_71 ?_
  refine zr_letS (fun g15 => ?_)
  refine zr_aload (pc' := 74) cx rfl 3 dL_act_72 rfl ?_
  refine zr_iload (pc' := 76) cx rfl 11 dL_act_74 rfl ?_
  refine zr_iconst (pc' := 77) cx rfl dL_act_76 ?_
  refine zr_iadd (pc' := 78) cx rfl dL_act_77 ?_
  refine zr_iconst (pc' := 79) cx rfl dL_act_78 ?_
  refine zr_iload_n (pc' := 80) cx rfl 2 dL_act_79 rfl rfl ?_
  refine zr_iload_n (pc' := 81) cx rfl 1 dL_act_80 rfl rfl ?_
  refine zr_bipush (pc' := 83) cx rfl dL_act_81 (by decide +kernel) ?_
  refine zr_ishr (pc' := 84) cx rfl dL_act_83 ?_
  refine zr_iconst (pc' := 85) cx rfl dL_act_84 ?_
  refine zc_L_51 (pc' := 88) cx rfl  ⟨Nat.le_of_ble_eq_true rfl, Nat.le_of_ble_eq_true rfl⟩ ⟨Nat.zero_le _, Nat.zero_le _⟩ (Nat.le_of_ble_eq_true rfl) dL_act_85 (fun v16 => ?_)
  refine zr_if_ne (pc' := 91) cx rfl (tgt := 96) dL_act_88 rfl ?_ ?_
  · refine zr_bipush (pc' := 98) cx rfl dL_act_96 (by decide +kernel) ?_
    refine zr_sub [0, 1, 2, 3, 4, 5, 6, 7, 8, 9, 10, 11] rfl ?_
    exact wL_act_p98 cx g15 (a12 + 3) 1 a3 20 a2 a3 a11 a12
  · refine zr_bipush (pc' := 93) cx rfl dL_act_91 (by decide +kernel) ?_
    refine zr_gotoS cx (tgt := 98) dL_act_93 rfl ?_
    refine zr_sub [0, 1, 2, 3, 4, 5, 6, 7, 8, 9, 10, 11] rfl ?_
    exact wL_act_p98 cx g15 (a12 + 3) 1 a3 60 a2 a3 a11 a12
theorem wL_act_p365 (cx : zCx Y p s m args meth c RL cL_act 16 (some .boolean))   : ∀ (g : zSt) (y1 : Int) (y2 : Int) (y3 : Int), zWo Y p l e (zrm 5) s m args below meth c 16 0 0 (fun q : Int × zSt => MQ below (zQi Y q.1 q.2) args s 0 0 (zA Y)) g [(7, .ref (zad Y 403))] (.int (i32 y3) :: .int (i32 y2) :: .int (i32 y1) :: .ref (zad Y 0) :: []) 365 (fL_act_p365 g y1 y2 y3) := by
  intro g y1 y2 y3
  unfold fL_act_p365
  refine zc_L_75 (pc' := 368) cx rfl  ⟨Nat.le_of_ble_eq_true rfl, Nat.le_of_ble_eq_true rfl⟩ ⟨Nat.zero_le _, Nat.zero_le _⟩ (Nat.le_of_ble_eq_true rfl) dL_act_365 (fun v17 g18 => ?_)
  refine zr_aload (pc' := 370) cx rfl 0 dL_act_368 rfl ?_
  refine zr_iconst (pc' := 371) cx rfl dL_act_370 ?_
  refine zr_iald (pc' := 372) cx rfl 13 zkc_403 (by decide) (L := 9) rfl dL_act_371 ?_
  refine zr_iconst (pc' := 373) cx rfl dL_act_372 ?_
  refine zr_isub (pc' := 374) cx rfl dL_act_373 ?_
  refine zr_icmp_ne (pc' := 377) cx rfl (tgt := 381) dL_act_374 rfl ?_ ?_
  · refine zr_iconst (pc' := 382) cx rfl dL_act_381 ?_
    exact zr_zretE cx dL_act_382
  · refine zr_iconst (pc' := 378) cx rfl dL_act_377 ?_
    refine zr_gotoS cx (tgt := 382) dL_act_378 rfl ?_
    exact zr_zretE cx dL_act_382
theorem wL_act_p551 (cx : zCx Y p s m args meth c RL cL_act 16 (some .boolean))   : ∀ (fu : Nat) (g : zSt) (a12 : Int) (a13 : Int) (a14 : Int), zWo Y p l e (zrm 5) s m args below meth c 16 0 0 (fun q : Int × zSt => MQ below (zQi Y q.1 q.2) args s 0 0 (zA Y)) g [(0, .ref (zad Y 0)), (4, .ref (zad Y 400)), (5, .ref (zad Y 401)), (6, .ref (zad Y 402)), (7, .ref (zad Y 403)), (8, .ref (zad Y 404)), (9, .ref (zad Y 405)), (10, .ref (zad Y 406)), (12, .int (i32 a12)), (13, .int (i32 a13)), (14, .int (i32 a14))] ([]) 551 (fL_act_p551 fu g a12 a13 a14) := by
  intro fu
  induction fu with
  | zero => intro g a12 a13 a14; exact zr_none
  | succ fu ih =>
    intro g a12 a13 a14
    rw [fL_act_p551]
    refine zr_iload (pc' := 553) cx rfl 10 dL_act_551 rfl ?_
    refine zr_iconst (pc' := 554) cx rfl dL_act_553 ?_
    refine zr_aload (pc' := 556) cx rfl 4 dL_act_554 rfl ?_
    refine zr_iconst (pc' := 557) cx rfl dL_act_556 ?_
    refine zr_iald (pc' := 558) cx rfl 13 zkc_403 (by decide) (L := 9) rfl dL_act_557 ?_
    refine zr_imul (pc' := 559) cx rfl dL_act_558 ?_
    refine zr_icmp_ge (pc' := 562) cx rfl (tgt := 580) dL_act_559 rfl ?_ ?_
    · refine zr_aload (pc' := 582) cx rfl 1 dL_act_580 rfl ?_
      refine zr_aload (pc' := 584) cx rfl 2 dL_act_582 rfl ?_
      refine zr_aload (pc' := 586) cx rfl 3 dL_act_584 rfl ?_
      refine zr_aload (pc' := 588) cx rfl 4 dL_act_586 rfl ?_
      refine zr_aload (pc' := 590) cx rfl 5 dL_act_588 rfl ?_
      refine zr_aload (pc' := 592) cx rfl 6 dL_act_590 rfl ?_
      refine zr_aload (pc' := 594) cx rfl 7 dL_act_592 rfl ?_
      refine zc_L_54 (pc' := 597) cx rfl zkc_400 zkc_401 zkc_402 zkc_403 zkc_404 zkc_405 zkc_406 ⟨Nat.le_of_ble_eq_true rfl, Nat.le_of_ble_eq_true rfl⟩ ⟨Nat.zero_le _, Nat.zero_le _⟩ (Nat.le_of_ble_eq_true rfl) dL_act_594 (fun v19 g20 => ?_)
      refine zr_pop (pc' := 598) cx rfl dL_act_597 rfl ?_
      refine zr_aload_n (pc' := 599) cx rfl 0 dL_act_598 rfl rfl ?_
      refine zr_iload (pc' := 601) cx rfl 8 dL_act_599 rfl ?_
      refine zc_L_82 (pc' := 604) cx rfl  ⟨Nat.le_of_ble_eq_true rfl, Nat.le_of_ble_eq_true rfl⟩ ⟨Nat.zero_le _, Nat.zero_le _⟩ (Nat.le_of_ble_eq_true rfl) dL_act_601 (fun v21 g22 => ?_)
      refine zr_iload (pc' := 606) cx rfl 9 dL_act_604 rfl ?_
      refine zr_icmp_ne (pc' := 609) cx rfl (tgt := 613) dL_act_606 rfl ?_ ?_
      · refine zr_iconst (pc' := 614) cx rfl dL_act_613 ?_
        exact zr_zretE cx dL_act_614
      · refine zr_iconst (pc' := 610) cx rfl dL_act_609 ?_
        refine zr_gotoS cx (tgt := 614) dL_act_610 rfl ?_
        exact zr_zretE cx dL_act_614
    · refine zr_aload (pc' := 564) cx rfl 3 dL_act_562 rfl ?_
      refine zr_iload (pc' := 566) cx rfl 10 dL_act_564 rfl ?_
      refine zr_aload (pc' := 568) cx rfl 3 dL_act_566 rfl ?_
      refine zr_iload (pc' := 570) cx rfl 10 dL_act_568 rfl ?_
      refine zr_iconst (pc' := 571) cx rfl dL_act_570 ?_
      refine zr_iadd (pc' := 572) cx rfl dL_act_571 ?_
      refine zr_iald (pc' := 573) cx rfl 17 zkc_402 (by decide) (L := 18) rfl dL_act_572 ?_
      refine zr_iast (pc' := 574) cx rfl 17 zkc_402 (by decide) (L := 18) rfl dL_act_573 ?_
      refine zr_letS (fun g23 => ?_)
      refine zr_iinc (pc' := 577) cx rfl (lv' := [(14, .int (i32 (a14 + 1))), (0, .ref (zad Y 0)), (4, .ref (zad Y 400)), (5, .ref (zad Y 401)), (6, .ref (zad Y 402)), (7, .ref (zad Y 403)), (8, .ref (zad Y 404)), (9, .ref (zad Y 405)), (10, .ref (zad Y 406)), (12, .int (i32 a12)), (13, .int (i32 a13))]) 10 dL_act_574 rfl (by decide) rfl ?_
      refine zr_goto cx (tgt := 551) dL_act_577 rfl ?_
      refine zr_sub [1, 2, 3, 4, 5, 6, 7, 8, 9, 10, 0] rfl ?_
      exact ih g23 a12 a13 (a14 + 1)
theorem wL_act_p692 (cx : zCx Y p s m args meth c RL cL_act 16 (some .boolean))   : ∀ (fu : Nat) (g : zSt) (a12 : Int) (a13 : Int) (a14 : Int), zWo Y p l e (zrm 5) s m args below meth c 16 0 0 (fun q : Int × zSt => MQ below (zQi Y q.1 q.2) args s 0 0 (zA Y)) g [(0, .ref (zad Y 0)), (4, .ref (zad Y 400)), (5, .ref (zad Y 401)), (6, .ref (zad Y 402)), (7, .ref (zad Y 403)), (8, .ref (zad Y 404)), (9, .ref (zad Y 405)), (10, .ref (zad Y 406)), (12, .int (i32 a12)), (13, .int (i32 a13)), (14, .int (i32 a14))] ([]) 692 (fL_act_p692 fu g a12 a13 a14) := by
  intro fu
  induction fu with
  | zero => intro g a12 a13 a14; exact zr_none
  | succ fu ih =>
    intro g a12 a13 a14
    rw [fL_act_p692]
    refine zr_iload (pc' := 694) cx rfl 10 dL_act_692 rfl ?_
    refine zr_iconst (pc' := 695) cx rfl dL_act_694 ?_
    refine zr_aload (pc' := 697) cx rfl 4 dL_act_695 rfl ?_
    refine zr_iconst (pc' := 698) cx rfl dL_act_697 ?_
    refine zr_iald (pc' := 699) cx rfl 13 zkc_403 (by decide) (L := 9) rfl dL_act_698 ?_
    refine zr_imul (pc' := 700) cx rfl dL_act_699 ?_
    refine zr_icmp_ge (pc' := 703) cx rfl (tgt := 721) dL_act_700 rfl ?_ ?_
    · refine zr_aload (pc' := 723) cx rfl 1 dL_act_721 rfl ?_
      refine zr_aload (pc' := 725) cx rfl 2 dL_act_723 rfl ?_
      refine zr_aload (pc' := 727) cx rfl 3 dL_act_725 rfl ?_
      refine zr_aload (pc' := 729) cx rfl 4 dL_act_727 rfl ?_
      refine zr_aload (pc' := 731) cx rfl 5 dL_act_729 rfl ?_
      refine zr_aload (pc' := 733) cx rfl 6 dL_act_731 rfl ?_
      refine zr_aload (pc' := 735) cx rfl 7 dL_act_733 rfl ?_
      refine zc_L_54 (pc' := 738) cx rfl zkc_400 zkc_401 zkc_402 zkc_403 zkc_404 zkc_405 zkc_406 ⟨Nat.le_of_ble_eq_true rfl, Nat.le_of_ble_eq_true rfl⟩ ⟨Nat.zero_le _, Nat.zero_le _⟩ (Nat.le_of_ble_eq_true rfl) dL_act_735 (fun v24 g25 => ?_)
      refine zr_pop (pc' := 739) cx rfl dL_act_738 rfl ?_
      refine zr_aload_n (pc' := 740) cx rfl 0 dL_act_739 rfl rfl ?_
      refine zr_iload (pc' := 742) cx rfl 8 dL_act_740 rfl ?_
      refine zc_L_85 (pc' := 745) cx rfl  ⟨Nat.le_of_ble_eq_true rfl, Nat.le_of_ble_eq_true rfl⟩ ⟨Nat.zero_le _, Nat.zero_le _⟩ (Nat.le_of_ble_eq_true rfl) dL_act_742 (fun v26 g27 => ?_)
      refine zr_iload (pc' := 747) cx rfl 9 dL_act_745 rfl ?_
      refine zr_icmp_ne (pc' := 750) cx rfl (tgt := 754) dL_act_747 rfl ?_ ?_
      · refine zr_iconst (pc' := 755) cx rfl dL_act_754 ?_
        exact zr_zretE cx dL_act_755
      · refine zr_iconst (pc' := 751) cx rfl dL_act_750 ?_
        refine zr_gotoS cx (tgt := 755) dL_act_751 rfl ?_
        exact zr_zretE cx dL_act_755
    · refine zr_aload (pc' := 705) cx rfl 2 dL_act_703 rfl ?_
      refine zr_iload (pc' := 707) cx rfl 10 dL_act_705 rfl ?_
      refine zr_aload (pc' := 709) cx rfl 2 dL_act_707 rfl ?_
      refine zr_iload (pc' := 711) cx rfl 10 dL_act_709 rfl ?_
      refine zr_iconst (pc' := 712) cx rfl dL_act_711 ?_
      refine zr_iadd (pc' := 713) cx rfl dL_act_712 ?_
      refine zr_iald (pc' := 714) cx rfl 11 zkc_401 (by decide) (L := 24) rfl dL_act_713 ?_
      refine zr_iast (pc' := 715) cx rfl 11 zkc_401 (by decide) (L := 24) rfl dL_act_714 ?_
      refine zr_letS (fun g28 => ?_)
      refine zr_iinc (pc' := 718) cx rfl (lv' := [(14, .int (i32 (a14 + 1))), (0, .ref (zad Y 0)), (4, .ref (zad Y 400)), (5, .ref (zad Y 401)), (6, .ref (zad Y 402)), (7, .ref (zad Y 403)), (8, .ref (zad Y 404)), (9, .ref (zad Y 405)), (10, .ref (zad Y 406)), (12, .int (i32 a12)), (13, .int (i32 a13))]) 10 dL_act_715 rfl (by decide) rfl ?_
      refine zr_goto cx (tgt := 692) dL_act_718 rfl ?_
      refine zr_sub [1, 2, 3, 4, 5, 6, 7, 8, 9, 10, 0] rfl ?_
      exact ih g28 a12 a13 (a14 + 1)
theorem wL_act_p676 (cx : zCx Y p s m args meth c RL cL_act 16 (some .boolean))   : ∀ (g : zSt) (y0 : Int) (a12 : Int), zWo Y p l e (zrm 5) s m args below meth c 16 0 0 (fun q : Int × zSt => MQ below (zQi Y q.1 q.2) args s 0 0 (zA Y)) g [(0, .ref (zad Y 0)), (4, .ref (zad Y 400)), (5, .ref (zad Y 401)), (6, .ref (zad Y 402)), (7, .ref (zad Y 403)), (8, .ref (zad Y 404)), (9, .ref (zad Y 405)), (10, .ref (zad Y 406)), (12, .int (i32 a12))] (.int (i32 y0) :: []) 676 (fL_act_p676 g y0 a12) := by
  intro g y0 a12
  unfold fL_act_p676
  refine zr_istore (pc' := 678) cx rfl (lv' := [(13, .int (i32 y0)), (0, .ref (zad Y 0)), (4, .ref (zad Y 400)), (5, .ref (zad Y 401)), (6, .ref (zad Y 402)), (7, .ref (zad Y 403)), (8, .ref (zad Y 404)), (9, .ref (zad Y 405)), (10, .ref (zad Y 406)), (12, .int (i32 a12))]) dL_act_676 (by decide) rfl ?_
  refine zr_aload (pc' := 680) cx rfl 5 dL_act_678 rfl ?_
  refine zr_iconst (pc' := 681) cx rfl dL_act_680 ?_
  refine zr_dup2 (pc' := 682) cx rfl dL_act_681 rfl rfl ?_
  refine zr_iald (pc' := 683) cx rfl 13 zkc_403 (by decide) (L := 9) rfl dL_act_682 ?_
  refine zr_iconst (pc' := 684) cx rfl dL_act_683 ?_
  refine zr_isub (pc' := 685) cx rfl dL_act_684 ?_
  refine zr_iast (pc' := 686) cx rfl 13 zkc_403 (by decide) (L := 9) rfl dL_act_685 ?_
  refine zr_letS (fun g29 => ?_)
  refine zr_iconst (pc' := 687) cx rfl dL_act_686 ?_
  refine zr_iload (pc' := 689) cx rfl 9 dL_act_687 rfl ?_
  refine zr_imul (pc' := 690) cx rfl dL_act_689 ?_
  refine zr_leti (fun x30 => ?_)
  refine zr_istore (pc' := 692) cx rfl (lv' := [(14, .int (i32 x30)), (13, .int (i32 y0)), (0, .ref (zad Y 0)), (4, .ref (zad Y 400)), (5, .ref (zad Y 401)), (6, .ref (zad Y 402)), (7, .ref (zad Y 403)), (8, .ref (zad Y 404)), (9, .ref (zad Y 405)), (10, .ref (zad Y 406)), (12, .int (i32 a12))]) dL_act_690 (by decide) rfl ?_
  refine zr_sub [2, 3, 4, 5, 6, 7, 8, 9, 10, 1, 0] rfl ?_
  exact wL_act_p692 cx zfu g29 a12 y0 x30
theorem wL_act_p872 (cx : zCx Y p s m args meth c RL cL_act 16 (some .boolean))   : ∀ (g : zSt) (y1 : Int) (y2 : Int) (y3 : Int) (y4 : Int) (a12 : Int) (a13 : Int), zWo Y p l e (zrm 5) s m args below meth c 16 0 0 (fun q : Int × zSt => MQ below (zQi Y q.1 q.2) args s 0 0 (zA Y)) g [(0, .ref (zad Y 0)), (12, .int (i32 a12)), (13, .int (i32 a13))] (.int (i32 y4) :: .int (i32 y3) :: .int (i32 y2) :: .int (i32 y1) :: .ref (zad Y 403) :: []) 872 (fL_act_p872 g y1 y2 y3 y4 a12 a13) := by
  intro g y1 y2 y3 y4 a12 a13
  unfold fL_act_p872
  refine zr_imul (pc' := 873) cx rfl dL_act_872 ?_
  refine zr_iadd (pc' := 874) cx rfl dL_act_873 ?_
  refine zr_iast (pc' := 875) cx rfl 13 zkc_403 (by decide) (L := 9) rfl dL_act_874 ?_
  refine zr_letS (fun g31 => ?_)
  refine zr_aload_n (pc' := 876) cx rfl 0 dL_act_875 rfl rfl ?_
  refine zr_iload (pc' := 878) cx rfl 1 dL_act_876 rfl ?_
  refine zc_L_88 (pc' := 881) cx rfl  ⟨Nat.le_of_ble_eq_true rfl, Nat.le_of_ble_eq_true rfl⟩ ⟨Nat.zero_le _, Nat.zero_le _⟩ (Nat.le_of_ble_eq_true rfl) dL_act_878 (fun v32 g33 => ?_)
  refine zr_iload (pc' := 883) cx rfl 2 dL_act_881 rfl ?_
  refine zr_icmp_ne (pc' := 886) cx rfl (tgt := 890) dL_act_883 rfl ?_ ?_
  · refine zr_iconst (pc' := 891) cx rfl dL_act_890 ?_
    exact zr_zretE cx dL_act_891
  · refine zr_iconst (pc' := 887) cx rfl dL_act_886 ?_
    refine zr_gotoS cx (tgt := 891) dL_act_887 rfl ?_
    exact zr_zretE cx dL_act_891
theorem wL_act_p922 (cx : zCx Y p s m args meth c RL cL_act 16 (some .boolean))   : ∀ (g : zSt) (y0 : Int) (a1 : Int) (a11 : Int), zWo Y p l e (zrm 5) s m args below meth c 16 0 0 (fun q : Int × zSt => MQ below (zQi Y q.1 q.2) args s 0 0 (zA Y)) g [(0, .ref (zad Y 0)), (1, .int (i32 a1)), (4, .ref (zad Y 400)), (5, .ref (zad Y 401)), (6, .ref (zad Y 402)), (7, .ref (zad Y 403)), (8, .ref (zad Y 404)), (9, .ref (zad Y 405)), (10, .ref (zad Y 406)), (11, .int (i32 a11))] (.int (i32 y0) :: []) 922 (fL_act_p922 g y0 a1 a11) := by
  intro g y0 a1 a11
  unfold fL_act_p922
  refine zr_istore (pc' := 924) cx rfl (lv' := [(12, .int (i32 y0)), (0, .ref (zad Y 0)), (1, .int (i32 a1)), (4, .ref (zad Y 400)), (5, .ref (zad Y 401)), (6, .ref (zad Y 402)), (7, .ref (zad Y 403)), (8, .ref (zad Y 404)), (9, .ref (zad Y 405)), (10, .ref (zad Y 406)), (11, .int (i32 a11))]) dL_act_922 (by decide) rfl ?_
  refine zr_aload (pc' := 926) cx rfl 3 dL_act_924 rfl ?_
  refine zr_bipush (pc' := 928) cx rfl dL_act_926 (by decide +kernel) ?_
  refine zr_iload (pc' := 930) cx rfl 10 dL_act_928 rfl ?_
  refine zr_imul (pc' := 931) cx rfl dL_act_930 ?_
  refine zr_iload (pc' := 933) cx rfl 0 dL_act_931 rfl ?_
  refine zr_iadd (pc' := 934) cx rfl dL_act_933 ?_
  refine zr_iconst (pc' := 935) cx rfl dL_act_934 ?_
  refine zr_aload (pc' := 937) cx rfl 3 dL_act_935 rfl ?_
  refine zr_bipush (pc' := 939) cx rfl dL_act_937 (by decide +kernel) ?_
  refine zr_iload (pc' := 941) cx rfl 10 dL_act_939 rfl ?_
  refine zr_imul (pc' := 942) cx rfl dL_act_941 ?_
  refine zr_iload (pc' := 944) cx rfl 0 dL_act_942 rfl ?_
  refine zr_iadd (pc' := 945) cx rfl dL_act_944 ?_
  refine zr_iald (pc' := 946) cx rfl 16 zkc_400 (by decide) (L := 56) rfl dL_act_945 ?_
  refine zr_isub (pc' := 947) cx rfl dL_act_946 ?_
  refine zr_iast (pc' := 948) cx rfl 16 zkc_400 (by decide) (L := 56) rfl dL_act_947 ?_
  refine zr_letS (fun g34 => ?_)
  refine zr_aload (pc' := 950) cx rfl 3 dL_act_948 rfl ?_
  refine zr_aload (pc' := 952) cx rfl 4 dL_act_950 rfl ?_
  refine zr_aload (pc' := 954) cx rfl 5 dL_act_952 rfl ?_
  refine zr_aload (pc' := 956) cx rfl 6 dL_act_954 rfl ?_
  refine zr_aload (pc' := 958) cx rfl 7 dL_act_956 rfl ?_
  refine zr_aload (pc' := 960) cx rfl 8 dL_act_958 rfl ?_
  refine zr_aload (pc' := 962) cx rfl 9 dL_act_960 rfl ?_
  refine zc_L_54 (pc' := 965) cx rfl zkc_400 zkc_401 zkc_402 zkc_403 zkc_404 zkc_405 zkc_406 ⟨Nat.le_of_ble_eq_true rfl, Nat.le_of_ble_eq_true rfl⟩ ⟨Nat.zero_le _, Nat.zero_le _⟩ (Nat.le_of_ble_eq_true rfl) dL_act_962 (fun v35 g36 => ?_)
  refine zr_pop (pc' := 966) cx rfl dL_act_965 rfl ?_
  refine zr_iload_n (pc' := 967) cx rfl 2 dL_act_966 rfl rfl ?_
  refine zr_bipush (pc' := 969) cx rfl dL_act_967 (by decide +kernel) ?_
  refine zr_icmp_ne (pc' := 972) cx rfl (tgt := 999) dL_act_969 rfl ?_ ?_
  · refine zr_aload_n (pc' := 1000) cx rfl 1 dL_act_999 rfl rfl ?_
    refine zr_iload (pc' := 1002) cx rfl 10 dL_act_1000 rfl ?_
    refine zc_L_93 (pc' := 1005) cx rfl  ⟨Nat.le_of_ble_eq_true rfl, Nat.le_of_ble_eq_true rfl⟩ ⟨Nat.zero_le _, Nat.zero_le _⟩ (Nat.le_of_ble_eq_true rfl) dL_act_1002 (fun v37 g38 => ?_)
    refine zr_aload (pc' := 1007) cx rfl 3 dL_act_1005 rfl ?_
    refine zr_aload (pc' := 1009) cx rfl 4 dL_act_1007 rfl ?_
    refine zr_aload (pc' := 1011) cx rfl 6 dL_act_1009 rfl ?_
    refine zr_aload (pc' := 1013) cx rfl 7 dL_act_1011 rfl ?_
    refine zr_iconst (pc' := 1014) cx rfl dL_act_1013 ?_
    refine zc_L_47 (pc' := 1017) cx rfl zkc_400 zkc_401 zkc_403 zkc_404 ⟨Nat.le_of_ble_eq_true rfl, Nat.le_of_ble_eq_true rfl⟩ ⟨Nat.zero_le _, Nat.zero_le _⟩ (Nat.le_of_ble_eq_true rfl) dL_act_1014 (fun v39 => ?_)
    refine zr_icmp_ne (pc' := 1020) cx rfl (tgt := 1024) dL_act_1017 rfl ?_ ?_
    · refine zr_iconst (pc' := 1025) cx rfl dL_act_1024 ?_
      exact zr_zretE cx dL_act_1025
    · refine zr_iconst (pc' := 1021) cx rfl dL_act_1020 ?_
      refine zr_gotoS cx (tgt := 1025) dL_act_1021 rfl ?_
      exact zr_zretE cx dL_act_1025
  · refine zr_aload_n (pc' := 973) cx rfl 1 dL_act_972 rfl rfl ?_
    refine zr_iload (pc' := 975) cx rfl 10 dL_act_973 rfl ?_
    refine zc_L_90 (pc' := 978) cx rfl  ⟨Nat.le_of_ble_eq_true rfl, Nat.le_of_ble_eq_true rfl⟩ ⟨Nat.zero_le _, Nat.zero_le _⟩ (Nat.le_of_ble_eq_true rfl) dL_act_975 (fun v40 g41 => ?_)
    refine zr_aload (pc' := 980) cx rfl 3 dL_act_978 rfl ?_
    refine zr_bipush (pc' := 982) cx rfl dL_act_980 (by decide +kernel) ?_
    refine zr_iload (pc' := 984) cx rfl 10 dL_act_982 rfl ?_
    refine zr_imul (pc' := 985) cx rfl dL_act_984 ?_
    refine zr_iconst (pc' := 986) cx rfl dL_act_985 ?_
    refine zr_iadd (pc' := 987) cx rfl dL_act_986 ?_
    refine zr_iald (pc' := 988) cx rfl 16 zkc_400 (by decide) (L := 56) rfl dL_act_987 ?_
    refine zr_icmp_ne (pc' := 991) cx rfl (tgt := 995) dL_act_988 rfl ?_ ?_
    · refine zr_iconst (pc' := 996) cx rfl dL_act_995 ?_
      refine zr_gotoS cx (tgt := 1025) dL_act_996 rfl ?_
      exact zr_zretE cx dL_act_1025
    · refine zr_iconst (pc' := 992) cx rfl dL_act_991 ?_
      refine zr_gotoS cx (tgt := 1025) dL_act_992 rfl ?_
      exact zr_zretE cx dL_act_1025
theorem wL_act (cx : zCx Y p s m args meth c RL cL_act 16 (some .boolean)) (g : zSt) (a1 : Int) (a2 : Int) (a3 : Int)  : zWo Y p l e (zrm 5) s m args below meth c 16 0 0 (fun q : Int × zSt => MQ below (zQi Y q.1 q.2) args s 0 0 (zA Y)) g [(0, .ref (zad Y 0)), (1, .int (i32 a1)), (2, .int (i32 a2)), (3, .int (i32 a3)), (4, .ref (zad Y 400)), (5, .ref (zad Y 401)), (6, .ref (zad Y 402)), (7, .ref (zad Y 403)), (8, .ref (zad Y 404)), (9, .ref (zad Y 405)), (10, .ref (zad Y 406))] ([]) 0 (fL_act g a1 a2 a3) := by
  unfold fL_act
  refine zr_iload_n (pc' := 1) cx rfl 2 dL_act_0 rfl rfl ?_
  refine zr_aload (pc' := 3) cx rfl 7 dL_act_1 rfl ?_
  refine zr_iconst (pc' := 4) cx rfl dL_act_3 ?_
  refine zr_iald (pc' := 5) cx rfl 13 zkc_403 (by decide) (L := 9) rfl dL_act_4 ?_
  refine zc_L_51 (pc' := 8) cx rfl  ⟨Nat.le_of_ble_eq_true rfl, Nat.le_of_ble_eq_true rfl⟩ ⟨Nat.zero_le _, Nat.zero_le _⟩ (Nat.le_of_ble_eq_true rfl) dL_act_5 (fun v42 => ?_)
  refine zr_istore (pc' := 10) cx rfl (lv' := [(11, .int (i32 v42)), (0, .ref (zad Y 0)), (1, .int (i32 a1)), (2, .int (i32 a2)), (3, .int (i32 a3)), (4, .ref (zad Y 400)), (5, .ref (zad Y 401)), (6, .ref (zad Y 402)), (7, .ref (zad Y 403)), (8, .ref (zad Y 404)), (9, .ref (zad Y 405)), (10, .ref (zad Y 406))]) dL_act_8 (by decide) rfl ?_
  refine zr_iload_n (pc' := 11) cx rfl 2 dL_act_10 rfl rfl ?_
  refine zr_iconst (pc' := 12) cx rfl dL_act_11 ?_
  refine zr_icmp_ge (pc' := 15) cx rfl (tgt := 252) dL_act_12 rfl ?_ ?_
  · refine zr_iload_n (pc' := 253) cx rfl 2 dL_act_252 rfl rfl ?_
    refine zr_bipush (pc' := 255) cx rfl dL_act_253 (by decide +kernel) ?_
    refine zr_icmp_ge (pc' := 258) cx rfl (tgt := 383) dL_act_255 rfl ?_ ?_
    · refine zr_iload_n (pc' := 384) cx rfl 2 dL_act_383 rfl rfl ?_
      refine zr_bipush (pc' := 386) cx rfl dL_act_384 (by decide +kernel) ?_
      refine zr_icmp_ge (pc' := 389) cx rfl (tgt := 501) dL_act_386 rfl ?_ ?_
      · refine zr_iload_n (pc' := 502) cx rfl 2 dL_act_501 rfl rfl ?_
        refine zr_bipush (pc' := 504) cx rfl dL_act_502 (by decide +kernel) ?_
        refine zr_icmp_ne (pc' := 507) cx rfl (tgt := 615) dL_act_504 rfl ?_ ?_
        · refine zr_iload_n (pc' := 616) cx rfl 2 dL_act_615 rfl rfl ?_
          refine zr_bipush (pc' := 618) cx rfl dL_act_616 (by decide +kernel) ?_
          refine zr_icmp_ne (pc' := 621) cx rfl (tgt := 756) dL_act_618 rfl ?_ ?_
          · refine zr_iload_n (pc' := 757) cx rfl 2 dL_act_756 rfl rfl ?_
            refine zr_bipush (pc' := 759) cx rfl dL_act_757 (by decide +kernel) ?_
            refine zr_icmp_ne (pc' := 762) cx rfl (tgt := 892) dL_act_759 rfl ?_ ?_
            · refine zr_iload (pc' := 894) cx rfl 0 dL_act_892 rfl ?_
              refine zr_if_ne (pc' := 897) cx rfl (tgt := 899) dL_act_894 rfl ?_ ?_
              · refine zr_iload_n (pc' := 900) cx rfl 2 dL_act_899 rfl rfl ?_
                refine zr_bipush (pc' := 902) cx rfl dL_act_900 (by decide +kernel) ?_
                refine zr_icmp_eq (pc' := 905) cx rfl (tgt := 911) dL_act_902 rfl ?_ ?_
                · refine zr_iload_n (pc' := 912) cx rfl 2 dL_act_911 rfl rfl ?_
                  refine zr_bipush (pc' := 914) cx rfl dL_act_912 (by decide +kernel) ?_
                  refine zr_icmp_ne (pc' := 917) cx rfl (tgt := 921) dL_act_914 rfl ?_ ?_
                  · refine zr_iconst (pc' := 922) cx rfl dL_act_921 ?_
                    refine zr_sub [1, 2, 5, 6, 7, 8, 9, 10, 11, 0] rfl ?_
                    exact wL_act_p922 cx g 1 a1 v42
                  · refine zr_iconst (pc' := 918) cx rfl dL_act_917 ?_
                    refine zr_gotoS cx (tgt := 922) dL_act_918 rfl ?_
                    refine zr_sub [1, 2, 5, 6, 7, 8, 9, 10, 11, 0] rfl ?_
                    exact wL_act_p922 cx g 2 a1 v42
                · refine zr_iload_n (pc' := 906) cx rfl 2 dL_act_905 rfl rfl ?_
                  refine zr_bipush (pc' := 908) cx rfl dL_act_906 (by decide +kernel) ?_
                  refine zr_icmp_ne (pc' := 911) cx rfl (tgt := 1026) dL_act_908 rfl ?_ ?_
                  · refine zr_aload (pc' := 1028) cx rfl 8 dL_act_1026 rfl ?_
                    refine zr_iconst (pc' := 1029) cx rfl dL_act_1028 ?_
                    refine zr_iald (pc' := 1030) cx rfl 13 zkc_403 (by decide) (L := 9) rfl dL_act_1029 ?_
                    refine zr_if_ne (pc' := 1033) cx rfl (tgt := 1059) dL_act_1030 rfl ?_ ?_
                    · refine zr_iload_n (pc' := 1060) cx rfl 3 dL_act_1059 rfl rfl ?_
                      refine zr_iconst (pc' := 1061) cx rfl dL_act_1060 ?_
                      refine zr_ishr (pc' := 1062) cx rfl dL_act_1061 ?_
                      refine zr_iconst (pc' := 1063) cx rfl dL_act_1062 ?_
                      refine zc_L_51 (pc' := 1066) cx rfl  ⟨Nat.le_of_ble_eq_true rfl, Nat.le_of_ble_eq_true rfl⟩ ⟨Nat.zero_le _, Nat.zero_le _⟩ (Nat.le_of_ble_eq_true rfl) dL_act_1063 (fun v43 => ?_)
                      refine zr_istore (pc' := 1068) cx rfl (lv' := [(12, .int (i32 v43)), (11, .int (i32 v42)), (0, .ref (zad Y 0)), (1, .int (i32 a1)), (2, .int (i32 a2)), (3, .int (i32 a3)), (4, .ref (zad Y 400)), (5, .ref (zad Y 401)), (6, .ref (zad Y 402)), (7, .ref (zad Y 403)), (8, .ref (zad Y 404)), (9, .ref (zad Y 405)), (10, .ref (zad Y 406))]) dL_act_1066 (by decide) rfl ?_
                      refine zr_aload (pc' := 1070) cx rfl 9 dL_act_1068 rfl ?_
                      refine zr_iconst (pc' := 1071) cx rfl dL_act_1070 ?_
                      refine zr_dup2 (pc' := 1072) cx rfl dL_act_1071 rfl rfl ?_
                      refine zr_iald (pc' := 1073) cx rfl 13 zkc_403 (by decide) (L := 9) rfl dL_act_1072 ?_
                      refine zr_iconst (pc' := 1074) cx rfl dL_act_1073 ?_
                      refine zr_isub (pc' := 1075) cx rfl dL_act_1074 ?_
                      refine zr_iast (pc' := 1076) cx rfl 13 zkc_403 (by decide) (L := 9) rfl dL_act_1075 ?_
                      refine zr_letS (fun g44 => ?_)
                      refine zr_aload (pc' := 1078) cx rfl 6 dL_act_1076 rfl ?_
                      refine zr_bipush (pc' := 1080) cx rfl dL_act_1078 (by decide +kernel) ?_
                      refine zr_iload (pc' := 1082) cx rfl 1 dL_act_1080 rfl ?_
                      refine zr_imul (pc' := 1083) cx rfl dL_act_1082 ?_
                      refine zr_iconst (pc' := 1084) cx rfl dL_act_1083 ?_
                      refine zr_iadd (pc' := 1085) cx rfl dL_act_1084 ?_
                      refine zr_iload (pc' := 1087) cx rfl 0 dL_act_1085 rfl ?_
                      refine zr_iadd (pc' := 1088) cx rfl dL_act_1087 ?_
                      refine zr_iconst (pc' := 1089) cx rfl dL_act_1088 ?_
                      refine zr_iload_n (pc' := 1090) cx rfl 5 dL_act_1089 rfl rfl ?_
                      refine zr_bipush (pc' := 1092) cx rfl dL_act_1090 (by decide +kernel) ?_
                      refine zc_L_51 (pc' := 1095) cx rfl  ⟨Nat.le_of_ble_eq_true rfl, Nat.le_of_ble_eq_true rfl⟩ ⟨Nat.zero_le _, Nat.zero_le _⟩ (Nat.le_of_ble_eq_true rfl) dL_act_1092 (fun v45 => ?_)
                      refine zr_iadd (pc' := 1096) cx rfl dL_act_1095 ?_
                      refine zr_iast (pc' := 1097) cx rfl 16 zkc_400 (by decide) (L := 56) rfl dL_act_1096 ?_
                      refine zr_letS (fun g46 => ?_)
                      refine zr_aload (pc' := 1099) cx rfl 6 dL_act_1097 rfl ?_
                      refine zr_bipush (pc' := 1101) cx rfl dL_act_1099 (by decide +kernel) ?_
                      refine zr_iload (pc' := 1103) cx rfl 1 dL_act_1101 rfl ?_
                      refine zr_imul (pc' := 1104) cx rfl dL_act_1103 ?_
                      refine zr_iconst (pc' := 1105) cx rfl dL_act_1104 ?_
                      refine zr_iadd (pc' := 1106) cx rfl dL_act_1105 ?_
                      refine zr_iload (pc' := 1108) cx rfl 0 dL_act_1106 rfl ?_
                      refine zr_iadd (pc' := 1109) cx rfl dL_act_1108 ?_
                      refine zr_iconst (pc' := 1110) cx rfl dL_act_1109 ?_
                      refine zr_iast (pc' := 1111) cx rfl 16 zkc_400 (by decide) (L := 56) rfl dL_act_1110 ?_
                      refine zr_letS (fun g47 => ?_)
                      refine zr_aload (pc' := 1113) cx rfl 6 dL_act_1111 rfl ?_
                      refine zr_bipush (pc' := 1115) cx rfl dL_act_1113 (by decide +kernel) ?_
                      refine zr_iload (pc' := 1117) cx rfl 1 dL_act_1115 rfl ?_
                      refine zr_imul (pc' := 1118) cx rfl dL_act_1117 ?_
                      refine zr_iconst (pc' := 1119) cx rfl dL_act_1118 ?_
                      refine zr_iadd (pc' := 1120) cx rfl dL_act_1119 ?_
                      refine zr_iload (pc' := 1122) cx rfl 0 dL_act_1120 rfl ?_
                      refine zr_iadd (pc' := 1123) cx rfl dL_act_1122 ?_
                      refine zr_iald (pc' := 1124) cx rfl 16 zkc_400 (by decide) (L := 56) rfl dL_act_1123 ?_
                      refine zr_leti (fun x48 => ?_)
                      refine zr_istore (pc' := 1126) cx rfl (lv' := [(13, .int (i32 x48)), (12, .int (i32 v43)), (11, .int (i32 v42)), (0, .ref (zad Y 0)), (1, .int (i32 a1)), (2, .int (i32 a2)), (3, .int (i32 a3)), (4, .ref (zad Y 400)), (5, .ref (zad Y 401)), (6, .ref (zad Y 402)), (7, .ref (zad Y 403)), (8, .ref (zad Y 404)), (9, .ref (zad Y 405)), (10, .ref (zad Y 406))]) dL_act_1124 (by decide) rfl ?_
                      refine zr_aload (pc' := 1128) cx rfl 7 dL_act_1126 rfl ?_
                      refine zr_aload (pc' := 1130) cx rfl 8 dL_act_1128 rfl ?_
                      refine zr_aload (pc' := 1132) cx rfl 9 dL_act_1130 rfl ?_
                      refine zr_aload (pc' := 1134) cx rfl 10 dL_act_1132 rfl ?_
                      refine zr_aload (pc' := 1136) cx rfl 11 dL_act_1134 rfl ?_
                      refine zr_aload (pc' := 1138) cx rfl 12 dL_act_1136 rfl ?_
                      refine zr_aload (pc' := 1140) cx rfl 13 dL_act_1138 rfl ?_
                      refine zc_L_54 (pc' := 1143) cx rfl zkc_400 zkc_401 zkc_402 zkc_403 zkc_404 zkc_405 zkc_406 ⟨Nat.le_of_ble_eq_true rfl, Nat.le_of_ble_eq_true rfl⟩ ⟨Nat.zero_le _, Nat.zero_le _⟩ (Nat.le_of_ble_eq_true rfl) dL_act_1140 (fun v49 g50 => ?_)
                      refine zr_pop (pc' := 1144) cx rfl dL_act_1143 rfl ?_
                      refine zr_aload_n (pc' := 1145) cx rfl 3 dL_act_1144 rfl rfl ?_
                      refine zr_iload (pc' := 1147) cx rfl 2 dL_act_1145 rfl ?_
                      refine zr_iload (pc' := 1149) cx rfl 1 dL_act_1147 rfl ?_
                      refine zr_iload (pc' := 1151) cx rfl 0 dL_act_1149 rfl ?_
                      refine zc_L_99 (pc' := 1154) cx rfl  ⟨Nat.le_of_ble_eq_true rfl, Nat.le_of_ble_eq_true rfl⟩ ⟨Nat.zero_le _, Nat.zero_le _⟩ (Nat.le_of_ble_eq_true rfl) dL_act_1151 (fun v51 g52 => ?_)
                      refine zr_iconst (pc' := 1155) cx rfl dL_act_1154 ?_
                      refine zr_aload (pc' := 1157) cx rfl 7 dL_act_1155 rfl ?_
                      refine zr_bipush (pc' := 1159) cx rfl dL_act_1157 (by decide +kernel) ?_
                      refine zr_iload (pc' := 1161) cx rfl 2 dL_act_1159 rfl ?_
                      refine zr_imul (pc' := 1162) cx rfl dL_act_1161 ?_
                      refine zr_iconst (pc' := 1163) cx rfl dL_act_1162 ?_
                      refine zr_iadd (pc' := 1164) cx rfl dL_act_1163 ?_
                      refine zr_iload (pc' := 1166) cx rfl 1 dL_act_1164 rfl ?_
                      refine zr_iadd (pc' := 1167) cx rfl dL_act_1166 ?_
                      refine zr_iald (pc' := 1168) cx rfl 16 zkc_400 (by decide) (L := 56) rfl dL_act_1167 ?_
                      refine zr_isub (pc' := 1169) cx rfl dL_act_1168 ?_
                      refine zr_icmp_ne (pc' := 1172) cx rfl (tgt := 1176) dL_act_1169 rfl ?_ ?_
                      · refine zr_iconst (pc' := 1177) cx rfl dL_act_1176 ?_
                        exact zr_zretE cx dL_act_1177
                      · refine zr_iconst (pc' := 1173) cx rfl dL_act_1172 ?_
                        refine zr_gotoS cx (tgt := 1177) dL_act_1173 rfl ?_
                        exact zr_zretE cx dL_act_1177
                    · refine zr_aload (pc' := 1035) cx rfl 8 dL_act_1033 rfl ?_
                      refine zr_iconst (pc' := 1036) cx rfl dL_act_1035 ?_
                      refine zr_dup2 (pc' := 1037) cx rfl dL_act_1036 rfl rfl ?_
                      refine zr_iald (pc' := 1038) cx rfl 13 zkc_403 (by decide) (L := 9) rfl dL_act_1037 ?_
                      refine zr_iconst (pc' := 1039) cx rfl dL_act_1038 ?_
                      refine zr_iadd (pc' := 1040) cx rfl dL_act_1039 ?_
                      refine zr_iast (pc' := 1041) cx rfl 13 zkc_403 (by decide) (L := 9) rfl dL_act_1040 ?_
                      refine zr_letS (fun g53 => ?_)
                      refine zr_aload_n (pc' := 1042) cx rfl 1 dL_act_1041 rfl rfl ?_
                      refine zr_iconst (pc' := 1043) cx rfl dL_act_1042 ?_
                      refine zc_L_96 (pc' := 1046) cx rfl  ⟨Nat.le_of_ble_eq_true rfl, Nat.le_of_ble_eq_true rfl⟩ ⟨Nat.zero_le _, Nat.zero_le _⟩ (Nat.le_of_ble_eq_true rfl) dL_act_1043 (fun v54 g55 => ?_)
                      refine zr_aload (pc' := 1048) cx rfl 8 dL_act_1046 rfl ?_
                      refine zr_iconst (pc' := 1049) cx rfl dL_act_1048 ?_
                      refine zr_iald (pc' := 1050) cx rfl 13 zkc_403 (by decide) (L := 9) rfl dL_act_1049 ?_
                      refine zr_icmp_ne (pc' := 1053) cx rfl (tgt := 1057) dL_act_1050 rfl ?_ ?_
                      · refine zr_iconst (pc' := 1058) cx rfl dL_act_1057 ?_
                        exact zr_zretE cx dL_act_1058
                      · refine zr_iconst (pc' := 1054) cx rfl dL_act_1053 ?_
                        refine zr_gotoS cx (tgt := 1058) dL_act_1054 rfl ?_
                        exact zr_zretE cx dL_act_1058
                  · refine zr_iload_n (pc' := 912) cx rfl 2 dL_act_911 rfl rfl ?_
                    refine zr_bipush (pc' := 914) cx rfl dL_act_912 (by decide +kernel) ?_
                    refine zr_icmp_ne (pc' := 917) cx rfl (tgt := 921) dL_act_914 rfl ?_ ?_
                    · refine zr_iconst (pc' := 922) cx rfl dL_act_921 ?_
                      refine zr_sub [1, 2, 5, 6, 7, 8, 9, 10, 11, 0] rfl ?_
                      exact wL_act_p922 cx g 1 a1 v42
                    · refine zr_iconst (pc' := 918) cx rfl dL_act_917 ?_
                      refine zr_gotoS cx (tgt := 922) dL_act_918 rfl ?_
                      refine zr_sub [1, 2, 5, 6, 7, 8, 9, 10, 11, 0] rfl ?_
                      exact wL_act_p922 cx g 2 a1 v42
              · refine zr_iconst (pc' := 898) cx rfl dL_act_897 ?_
                exact zr_zretE cx dL_act_898
            · refine zr_aload (pc' := 764) cx rfl 5 dL_act_762 rfl ?_
              refine zr_aload (pc' := 766) cx rfl 6 dL_act_764 rfl ?_
              refine zr_aload (pc' := 768) cx rfl 7 dL_act_766 rfl ?_
              refine zr_aload (pc' := 770) cx rfl 8 dL_act_768 rfl ?_
              refine zr_aload (pc' := 772) cx rfl 9 dL_act_770 rfl ?_
              refine zr_aload (pc' := 774) cx rfl 10 dL_act_772 rfl ?_
              refine zr_aload (pc' := 776) cx rfl 11 dL_act_774 rfl ?_
              refine zc_L_17 (pc' := 779) cx rfl zkc_400 zkc_401 zkc_402 zkc_403 zkc_404 zkc_405 zkc_406 ⟨Nat.le_of_ble_eq_true rfl, Nat.le_of_ble_eq_true rfl⟩ ⟨Nat.zero_le _, Nat.zero_le _⟩ (Nat.le_of_ble_eq_true rfl) dL_act_776 (fun g56 => ?_)
              refine zr_iconst (pc' := 780) cx rfl dL_act_779 ?_
              refine zr_iload_n (pc' := 781) cx rfl 4 dL_act_780 rfl rfl ?_
              refine zr_sipush (pc' := 784) cx rfl dL_act_781 (by decide +kernel) ?_
              refine zc_L_51 (pc' := 787) cx rfl  ⟨Nat.le_of_ble_eq_true rfl, Nat.le_of_ble_eq_true rfl⟩ ⟨Nat.zero_le _, Nat.zero_le _⟩ (Nat.le_of_ble_eq_true rfl) dL_act_784 (fun v57 => ?_)
              refine zr_iadd (pc' := 788) cx rfl dL_act_787 ?_
              refine zr_leti (fun x58 => ?_)
              refine zr_istore (pc' := 790) cx rfl (lv' := [(12, .int (i32 x58)), (11, .int (i32 v42)), (0, .ref (zad Y 0)), (1, .int (i32 a1)), (2, .int (i32 a2)), (3, .int (i32 a3)), (4, .ref (zad Y 400)), (5, .ref (zad Y 401)), (6, .ref (zad Y 402)), (7, .ref (zad Y 403)), (8, .ref (zad Y 404)), (9, .ref (zad Y 405)), (10, .ref (zad Y 406))]) dL_act_788 (by decide) rfl ?_
              refine zr_iload (pc' := 792) cx rfl 0 dL_act_790 rfl ?_
              refine zr_aload (pc' := 794) cx rfl 6 dL_act_792 rfl ?_
              refine zr_aload (pc' := 796) cx rfl 7 dL_act_794 rfl ?_
              refine zr_aload (pc' := 798) cx rfl 9 dL_act_796 rfl ?_
              refine zr_aload (pc' := 800) cx rfl 10 dL_act_798 rfl ?_
              refine zr_iconst (pc' := 801) cx rfl dL_act_800 ?_
              refine zc_L_47 (pc' := 804) cx rfl zkc_400 zkc_401 zkc_403 zkc_404 ⟨Nat.le_of_ble_eq_true rfl, Nat.le_of_ble_eq_true rfl⟩ ⟨Nat.zero_le _, Nat.zero_le _⟩ (Nat.le_of_ble_eq_true rfl) dL_act_801 (fun v59 => ?_)
              refine zr_imul (pc' := 805) cx rfl dL_act_804 ?_
              refine zr_leti (fun x60 => ?_)
              refine zr_istore (pc' := 807) cx rfl (lv' := [(13, .int (i32 x60)), (12, .int (i32 x58)), (11, .int (i32 v42)), (0, .ref (zad Y 0)), (1, .int (i32 a1)), (2, .int (i32 a2)), (3, .int (i32 a3)), (4, .ref (zad Y 400)), (5, .ref (zad Y 401)), (6, .ref (zad Y 402)), (7, .ref (zad Y 403)), (8, .ref (zad Y 404)), (9, .ref (zad Y 405)), (10, .ref (zad Y 406))]) dL_act_805 (by decide) rfl ?_
              refine zr_iconst (pc' := 808) cx rfl dL_act_807 ?_
              refine zr_aload (pc' := 810) cx rfl 9 dL_act_808 rfl ?_
              refine zr_aload (pc' := 812) cx rfl 10 dL_act_810 rfl ?_
              refine zr_aload (pc' := 814) cx rfl 11 dL_act_812 rfl ?_
              refine zc_L_14 (pc' := 817) cx rfl zkc_402 zkc_403 zkc_404 ⟨Nat.le_of_ble_eq_true rfl, Nat.le_of_ble_eq_true rfl⟩ ⟨Nat.zero_le _, Nat.zero_le _⟩ (Nat.le_of_ble_eq_true rfl) dL_act_814 (fun v61 => ?_)
              refine zr_istore (pc' := 819) cx rfl (lv' := [(14, .int (i32 v61)), (13, .int (i32 x60)), (12, .int (i32 x58)), (11, .int (i32 v42)), (0, .ref (zad Y 0)), (1, .int (i32 a1)), (2, .int (i32 a2)), (3, .int (i32 a3)), (4, .ref (zad Y 400)), (5, .ref (zad Y 401)), (6, .ref (zad Y 402)), (7, .ref (zad Y 403)), (8, .ref (zad Y 404)), (9, .ref (zad Y 405)), (10, .ref (zad Y 406))]) dL_act_817 (by decide) rfl ?_
              refine zr_iconst (pc' := 820) cx rfl dL_act_819 ?_
              refine zr_aload (pc' := 822) cx rfl 10 dL_act_820 rfl ?_
              refine zr_aload (pc' := 824) cx rfl 11 dL_act_822 rfl ?_
              refine zr_aload (pc' := 826) cx rfl 12 dL_act_824 rfl ?_
              refine zc_L_14 (pc' := 829) cx rfl zkc_402 zkc_403 zkc_404 ⟨Nat.le_of_ble_eq_true rfl, Nat.le_of_ble_eq_true rfl⟩ ⟨Nat.zero_le _, Nat.zero_le _⟩ (Nat.le_of_ble_eq_true rfl) dL_act_826 (fun v62 => ?_)
              refine zr_istore (pc' := 831) cx rfl (lv' := [(15, .int (i32 v62)), (14, .int (i32 v61)), (13, .int (i32 x60)), (12, .int (i32 x58)), (11, .int (i32 v42)), (0, .ref (zad Y 0)), (1, .int (i32 a1)), (2, .int (i32 a2)), (3, .int (i32 a3)), (4, .ref (zad Y 400)), (5, .ref (zad Y 401)), (6, .ref (zad Y 402)), (7, .ref (zad Y 403)), (8, .ref (zad Y 404)), (9, .ref (zad Y 405)), (10, .ref (zad Y 406))]) dL_act_829 (by decide) rfl ?_
              refine zr_aload (pc' := 833) cx rfl 12 dL_act_831 rfl ?_
              refine zr_iconst (pc' := 834) cx rfl dL_act_833 ?_
              refine zr_dup2 (pc' := 835) cx rfl dL_act_834 rfl rfl ?_
              refine zr_iald (pc' := 836) cx rfl 13 zkc_403 (by decide) (L := 9) rfl dL_act_835 ?_
              refine zr_iload (pc' := 838) cx rfl 3 dL_act_836 rfl ?_
              refine zr_iadd (pc' := 839) cx rfl dL_act_838 ?_
              refine zr_iast (pc' := 840) cx rfl 13 zkc_403 (by decide) (L := 9) rfl dL_act_839 ?_
              refine zr_letS (fun g63 => ?_)
              refine zr_aload (pc' := 842) cx rfl 12 dL_act_840 rfl ?_
              refine zr_bipush (pc' := 844) cx rfl dL_act_842 (by decide +kernel) ?_
              refine zr_dup2 (pc' := 845) cx rfl dL_act_844 rfl rfl ?_
              refine zr_iald (pc' := 846) cx rfl 13 zkc_403 (by decide) (L := 9) rfl dL_act_845 ?_
              refine zr_iload (pc' := 848) cx rfl 2 dL_act_846 rfl ?_
              refine zr_iadd (pc' := 849) cx rfl dL_act_848 ?_
              refine zr_iast (pc' := 850) cx rfl 13 zkc_403 (by decide) (L := 9) rfl dL_act_849 ?_
              refine zr_letS (fun g64 => ?_)
              refine zr_aload (pc' := 852) cx rfl 12 dL_act_850 rfl ?_
              refine zr_bipush (pc' := 854) cx rfl dL_act_852 (by decide +kernel) ?_
              refine zr_dup2 (pc' := 855) cx rfl dL_act_854 rfl rfl ?_
              refine zr_iald (pc' := 856) cx rfl 13 zkc_403 (by decide) (L := 9) rfl dL_act_855 ?_
              refine zr_iload (pc' := 858) cx rfl 3 dL_act_856 rfl ?_
              refine zr_iload (pc' := 860) cx rfl 1 dL_act_858 rfl ?_
              refine zr_iload (pc' := 862) cx rfl 0 dL_act_860 rfl ?_
              refine zr_icmp_ge (pc' := 865) cx rfl (tgt := 870) dL_act_862 rfl ?_ ?_
              · refine zr_iload (pc' := 872) cx rfl 0 dL_act_870 rfl ?_
                refine zr_sub [5, 3, 2] rfl ?_
                exact wL_act_p872 cx g64 7 (g64.1 403 (Int.toNat 7)) x58 v62 x58 x60
              · refine zr_iload (pc' := 867) cx rfl 1 dL_act_865 rfl ?_
                refine zr_gotoS cx (tgt := 872) dL_act_867 rfl ?_
                refine zr_sub [5, 3, 2] rfl ?_
                exact wL_act_p872 cx g64 7 (g64.1 403 (Int.toNat 7)) x58 v61 x58 x60
          · refine zr_aload (pc' := 623) cx rfl 8 dL_act_621 rfl ?_
            refine zr_iconst (pc' := 624) cx rfl dL_act_623 ?_
            refine zr_iald (pc' := 625) cx rfl 13 zkc_403 (by decide) (L := 9) rfl dL_act_624 ?_
            refine zr_if_ne (pc' := 628) cx rfl (tgt := 630) dL_act_625 rfl ?_ ?_
            · refine zr_iload_n (pc' := 631) cx rfl 3 dL_act_630 rfl rfl ?_
              refine zr_aload (pc' := 633) cx rfl 8 dL_act_631 rfl ?_
              refine zr_iconst (pc' := 634) cx rfl dL_act_633 ?_
              refine zr_iald (pc' := 635) cx rfl 13 zkc_403 (by decide) (L := 9) rfl dL_act_634 ?_
              refine zc_L_51 (pc' := 638) cx rfl  ⟨Nat.le_of_ble_eq_true rfl, Nat.le_of_ble_eq_true rfl⟩ ⟨Nat.zero_le _, Nat.zero_le _⟩ (Nat.le_of_ble_eq_true rfl) dL_act_635 (fun v65 => ?_)
              refine zr_istore (pc' := 640) cx rfl (lv' := [(12, .int (i32 v65)), (11, .int (i32 v42)), (0, .ref (zad Y 0)), (1, .int (i32 a1)), (2, .int (i32 a2)), (3, .int (i32 a3)), (4, .ref (zad Y 400)), (5, .ref (zad Y 401)), (6, .ref (zad Y 402)), (7, .ref (zad Y 403)), (8, .ref (zad Y 404)), (9, .ref (zad Y 405)), (10, .ref (zad Y 406))]) dL_act_638 (by decide) rfl ?_
              refine zr_aload (pc' := 642) cx rfl 6 dL_act_640 rfl ?_
              refine zr_aload (pc' := 644) cx rfl 7 dL_act_642 rfl ?_
              refine zr_aload (pc' := 646) cx rfl 8 dL_act_644 rfl ?_
              refine zr_aload (pc' := 648) cx rfl 9 dL_act_646 rfl ?_
              refine zr_aload (pc' := 650) cx rfl 10 dL_act_648 rfl ?_
              refine zr_aload (pc' := 652) cx rfl 11 dL_act_650 rfl ?_
              refine zr_aload (pc' := 654) cx rfl 12 dL_act_652 rfl ?_
              refine zc_L_17 (pc' := 657) cx rfl zkc_400 zkc_401 zkc_402 zkc_403 zkc_404 zkc_405 zkc_406 ⟨Nat.le_of_ble_eq_true rfl, Nat.le_of_ble_eq_true rfl⟩ ⟨Nat.zero_le _, Nat.zero_le _⟩ (Nat.le_of_ble_eq_true rfl) dL_act_654 (fun g66 => ?_)
              refine zr_iload (pc' := 659) cx rfl 0 dL_act_657 rfl ?_
              refine zr_aload (pc' := 661) cx rfl 6 dL_act_659 rfl ?_
              refine zr_aload (pc' := 663) cx rfl 7 dL_act_661 rfl ?_
              refine zr_aload (pc' := 665) cx rfl 10 dL_act_663 rfl ?_
              refine zc_L_8 (pc' := 668) cx rfl zkc_400 zkc_401 zkc_404 ⟨Nat.le_of_ble_eq_true rfl, Nat.le_of_ble_eq_true rfl⟩ ⟨Nat.zero_le _, Nat.zero_le _⟩ (Nat.le_of_ble_eq_true rfl) dL_act_665 (fun v67 => ?_)
              refine zr_if_ne (pc' := 671) cx rfl (tgt := 675) dL_act_668 rfl ?_ ?_
              · refine zr_iconst (pc' := 676) cx rfl dL_act_675 ?_
                refine zr_sub [2, 6, 7, 8, 9, 10, 11, 12, 0] rfl ?_
                exact wL_act_p676 cx g66 0 v65
              · refine zr_iconst (pc' := 672) cx rfl dL_act_671 ?_
                refine zr_gotoS cx (tgt := 676) dL_act_672 rfl ?_
                refine zr_sub [2, 6, 7, 8, 9, 10, 11, 12, 0] rfl ?_
                exact wL_act_p676 cx g66 1 v65
            · refine zr_iconst (pc' := 629) cx rfl dL_act_628 ?_
              exact zr_zretE cx dL_act_629
        · refine zr_aload (pc' := 509) cx rfl 8 dL_act_507 rfl ?_
          refine zr_iconst (pc' := 510) cx rfl dL_act_509 ?_
          refine zr_iald (pc' := 511) cx rfl 13 zkc_403 (by decide) (L := 9) rfl dL_act_510 ?_
          refine zr_if_ne (pc' := 514) cx rfl (tgt := 516) dL_act_511 rfl ?_ ?_
          · refine zr_iload_n (pc' := 517) cx rfl 3 dL_act_516 rfl rfl ?_
            refine zr_aload (pc' := 519) cx rfl 8 dL_act_517 rfl ?_
            refine zr_iconst (pc' := 520) cx rfl dL_act_519 ?_
            refine zr_iald (pc' := 521) cx rfl 13 zkc_403 (by decide) (L := 9) rfl dL_act_520 ?_
            refine zc_L_51 (pc' := 524) cx rfl  ⟨Nat.le_of_ble_eq_true rfl, Nat.le_of_ble_eq_true rfl⟩ ⟨Nat.zero_le _, Nat.zero_le _⟩ (Nat.le_of_ble_eq_true rfl) dL_act_521 (fun v68 => ?_)
            refine zr_istore (pc' := 526) cx rfl (lv' := [(12, .int (i32 v68)), (11, .int (i32 v42)), (0, .ref (zad Y 0)), (1, .int (i32 a1)), (2, .int (i32 a2)), (3, .int (i32 a3)), (4, .ref (zad Y 400)), (5, .ref (zad Y 401)), (6, .ref (zad Y 402)), (7, .ref (zad Y 403)), (8, .ref (zad Y 404)), (9, .ref (zad Y 405)), (10, .ref (zad Y 406))]) dL_act_524 (by decide) rfl ?_
            refine zr_aload (pc' := 528) cx rfl 8 dL_act_526 rfl ?_
            refine zr_iconst (pc' := 529) cx rfl dL_act_528 ?_
            refine zr_iload (pc' := 531) cx rfl 0 dL_act_529 rfl ?_
            refine zr_imul (pc' := 532) cx rfl dL_act_531 ?_
            refine zr_iconst (pc' := 533) cx rfl dL_act_532 ?_
            refine zr_iadd (pc' := 534) cx rfl dL_act_533 ?_
            refine zr_iald (pc' := 535) cx rfl 17 zkc_402 (by decide) (L := 18) rfl dL_act_534 ?_
            refine zr_leti (fun x69 => ?_)
            refine zr_istore (pc' := 537) cx rfl (lv' := [(13, .int (i32 x69)), (12, .int (i32 v68)), (11, .int (i32 v42)), (0, .ref (zad Y 0)), (1, .int (i32 a1)), (2, .int (i32 a2)), (3, .int (i32 a3)), (4, .ref (zad Y 400)), (5, .ref (zad Y 401)), (6, .ref (zad Y 402)), (7, .ref (zad Y 403)), (8, .ref (zad Y 404)), (9, .ref (zad Y 405)), (10, .ref (zad Y 406))]) dL_act_535 (by decide) rfl ?_
            refine zr_aload (pc' := 539) cx rfl 10 dL_act_537 rfl ?_
            refine zr_iconst (pc' := 540) cx rfl dL_act_539 ?_
            refine zr_dup2 (pc' := 541) cx rfl dL_act_540 rfl rfl ?_
            refine zr_iald (pc' := 542) cx rfl 13 zkc_403 (by decide) (L := 9) rfl dL_act_541 ?_
            refine zr_iconst (pc' := 543) cx rfl dL_act_542 ?_
            refine zr_isub (pc' := 544) cx rfl dL_act_543 ?_
            refine zr_iast (pc' := 545) cx rfl 13 zkc_403 (by decide) (L := 9) rfl dL_act_544 ?_
            refine zr_letS (fun g70 => ?_)
            refine zr_iconst (pc' := 546) cx rfl dL_act_545 ?_
            refine zr_iload (pc' := 548) cx rfl 1 dL_act_546 rfl ?_
            refine zr_imul (pc' := 549) cx rfl dL_act_548 ?_
            refine zr_leti (fun x71 => ?_)
            refine zr_istore (pc' := 551) cx rfl (lv' := [(14, .int (i32 x71)), (13, .int (i32 x69)), (12, .int (i32 v68)), (11, .int (i32 v42)), (0, .ref (zad Y 0)), (1, .int (i32 a1)), (2, .int (i32 a2)), (3, .int (i32 a3)), (4, .ref (zad Y 400)), (5, .ref (zad Y 401)), (6, .ref (zad Y 402)), (7, .ref (zad Y 403)), (8, .ref (zad Y 404)), (9, .ref (zad Y 405)), (10, .ref (zad Y 406))]) dL_act_549 (by decide) rfl ?_
            refine zr_sub [4, 8, 9, 10, 11, 12, 13, 14, 2, 1, 0] rfl ?_
            exact wL_act_p551 cx zfu g70 v68 x69 x71
          · refine zr_iconst (pc' := 515) cx rfl dL_act_514 ?_
            exact zr_zretE cx dL_act_515
      · refine zr_aload (pc' := 391) cx rfl 8 dL_act_389 rfl ?_
        refine zr_iconst (pc' := 392) cx rfl dL_act_391 ?_
        refine zr_iald (pc' := 393) cx rfl 13 zkc_403 (by decide) (L := 9) rfl dL_act_392 ?_
        refine zr_iconst (pc' := 394) cx rfl dL_act_393 ?_
        refine zr_icmp_ne (pc' := 397) cx rfl (tgt := 399) dL_act_394 rfl ?_ ?_
        · refine zr_iconst (pc' := 400) cx rfl dL_act_399 ?_
          refine zr_aload (pc' := 402) cx rfl 8 dL_act_400 rfl ?_
          refine zr_iconst (pc' := 403) cx rfl dL_act_402 ?_
          refine zr_iald (pc' := 404) cx rfl 13 zkc_403 (by decide) (L := 9) rfl dL_act_403 ?_
          refine zr_imul (pc' := 405) cx rfl dL_act_404 ?_
          refine zr_leti (fun x72 => ?_)
          refine zr_istore (pc' := 407) cx rfl (lv' := [(12, .int (i32 x72)), (11, .int (i32 v42)), (0, .ref (zad Y 0)), (1, .int (i32 a1)), (2, .int (i32 a2)), (3, .int (i32 a3)), (4, .ref (zad Y 400)), (5, .ref (zad Y 401)), (6, .ref (zad Y 402)), (7, .ref (zad Y 403)), (8, .ref (zad Y 404)), (9, .ref (zad Y 405)), (10, .ref (zad Y 406))]) dL_act_405 (by decide) rfl ?_
          refine zr_aload (pc' := 409) cx rfl 8 dL_act_407 rfl ?_
          refine zr_iload (pc' := 411) cx rfl 0 dL_act_409 rfl ?_
          refine zr_iload (pc' := 413) cx rfl 1 dL_act_411 rfl ?_
          refine zr_iast (pc' := 414) cx rfl 17 zkc_402 (by decide) (L := 18) rfl dL_act_413 ?_
          refine zr_letS (fun g73 => ?_)
          refine zr_aload (pc' := 416) cx rfl 8 dL_act_414 rfl ?_
          refine zr_iload (pc' := 418) cx rfl 0 dL_act_416 rfl ?_
          refine zr_iconst (pc' := 419) cx rfl dL_act_418 ?_
          refine zr_iadd (pc' := 420) cx rfl dL_act_419 ?_
          refine zr_iload_n (pc' := 421) cx rfl 5 dL_act_420 rfl rfl ?_
          refine zr_iconst (pc' := 422) cx rfl dL_act_421 ?_
          refine zc_L_51 (pc' := 425) cx rfl  ⟨Nat.le_of_ble_eq_true rfl, Nat.le_of_ble_eq_true rfl⟩ ⟨Nat.zero_le _, Nat.zero_le _⟩ (Nat.le_of_ble_eq_true rfl) dL_act_422 (fun v74 => ?_)
          refine zr_iast (pc' := 426) cx rfl 17 zkc_402 (by decide) (L := 18) rfl dL_act_425 ?_
          refine zr_letS (fun g75 => ?_)
          refine zr_aload (pc' := 428) cx rfl 8 dL_act_426 rfl ?_
          refine zr_iload (pc' := 430) cx rfl 0 dL_act_428 rfl ?_
          refine zr_iconst (pc' := 431) cx rfl dL_act_430 ?_
          refine zr_iadd (pc' := 432) cx rfl dL_act_431 ?_
          refine zr_iconst (pc' := 433) cx rfl dL_act_432 ?_
          refine zr_iload_n (pc' := 434) cx rfl 5 dL_act_433 rfl rfl ?_
          refine zr_iconst (pc' := 435) cx rfl dL_act_434 ?_
          refine zr_ishr (pc' := 436) cx rfl dL_act_435 ?_
          refine zr_bipush (pc' := 438) cx rfl dL_act_436 (by decide +kernel) ?_
          refine zc_L_51 (pc' := 441) cx rfl  ⟨Nat.le_of_ble_eq_true rfl, Nat.le_of_ble_eq_true rfl⟩ ⟨Nat.zero_le _, Nat.zero_le _⟩ (Nat.le_of_ble_eq_true rfl) dL_act_438 (fun v76 => ?_)
          refine zr_iadd (pc' := 442) cx rfl dL_act_441 ?_
          refine zr_iast (pc' := 443) cx rfl 17 zkc_402 (by decide) (L := 18) rfl dL_act_442 ?_
          refine zr_letS (fun g77 => ?_)
          refine zr_aload (pc' := 445) cx rfl 9 dL_act_443 rfl ?_
          refine zr_iconst (pc' := 446) cx rfl dL_act_445 ?_
          refine zr_dup2 (pc' := 447) cx rfl dL_act_446 rfl rfl ?_
          refine zr_iald (pc' := 448) cx rfl 13 zkc_403 (by decide) (L := 9) rfl dL_act_447 ?_
          refine zr_iconst (pc' := 449) cx rfl dL_act_448 ?_
          refine zr_iadd (pc' := 450) cx rfl dL_act_449 ?_
          refine zr_iast (pc' := 451) cx rfl 13 zkc_403 (by decide) (L := 9) rfl dL_act_450 ?_
          refine zr_letS (fun g78 => ?_)
          refine zr_aload (pc' := 453) cx rfl 6 dL_act_451 rfl ?_
          refine zr_aload (pc' := 455) cx rfl 7 dL_act_453 rfl ?_
          refine zr_aload (pc' := 457) cx rfl 8 dL_act_455 rfl ?_
          refine zr_aload (pc' := 459) cx rfl 9 dL_act_457 rfl ?_
          refine zr_aload (pc' := 461) cx rfl 10 dL_act_459 rfl ?_
          refine zr_aload (pc' := 463) cx rfl 11 dL_act_461 rfl ?_
          refine zr_aload (pc' := 465) cx rfl 12 dL_act_463 rfl ?_
          refine zc_L_54 (pc' := 468) cx rfl zkc_400 zkc_401 zkc_402 zkc_403 zkc_404 zkc_405 zkc_406 ⟨Nat.le_of_ble_eq_true rfl, Nat.le_of_ble_eq_true rfl⟩ ⟨Nat.zero_le _, Nat.zero_le _⟩ (Nat.le_of_ble_eq_true rfl) dL_act_465 (fun v79 g80 => ?_)
          refine zr_istore (pc' := 470) cx rfl (lv' := [(13, .int (i32 v79)), (12, .int (i32 x72)), (11, .int (i32 v42)), (0, .ref (zad Y 0)), (1, .int (i32 a1)), (2, .int (i32 a2)), (3, .int (i32 a3)), (4, .ref (zad Y 400)), (5, .ref (zad Y 401)), (6, .ref (zad Y 402)), (7, .ref (zad Y 403)), (8, .ref (zad Y 404)), (9, .ref (zad Y 405)), (10, .ref (zad Y 406))]) dL_act_468 (by decide) rfl ?_
          refine zr_aload_n (pc' := 471) cx rfl 3 dL_act_470 rfl rfl ?_
          refine zr_iload (pc' := 473) cx rfl 2 dL_act_471 rfl ?_
          refine zr_aload (pc' := 475) cx rfl 9 dL_act_473 rfl ?_
          refine zr_iload (pc' := 477) cx rfl 1 dL_act_475 rfl ?_
          refine zr_iconst (pc' := 478) cx rfl dL_act_477 ?_
          refine zr_iadd (pc' := 479) cx rfl dL_act_478 ?_
          refine zr_iald (pc' := 480) cx rfl 17 zkc_402 (by decide) (L := 18) rfl dL_act_479 ?_
          refine zr_aload (pc' := 482) cx rfl 9 dL_act_480 rfl ?_
          refine zr_iload (pc' := 484) cx rfl 1 dL_act_482 rfl ?_
          refine zr_iconst (pc' := 485) cx rfl dL_act_484 ?_
          refine zr_iadd (pc' := 486) cx rfl dL_act_485 ?_
          refine zr_iald (pc' := 487) cx rfl 17 zkc_402 (by decide) (L := 18) rfl dL_act_486 ?_
          refine zc_L_79 (pc' := 490) cx rfl  ⟨Nat.le_of_ble_eq_true rfl, Nat.le_of_ble_eq_true rfl⟩ ⟨Nat.zero_le _, Nat.zero_le _⟩ (Nat.le_of_ble_eq_true rfl) dL_act_487 (fun v81 g82 => ?_)
          refine zr_iload (pc' := 492) cx rfl 0 dL_act_490 rfl ?_
          refine zr_icmp_ne (pc' := 495) cx rfl (tgt := 499) dL_act_492 rfl ?_ ?_
          · refine zr_iconst (pc' := 500) cx rfl dL_act_499 ?_
            exact zr_zretE cx dL_act_500
          · refine zr_iconst (pc' := 496) cx rfl dL_act_495 ?_
            refine zr_gotoS cx (tgt := 500) dL_act_496 rfl ?_
            exact zr_zretE cx dL_act_500
        · refine zr_iconst (pc' := 398) cx rfl dL_act_397 ?_
          exact zr_zretE cx dL_act_398
    · refine zr_aload (pc' := 260) cx rfl 8 dL_act_258 rfl ?_
      refine zr_iconst (pc' := 261) cx rfl dL_act_260 ?_
      refine zr_iald (pc' := 262) cx rfl 13 zkc_403 (by decide) (L := 9) rfl dL_act_261 ?_
      refine zr_bipush (pc' := 264) cx rfl dL_act_262 (by decide +kernel) ?_
      refine zr_icmp_ne (pc' := 267) cx rfl (tgt := 269) dL_act_264 rfl ?_ ?_
      · refine zr_iconst (pc' := 270) cx rfl dL_act_269 ?_
        refine zr_aload (pc' := 272) cx rfl 8 dL_act_270 rfl ?_
        refine zr_iconst (pc' := 273) cx rfl dL_act_272 ?_
        refine zr_iald (pc' := 274) cx rfl 13 zkc_403 (by decide) (L := 9) rfl dL_act_273 ?_
        refine zr_imul (pc' := 275) cx rfl dL_act_274 ?_
        refine zr_leti (fun x83 => ?_)
        refine zr_istore (pc' := 277) cx rfl (lv' := [(12, .int (i32 x83)), (11, .int (i32 v42)), (0, .ref (zad Y 0)), (1, .int (i32 a1)), (2, .int (i32 a2)), (3, .int (i32 a3)), (4, .ref (zad Y 400)), (5, .ref (zad Y 401)), (6, .ref (zad Y 402)), (7, .ref (zad Y 403)), (8, .ref (zad Y 404)), (9, .ref (zad Y 405)), (10, .ref (zad Y 406))]) dL_act_275 (by decide) rfl ?_
        refine zr_aload (pc' := 279) cx rfl 7 dL_act_277 rfl ?_
        refine zr_iload (pc' := 281) cx rfl 0 dL_act_279 rfl ?_
        refine zr_iload (pc' := 283) cx rfl 1 dL_act_281 rfl ?_
        refine zr_iast (pc' := 284) cx rfl 11 zkc_401 (by decide) (L := 24) rfl dL_act_283 ?_
        refine zr_letS (fun g84 => ?_)
        refine zr_aload (pc' := 286) cx rfl 7 dL_act_284 rfl ?_
        refine zr_iload (pc' := 288) cx rfl 0 dL_act_286 rfl ?_
        refine zr_iconst (pc' := 289) cx rfl dL_act_288 ?_
        refine zr_iadd (pc' := 290) cx rfl dL_act_289 ?_
        refine zr_iconst (pc' := 291) cx rfl dL_act_290 ?_
        refine zr_iload_n (pc' := 292) cx rfl 5 dL_act_291 rfl rfl ?_
        refine zr_bipush (pc' := 294) cx rfl dL_act_292 (by decide +kernel) ?_
        refine zc_L_51 (pc' := 297) cx rfl  ⟨Nat.le_of_ble_eq_true rfl, Nat.le_of_ble_eq_true rfl⟩ ⟨Nat.zero_le _, Nat.zero_le _⟩ (Nat.le_of_ble_eq_true rfl) dL_act_294 (fun v85 => ?_)
        refine zr_iadd (pc' := 298) cx rfl dL_act_297 ?_
        refine zr_iast (pc' := 299) cx rfl 11 zkc_401 (by decide) (L := 24) rfl dL_act_298 ?_
        refine zr_letS (fun g86 => ?_)
        refine zr_aload (pc' := 301) cx rfl 7 dL_act_299 rfl ?_
        refine zr_iload (pc' := 303) cx rfl 0 dL_act_301 rfl ?_
        refine zr_iconst (pc' := 304) cx rfl dL_act_303 ?_
        refine zr_iadd (pc' := 305) cx rfl dL_act_304 ?_
        refine zr_iload_n (pc' := 306) cx rfl 5 dL_act_305 rfl rfl ?_
        refine zr_iconst (pc' := 307) cx rfl dL_act_306 ?_
        refine zr_ishr (pc' := 308) cx rfl dL_act_307 ?_
        refine zr_iconst (pc' := 309) cx rfl dL_act_308 ?_
        refine zc_L_51 (pc' := 312) cx rfl  ⟨Nat.le_of_ble_eq_true rfl, Nat.le_of_ble_eq_true rfl⟩ ⟨Nat.zero_le _, Nat.zero_le _⟩ (Nat.le_of_ble_eq_true rfl) dL_act_309 (fun v87 => ?_)
        refine zr_iast (pc' := 313) cx rfl 11 zkc_401 (by decide) (L := 24) rfl dL_act_312 ?_
        refine zr_letS (fun g88 => ?_)
        refine zr_aload (pc' := 315) cx rfl 9 dL_act_313 rfl ?_
        refine zr_iconst (pc' := 316) cx rfl dL_act_315 ?_
        refine zr_dup2 (pc' := 317) cx rfl dL_act_316 rfl rfl ?_
        refine zr_iald (pc' := 318) cx rfl 13 zkc_403 (by decide) (L := 9) rfl dL_act_317 ?_
        refine zr_iconst (pc' := 319) cx rfl dL_act_318 ?_
        refine zr_iadd (pc' := 320) cx rfl dL_act_319 ?_
        refine zr_iast (pc' := 321) cx rfl 13 zkc_403 (by decide) (L := 9) rfl dL_act_320 ?_
        refine zr_letS (fun g89 => ?_)
        refine zr_aload (pc' := 323) cx rfl 6 dL_act_321 rfl ?_
        refine zr_aload (pc' := 325) cx rfl 7 dL_act_323 rfl ?_
        refine zr_aload (pc' := 327) cx rfl 8 dL_act_325 rfl ?_
        refine zr_aload (pc' := 329) cx rfl 9 dL_act_327 rfl ?_
        refine zr_aload (pc' := 331) cx rfl 10 dL_act_329 rfl ?_
        refine zr_aload (pc' := 333) cx rfl 11 dL_act_331 rfl ?_
        refine zr_aload (pc' := 335) cx rfl 12 dL_act_333 rfl ?_
        refine zc_L_54 (pc' := 338) cx rfl zkc_400 zkc_401 zkc_402 zkc_403 zkc_404 zkc_405 zkc_406 ⟨Nat.le_of_ble_eq_true rfl, Nat.le_of_ble_eq_true rfl⟩ ⟨Nat.zero_le _, Nat.zero_le _⟩ (Nat.le_of_ble_eq_true rfl) dL_act_335 (fun v90 g91 => ?_)
        refine zr_pop (pc' := 339) cx rfl dL_act_338 rfl ?_
        refine zr_aload_n (pc' := 340) cx rfl 2 dL_act_339 rfl rfl ?_
        refine zr_iload (pc' := 342) cx rfl 1 dL_act_340 rfl ?_
        refine zr_aload (pc' := 344) cx rfl 7 dL_act_342 rfl ?_
        refine zr_iload (pc' := 346) cx rfl 0 dL_act_344 rfl ?_
        refine zr_iconst (pc' := 347) cx rfl dL_act_346 ?_
        refine zr_iadd (pc' := 348) cx rfl dL_act_347 ?_
        refine zr_iald (pc' := 349) cx rfl 11 zkc_401 (by decide) (L := 24) rfl dL_act_348 ?_
        refine zr_aload (pc' := 351) cx rfl 7 dL_act_349 rfl ?_
        refine zr_iload (pc' := 353) cx rfl 0 dL_act_351 rfl ?_
        refine zr_iconst (pc' := 354) cx rfl dL_act_353 ?_
        refine zr_iadd (pc' := 355) cx rfl dL_act_354 ?_
        refine zr_iald (pc' := 356) cx rfl 11 zkc_401 (by decide) (L := 24) rfl dL_act_355 ?_
        refine zr_iconst (pc' := 357) cx rfl dL_act_356 ?_
        refine zr_icmp_ne (pc' := 360) cx rfl (tgt := 364) dL_act_357 rfl ?_ ?_
        · refine zr_iconst (pc' := 365) cx rfl dL_act_364 ?_
          refine zr_sub [9] rfl ?_
          exact wL_act_p365 cx g91 v42 (g91.1 401 (Int.toNat (x83 + 1))) 0
        · refine zr_iconst (pc' := 361) cx rfl dL_act_360 ?_
          refine zr_gotoS cx (tgt := 365) dL_act_361 rfl ?_
          refine zr_sub [9] rfl ?_
          exact wL_act_p365 cx g91 v42 (g91.1 401 (Int.toNat (x83 + 1))) 1
      · refine zr_iconst (pc' := 268) cx rfl dL_act_267 ?_
        exact zr_zretE cx dL_act_268
  · refine zr_aload (pc' := 17) cx rfl 8 dL_act_15 rfl ?_
    refine zr_iconst (pc' := 18) cx rfl dL_act_17 ?_
    refine zr_iald (pc' := 19) cx rfl 13 zkc_403 (by decide) (L := 9) rfl dL_act_18 ?_
    refine zr_bipush (pc' := 21) cx rfl dL_act_19 (by decide +kernel) ?_
    refine zr_icmp_ne (pc' := 24) cx rfl (tgt := 26) dL_act_21 rfl ?_ ?_
    · refine zr_bipush (pc' := 28) cx rfl dL_act_26 (by decide +kernel) ?_
      refine zr_aload (pc' := 30) cx rfl 8 dL_act_28 rfl ?_
      refine zr_iconst (pc' := 31) cx rfl dL_act_30 ?_
      refine zr_iald (pc' := 32) cx rfl 13 zkc_403 (by decide) (L := 9) rfl dL_act_31 ?_
      refine zr_imul (pc' := 33) cx rfl dL_act_32 ?_
      refine zr_leti (fun x92 => ?_)
      refine zr_istore (pc' := 35) cx rfl (lv' := [(12, .int (i32 x92)), (11, .int (i32 v42)), (0, .ref (zad Y 0)), (1, .int (i32 a1)), (2, .int (i32 a2)), (3, .int (i32 a3)), (4, .ref (zad Y 400)), (5, .ref (zad Y 401)), (6, .ref (zad Y 402)), (7, .ref (zad Y 403)), (8, .ref (zad Y 404)), (9, .ref (zad Y 405)), (10, .ref (zad Y 406))]) dL_act_33 (by decide) rfl ?_
      refine zr_aload (pc' := 37) cx rfl 6 dL_act_35 rfl ?_
      refine zr_iload (pc' := 39) cx rfl 0 dL_act_37 rfl ?_
      refine zr_iload (pc' := 41) cx rfl 1 dL_act_39 rfl ?_
      refine zr_iast (pc' := 42) cx rfl 16 zkc_400 (by decide) (L := 56) rfl dL_act_41 ?_
      refine zr_letS (fun g93 => ?_)
      refine zr_aload (pc' := 44) cx rfl 6 dL_act_42 rfl ?_
      refine zr_iload (pc' := 46) cx rfl 0 dL_act_44 rfl ?_
      refine zr_iconst (pc' := 47) cx rfl dL_act_46 ?_
      refine zr_iadd (pc' := 48) cx rfl dL_act_47 ?_
      refine zr_iload_n (pc' := 49) cx rfl 4 dL_act_48 rfl rfl ?_
      refine zr_iconst (pc' := 50) cx rfl dL_act_49 ?_
      refine zr_ishr (pc' := 51) cx rfl dL_act_50 ?_
      refine zr_iconst (pc' := 52) cx rfl dL_act_51 ?_
      refine zc_L_51 (pc' := 55) cx rfl  ⟨Nat.le_of_ble_eq_true rfl, Nat.le_of_ble_eq_true rfl⟩ ⟨Nat.zero_le _, Nat.zero_le _⟩ (Nat.le_of_ble_eq_true rfl) dL_act_52 (fun v94 => ?_)
      refine zr_if_ne (pc' := 58) cx rfl (tgt := 62) dL_act_55 rfl ?_ ?_
      · refine zr_iconst (pc' := 63) cx rfl dL_act_62 ?_
        refine zr_sub [2, 4, 5, 6, 7, 8, 9, 10, 11, 12, 1, 0] rfl ?_
        exact wL_act_p63 cx g93 (x92 + 1) 0 a2 a3 v42 x92
      · refine zr_iconst (pc' := 59) cx rfl dL_act_58 ?_
        refine zr_gotoS cx (tgt := 63) dL_act_59 rfl ?_
        refine zr_sub [2, 4, 5, 6, 7, 8, 9, 10, 11, 12, 1, 0] rfl ?_
        exact wL_act_p63 cx g93 (x92 + 1) 1 a2 a3 v42 x92
    · refine zr_iconst (pc' := 25) cx rfl dL_act_24 ?_
      exact zr_zretE cx dL_act_25
theorem mL_act (l : Launch) (Y : zLy) (g : zSt) (a1 : Int) (a2 : Int) (a3 : Int)  : ∀ v g2, fL_act g a1 a2 a3 = some (v, g2) → zMt l yL_act cL_act 16 (some .boolean) 5 [.ref (zad Y 0), .int (i32 a1), .int (i32 a2), .int (i32 a3), .ref (zad Y 400), .ref (zad Y 401), .ref (zad Y 402), .ref (zad Y 403), .ref (zad Y 404), .ref (zad Y 405), .ref (zad Y 406)] Y g (zQi Y v g2) := by
  intro v g2 hv
  refine zmet_of RL rfl (by decide +kernel) (Nat.le_of_ble_eq_true rfl) ?_
  intro p e s m below meth c cx H locs ls hH hS hl
  exact wL_act cx g a1 a2 a3  (v, g2) hv H locs ls hH hS hl
theorem zc_L_112 (cx : zCx Y p s m args meth c RL cc nl ret) (hpc : pc + 3 = pc') {g : zSt} {a1 : Int} {a2 : Int} {a3 : Int}  {fk : Int → zSt → Option ρ} (hR : 5 + 1 ≤ R.frames ∧ 8 + (16 + 11) + 40 * 5 ≤ R.locals) (hkn : k ≤ R.cells ∧ n ≤ R.slots) (hrest : (rest.map fun v => v.category).sum ≤ 8) (hdg : decode cc pc = .ok (.invokestatic 112, 3)) (kk : ∀ (v : Int) (g2 : zSt), zWo Y p l e R s m args below meth c nl k n kq g2 lv (.int (i32 v) :: rest) pc' (fk v g2)) : zWo Y p l e R s m args below meth c nl k n kq g lv (.ref (zad Y 406) :: .ref (zad Y 405) :: .ref (zad Y 404) :: .ref (zad Y 403) :: .ref (zad Y 402) :: .ref (zad Y 401) :: .ref (zad Y 400) :: .int (i32 a3) :: .int (i32 a2) :: .int (i32 a1) :: .ref (zad Y 0) :: rest) pc (zbe (fL_act g a1 a2 a3) fk) := zr_callSiE cx (an := 11) (As := [.ref (zad Y 0), .int (i32 a1), .int (i32 a2), .int (i32 a3), .ref (zad Y 400), .ref (zad Y 401), .ref (zad Y 402), .ref (zad Y 403), .ref (zad Y 404), .ref (zad Y 405), .ref (zad Y 406)])  (mL_act l Y g a1 a2 a3) (zG_S zw_626 zw_627 zw_25 zw_628) (by decide +kernel) hR hkn rfl rfl hrest hdg hpc kk
end Zact
