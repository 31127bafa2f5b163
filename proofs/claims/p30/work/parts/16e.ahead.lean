section Zahead
variable {ρ : Type} {Y : zLy} {p : Program} {l : Launch} {e : Env} {R : Room} {s : State} {m : MethodId} {args : Array Value} {below : List Frame} {meth : Method} {c : Code} {nl k n : Nat} {kq : ρ → State → Prop} {lv : List (Nat × Value)} {rest : List Value} {pc pc' : Nat} {cc : ByteArray} {ret : Option FieldType} {Y0 : zLy}
def fL_ahead_p81 (k39 : zSt → Int → Int → Int → Option (Int × zSt)) (k48 : zSt → Int → Int → Int → Int → Option (Int × zSt)) (g : zSt) (a1 : Int) (a2 : Int) (a13 : Int) (a14 : Int) : Option (Int × zSt) :=
    (if i32 a14 < i32 9 then
    zck ((0 : Int) ≤ a14 ∧ a14 < 9) (
    zck ((0 : Int) ≤ a14 ∧ a14 < 9) (zlet (zwr g 422 (Int.toNat a14) (g.1 403 (Int.toNat a14))) (fun g1 =>
    k48 g1 a1 a2 a13 (a14 + 1))))
    else
    k48 g a1 a2 a13 (a14 + 1))
def fL_ahead_p294 (k39 : zSt → Int → Int → Int → Option (Int × zSt)) (g : zSt) (y0 : Int) (y1 : Int) (a1 : Int) (a2 : Int) (a13 : Int) (a14 : Int) (a15 : Int) (a16 : Int) : Option (Int × zSt) :=
    (if i32 y0 = i32 y1 then
    zbe (fX7_ifFault g a14 a15 a16 3) (fun v2 g3 =>
    zck ((0 : Int) ≤ 8 ∧ 8 < 9) (
    (if i32 (g3.1 422 (Int.toNat 8)) < i32 0 then
    (if i32 v2 = i32 (-1) then
    k39 g3 a1 a2 (a13 + 1)
    else
    zck ((0 : Int) = 0 ∨ (0 : Int) = 1) (some (0, g3)))
    else
    zck ((0 : Int) ≤ 8 ∧ 8 < 9) (
    zck ((0 : Int) ≤ 8 ∧ 8 < 9) (
    (if i32 v2 = i32 ((100 * (zdv (g3.1 422 (Int.toNat 8)) 2)) + (10 * (zmo (g3.1 422 (Int.toNat 8)) 2))) then
    k39 g3 a1 a2 (a13 + 1)
    else
    zck ((0 : Int) = 0 ∨ (0 : Int) = 1) (some (0, g3))))))))
    else
    zck ((0 : Int) = 0 ∨ (0 : Int) = 1) (some (0, g)))
def fL_ahead_p431 (k39 : zSt → Int → Int → Int → Option (Int × zSt)) : Nat → zSt → Int → Int → Int → Int → Int → Int → Option (Int × zSt)
  | 0, _, _, _, _, _, _, _ => none
  | fu + 1, g, a1, a2, a13, a14, a15, a17 =>
    zck ((0 : Int) ≤ 0 ∧ 0 < 9) (
    (if i32 a17 < i32 (g.1 403 (Int.toNat 0)) then
    zck ((0 : Int) ≤ ((8 * a17) + 5) ∧ ((8 * a17) + 5) < 56) (zlet (zwr g 420 (Int.toNat ((8 * a17) + 5)) 0) (fun g7 =>
    zck ((0 : Int) ≤ ((8 * a17) + 6) ∧ ((8 * a17) + 6) < 56) (zlet (zwr g7 420 (Int.toNat ((8 * a17) + 6)) 0) (fun g8 =>
    fL_ahead_p431 k39 fu g8 a1 a2 a13 a14 a15 (a17 + 1)))))
    else
    zbd (fL_find g 420 401 421 422 423 424 425) (fun g4 =>
    zbe (fX7_neededRating g4 a14 a15) (fun v5 g6 =>
    zck ((0 : Int) ≤ ((2 * a14) + a15) ∧ ((2 * a14) + a15) < 14) (
    (if i32 1 < i32 (g6.1 423 (Int.toNat ((2 * a14) + a15))) then
    zck ((0 : Int) ≤ ((2 * a14) + a15) ∧ ((2 * a14) + a15) < 14) (
    (if i32 v5 = i32 (g6.1 424 (Int.toNat ((2 * a14) + a15))) then
    k39 g6 a1 a2 (a13 + 1)
    else
    zck ((0 : Int) = 0 ∨ (0 : Int) = 1) (some (0, g6))))
    else
    (if i32 v5 = i32 0 then
    k39 g6 a1 a2 (a13 + 1)
    else
    zck ((0 : Int) = 0 ∨ (0 : Int) = 1) (some (0, g6)))))))))
def fL_ahead_p641 (k39 : zSt → Int → Int → Int → Option (Int × zSt)) (k563 : zSt → Int → Int → Int → Int → Int → Int → Int → Option (Int × zSt)) (g : zSt) (y0 : Int) (y1 : Int) (a1 : Int) (a2 : Int) (a13 : Int) (a15 : Int) (a17 : Int) (a19 : Int) : Option (Int × zSt) :=
    zlet (zor y0 y1) (fun x9 =>
    zck ((0 : Int) ≤ ((8 * a19) + 2) ∧ ((8 * a19) + 2) < 56) (zlet (zwr g 420 (Int.toNat ((8 * a19) + 2)) 1) (fun g10 =>
    k563 g10 a1 a2 a13 a15 a17 x9 (a19 + 1))))
def fL_ahead_p563 (k39 : zSt → Int → Int → Int → Option (Int × zSt)) : Nat → zSt → Int → Int → Int → Int → Int → Int → Int → Option (Int × zSt)
  | 0, _, _, _, _, _, _, _, _ => none
  | fu + 1, g, a1, a2, a13, a15, a17, a18, a19 =>
    zck ((0 : Int) ≤ 0 ∧ 0 < 9) (
    (if i32 a19 < i32 (g.1 403 (Int.toNat 0)) then
    zck ((0 : Int) ≤ ((8 * a19) + 2) ∧ ((8 * a19) + 2) < 56) (
    (if i32 (g.1 400 (Int.toNat ((8 * a19) + 2))) = i32 0 then
    fL_ahead_p563 k39 fu g a1 a2 a13 a15 a17 a18 (a19 + 1)
    else
    zck ((0 : Int) ≤ ((8 * a19) + 2) ∧ ((8 * a19) + 2) < 56) (zlet (zwr g 420 (Int.toNat ((8 * a19) + 2)) 0) (fun g12 =>
    zbd (fL_find g12 420 401 421 422 423 424 425) (fun g13 =>
    zbd (fL_lamp g13 a15 421 422 423) (fun v14 =>
    (if i32 v14 = i32 a17 then
    fL_ahead_p641 k39 (fL_ahead_p563 k39 fu) g13 a18 0 a1 a2 a13 a15 a17 a19
    else
    fL_ahead_p641 k39 (fL_ahead_p563 k39 fu) g13 a18 (zsl 1 a19) a1 a2 a13 a15 a17 a19)))))))
    else
    zbd (fX7_locate g a15) (fun v11 =>
    (if i32 v11 = i32 a18 then
    k39 g a1 a2 (a13 + 1)
    else
    zck ((0 : Int) = 0 ∨ (0 : Int) = 1) (some (0, g))))))
def fL_ahead_p48 (k39 : zSt → Int → Int → Int → Option (Int × zSt)) : Nat → zSt → Int → Int → Int → Int → Option (Int × zSt)
  | 0, _, _, _, _, _ => none
  | fu + 1, g, a1, a2, a13, a14 =>
    (if i32 a14 < i32 56 then
    zck ((0 : Int) ≤ a14 ∧ a14 < 56) (
    zck ((0 : Int) ≤ a14 ∧ a14 < 56) (zlet (zwr g 420 (Int.toNat a14) (g.1 400 (Int.toNat a14))) (fun g42 =>
    (if i32 a14 < i32 18 then
    zck ((0 : Int) ≤ a14 ∧ a14 < 18) (
    zck ((0 : Int) ≤ a14 ∧ a14 < 18) (zlet (zwr g42 421 (Int.toNat a14) (g42.1 402 (Int.toNat a14))) (fun g43 =>
    fL_ahead_p81 k39 (fL_ahead_p48 k39 fu) g43 a1 a2 a13 a14)))
    else
    fL_ahead_p81 k39 (fL_ahead_p48 k39 fu) g42 a1 a2 a13 a14))))
    else
    zck ((0 : Int) ≤ 0 ∧ 0 < 9) (
    zbd (fL_at g a1 (g.1 403 (Int.toNat 0))) (fun v15 =>
    zbd (fL_at g (zsr a1 4) 2) (fun v16 =>
    zbd (fL_at g a2 30) (fun v17 =>
    zlet (1 + v17) (fun x18 =>
    (if i32 a13 < i32 2 then
    zck ((0 : Int) ≤ 2 ∧ 2 < 9) (
    zck ((0 : Int) ≤ (3 * (g.1 403 (Int.toNat 2))) ∧ (3 * (g.1 403 (Int.toNat 2))) < 18) (zlet (zwr g 421 (Int.toNat (3 * (g.1 403 (Int.toNat 2)))) v15) (fun g27 =>
    zck ((0 : Int) ≤ 2 ∧ 2 < 9) (
    zck ((0 : Int) ≤ ((3 * (g27.1 403 (Int.toNat 2))) + 1) ∧ ((3 * (g27.1 403 (Int.toNat 2))) + 1) < 18) (zlet (zwr g27 421 (Int.toNat ((3 * (g27.1 403 (Int.toNat 2))) + 1)) v16) (fun g28 =>
    zck ((0 : Int) ≤ 2 ∧ 2 < 9) (
    zck ((0 : Int) ≤ ((3 * (g28.1 403 (Int.toNat 2))) + 2) ∧ ((3 * (g28.1 403 (Int.toNat 2))) + 2) < 18) (zlet (zwr g28 421 (Int.toNat ((3 * (g28.1 403 (Int.toNat 2))) + 2)) x18) (fun g29 =>
    zck ((0 : Int) ≤ 2 ∧ 2 < 9) (
    zck ((0 : Int) ≤ 2 ∧ 2 < 9) (zlet (zwr g29 422 (Int.toNat 2) ((g29.1 422 (Int.toNat 2)) + 1)) (fun g30 =>
    zbe (fL_settle g30 420 401 421 422 423 424 425) (fun v31 g32 =>
    zbd (fL_lamp g32 0 421 422 423) (fun v33 =>
    zbd (fL_lamp g32 1 421 422 423) (fun v34 =>
    zbe (fX7_ifFault g32 v15 v16 x18 0) (fun v35 g36 =>
    (if i32 v35 = i32 v31 then
    zbe (fX7_ifFault g36 v15 v16 x18 1) (fun v37 g38 =>
    zbd (fL_burn g38 420 401 422 423 0) (fun v39 =>
    (if i32 v37 = i32 v39 then
    zbe (fX7_ifFault g38 v15 v16 x18 2) (fun v40 g41 =>
    (if i32 v33 < i32 v34 then
    fL_ahead_p294 k39 g41 v40 v33 a1 a2 a13 v15 v16 x18
    else
    fL_ahead_p294 k39 g41 v40 v34 a1 a2 a13 v15 v16 x18))
    else
    zck ((0 : Int) = 0 ∨ (0 : Int) = 1) (some (0, g38)))))
    else
    zck ((0 : Int) = 0 ∨ (0 : Int) = 1) (some (0, g36)))))))))))))))))))
    else
    (if i32 v15 = i32 0 then
    zck ((1 : Int) = 0 ∨ (1 : Int) = 1) (some (1, g))
    else
    (if i32 a13 = i32 2 then
    zck ((0 : Int) ≤ ((8 * v15) + 2) ∧ ((8 * v15) + 2) < 56) (
    zck ((0 : Int) ≤ ((8 * v15) + 2) ∧ ((8 * v15) + 2) < 56) (zlet (zwr g 420 (Int.toNat ((8 * v15) + 2)) (1 - (g.1 420 (Int.toNat ((8 * v15) + 2))))) (fun g21 =>
    zbe (fL_settle g21 420 401 421 422 423 424 425) (fun v22 g23 =>
    zbe (fX7_ifToggled g23 v15) (fun v24 g25 =>
    zbd (fL_burn g25 420 401 422 423 0) (fun v26 =>
    (if i32 v24 = i32 v26 then
    k39 g25 a1 a2 (a13 + 1)
    else
    zck ((0 : Int) = 0 ∨ (0 : Int) = 1) (some (0, g25)))))))))
    else
    (if i32 a13 = i32 3 then
    fL_ahead_p431 k39 zfu g a1 a2 a13 v15 v16 1
    else
    zbd (fL_find g 420 401 421 422 423 424 425) (fun g19 =>
    zbd (fL_lamp g19 v16 421 422 423) (fun v20 =>
    fL_ahead_p563 k39 zfu g19 a1 a2 a13 v16 v20 0 1))))))))))))
def fL_ahead_p39  : Nat → zSt → Int → Int → Int → Option (Int × zSt)
  | 0, _, _, _, _ => none
  | fu + 1, g, a1, a2, a13 =>
    (if i32 a13 < i32 5 then
    fL_ahead_p48 (fL_ahead_p39 fu) zfu g a1 a2 a13 0
    else
    zck ((1 : Int) = 0 ∨ (1 : Int) = 1) (some (1, g)))
def fL_ahead (g : zSt) (a1 : Int) (a2 : Int) : Option (Int × zSt) :=
    fL_ahead_p39 zfu g a1 a2 0
theorem wL_ahead_p81 (cx : zCx Y p s m args meth c RL cL_ahead 20 (some .boolean)) (hlv : zlv Y = 2) (hup : zUq Y0 Y s) {k39 : zSt → Int → Int → Int → Option (Int × zSt)} {k48 : zSt → Int → Int → Int → Int → Option (Int × zSt)} (hk39 : ∀ (g : zSt) (a1 : Int) (a2 : Int) (a13 : Int), zWo Y p l e (zra 6 117 6) s m args below meth c 20 6 117 (fun q : Int × zSt => MQ below (zQi Y0 q.1 q.2) args s 6 117 (zA Y0)) g [(0, .ref (zad Y 0)), (1, .int (i32 a1)), (2, .int (i32 a2)), (3, .ref (zad Y 400)), (4, .ref (zad Y 401)), (5, .ref (zad Y 402)), (6, .ref (zad Y 403)), (7, .ref (zad Y 420)), (8, .ref (zad Y 421)), (9, .ref (zad Y 422)), (10, .ref (zad Y 423)), (11, .ref (zad Y 424)), (12, .ref (zad Y 425)), (13, .int (i32 a13))] ([]) 39 (k39 g a1 a2 a13)) (hk48 : ∀ (g : zSt) (a1 : Int) (a2 : Int) (a13 : Int) (a14 : Int), zWo Y p l e (zra 6 117 6) s m args below meth c 20 6 117 (fun q : Int × zSt => MQ below (zQi Y0 q.1 q.2) args s 6 117 (zA Y0)) g [(0, .ref (zad Y 0)), (1, .int (i32 a1)), (2, .int (i32 a2)), (3, .ref (zad Y 400)), (4, .ref (zad Y 401)), (5, .ref (zad Y 402)), (6, .ref (zad Y 403)), (7, .ref (zad Y 420)), (8, .ref (zad Y 421)), (9, .ref (zad Y 422)), (10, .ref (zad Y 423)), (11, .ref (zad Y 424)), (12, .ref (zad Y 425)), (13, .int (i32 a13)), (14, .int (i32 a14))] ([]) 48 (k48 g a1 a2 a13 a14)) : ∀ (g : zSt) (a1 : Int) (a2 : Int) (a13 : Int) (a14 : Int), zWo Y p l e (zra 6 117 6) s m args below meth c 20 6 117 (fun q : Int × zSt => MQ below (zQi Y0 q.1 q.2) args s 6 117 (zA Y0)) g [(0, .ref (zad Y 0)), (1, .int (i32 a1)), (2, .int (i32 a2)), (3, .ref (zad Y 400)), (4, .ref (zad Y 401)), (5, .ref (zad Y 402)), (6, .ref (zad Y 403)), (7, .ref (zad Y 420)), (8, .ref (zad Y 421)), (9, .ref (zad Y 422)), (10, .ref (zad Y 423)), (11, .ref (zad Y 424)), (12, .ref (zad Y 425)), (13, .int (i32 a13)), (14, .int (i32 a14))] ([]) 81 (fL_ahead_p81 k39 k48 g a1 a2 a13 a14) := by
  intro g a1 a2 a13 a14
  unfold fL_ahead_p81
  refine zr_iload (pc' := 83) cx rfl 14 dL_ahead_81 rfl ?_
  refine zr_bipush (pc' := 85) cx rfl dL_ahead_83 (by decide +kernel) ?_
  refine zr_icmp_ge (pc' := 88) cx rfl (tgt := 98) dL_ahead_85 rfl ?_ ?_
  · refine zr_iinc (pc' := 101) cx rfl (lv' := [(14, .int (i32 (a14 + 1))), (0, .ref (zad Y 0)), (1, .int (i32 a1)), (2, .int (i32 a2)), (3, .ref (zad Y 400)), (4, .ref (zad Y 401)), (5, .ref (zad Y 402)), (6, .ref (zad Y 403)), (7, .ref (zad Y 420)), (8, .ref (zad Y 421)), (9, .ref (zad Y 422)), (10, .ref (zad Y 423)), (11, .ref (zad Y 424)), (12, .ref (zad Y 425)), (13, .int (i32 a13))]) 14 dL_ahead_98 rfl (by decide) rfl ?_
    refine zr_goto cx (tgt := 48) dL_ahead_101 rfl ?_
    refine zr_sub [1, 2, 3, 4, 5, 6, 7, 8, 9, 10, 11, 12, 13, 14, 0] rfl ?_
    exact hk48 g a1 a2 a13 (a14 + 1)
  · refine zr_aload (pc' := 90) cx rfl 9 dL_ahead_88 rfl ?_
    refine zr_iload (pc' := 92) cx rfl 14 dL_ahead_90 rfl ?_
    refine zr_aload (pc' := 94) cx rfl 6 dL_ahead_92 rfl ?_
    refine zr_iload (pc' := 96) cx rfl 14 dL_ahead_94 rfl ?_
    refine zr_iald (pc' := 97) cx rfl 13 zkc_403 (by decide) (L := 9) rfl dL_ahead_96 ?_
    refine zr_iast (pc' := 98) cx rfl 13 (zkc_422 hlv) (by decide) (L := 9) rfl dL_ahead_97 ?_
    refine zr_letS (fun g1 => ?_)
    refine zr_iinc (pc' := 101) cx rfl (lv' := [(14, .int (i32 (a14 + 1))), (0, .ref (zad Y 0)), (1, .int (i32 a1)), (2, .int (i32 a2)), (3, .ref (zad Y 400)), (4, .ref (zad Y 401)), (5, .ref (zad Y 402)), (6, .ref (zad Y 403)), (7, .ref (zad Y 420)), (8, .ref (zad Y 421)), (9, .ref (zad Y 422)), (10, .ref (zad Y 423)), (11, .ref (zad Y 424)), (12, .ref (zad Y 425)), (13, .int (i32 a13))]) 14 dL_ahead_98 rfl (by decide) rfl ?_
    refine zr_goto cx (tgt := 48) dL_ahead_101 rfl ?_
    refine zr_sub [1, 2, 3, 4, 5, 6, 7, 8, 9, 10, 11, 12, 13, 14, 0] rfl ?_
    exact hk48 g1 a1 a2 a13 (a14 + 1)
theorem wL_ahead_p294 (cx : zCx Y p s m args meth c RL cL_ahead 20 (some .boolean)) (hlv : zlv Y = 2) (hup : zUq Y0 Y s) {k39 : zSt → Int → Int → Int → Option (Int × zSt)} (hk39 : ∀ (g : zSt) (a1 : Int) (a2 : Int) (a13 : Int), zWo Y p l e (zra 6 117 6) s m args below meth c 20 6 117 (fun q : Int × zSt => MQ below (zQi Y0 q.1 q.2) args s 6 117 (zA Y0)) g [(0, .ref (zad Y 0)), (1, .int (i32 a1)), (2, .int (i32 a2)), (3, .ref (zad Y 400)), (4, .ref (zad Y 401)), (5, .ref (zad Y 402)), (6, .ref (zad Y 403)), (7, .ref (zad Y 420)), (8, .ref (zad Y 421)), (9, .ref (zad Y 422)), (10, .ref (zad Y 423)), (11, .ref (zad Y 424)), (12, .ref (zad Y 425)), (13, .int (i32 a13))] ([]) 39 (k39 g a1 a2 a13)) : ∀ (g : zSt) (y0 : Int) (y1 : Int) (a1 : Int) (a2 : Int) (a13 : Int) (a14 : Int) (a15 : Int) (a16 : Int), zWo Y p l e (zra 6 117 6) s m args below meth c 20 6 117 (fun q : Int × zSt => MQ below (zQi Y0 q.1 q.2) args s 6 117 (zA Y0)) g [(0, .ref (zad Y 0)), (1, .int (i32 a1)), (2, .int (i32 a2)), (3, .ref (zad Y 400)), (4, .ref (zad Y 401)), (5, .ref (zad Y 402)), (6, .ref (zad Y 403)), (7, .ref (zad Y 420)), (8, .ref (zad Y 421)), (9, .ref (zad Y 422)), (10, .ref (zad Y 423)), (11, .ref (zad Y 424)), (12, .ref (zad Y 425)), (13, .int (i32 a13)), (14, .int (i32 a14)), (15, .int (i32 a15)), (16, .int (i32 a16))] (.int (i32 y1) :: .int (i32 y0) :: []) 294 (fL_ahead_p294 k39 g y0 y1 a1 a2 a13 a14 a15 a16) := by
  intro g y0 y1 a1 a2 a13 a14 a15 a16
  unfold fL_ahead_p294
  refine zr_icmp_ne (pc' := 297) cx rfl (tgt := 344) dL_ahead_294 rfl ?_ ?_
  · refine zr_iconst (pc' := 345) cx rfl dL_ahead_344 ?_
    exact zr_zretU cx hup dL_ahead_345
  · refine zr_aload_n (pc' := 298) cx rfl 0 dL_ahead_297 rfl rfl ?_
    refine zr_iload (pc' := 300) cx rfl 14 dL_ahead_298 rfl ?_
    refine zr_iload (pc' := 302) cx rfl 15 dL_ahead_300 rfl ?_
    refine zr_iload (pc' := 304) cx rfl 16 dL_ahead_302 rfl ?_
    refine zr_iconst (pc' := 305) cx rfl dL_ahead_304 ?_
    refine zc_L_58 (pc' := 308) cx rfl  ⟨Nat.le_of_ble_eq_true rfl, Nat.le_of_ble_eq_true rfl⟩ ⟨Nat.le_of_ble_eq_true rfl, Nat.le_of_ble_eq_true rfl⟩ (Nat.le_of_ble_eq_true rfl) dL_ahead_305 (fun v2 g3 => ?_)
    refine zr_aload (pc' := 310) cx rfl 9 dL_ahead_308 rfl ?_
    refine zr_bipush (pc' := 312) cx rfl dL_ahead_310 (by decide +kernel) ?_
    refine zr_iald (pc' := 313) cx rfl 13 (zkc_422 hlv) (by decide) (L := 9) rfl dL_ahead_312 ?_
    refine zr_if_ge (pc' := 316) cx rfl (tgt := 320) dL_ahead_313 rfl ?_ ?_
    · refine zr_bipush (pc' := 322) cx rfl dL_ahead_320 (by decide +kernel) ?_
      refine zr_aload (pc' := 324) cx rfl 9 dL_ahead_322 rfl ?_
      refine zr_bipush (pc' := 326) cx rfl dL_ahead_324 (by decide +kernel) ?_
      refine zr_iald (pc' := 327) cx rfl 13 (zkc_422 hlv) (by decide) (L := 9) rfl dL_ahead_326 ?_
      refine zr_iconst (pc' := 328) cx rfl dL_ahead_327 ?_
      refine zr_idiv (pc' := 329) cx rfl (by decide +kernel) dL_ahead_328 ?_
      refine zr_imul (pc' := 330) cx rfl dL_ahead_329 ?_
      refine zr_bipush (pc' := 332) cx rfl dL_ahead_330 (by decide +kernel) ?_
      refine zr_aload (pc' := 334) cx rfl 9 dL_ahead_332 rfl ?_
      refine zr_bipush (pc' := 336) cx rfl dL_ahead_334 (by decide +kernel) ?_
      refine zr_iald (pc' := 337) cx rfl 13 (zkc_422 hlv) (by decide) (L := 9) rfl dL_ahead_336 ?_
      refine zr_iconst (pc' := 338) cx rfl dL_ahead_337 ?_
      refine zr_irem (pc' := 339) cx rfl (by decide +kernel) dL_ahead_338 ?_
      refine zr_imul (pc' := 340) cx rfl dL_ahead_339 ?_
      refine zr_iadd (pc' := 341) cx rfl dL_ahead_340 ?_
      refine zr_icmp_eq (pc' := 344) cx rfl (tgt := 674) dL_ahead_341 rfl ?_ ?_
      · refine zr_iinc (pc' := 677) cx rfl (lv' := [(13, .int (i32 (a13 + 1))), (0, .ref (zad Y 0)), (1, .int (i32 a1)), (2, .int (i32 a2)), (3, .ref (zad Y 400)), (4, .ref (zad Y 401)), (5, .ref (zad Y 402)), (6, .ref (zad Y 403)), (7, .ref (zad Y 420)), (8, .ref (zad Y 421)), (9, .ref (zad Y 422)), (10, .ref (zad Y 423)), (11, .ref (zad Y 424)), (12, .ref (zad Y 425)), (14, .int (i32 a14)), (15, .int (i32 a15)), (16, .int (i32 a16))]) 13 dL_ahead_674 rfl (by decide) rfl ?_
        refine zr_goto cx (tgt := 39) dL_ahead_677 rfl ?_
        refine zr_sub [1, 2, 3, 4, 5, 6, 7, 8, 9, 10, 11, 12, 13, 0] rfl ?_
        exact hk39 g3 a1 a2 (a13 + 1)
      · refine zr_iconst (pc' := 345) cx rfl dL_ahead_344 ?_
        exact zr_zretU cx hup dL_ahead_345
    · refine zr_iconst (pc' := 317) cx rfl dL_ahead_316 ?_
      refine zr_gotoS cx (tgt := 341) dL_ahead_317 rfl ?_
      refine zr_icmp_eq (pc' := 344) cx rfl (tgt := 674) dL_ahead_341 rfl ?_ ?_
      · refine zr_iinc (pc' := 677) cx rfl (lv' := [(13, .int (i32 (a13 + 1))), (0, .ref (zad Y 0)), (1, .int (i32 a1)), (2, .int (i32 a2)), (3, .ref (zad Y 400)), (4, .ref (zad Y 401)), (5, .ref (zad Y 402)), (6, .ref (zad Y 403)), (7, .ref (zad Y 420)), (8, .ref (zad Y 421)), (9, .ref (zad Y 422)), (10, .ref (zad Y 423)), (11, .ref (zad Y 424)), (12, .ref (zad Y 425)), (14, .int (i32 a14)), (15, .int (i32 a15)), (16, .int (i32 a16))]) 13 dL_ahead_674 rfl (by decide) rfl ?_
        refine zr_goto cx (tgt := 39) dL_ahead_677 rfl ?_
        refine zr_sub [1, 2, 3, 4, 5, 6, 7, 8, 9, 10, 11, 12, 13, 0] rfl ?_
        exact hk39 g3 a1 a2 (a13 + 1)
      · refine zr_iconst (pc' := 345) cx rfl dL_ahead_344 ?_
        exact zr_zretU cx hup dL_ahead_345
theorem wL_ahead_p431 (cx : zCx Y p s m args meth c RL cL_ahead 20 (some .boolean)) (hlv : zlv Y = 2) (hup : zUq Y0 Y s) {k39 : zSt → Int → Int → Int → Option (Int × zSt)} (hk39 : ∀ (g : zSt) (a1 : Int) (a2 : Int) (a13 : Int), zWo Y p l e (zra 6 117 6) s m args below meth c 20 6 117 (fun q : Int × zSt => MQ below (zQi Y0 q.1 q.2) args s 6 117 (zA Y0)) g [(0, .ref (zad Y 0)), (1, .int (i32 a1)), (2, .int (i32 a2)), (3, .ref (zad Y 400)), (4, .ref (zad Y 401)), (5, .ref (zad Y 402)), (6, .ref (zad Y 403)), (7, .ref (zad Y 420)), (8, .ref (zad Y 421)), (9, .ref (zad Y 422)), (10, .ref (zad Y 423)), (11, .ref (zad Y 424)), (12, .ref (zad Y 425)), (13, .int (i32 a13))] ([]) 39 (k39 g a1 a2 a13)) : ∀ (fu : Nat) (g : zSt) (a1 : Int) (a2 : Int) (a13 : Int) (a14 : Int) (a15 : Int) (a17 : Int), zWo Y p l e (zra 6 117 6) s m args below meth c 20 6 117 (fun q : Int × zSt => MQ below (zQi Y0 q.1 q.2) args s 6 117 (zA Y0)) g [(0, .ref (zad Y 0)), (1, .int (i32 a1)), (2, .int (i32 a2)), (3, .ref (zad Y 400)), (4, .ref (zad Y 401)), (5, .ref (zad Y 402)), (6, .ref (zad Y 403)), (7, .ref (zad Y 420)), (8, .ref (zad Y 421)), (9, .ref (zad Y 422)), (10, .ref (zad Y 423)), (11, .ref (zad Y 424)), (12, .ref (zad Y 425)), (13, .int (i32 a13)), (14, .int (i32 a14)), (15, .int (i32 a15)), (17, .int (i32 a17))] ([]) 431 (fL_ahead_p431 k39 fu g a1 a2 a13 a14 a15 a17) := by
  intro fu
  induction fu with
  | zero => intro g a1 a2 a13 a14 a15 a17; exact zr_none
  | succ fu ih =>
    intro g a1 a2 a13 a14 a15 a17
    rw [fL_ahead_p431]
    refine zr_iload (pc' := 433) cx rfl 16 dL_ahead_431 rfl ?_
    refine zr_aload (pc' := 435) cx rfl 6 dL_ahead_433 rfl ?_
    refine zr_iconst (pc' := 436) cx rfl dL_ahead_435 ?_
    refine zr_iald (pc' := 437) cx rfl 13 zkc_403 (by decide) (L := 9) rfl dL_ahead_436 ?_
    refine zr_icmp_ge (pc' := 440) cx rfl (tgt := 469) dL_ahead_437 rfl ?_ ?_
    · refine zr_aload (pc' := 471) cx rfl 7 dL_ahead_469 rfl ?_
      refine zr_aload (pc' := 473) cx rfl 4 dL_ahead_471 rfl ?_
      refine zr_aload (pc' := 475) cx rfl 8 dL_ahead_473 rfl ?_
      refine zr_aload (pc' := 477) cx rfl 9 dL_ahead_475 rfl ?_
      refine zr_aload (pc' := 479) cx rfl 10 dL_ahead_477 rfl ?_
      refine zr_aload (pc' := 481) cx rfl 11 dL_ahead_479 rfl ?_
      refine zr_aload (pc' := 483) cx rfl 12 dL_ahead_481 rfl ?_
      refine zc_L_17 (pc' := 486) cx rfl (zkc_420 hlv) zkc_401 (zkc_421 hlv) (zkc_422 hlv) (zkc_423 hlv) (zkc_424 hlv) (zkc_425 hlv) ⟨Nat.le_of_ble_eq_true rfl, Nat.le_of_ble_eq_true rfl⟩ ⟨Nat.le_of_ble_eq_true rfl, Nat.le_of_ble_eq_true rfl⟩ (Nat.le_of_ble_eq_true rfl) dL_ahead_483 (fun g4 => ?_)
      refine zr_aload_n (pc' := 487) cx rfl 0 dL_ahead_486 rfl rfl ?_
      refine zr_iload (pc' := 489) cx rfl 14 dL_ahead_487 rfl ?_
      refine zr_iload (pc' := 491) cx rfl 15 dL_ahead_489 rfl ?_
      refine zc_L_65 (pc' := 494) cx rfl  ⟨Nat.le_of_ble_eq_true rfl, Nat.le_of_ble_eq_true rfl⟩ ⟨Nat.le_of_ble_eq_true rfl, Nat.le_of_ble_eq_true rfl⟩ (Nat.le_of_ble_eq_true rfl) dL_ahead_491 (fun v5 g6 => ?_)
      refine zr_aload (pc' := 496) cx rfl 10 dL_ahead_494 rfl ?_
      refine zr_iconst (pc' := 497) cx rfl dL_ahead_496 ?_
      refine zr_iload (pc' := 499) cx rfl 14 dL_ahead_497 rfl ?_
      refine zr_imul (pc' := 500) cx rfl dL_ahead_499 ?_
      refine zr_iload (pc' := 502) cx rfl 15 dL_ahead_500 rfl ?_
      refine zr_iadd (pc' := 503) cx rfl dL_ahead_502 ?_
      refine zr_iald (pc' := 504) cx rfl 18 (zkc_423 hlv) (by decide) (L := 14) rfl dL_ahead_503 ?_
      refine zr_iconst (pc' := 505) cx rfl dL_ahead_504 ?_
      refine zr_icmp_le (pc' := 508) cx rfl (tgt := 521) dL_ahead_505 rfl ?_ ?_
      · refine zr_iconst (pc' := 522) cx rfl dL_ahead_521 ?_
        refine zr_icmp_eq (pc' := 525) cx rfl (tgt := 674) dL_ahead_522 rfl ?_ ?_
        · refine zr_iinc (pc' := 677) cx rfl (lv' := [(13, .int (i32 (a13 + 1))), (0, .ref (zad Y 0)), (1, .int (i32 a1)), (2, .int (i32 a2)), (3, .ref (zad Y 400)), (4, .ref (zad Y 401)), (5, .ref (zad Y 402)), (6, .ref (zad Y 403)), (7, .ref (zad Y 420)), (8, .ref (zad Y 421)), (9, .ref (zad Y 422)), (10, .ref (zad Y 423)), (11, .ref (zad Y 424)), (12, .ref (zad Y 425)), (14, .int (i32 a14)), (15, .int (i32 a15)), (17, .int (i32 a17))]) 13 dL_ahead_674 rfl (by decide) rfl ?_
          refine zr_goto cx (tgt := 39) dL_ahead_677 rfl ?_
          refine zr_sub [1, 2, 3, 4, 5, 6, 7, 8, 9, 10, 11, 12, 13, 0] rfl ?_
          exact hk39 g6 a1 a2 (a13 + 1)
        · refine zr_iconst (pc' := 526) cx rfl dL_ahead_525 ?_
          exact zr_zretU cx hup dL_ahead_526
      · refine zr_aload (pc' := 510) cx rfl 11 dL_ahead_508 rfl ?_
        refine zr_iconst (pc' := 511) cx rfl dL_ahead_510 ?_
        refine zr_iload (pc' := 513) cx rfl 14 dL_ahead_511 rfl ?_
        refine zr_imul (pc' := 514) cx rfl dL_ahead_513 ?_
        refine zr_iload (pc' := 516) cx rfl 15 dL_ahead_514 rfl ?_
        refine zr_iadd (pc' := 517) cx rfl dL_ahead_516 ?_
        refine zr_iald (pc' := 518) cx rfl 18 (zkc_424 hlv) (by decide) (L := 14) rfl dL_ahead_517 ?_
        refine zr_gotoS cx (tgt := 522) dL_ahead_518 rfl ?_
        refine zr_icmp_eq (pc' := 525) cx rfl (tgt := 674) dL_ahead_522 rfl ?_ ?_
        · refine zr_iinc (pc' := 677) cx rfl (lv' := [(13, .int (i32 (a13 + 1))), (0, .ref (zad Y 0)), (1, .int (i32 a1)), (2, .int (i32 a2)), (3, .ref (zad Y 400)), (4, .ref (zad Y 401)), (5, .ref (zad Y 402)), (6, .ref (zad Y 403)), (7, .ref (zad Y 420)), (8, .ref (zad Y 421)), (9, .ref (zad Y 422)), (10, .ref (zad Y 423)), (11, .ref (zad Y 424)), (12, .ref (zad Y 425)), (14, .int (i32 a14)), (15, .int (i32 a15)), (17, .int (i32 a17))]) 13 dL_ahead_674 rfl (by decide) rfl ?_
          refine zr_goto cx (tgt := 39) dL_ahead_677 rfl ?_
          refine zr_sub [1, 2, 3, 4, 5, 6, 7, 8, 9, 10, 11, 12, 13, 0] rfl ?_
          exact hk39 g6 a1 a2 (a13 + 1)
        · refine zr_iconst (pc' := 526) cx rfl dL_ahead_525 ?_
          exact zr_zretU cx hup dL_ahead_526
    · refine zr_aload (pc' := 442) cx rfl 7 dL_ahead_440 rfl ?_
      refine zr_bipush (pc' := 444) cx rfl dL_ahead_442 (by decide +kernel) ?_
      refine zr_iload (pc' := 446) cx rfl 16 dL_ahead_444 rfl ?_
      refine zr_imul (pc' := 447) cx rfl dL_ahead_446 ?_
      refine zr_iconst (pc' := 448) cx rfl dL_ahead_447 ?_
      refine zr_iadd (pc' := 449) cx rfl dL_ahead_448 ?_
      refine zr_iconst (pc' := 450) cx rfl dL_ahead_449 ?_
      refine zr_iast (pc' := 451) cx rfl 16 (zkc_420 hlv) (by decide) (L := 56) rfl dL_ahead_450 ?_
      refine zr_letS (fun g7 => ?_)
      refine zr_aload (pc' := 453) cx rfl 7 dL_ahead_451 rfl ?_
      refine zr_bipush (pc' := 455) cx rfl dL_ahead_453 (by decide +kernel) ?_
      refine zr_iload (pc' := 457) cx rfl 16 dL_ahead_455 rfl ?_
      refine zr_imul (pc' := 458) cx rfl dL_ahead_457 ?_
      refine zr_bipush (pc' := 460) cx rfl dL_ahead_458 (by decide +kernel) ?_
      refine zr_iadd (pc' := 461) cx rfl dL_ahead_460 ?_
      refine zr_iconst (pc' := 462) cx rfl dL_ahead_461 ?_
      refine zr_iast (pc' := 463) cx rfl 16 (zkc_420 hlv) (by decide) (L := 56) rfl dL_ahead_462 ?_
      refine zr_letS (fun g8 => ?_)
      refine zr_iinc (pc' := 466) cx rfl (lv' := [(17, .int (i32 (a17 + 1))), (0, .ref (zad Y 0)), (1, .int (i32 a1)), (2, .int (i32 a2)), (3, .ref (zad Y 400)), (4, .ref (zad Y 401)), (5, .ref (zad Y 402)), (6, .ref (zad Y 403)), (7, .ref (zad Y 420)), (8, .ref (zad Y 421)), (9, .ref (zad Y 422)), (10, .ref (zad Y 423)), (11, .ref (zad Y 424)), (12, .ref (zad Y 425)), (13, .int (i32 a13)), (14, .int (i32 a14)), (15, .int (i32 a15))]) 16 dL_ahead_463 rfl (by decide) rfl ?_
      refine zr_goto cx (tgt := 431) dL_ahead_466 rfl ?_
      refine zr_sub [1, 2, 3, 4, 5, 6, 7, 8, 9, 10, 11, 12, 13, 14, 15, 16, 0] rfl ?_
      exact ih g8 a1 a2 a13 a14 a15 (a17 + 1)
theorem wL_ahead_p641 (cx : zCx Y p s m args meth c RL cL_ahead 20 (some .boolean)) (hlv : zlv Y = 2) (hup : zUq Y0 Y s) {k39 : zSt → Int → Int → Int → Option (Int × zSt)} {k563 : zSt → Int → Int → Int → Int → Int → Int → Int → Option (Int × zSt)} (hk39 : ∀ (g : zSt) (a1 : Int) (a2 : Int) (a13 : Int), zWo Y p l e (zra 6 117 6) s m args below meth c 20 6 117 (fun q : Int × zSt => MQ below (zQi Y0 q.1 q.2) args s 6 117 (zA Y0)) g [(0, .ref (zad Y 0)), (1, .int (i32 a1)), (2, .int (i32 a2)), (3, .ref (zad Y 400)), (4, .ref (zad Y 401)), (5, .ref (zad Y 402)), (6, .ref (zad Y 403)), (7, .ref (zad Y 420)), (8, .ref (zad Y 421)), (9, .ref (zad Y 422)), (10, .ref (zad Y 423)), (11, .ref (zad Y 424)), (12, .ref (zad Y 425)), (13, .int (i32 a13))] ([]) 39 (k39 g a1 a2 a13)) (hk563 : ∀ (g : zSt) (a1 : Int) (a2 : Int) (a13 : Int) (a15 : Int) (a17 : Int) (a18 : Int) (a19 : Int), zWo Y p l e (zra 6 117 6) s m args below meth c 20 6 117 (fun q : Int × zSt => MQ below (zQi Y0 q.1 q.2) args s 6 117 (zA Y0)) g [(0, .ref (zad Y 0)), (1, .int (i32 a1)), (2, .int (i32 a2)), (3, .ref (zad Y 400)), (4, .ref (zad Y 401)), (5, .ref (zad Y 402)), (6, .ref (zad Y 403)), (7, .ref (zad Y 420)), (8, .ref (zad Y 421)), (9, .ref (zad Y 422)), (10, .ref (zad Y 423)), (11, .ref (zad Y 424)), (12, .ref (zad Y 425)), (13, .int (i32 a13)), (15, .int (i32 a15)), (17, .int (i32 a17)), (18, .int (i32 a18)), (19, .int (i32 a19))] ([]) 563 (k563 g a1 a2 a13 a15 a17 a18 a19)) : ∀ (g : zSt) (y0 : Int) (y1 : Int) (a1 : Int) (a2 : Int) (a13 : Int) (a15 : Int) (a17 : Int) (a19 : Int), zWo Y p l e (zra 6 117 6) s m args below meth c 20 6 117 (fun q : Int × zSt => MQ below (zQi Y0 q.1 q.2) args s 6 117 (zA Y0)) g [(0, .ref (zad Y 0)), (1, .int (i32 a1)), (2, .int (i32 a2)), (3, .ref (zad Y 400)), (4, .ref (zad Y 401)), (5, .ref (zad Y 402)), (6, .ref (zad Y 403)), (7, .ref (zad Y 420)), (8, .ref (zad Y 421)), (9, .ref (zad Y 422)), (10, .ref (zad Y 423)), (11, .ref (zad Y 424)), (12, .ref (zad Y 425)), (13, .int (i32 a13)), (15, .int (i32 a15)), (17, .int (i32 a17)), (19, .int (i32 a19))] (.int (i32 y1) :: .int (i32 y0) :: []) 641 (fL_ahead_p641 k39 k563 g y0 y1 a1 a2 a13 a15 a17 a19) := by
  intro g y0 y1 a1 a2 a13 a15 a17 a19
  unfold fL_ahead_p641
  refine zr_ior (pc' := 642) cx rfl dL_ahead_641 ?_
  refine zr_leti (fun x9 => ?_)
  refine zr_istore (pc' := 644) cx rfl (lv' := [(18, .int (i32 x9)), (0, .ref (zad Y 0)), (1, .int (i32 a1)), (2, .int (i32 a2)), (3, .ref (zad Y 400)), (4, .ref (zad Y 401)), (5, .ref (zad Y 402)), (6, .ref (zad Y 403)), (7, .ref (zad Y 420)), (8, .ref (zad Y 421)), (9, .ref (zad Y 422)), (10, .ref (zad Y 423)), (11, .ref (zad Y 424)), (12, .ref (zad Y 425)), (13, .int (i32 a13)), (15, .int (i32 a15)), (17, .int (i32 a17)), (19, .int (i32 a19))]) dL_ahead_642 (by decide) rfl ?_
  refine zr_aload (pc' := 646) cx rfl 8 dL_ahead_644 rfl ?_
  refine zr_bipush (pc' := 648) cx rfl dL_ahead_646 (by decide +kernel) ?_
  refine zr_iload (pc' := 650) cx rfl 17 dL_ahead_648 rfl ?_
  refine zr_imul (pc' := 651) cx rfl dL_ahead_650 ?_
  refine zr_iconst (pc' := 652) cx rfl dL_ahead_651 ?_
  refine zr_iadd (pc' := 653) cx rfl dL_ahead_652 ?_
  refine zr_iconst (pc' := 654) cx rfl dL_ahead_653 ?_
  refine zr_iast (pc' := 655) cx rfl 16 (zkc_420 hlv) (by decide) (L := 56) rfl dL_ahead_654 ?_
  refine zr_letS (fun g10 => ?_)
  refine zr_iinc (pc' := 658) cx rfl (lv' := [(19, .int (i32 (a19 + 1))), (18, .int (i32 x9)), (0, .ref (zad Y 0)), (1, .int (i32 a1)), (2, .int (i32 a2)), (3, .ref (zad Y 400)), (4, .ref (zad Y 401)), (5, .ref (zad Y 402)), (6, .ref (zad Y 403)), (7, .ref (zad Y 420)), (8, .ref (zad Y 421)), (9, .ref (zad Y 422)), (10, .ref (zad Y 423)), (11, .ref (zad Y 424)), (12, .ref (zad Y 425)), (13, .int (i32 a13)), (15, .int (i32 a15)), (17, .int (i32 a17))]) 17 dL_ahead_655 rfl (by decide) rfl ?_
  refine zr_goto cx (tgt := 563) dL_ahead_658 rfl ?_
  refine zr_sub [2, 3, 4, 5, 6, 7, 8, 9, 10, 11, 12, 13, 14, 15, 16, 17, 1, 0] rfl ?_
  exact hk563 g10 a1 a2 a13 a15 a17 x9 (a19 + 1)
theorem wL_ahead_p563 (cx : zCx Y p s m args meth c RL cL_ahead 20 (some .boolean)) (hlv : zlv Y = 2) (hup : zUq Y0 Y s) {k39 : zSt → Int → Int → Int → Option (Int × zSt)} (hk39 : ∀ (g : zSt) (a1 : Int) (a2 : Int) (a13 : Int), zWo Y p l e (zra 6 117 6) s m args below meth c 20 6 117 (fun q : Int × zSt => MQ below (zQi Y0 q.1 q.2) args s 6 117 (zA Y0)) g [(0, .ref (zad Y 0)), (1, .int (i32 a1)), (2, .int (i32 a2)), (3, .ref (zad Y 400)), (4, .ref (zad Y 401)), (5, .ref (zad Y 402)), (6, .ref (zad Y 403)), (7, .ref (zad Y 420)), (8, .ref (zad Y 421)), (9, .ref (zad Y 422)), (10, .ref (zad Y 423)), (11, .ref (zad Y 424)), (12, .ref (zad Y 425)), (13, .int (i32 a13))] ([]) 39 (k39 g a1 a2 a13)) : ∀ (fu : Nat) (g : zSt) (a1 : Int) (a2 : Int) (a13 : Int) (a15 : Int) (a17 : Int) (a18 : Int) (a19 : Int), zWo Y p l e (zra 6 117 6) s m args below meth c 20 6 117 (fun q : Int × zSt => MQ below (zQi Y0 q.1 q.2) args s 6 117 (zA Y0)) g [(0, .ref (zad Y 0)), (1, .int (i32 a1)), (2, .int (i32 a2)), (3, .ref (zad Y 400)), (4, .ref (zad Y 401)), (5, .ref (zad Y 402)), (6, .ref (zad Y 403)), (7, .ref (zad Y 420)), (8, .ref (zad Y 421)), (9, .ref (zad Y 422)), (10, .ref (zad Y 423)), (11, .ref (zad Y 424)), (12, .ref (zad Y 425)), (13, .int (i32 a13)), (15, .int (i32 a15)), (17, .int (i32 a17)), (18, .int (i32 a18)), (19, .int (i32 a19))] ([]) 563 (fL_ahead_p563 k39 fu g a1 a2 a13 a15 a17 a18 a19) := by
  intro fu
  induction fu with
  | zero => intro g a1 a2 a13 a15 a17 a18 a19; exact zr_none
  | succ fu ih =>
    intro g a1 a2 a13 a15 a17 a18 a19
    rw [fL_ahead_p563]
    refine zr_iload (pc' := 565) cx rfl 17 dL_ahead_563 rfl ?_
    refine zr_aload (pc' := 567) cx rfl 6 dL_ahead_565 rfl ?_
    refine zr_iconst (pc' := 568) cx rfl dL_ahead_567 ?_
    refine zr_iald (pc' := 569) cx rfl 13 zkc_403 (by decide) (L := 9) rfl dL_ahead_568 ?_
    refine zr_icmp_ge (pc' := 572) cx rfl (tgt := 661) dL_ahead_569 rfl ?_ ?_
    · refine zr_aload_n (pc' := 662) cx rfl 0 dL_ahead_661 rfl rfl ?_
      refine zr_iload (pc' := 664) cx rfl 14 dL_ahead_662 rfl ?_
      refine zc_L_68 (pc' := 667) cx rfl  ⟨Nat.le_of_ble_eq_true rfl, Nat.le_of_ble_eq_true rfl⟩ ⟨Nat.le_of_ble_eq_true rfl, Nat.le_of_ble_eq_true rfl⟩ (Nat.le_of_ble_eq_true rfl) dL_ahead_664 (fun v11 => ?_)
      refine zr_iload (pc' := 669) cx rfl 16 dL_ahead_667 rfl ?_
      refine zr_icmp_eq (pc' := 672) cx rfl (tgt := 674) dL_ahead_669 rfl ?_ ?_
      · refine zr_iinc (pc' := 677) cx rfl (lv' := [(13, .int (i32 (a13 + 1))), (0, .ref (zad Y 0)), (1, .int (i32 a1)), (2, .int (i32 a2)), (3, .ref (zad Y 400)), (4, .ref (zad Y 401)), (5, .ref (zad Y 402)), (6, .ref (zad Y 403)), (7, .ref (zad Y 420)), (8, .ref (zad Y 421)), (9, .ref (zad Y 422)), (10, .ref (zad Y 423)), (11, .ref (zad Y 424)), (12, .ref (zad Y 425)), (15, .int (i32 a15)), (17, .int (i32 a17)), (18, .int (i32 a18)), (19, .int (i32 a19))]) 13 dL_ahead_674 rfl (by decide) rfl ?_
        refine zr_goto cx (tgt := 39) dL_ahead_677 rfl ?_
        refine zr_sub [1, 2, 3, 4, 5, 6, 7, 8, 9, 10, 11, 12, 13, 0] rfl ?_
        exact hk39 g a1 a2 (a13 + 1)
      · refine zr_iconst (pc' := 673) cx rfl dL_ahead_672 ?_
        exact zr_zretU cx hup dL_ahead_673
    · refine zr_aload_n (pc' := 573) cx rfl 3 dL_ahead_572 rfl rfl ?_
      refine zr_bipush (pc' := 575) cx rfl dL_ahead_573 (by decide +kernel) ?_
      refine zr_iload (pc' := 577) cx rfl 17 dL_ahead_575 rfl ?_
      refine zr_imul (pc' := 578) cx rfl dL_ahead_577 ?_
      refine zr_iconst (pc' := 579) cx rfl dL_ahead_578 ?_
      refine zr_iadd (pc' := 580) cx rfl dL_ahead_579 ?_
      refine zr_iald (pc' := 581) cx rfl 16 zkc_400 (by decide) (L := 56) rfl dL_ahead_580 ?_
      refine zr_if_ne (pc' := 584) cx rfl (tgt := 587) dL_ahead_581 rfl ?_ ?_
      · refine zr_aload (pc' := 589) cx rfl 7 dL_ahead_587 rfl ?_
        refine zr_bipush (pc' := 591) cx rfl dL_ahead_589 (by decide +kernel) ?_
        refine zr_iload (pc' := 593) cx rfl 17 dL_ahead_591 rfl ?_
        refine zr_imul (pc' := 594) cx rfl dL_ahead_593 ?_
        refine zr_iconst (pc' := 595) cx rfl dL_ahead_594 ?_
        refine zr_iadd (pc' := 596) cx rfl dL_ahead_595 ?_
        refine zr_iconst (pc' := 597) cx rfl dL_ahead_596 ?_
        refine zr_iast (pc' := 598) cx rfl 16 (zkc_420 hlv) (by decide) (L := 56) rfl dL_ahead_597 ?_
        refine zr_letS (fun g12 => ?_)
        refine zr_aload (pc' := 600) cx rfl 7 dL_ahead_598 rfl ?_
        refine zr_aload (pc' := 602) cx rfl 4 dL_ahead_600 rfl ?_
        refine zr_aload (pc' := 604) cx rfl 8 dL_ahead_602 rfl ?_
        refine zr_aload (pc' := 606) cx rfl 9 dL_ahead_604 rfl ?_
        refine zr_aload (pc' := 608) cx rfl 10 dL_ahead_606 rfl ?_
        refine zr_aload (pc' := 610) cx rfl 11 dL_ahead_608 rfl ?_
        refine zr_aload (pc' := 612) cx rfl 12 dL_ahead_610 rfl ?_
        refine zc_L_17 (pc' := 615) cx rfl (zkc_420 hlv) zkc_401 (zkc_421 hlv) (zkc_422 hlv) (zkc_423 hlv) (zkc_424 hlv) (zkc_425 hlv) ⟨Nat.le_of_ble_eq_true rfl, Nat.le_of_ble_eq_true rfl⟩ ⟨Nat.le_of_ble_eq_true rfl, Nat.le_of_ble_eq_true rfl⟩ (Nat.le_of_ble_eq_true rfl) dL_ahead_612 (fun g13 => ?_)
        refine zr_iload (pc' := 617) cx rfl 16 dL_ahead_615 rfl ?_
        refine zr_iload (pc' := 619) cx rfl 14 dL_ahead_617 rfl ?_
        refine zr_aload (pc' := 621) cx rfl 8 dL_ahead_619 rfl ?_
        refine zr_aload (pc' := 623) cx rfl 9 dL_ahead_621 rfl ?_
        refine zr_aload (pc' := 625) cx rfl 10 dL_ahead_623 rfl ?_
        refine zc_L_14 (pc' := 628) cx rfl (zkc_421 hlv) (zkc_422 hlv) (zkc_423 hlv) ⟨Nat.le_of_ble_eq_true rfl, Nat.le_of_ble_eq_true rfl⟩ ⟨Nat.le_of_ble_eq_true rfl, Nat.le_of_ble_eq_true rfl⟩ (Nat.le_of_ble_eq_true rfl) dL_ahead_625 (fun v14 => ?_)
        refine zr_iload (pc' := 630) cx rfl 15 dL_ahead_628 rfl ?_
        refine zr_icmp_eq (pc' := 633) cx rfl (tgt := 640) dL_ahead_630 rfl ?_ ?_
        · refine zr_iconst (pc' := 641) cx rfl dL_ahead_640 ?_
          refine zr_sub [0, 1, 2, 3, 4, 5, 6, 7, 8, 9, 10, 11, 12, 13, 14, 15, 17] rfl ?_
          exact wL_ahead_p641 cx hlv hup hk39 ih g13 a18 0 a1 a2 a13 a15 a17 a19
        · refine zr_iconst (pc' := 634) cx rfl dL_ahead_633 ?_
          refine zr_iload (pc' := 636) cx rfl 17 dL_ahead_634 rfl ?_
          refine zr_ishl (pc' := 637) cx rfl dL_ahead_636 ?_
          refine zr_gotoS cx (tgt := 641) dL_ahead_637 rfl ?_
          refine zr_sub [0, 1, 2, 3, 4, 5, 6, 7, 8, 9, 10, 11, 12, 13, 14, 15, 17] rfl ?_
          exact wL_ahead_p641 cx hlv hup hk39 ih g13 a18 (zsl 1 a19) a1 a2 a13 a15 a17 a19
      · refine zr_goto cx (tgt := 655) dL_ahead_584 rfl ?_
        refine zr_iinc (pc' := 658) cx rfl (lv' := [(19, .int (i32 (a19 + 1))), (0, .ref (zad Y 0)), (1, .int (i32 a1)), (2, .int (i32 a2)), (3, .ref (zad Y 400)), (4, .ref (zad Y 401)), (5, .ref (zad Y 402)), (6, .ref (zad Y 403)), (7, .ref (zad Y 420)), (8, .ref (zad Y 421)), (9, .ref (zad Y 422)), (10, .ref (zad Y 423)), (11, .ref (zad Y 424)), (12, .ref (zad Y 425)), (13, .int (i32 a13)), (15, .int (i32 a15)), (17, .int (i32 a17)), (18, .int (i32 a18))]) 17 dL_ahead_655 rfl (by decide) rfl ?_
        refine zr_goto cx (tgt := 563) dL_ahead_658 rfl ?_
        refine zr_sub [1, 2, 3, 4, 5, 6, 7, 8, 9, 10, 11, 12, 13, 14, 15, 16, 17, 0] rfl ?_
        exact ih g a1 a2 a13 a15 a17 a18 (a19 + 1)
theorem wL_ahead_p48 (cx : zCx Y p s m args meth c RL cL_ahead 20 (some .boolean)) (hlv : zlv Y = 2) (hup : zUq Y0 Y s) {k39 : zSt → Int → Int → Int → Option (Int × zSt)} (hk39 : ∀ (g : zSt) (a1 : Int) (a2 : Int) (a13 : Int), zWo Y p l e (zra 6 117 6) s m args below meth c 20 6 117 (fun q : Int × zSt => MQ below (zQi Y0 q.1 q.2) args s 6 117 (zA Y0)) g [(0, .ref (zad Y 0)), (1, .int (i32 a1)), (2, .int (i32 a2)), (3, .ref (zad Y 400)), (4, .ref (zad Y 401)), (5, .ref (zad Y 402)), (6, .ref (zad Y 403)), (7, .ref (zad Y 420)), (8, .ref (zad Y 421)), (9, .ref (zad Y 422)), (10, .ref (zad Y 423)), (11, .ref (zad Y 424)), (12, .ref (zad Y 425)), (13, .int (i32 a13))] ([]) 39 (k39 g a1 a2 a13)) : ∀ (fu : Nat) (g : zSt) (a1 : Int) (a2 : Int) (a13 : Int) (a14 : Int), zWo Y p l e (zra 6 117 6) s m args below meth c 20 6 117 (fun q : Int × zSt => MQ below (zQi Y0 q.1 q.2) args s 6 117 (zA Y0)) g [(0, .ref (zad Y 0)), (1, .int (i32 a1)), (2, .int (i32 a2)), (3, .ref (zad Y 400)), (4, .ref (zad Y 401)), (5, .ref (zad Y 402)), (6, .ref (zad Y 403)), (7, .ref (zad Y 420)), (8, .ref (zad Y 421)), (9, .ref (zad Y 422)), (10, .ref (zad Y 423)), (11, .ref (zad Y 424)), (12, .ref (zad Y 425)), (13, .int (i32 a13)), (14, .int (i32 a14))] ([]) 48 (fL_ahead_p48 k39 fu g a1 a2 a13 a14) := by
  intro fu
  induction fu with
  | zero => intro g a1 a2 a13 a14; exact zr_none
  | succ fu ih =>
    intro g a1 a2 a13 a14
    rw [fL_ahead_p48]
    refine zr_iload (pc' := 50) cx rfl 14 dL_ahead_48 rfl ?_
    refine zr_bipush (pc' := 52) cx rfl dL_ahead_50 (by decide +kernel) ?_
    refine zr_icmp_ge (pc' := 55) cx rfl (tgt := 104) dL_ahead_52 rfl ?_ ?_
    · refine zr_iload_n (pc' := 105) cx rfl 1 dL_ahead_104 rfl rfl ?_
      refine zr_aload (pc' := 107) cx rfl 6 dL_ahead_105 rfl ?_
      refine zr_iconst (pc' := 108) cx rfl dL_ahead_107 ?_
      refine zr_iald (pc' := 109) cx rfl 13 zkc_403 (by decide) (L := 9) rfl dL_ahead_108 ?_
      refine zc_L_51 (pc' := 112) cx rfl  ⟨Nat.le_of_ble_eq_true rfl, Nat.le_of_ble_eq_true rfl⟩ ⟨Nat.le_of_ble_eq_true rfl, Nat.le_of_ble_eq_true rfl⟩ (Nat.le_of_ble_eq_true rfl) dL_ahead_109 (fun v15 => ?_)
      refine zr_istore (pc' := 114) cx rfl (lv' := [(14, .int (i32 v15)), (0, .ref (zad Y 0)), (1, .int (i32 a1)), (2, .int (i32 a2)), (3, .ref (zad Y 400)), (4, .ref (zad Y 401)), (5, .ref (zad Y 402)), (6, .ref (zad Y 403)), (7, .ref (zad Y 420)), (8, .ref (zad Y 421)), (9, .ref (zad Y 422)), (10, .ref (zad Y 423)), (11, .ref (zad Y 424)), (12, .ref (zad Y 425)), (13, .int (i32 a13))]) dL_ahead_112 (by decide) rfl ?_
      refine zr_iload_n (pc' := 115) cx rfl 2 dL_ahead_114 rfl rfl ?_
      refine zr_iconst (pc' := 116) cx rfl dL_ahead_115 ?_
      refine zr_ishr (pc' := 117) cx rfl dL_ahead_116 ?_
      refine zr_iconst (pc' := 118) cx rfl dL_ahead_117 ?_
      refine zc_L_51 (pc' := 121) cx rfl  ⟨Nat.le_of_ble_eq_true rfl, Nat.le_of_ble_eq_true rfl⟩ ⟨Nat.le_of_ble_eq_true rfl, Nat.le_of_ble_eq_true rfl⟩ (Nat.le_of_ble_eq_true rfl) dL_ahead_118 (fun v16 => ?_)
      refine zr_istore (pc' := 123) cx rfl (lv' := [(15, .int (i32 v16)), (14, .int (i32 v15)), (0, .ref (zad Y 0)), (1, .int (i32 a1)), (2, .int (i32 a2)), (3, .ref (zad Y 400)), (4, .ref (zad Y 401)), (5, .ref (zad Y 402)), (6, .ref (zad Y 403)), (7, .ref (zad Y 420)), (8, .ref (zad Y 421)), (9, .ref (zad Y 422)), (10, .ref (zad Y 423)), (11, .ref (zad Y 424)), (12, .ref (zad Y 425)), (13, .int (i32 a13))]) dL_ahead_121 (by decide) rfl ?_
      refine zr_iconst (pc' := 124) cx rfl dL_ahead_123 ?_
      refine zr_iload_n (pc' := 125) cx rfl 4 dL_ahead_124 rfl rfl ?_
      refine zr_bipush (pc' := 127) cx rfl dL_ahead_125 (by decide +kernel) ?_
      refine zc_L_51 (pc' := 130) cx rfl  ⟨Nat.le_of_ble_eq_true rfl, Nat.le_of_ble_eq_true rfl⟩ ⟨Nat.le_of_ble_eq_true rfl, Nat.le_of_ble_eq_true rfl⟩ (Nat.le_of_ble_eq_true rfl) dL_ahead_127 (fun v17 => ?_)
      refine zr_iadd (pc' := 131) cx rfl dL_ahead_130 ?_
      refine zr_leti (fun x18 => ?_)
      refine zr_istore (pc' := 133) cx rfl (lv' := [(16, .int (i32 x18)), (15, .int (i32 v16)), (14, .int (i32 v15)), (0, .ref (zad Y 0)), (1, .int (i32 a1)), (2, .int (i32 a2)), (3, .ref (zad Y 400)), (4, .ref (zad Y 401)), (5, .ref (zad Y 402)), (6, .ref (zad Y 403)), (7, .ref (zad Y 420)), (8, .ref (zad Y 421)), (9, .ref (zad Y 422)), (10, .ref (zad Y 423)), (11, .ref (zad Y 424)), (12, .ref (zad Y 425)), (13, .int (i32 a13))]) dL_ahead_131 (by decide) rfl ?_
      refine zr_iload (pc' := 135) cx rfl 16 dL_ahead_133 rfl ?_
      refine zr_iconst (pc' := 136) cx rfl dL_ahead_135 ?_
      refine zr_icmp_ge (pc' := 139) cx rfl (tgt := 346) dL_ahead_136 rfl ?_ ?_
      · refine zr_iload (pc' := 348) cx rfl 2 dL_ahead_346 rfl ?_
        refine zr_if_ne (pc' := 351) cx rfl (tgt := 353) dL_ahead_348 rfl ?_ ?_
        · refine zr_iload (pc' := 355) cx rfl 16 dL_ahead_353 rfl ?_
          refine zr_iconst (pc' := 356) cx rfl dL_ahead_355 ?_
          refine zr_icmp_ne (pc' := 359) cx rfl (tgt := 422) dL_ahead_356 rfl ?_ ?_
          · refine zr_iload (pc' := 424) cx rfl 16 dL_ahead_422 rfl ?_
            refine zr_iconst (pc' := 425) cx rfl dL_ahead_424 ?_
            refine zr_icmp_ne (pc' := 428) cx rfl (tgt := 527) dL_ahead_425 rfl ?_ ?_
            · refine zr_aload (pc' := 529) cx rfl 10 dL_ahead_527 rfl ?_
              refine zr_aload (pc' := 531) cx rfl 7 dL_ahead_529 rfl ?_
              refine zr_aload (pc' := 533) cx rfl 11 dL_ahead_531 rfl ?_
              refine zr_aload (pc' := 535) cx rfl 12 dL_ahead_533 rfl ?_
              refine zr_aload (pc' := 537) cx rfl 13 dL_ahead_535 rfl ?_
              refine zr_aload (pc' := 539) cx rfl 14 dL_ahead_537 rfl ?_
              refine zr_aload (pc' := 541) cx rfl 15 dL_ahead_539 rfl ?_
              refine zc_L_17 (pc' := 544) cx rfl (zkc_420 hlv) zkc_401 (zkc_421 hlv) (zkc_422 hlv) (zkc_423 hlv) (zkc_424 hlv) (zkc_425 hlv) ⟨Nat.le_of_ble_eq_true rfl, Nat.le_of_ble_eq_true rfl⟩ ⟨Nat.le_of_ble_eq_true rfl, Nat.le_of_ble_eq_true rfl⟩ (Nat.le_of_ble_eq_true rfl) dL_ahead_541 (fun g19 => ?_)
              refine zr_iload (pc' := 546) cx rfl 1 dL_ahead_544 rfl ?_
              refine zr_aload (pc' := 548) cx rfl 11 dL_ahead_546 rfl ?_
              refine zr_aload (pc' := 550) cx rfl 12 dL_ahead_548 rfl ?_
              refine zr_aload (pc' := 552) cx rfl 13 dL_ahead_550 rfl ?_
              refine zc_L_14 (pc' := 555) cx rfl (zkc_421 hlv) (zkc_422 hlv) (zkc_423 hlv) ⟨Nat.le_of_ble_eq_true rfl, Nat.le_of_ble_eq_true rfl⟩ ⟨Nat.le_of_ble_eq_true rfl, Nat.le_of_ble_eq_true rfl⟩ (Nat.le_of_ble_eq_true rfl) dL_ahead_552 (fun v20 => ?_)
              refine zr_istore (pc' := 557) cx rfl (lv' := [(17, .int (i32 v20)), (16, .int (i32 x18)), (15, .int (i32 v16)), (14, .int (i32 v15)), (0, .ref (zad Y 0)), (1, .int (i32 a1)), (2, .int (i32 a2)), (3, .ref (zad Y 400)), (4, .ref (zad Y 401)), (5, .ref (zad Y 402)), (6, .ref (zad Y 403)), (7, .ref (zad Y 420)), (8, .ref (zad Y 421)), (9, .ref (zad Y 422)), (10, .ref (zad Y 423)), (11, .ref (zad Y 424)), (12, .ref (zad Y 425)), (13, .int (i32 a13))]) dL_ahead_555 (by decide) rfl ?_
              refine zr_iconst (pc' := 558) cx rfl dL_ahead_557 ?_
              refine zr_istore (pc' := 560) cx rfl (lv' := [(18, .int (i32 0)), (17, .int (i32 v20)), (16, .int (i32 x18)), (15, .int (i32 v16)), (14, .int (i32 v15)), (0, .ref (zad Y 0)), (1, .int (i32 a1)), (2, .int (i32 a2)), (3, .ref (zad Y 400)), (4, .ref (zad Y 401)), (5, .ref (zad Y 402)), (6, .ref (zad Y 403)), (7, .ref (zad Y 420)), (8, .ref (zad Y 421)), (9, .ref (zad Y 422)), (10, .ref (zad Y 423)), (11, .ref (zad Y 424)), (12, .ref (zad Y 425)), (13, .int (i32 a13))]) dL_ahead_558 (by decide) rfl ?_
              refine zr_iconst (pc' := 561) cx rfl dL_ahead_560 ?_
              refine zr_istore (pc' := 563) cx rfl (lv' := [(19, .int (i32 1)), (18, .int (i32 0)), (17, .int (i32 v20)), (16, .int (i32 x18)), (15, .int (i32 v16)), (14, .int (i32 v15)), (0, .ref (zad Y 0)), (1, .int (i32 a1)), (2, .int (i32 a2)), (3, .ref (zad Y 400)), (4, .ref (zad Y 401)), (5, .ref (zad Y 402)), (6, .ref (zad Y 403)), (7, .ref (zad Y 420)), (8, .ref (zad Y 421)), (9, .ref (zad Y 422)), (10, .ref (zad Y 423)), (11, .ref (zad Y 424)), (12, .ref (zad Y 425)), (13, .int (i32 a13))]) dL_ahead_561 (by decide) rfl ?_
              refine zr_sub [6, 7, 8, 9, 10, 11, 12, 13, 14, 15, 16, 17, 18, 19, 4, 2, 1, 0] rfl ?_
              exact wL_ahead_p563 cx hlv hup hk39 zfu g19 a1 a2 a13 v16 v20 0 1
            · refine zr_iconst (pc' := 429) cx rfl dL_ahead_428 ?_
              refine zr_istore (pc' := 431) cx rfl (lv' := [(17, .int (i32 1)), (16, .int (i32 x18)), (15, .int (i32 v16)), (14, .int (i32 v15)), (0, .ref (zad Y 0)), (1, .int (i32 a1)), (2, .int (i32 a2)), (3, .ref (zad Y 400)), (4, .ref (zad Y 401)), (5, .ref (zad Y 402)), (6, .ref (zad Y 403)), (7, .ref (zad Y 420)), (8, .ref (zad Y 421)), (9, .ref (zad Y 422)), (10, .ref (zad Y 423)), (11, .ref (zad Y 424)), (12, .ref (zad Y 425)), (13, .int (i32 a13))]) dL_ahead_429 (by decide) rfl ?_
              refine zr_sub [4, 5, 6, 7, 8, 9, 10, 11, 12, 13, 14, 15, 16, 17, 3, 2, 0] rfl ?_
              exact wL_ahead_p431 cx hlv hup hk39 zfu g a1 a2 a13 v15 v16 1
          · refine zr_aload (pc' := 361) cx rfl 10 dL_ahead_359 rfl ?_
            refine zr_bipush (pc' := 363) cx rfl dL_ahead_361 (by decide +kernel) ?_
            refine zr_iload (pc' := 365) cx rfl 2 dL_ahead_363 rfl ?_
            refine zr_imul (pc' := 366) cx rfl dL_ahead_365 ?_
            refine zr_iconst (pc' := 367) cx rfl dL_ahead_366 ?_
            refine zr_iadd (pc' := 368) cx rfl dL_ahead_367 ?_
            refine zr_iconst (pc' := 369) cx rfl dL_ahead_368 ?_
            refine zr_aload (pc' := 371) cx rfl 10 dL_ahead_369 rfl ?_
            refine zr_bipush (pc' := 373) cx rfl dL_ahead_371 (by decide +kernel) ?_
            refine zr_iload (pc' := 375) cx rfl 2 dL_ahead_373 rfl ?_
            refine zr_imul (pc' := 376) cx rfl dL_ahead_375 ?_
            refine zr_iconst (pc' := 377) cx rfl dL_ahead_376 ?_
            refine zr_iadd (pc' := 378) cx rfl dL_ahead_377 ?_
            refine zr_iald (pc' := 379) cx rfl 16 (zkc_420 hlv) (by decide) (L := 56) rfl dL_ahead_378 ?_
            refine zr_isub (pc' := 380) cx rfl dL_ahead_379 ?_
            refine zr_iast (pc' := 381) cx rfl 16 (zkc_420 hlv) (by decide) (L := 56) rfl dL_ahead_380 ?_
            refine zr_letS (fun g21 => ?_)
            refine zr_aload (pc' := 383) cx rfl 10 dL_ahead_381 rfl ?_
            refine zr_aload (pc' := 385) cx rfl 7 dL_ahead_383 rfl ?_
            refine zr_aload (pc' := 387) cx rfl 11 dL_ahead_385 rfl ?_
            refine zr_aload (pc' := 389) cx rfl 12 dL_ahead_387 rfl ?_
            refine zr_aload (pc' := 391) cx rfl 13 dL_ahead_389 rfl ?_
            refine zr_aload (pc' := 393) cx rfl 14 dL_ahead_391 rfl ?_
            refine zr_aload (pc' := 395) cx rfl 15 dL_ahead_393 rfl ?_
            refine zc_L_54 (pc' := 398) cx rfl (zkc_420 hlv) zkc_401 (zkc_421 hlv) (zkc_422 hlv) (zkc_423 hlv) (zkc_424 hlv) (zkc_425 hlv) ⟨Nat.le_of_ble_eq_true rfl, Nat.le_of_ble_eq_true rfl⟩ ⟨Nat.le_of_ble_eq_true rfl, Nat.le_of_ble_eq_true rfl⟩ (Nat.le_of_ble_eq_true rfl) dL_ahead_395 (fun v22 g23 => ?_)
            refine zr_pop (pc' := 399) cx rfl dL_ahead_398 rfl ?_
            refine zr_aload_n (pc' := 400) cx rfl 3 dL_ahead_399 rfl rfl ?_
            refine zr_iload (pc' := 402) cx rfl 2 dL_ahead_400 rfl ?_
            refine zc_L_62 (pc' := 405) cx rfl  ⟨Nat.le_of_ble_eq_true rfl, Nat.le_of_ble_eq_true rfl⟩ ⟨Nat.le_of_ble_eq_true rfl, Nat.le_of_ble_eq_true rfl⟩ (Nat.le_of_ble_eq_true rfl) dL_ahead_402 (fun v24 g25 => ?_)
            refine zr_aload (pc' := 407) cx rfl 10 dL_ahead_405 rfl ?_
            refine zr_aload (pc' := 409) cx rfl 7 dL_ahead_407 rfl ?_
            refine zr_aload (pc' := 411) cx rfl 12 dL_ahead_409 rfl ?_
            refine zr_aload (pc' := 413) cx rfl 13 dL_ahead_411 rfl ?_
            refine zr_iconst (pc' := 414) cx rfl dL_ahead_413 ?_
            refine zc_L_47 (pc' := 417) cx rfl (zkc_420 hlv) zkc_401 (zkc_422 hlv) (zkc_423 hlv) ⟨Nat.le_of_ble_eq_true rfl, Nat.le_of_ble_eq_true rfl⟩ ⟨Nat.le_of_ble_eq_true rfl, Nat.le_of_ble_eq_true rfl⟩ (Nat.le_of_ble_eq_true rfl) dL_ahead_414 (fun v26 => ?_)
            refine zr_icmp_eq (pc' := 420) cx rfl (tgt := 674) dL_ahead_417 rfl ?_ ?_
            · refine zr_iinc (pc' := 677) cx rfl (lv' := [(13, .int (i32 (a13 + 1))), (16, .int (i32 x18)), (15, .int (i32 v16)), (14, .int (i32 v15)), (0, .ref (zad Y 0)), (1, .int (i32 a1)), (2, .int (i32 a2)), (3, .ref (zad Y 400)), (4, .ref (zad Y 401)), (5, .ref (zad Y 402)), (6, .ref (zad Y 403)), (7, .ref (zad Y 420)), (8, .ref (zad Y 421)), (9, .ref (zad Y 422)), (10, .ref (zad Y 423)), (11, .ref (zad Y 424)), (12, .ref (zad Y 425))]) 16 dL_ahead_674 rfl (by decide) rfl ?_
              refine zr_goto cx (tgt := 39) dL_ahead_677 rfl ?_
              refine zr_sub [4, 5, 6, 7, 8, 9, 10, 11, 12, 13, 14, 15, 16, 0] rfl ?_
              exact hk39 g25 a1 a2 (a13 + 1)
            · refine zr_iconst (pc' := 421) cx rfl dL_ahead_420 ?_
              exact zr_zretU cx hup dL_ahead_421
        · refine zr_iconst (pc' := 352) cx rfl dL_ahead_351 ?_
          exact zr_zretU cx hup dL_ahead_352
      · refine zr_aload (pc' := 141) cx rfl 11 dL_ahead_139 rfl ?_
        refine zr_iconst (pc' := 142) cx rfl dL_ahead_141 ?_
        refine zr_aload (pc' := 144) cx rfl 9 dL_ahead_142 rfl ?_
        refine zr_iconst (pc' := 145) cx rfl dL_ahead_144 ?_
        refine zr_iald (pc' := 146) cx rfl 13 zkc_403 (by decide) (L := 9) rfl dL_ahead_145 ?_
        refine zr_imul (pc' := 147) cx rfl dL_ahead_146 ?_
        refine zr_iload (pc' := 149) cx rfl 2 dL_ahead_147 rfl ?_
        refine zr_iast (pc' := 150) cx rfl 17 (zkc_421 hlv) (by decide) (L := 18) rfl dL_ahead_149 ?_
        refine zr_letS (fun g27 => ?_)
        refine zr_aload (pc' := 152) cx rfl 11 dL_ahead_150 rfl ?_
        refine zr_iconst (pc' := 153) cx rfl dL_ahead_152 ?_
        refine zr_aload (pc' := 155) cx rfl 9 dL_ahead_153 rfl ?_
        refine zr_iconst (pc' := 156) cx rfl dL_ahead_155 ?_
        refine zr_iald (pc' := 157) cx rfl 13 zkc_403 (by decide) (L := 9) rfl dL_ahead_156 ?_
        refine zr_imul (pc' := 158) cx rfl dL_ahead_157 ?_
        refine zr_iconst (pc' := 159) cx rfl dL_ahead_158 ?_
        refine zr_iadd (pc' := 160) cx rfl dL_ahead_159 ?_
        refine zr_iload (pc' := 162) cx rfl 1 dL_ahead_160 rfl ?_
        refine zr_iast (pc' := 163) cx rfl 17 (zkc_421 hlv) (by decide) (L := 18) rfl dL_ahead_162 ?_
        refine zr_letS (fun g28 => ?_)
        refine zr_aload (pc' := 165) cx rfl 11 dL_ahead_163 rfl ?_
        refine zr_iconst (pc' := 166) cx rfl dL_ahead_165 ?_
        refine zr_aload (pc' := 168) cx rfl 9 dL_ahead_166 rfl ?_
        refine zr_iconst (pc' := 169) cx rfl dL_ahead_168 ?_
        refine zr_iald (pc' := 170) cx rfl 13 zkc_403 (by decide) (L := 9) rfl dL_ahead_169 ?_
        refine zr_imul (pc' := 171) cx rfl dL_ahead_170 ?_
        refine zr_iconst (pc' := 172) cx rfl dL_ahead_171 ?_
        refine zr_iadd (pc' := 173) cx rfl dL_ahead_172 ?_
        refine zr_iload (pc' := 175) cx rfl 0 dL_ahead_173 rfl ?_
        refine zr_iast (pc' := 176) cx rfl 17 (zkc_421 hlv) (by decide) (L := 18) rfl dL_ahead_175 ?_
        refine zr_letS (fun g29 => ?_)
        refine zr_aload (pc' := 178) cx rfl 12 dL_ahead_176 rfl ?_
        refine zr_iconst (pc' := 179) cx rfl dL_ahead_178 ?_
        refine zr_dup2 (pc' := 180) cx rfl dL_ahead_179 rfl rfl ?_
        refine zr_iald (pc' := 181) cx rfl 13 (zkc_422 hlv) (by decide) (L := 9) rfl dL_ahead_180 ?_
        refine zr_iconst (pc' := 182) cx rfl dL_ahead_181 ?_
        refine zr_iadd (pc' := 183) cx rfl dL_ahead_182 ?_
        refine zr_iast (pc' := 184) cx rfl 13 (zkc_422 hlv) (by decide) (L := 9) rfl dL_ahead_183 ?_
        refine zr_letS (fun g30 => ?_)
        refine zr_aload (pc' := 186) cx rfl 10 dL_ahead_184 rfl ?_
        refine zr_aload (pc' := 188) cx rfl 7 dL_ahead_186 rfl ?_
        refine zr_aload (pc' := 190) cx rfl 11 dL_ahead_188 rfl ?_
        refine zr_aload (pc' := 192) cx rfl 12 dL_ahead_190 rfl ?_
        refine zr_aload (pc' := 194) cx rfl 13 dL_ahead_192 rfl ?_
        refine zr_aload (pc' := 196) cx rfl 14 dL_ahead_194 rfl ?_
        refine zr_aload (pc' := 198) cx rfl 15 dL_ahead_196 rfl ?_
        refine zc_L_54 (pc' := 201) cx rfl (zkc_420 hlv) zkc_401 (zkc_421 hlv) (zkc_422 hlv) (zkc_423 hlv) (zkc_424 hlv) (zkc_425 hlv) ⟨Nat.le_of_ble_eq_true rfl, Nat.le_of_ble_eq_true rfl⟩ ⟨Nat.le_of_ble_eq_true rfl, Nat.le_of_ble_eq_true rfl⟩ (Nat.le_of_ble_eq_true rfl) dL_ahead_198 (fun v31 g32 => ?_)
        refine zr_istore (pc' := 203) cx rfl (lv' := [(17, .int (i32 v31)), (16, .int (i32 x18)), (15, .int (i32 v16)), (14, .int (i32 v15)), (0, .ref (zad Y 0)), (1, .int (i32 a1)), (2, .int (i32 a2)), (3, .ref (zad Y 400)), (4, .ref (zad Y 401)), (5, .ref (zad Y 402)), (6, .ref (zad Y 403)), (7, .ref (zad Y 420)), (8, .ref (zad Y 421)), (9, .ref (zad Y 422)), (10, .ref (zad Y 423)), (11, .ref (zad Y 424)), (12, .ref (zad Y 425)), (13, .int (i32 a13))]) dL_ahead_201 (by decide) rfl ?_
        refine zr_iconst (pc' := 204) cx rfl dL_ahead_203 ?_
        refine zr_aload (pc' := 206) cx rfl 12 dL_ahead_204 rfl ?_
        refine zr_aload (pc' := 208) cx rfl 13 dL_ahead_206 rfl ?_
        refine zr_aload (pc' := 210) cx rfl 14 dL_ahead_208 rfl ?_
        refine zc_L_14 (pc' := 213) cx rfl (zkc_421 hlv) (zkc_422 hlv) (zkc_423 hlv) ⟨Nat.le_of_ble_eq_true rfl, Nat.le_of_ble_eq_true rfl⟩ ⟨Nat.le_of_ble_eq_true rfl, Nat.le_of_ble_eq_true rfl⟩ (Nat.le_of_ble_eq_true rfl) dL_ahead_210 (fun v33 => ?_)
        refine zr_istore (pc' := 215) cx rfl (lv' := [(18, .int (i32 v33)), (17, .int (i32 v31)), (16, .int (i32 x18)), (15, .int (i32 v16)), (14, .int (i32 v15)), (0, .ref (zad Y 0)), (1, .int (i32 a1)), (2, .int (i32 a2)), (3, .ref (zad Y 400)), (4, .ref (zad Y 401)), (5, .ref (zad Y 402)), (6, .ref (zad Y 403)), (7, .ref (zad Y 420)), (8, .ref (zad Y 421)), (9, .ref (zad Y 422)), (10, .ref (zad Y 423)), (11, .ref (zad Y 424)), (12, .ref (zad Y 425)), (13, .int (i32 a13))]) dL_ahead_213 (by decide) rfl ?_
        refine zr_iconst (pc' := 216) cx rfl dL_ahead_215 ?_
        refine zr_aload (pc' := 218) cx rfl 13 dL_ahead_216 rfl ?_
        refine zr_aload (pc' := 220) cx rfl 14 dL_ahead_218 rfl ?_
        refine zr_aload (pc' := 222) cx rfl 15 dL_ahead_220 rfl ?_
        refine zc_L_14 (pc' := 225) cx rfl (zkc_421 hlv) (zkc_422 hlv) (zkc_423 hlv) ⟨Nat.le_of_ble_eq_true rfl, Nat.le_of_ble_eq_true rfl⟩ ⟨Nat.le_of_ble_eq_true rfl, Nat.le_of_ble_eq_true rfl⟩ (Nat.le_of_ble_eq_true rfl) dL_ahead_222 (fun v34 => ?_)
        refine zr_istore (pc' := 227) cx rfl (lv' := [(19, .int (i32 v34)), (18, .int (i32 v33)), (17, .int (i32 v31)), (16, .int (i32 x18)), (15, .int (i32 v16)), (14, .int (i32 v15)), (0, .ref (zad Y 0)), (1, .int (i32 a1)), (2, .int (i32 a2)), (3, .ref (zad Y 400)), (4, .ref (zad Y 401)), (5, .ref (zad Y 402)), (6, .ref (zad Y 403)), (7, .ref (zad Y 420)), (8, .ref (zad Y 421)), (9, .ref (zad Y 422)), (10, .ref (zad Y 423)), (11, .ref (zad Y 424)), (12, .ref (zad Y 425)), (13, .int (i32 a13))]) dL_ahead_225 (by decide) rfl ?_
        refine zr_aload_n (pc' := 228) cx rfl 6 dL_ahead_227 rfl rfl ?_
        refine zr_iload (pc' := 230) cx rfl 5 dL_ahead_228 rfl ?_
        refine zr_iload (pc' := 232) cx rfl 4 dL_ahead_230 rfl ?_
        refine zr_iload (pc' := 234) cx rfl 3 dL_ahead_232 rfl ?_
        refine zr_iconst (pc' := 235) cx rfl dL_ahead_234 ?_
        refine zc_L_58 (pc' := 238) cx rfl  ⟨Nat.le_of_ble_eq_true rfl, Nat.le_of_ble_eq_true rfl⟩ ⟨Nat.le_of_ble_eq_true rfl, Nat.le_of_ble_eq_true rfl⟩ (Nat.le_of_ble_eq_true rfl) dL_ahead_235 (fun v35 g36 => ?_)
        refine zr_iload (pc' := 240) cx rfl 2 dL_ahead_238 rfl ?_
        refine zr_icmp_ne (pc' := 243) cx rfl (tgt := 344) dL_ahead_240 rfl ?_ ?_
        · refine zr_iconst (pc' := 345) cx rfl dL_ahead_344 ?_
          exact zr_zretU cx hup dL_ahead_345
        · refine zr_aload_n (pc' := 244) cx rfl 6 dL_ahead_243 rfl rfl ?_
          refine zr_iload (pc' := 246) cx rfl 5 dL_ahead_244 rfl ?_
          refine zr_iload (pc' := 248) cx rfl 4 dL_ahead_246 rfl ?_
          refine zr_iload (pc' := 250) cx rfl 3 dL_ahead_248 rfl ?_
          refine zr_iconst (pc' := 251) cx rfl dL_ahead_250 ?_
          refine zc_L_58 (pc' := 254) cx rfl  ⟨Nat.le_of_ble_eq_true rfl, Nat.le_of_ble_eq_true rfl⟩ ⟨Nat.le_of_ble_eq_true rfl, Nat.le_of_ble_eq_true rfl⟩ (Nat.le_of_ble_eq_true rfl) dL_ahead_251 (fun v37 g38 => ?_)
          refine zr_aload (pc' := 256) cx rfl 13 dL_ahead_254 rfl ?_
          refine zr_aload (pc' := 258) cx rfl 10 dL_ahead_256 rfl ?_
          refine zr_aload (pc' := 260) cx rfl 15 dL_ahead_258 rfl ?_
          refine zr_aload (pc' := 262) cx rfl 16 dL_ahead_260 rfl ?_
          refine zr_iconst (pc' := 263) cx rfl dL_ahead_262 ?_
          refine zc_L_47 (pc' := 266) cx rfl (zkc_420 hlv) zkc_401 (zkc_422 hlv) (zkc_423 hlv) ⟨Nat.le_of_ble_eq_true rfl, Nat.le_of_ble_eq_true rfl⟩ ⟨Nat.le_of_ble_eq_true rfl, Nat.le_of_ble_eq_true rfl⟩ (Nat.le_of_ble_eq_true rfl) dL_ahead_263 (fun v39 => ?_)
          refine zr_icmp_ne (pc' := 269) cx rfl (tgt := 344) dL_ahead_266 rfl ?_ ?_
          · refine zr_iconst (pc' := 345) cx rfl dL_ahead_344 ?_
            exact zr_zretU cx hup dL_ahead_345
          · refine zr_aload_n (pc' := 270) cx rfl 6 dL_ahead_269 rfl rfl ?_
            refine zr_iload (pc' := 272) cx rfl 5 dL_ahead_270 rfl ?_
            refine zr_iload (pc' := 274) cx rfl 4 dL_ahead_272 rfl ?_
            refine zr_iload (pc' := 276) cx rfl 3 dL_ahead_274 rfl ?_
            refine zr_iconst (pc' := 277) cx rfl dL_ahead_276 ?_
            refine zc_L_58 (pc' := 280) cx rfl  ⟨Nat.le_of_ble_eq_true rfl, Nat.le_of_ble_eq_true rfl⟩ ⟨Nat.le_of_ble_eq_true rfl, Nat.le_of_ble_eq_true rfl⟩ (Nat.le_of_ble_eq_true rfl) dL_ahead_277 (fun v40 g41 => ?_)
            refine zr_iload (pc' := 282) cx rfl 1 dL_ahead_280 rfl ?_
            refine zr_iload (pc' := 284) cx rfl 0 dL_ahead_282 rfl ?_
            refine zr_icmp_ge (pc' := 287) cx rfl (tgt := 292) dL_ahead_284 rfl ?_ ?_
            · refine zr_iload (pc' := 294) cx rfl 0 dL_ahead_292 rfl ?_
              refine zr_sub [6, 7, 8, 9, 10, 11, 12, 13, 14, 15, 16, 17, 18, 19, 5, 4, 3] rfl ?_
              exact wL_ahead_p294 cx hlv hup hk39 g41 v40 v34 a1 a2 a13 v15 v16 x18
            · refine zr_iload (pc' := 289) cx rfl 1 dL_ahead_287 rfl ?_
              refine zr_gotoS cx (tgt := 294) dL_ahead_289 rfl ?_
              refine zr_sub [6, 7, 8, 9, 10, 11, 12, 13, 14, 15, 16, 17, 18, 19, 5, 4, 3] rfl ?_
              exact wL_ahead_p294 cx hlv hup hk39 g41 v40 v33 a1 a2 a13 v15 v16 x18
    · refine zr_aload (pc' := 57) cx rfl 7 dL_ahead_55 rfl ?_
      refine zr_iload (pc' := 59) cx rfl 14 dL_ahead_57 rfl ?_
      refine zr_aload_n (pc' := 60) cx rfl 3 dL_ahead_59 rfl rfl ?_
      refine zr_iload (pc' := 62) cx rfl 14 dL_ahead_60 rfl ?_
      refine zr_iald (pc' := 63) cx rfl 16 zkc_400 (by decide) (L := 56) rfl dL_ahead_62 ?_
      refine zr_iast (pc' := 64) cx rfl 16 (zkc_420 hlv) (by decide) (L := 56) rfl dL_ahead_63 ?_
      refine zr_letS (fun g42 => ?_)
      refine zr_iload (pc' := 66) cx rfl 14 dL_ahead_64 rfl ?_
      refine zr_bipush (pc' := 68) cx rfl dL_ahead_66 (by decide +kernel) ?_
      refine zr_icmp_ge (pc' := 71) cx rfl (tgt := 81) dL_ahead_68 rfl ?_ ?_
      · refine zr_sub [0, 1, 2, 3, 4, 5, 6, 7, 8, 9, 10, 11, 12, 13, 14] rfl ?_
        exact wL_ahead_p81 cx hlv hup hk39 ih g42 a1 a2 a13 a14
      · refine zr_aload (pc' := 73) cx rfl 8 dL_ahead_71 rfl ?_
        refine zr_iload (pc' := 75) cx rfl 14 dL_ahead_73 rfl ?_
        refine zr_aload (pc' := 77) cx rfl 5 dL_ahead_75 rfl ?_
        refine zr_iload (pc' := 79) cx rfl 14 dL_ahead_77 rfl ?_
        refine zr_iald (pc' := 80) cx rfl 17 zkc_402 (by decide) (L := 18) rfl dL_ahead_79 ?_
        refine zr_iast (pc' := 81) cx rfl 17 (zkc_421 hlv) (by decide) (L := 18) rfl dL_ahead_80 ?_
        refine zr_letS (fun g43 => ?_)
        refine zr_sub [0, 1, 2, 3, 4, 5, 6, 7, 8, 9, 10, 11, 12, 13, 14] rfl ?_
        exact wL_ahead_p81 cx hlv hup hk39 ih g43 a1 a2 a13 a14
theorem wL_ahead_p39 (cx : zCx Y p s m args meth c RL cL_ahead 20 (some .boolean)) (hlv : zlv Y = 2) (hup : zUq Y0 Y s)   : ∀ (fu : Nat) (g : zSt) (a1 : Int) (a2 : Int) (a13 : Int), zWo Y p l e (zra 6 117 6) s m args below meth c 20 6 117 (fun q : Int × zSt => MQ below (zQi Y0 q.1 q.2) args s 6 117 (zA Y0)) g [(0, .ref (zad Y 0)), (1, .int (i32 a1)), (2, .int (i32 a2)), (3, .ref (zad Y 400)), (4, .ref (zad Y 401)), (5, .ref (zad Y 402)), (6, .ref (zad Y 403)), (7, .ref (zad Y 420)), (8, .ref (zad Y 421)), (9, .ref (zad Y 422)), (10, .ref (zad Y 423)), (11, .ref (zad Y 424)), (12, .ref (zad Y 425)), (13, .int (i32 a13))] ([]) 39 (fL_ahead_p39 fu g a1 a2 a13) := by
  intro fu
  induction fu with
  | zero => intro g a1 a2 a13; exact zr_none
  | succ fu ih =>
    intro g a1 a2 a13
    rw [fL_ahead_p39]
    refine zr_iload (pc' := 41) cx rfl 13 dL_ahead_39 rfl ?_
    refine zr_iconst (pc' := 42) cx rfl dL_ahead_41 ?_
    refine zr_icmp_ge (pc' := 45) cx rfl (tgt := 680) dL_ahead_42 rfl ?_ ?_
    · refine zr_iconst (pc' := 681) cx rfl dL_ahead_680 ?_
      exact zr_zretU cx hup dL_ahead_681
    · refine zr_iconst (pc' := 46) cx rfl dL_ahead_45 ?_
      refine zr_istore (pc' := 48) cx rfl (lv' := [(14, .int (i32 0)), (0, .ref (zad Y 0)), (1, .int (i32 a1)), (2, .int (i32 a2)), (3, .ref (zad Y 400)), (4, .ref (zad Y 401)), (5, .ref (zad Y 402)), (6, .ref (zad Y 403)), (7, .ref (zad Y 420)), (8, .ref (zad Y 421)), (9, .ref (zad Y 422)), (10, .ref (zad Y 423)), (11, .ref (zad Y 424)), (12, .ref (zad Y 425)), (13, .int (i32 a13))]) dL_ahead_46 (by decide) rfl ?_
      refine zr_sub [1, 2, 3, 4, 5, 6, 7, 8, 9, 10, 11, 12, 13, 14, 0] rfl ?_
      exact wL_ahead_p48 cx hlv hup ih zfu g a1 a2 a13 0
theorem wL_ahead (cx : zCx Y p s m args meth c RL cL_ahead 20 (some .boolean)) (hlv : zlv Y = 2) (hup : zUq Y0 Y s) (g : zSt) (a1 : Int) (a2 : Int)  : zWo Y p l e (zra 6 117 6) s m args below meth c 20 6 117 (fun q : Int × zSt => MQ below (zQi Y0 q.1 q.2) args s 6 117 (zA Y0)) g [(0, .ref (zad Y 0)), (1, .int (i32 a1)), (2, .int (i32 a2)), (3, .ref (zad Y 400)), (4, .ref (zad Y 401)), (5, .ref (zad Y 402)), (6, .ref (zad Y 403)), (7, .ref (zad Y 420)), (8, .ref (zad Y 421)), (9, .ref (zad Y 422)), (10, .ref (zad Y 423)), (11, .ref (zad Y 424)), (12, .ref (zad Y 425))] ([]) 36 (fL_ahead g a1 a2) := by
  unfold fL_ahead
  refine zr_iconst (pc' := 37) cx rfl dL_ahead_36 ?_
  refine zr_istore (pc' := 39) cx rfl (lv' := [(13, .int (i32 0)), (0, .ref (zad Y 0)), (1, .int (i32 a1)), (2, .int (i32 a2)), (3, .ref (zad Y 400)), (4, .ref (zad Y 401)), (5, .ref (zad Y 402)), (6, .ref (zad Y 403)), (7, .ref (zad Y 420)), (8, .ref (zad Y 421)), (9, .ref (zad Y 422)), (10, .ref (zad Y 423)), (11, .ref (zad Y 424)), (12, .ref (zad Y 425))]) dL_ahead_37 (by decide) rfl ?_
  refine zr_sub [1, 2, 3, 4, 5, 6, 7, 8, 9, 10, 11, 12, 13, 0] rfl ?_
  exact wL_ahead_p39 cx hlv hup zfu g a1 a2 0
end Zahead
