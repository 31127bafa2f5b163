section ZmS
variable {ρ : Type} {Y : zLy} {p : Program} {l : Launch} {e : Env} {R : Room} {s : State} {m : MethodId} {args : Array Value} {below : List Frame} {meth : Method} {c : Code} {nl k n : Nat} {kq : ρ → State → Prop} {lv : List (Nat × Value)} {rest : List Value} {pc pc' : Nat} {cc : ByteArray} {ret : Option FieldType}
def fX0_add (g : zSt) (c0 : Nat) (a1 : Int) (a2 : Int) (a3 : Int) (a4 : Int) : Option zSt :=
    (if i32 (g.1 c0 0) < i32 12 then
    zck ((0 : Int) ≤ (g.1 c0 0) ∧ (g.1 c0 0) < 12) (zlet (zwr g (c0 + 1) (Int.toNat (g.1 c0 0)) a1) (fun g1 =>
    zck ((0 : Int) ≤ (g1.1 c0 0) ∧ (g1.1 c0 0) < 12) (zck ((a4 : Int) = 0 ∨ (a4 : Int) = 1) (zlet (zwr g1 (c0 + 2) (Int.toNat (g1.1 c0 0)) a4) (fun g2 =>
    zck ((0 : Int) ≤ (g2.1 c0 0) ∧ (g2.1 c0 0) < 12) (zck ((1 : Int) = 0 ∨ (1 : Int) = 1) (zlet (zwr g2 (c0 + 3) (Int.toNat (g2.1 c0 0)) 1) (fun g3 =>
    zck ((0 : Int) ≤ (2 * (g3.1 c0 0)) ∧ (2 * (g3.1 c0 0)) < 24) (zlet (zwr g3 (c0 + 4) (Int.toNat (2 * (g3.1 c0 0))) a2) (fun g4 =>
    zck ((0 : Int) ≤ ((2 * (g4.1 c0 0)) + 1) ∧ ((2 * (g4.1 c0 0)) + 1) < 24) (zlet (zwr g4 (c0 + 4) (Int.toNat ((2 * (g4.1 c0 0)) + 1)) a3) (fun g5 =>
    zck ((0 : Int) ≤ (2 * (g5.1 c0 0)) ∧ (2 * (g5.1 c0 0)) < 24) (zck ((0 : Int) = 0 ∨ (0 : Int) = 1) (zlet (zwr g5 (c0 + 5) (Int.toNat (2 * (g5.1 c0 0))) 0) (fun g6 =>
    zck ((0 : Int) ≤ ((2 * (g6.1 c0 0)) + 1) ∧ ((2 * (g6.1 c0 0)) + 1) < 24) (zck ((0 : Int) = 0 ∨ (0 : Int) = 1) (zlet (zwr g6 (c0 + 5) (Int.toNat ((2 * (g6.1 c0 0)) + 1)) 0) (fun g7 =>
    zlet (zwr g7 c0 0 ((g7.1 c0 0) + 1)) (fun g8 =>
    some g8)))))))))))))))))))
    else
    some g)
theorem wX0_add (cx : zCx Y p s m args meth c RX0 cX0_add 5 none) (g : zSt) (c0 : Nat) (a1 : Int) (a2 : Int) (a3 : Int) (a4 : Int) (hc0 : zV Y c0 = 1) : zWo Y p l e (zrm 0) s m args below meth c 5 0 0 (fun g9 : zSt => MQ below (zQv Y g9) args s 0 0 (zA Y)) g [(0, .ref (zad Y c0)), (1, .int (i32 a1)), (2, .int (i32 a2)), (3, .int (i32 a3)), (4, .int (i32 a4))] ([]) 0 (fX0_add g c0 a1 a2 a3 a4) := by
  unfold fX0_add
  refine zr_aload_n (pc' := 1) cx rfl 0 dX0_add_0 rfl rfl ?_
  refine zg_X0_9 (pc' := 4) cx rfl hc0 dX0_add_1 ?_
  refine zr_bipush (pc' := 6) cx rfl dX0_add_4 (by decide +kernel) ?_
  refine zr_icmp_lt (pc' := 9) cx rfl (tgt := 10) dX0_add_6 rfl ?_ ?_
  · refine zr_aload_n (pc' := 11) cx rfl 0 dX0_add_10 rfl rfl ?_
    refine zg_X0_15 (pc' := 14) cx rfl (c2 := (c0 + 1)) hc0 rfl dX0_add_11 ?_
    refine zr_aload_n (pc' := 15) cx rfl 0 dX0_add_14 rfl rfl ?_
    refine zg_X0_9 (pc' := 18) cx rfl hc0 dX0_add_15 ?_
    refine zr_iload_n (pc' := 19) cx rfl 1 dX0_add_18 rfl rfl ?_
    refine zr_iast (pc' := 20) cx rfl 10 (zk1_1 hc0) (by decide) (L := 12) rfl dX0_add_19 ?_
    refine zr_letS (fun g1 => ?_)
    refine zr_aload_n (pc' := 21) cx rfl 0 dX0_add_20 rfl rfl ?_
    refine zg_X0_19 (pc' := 24) cx rfl (c2 := (c0 + 2)) hc0 rfl dX0_add_21 ?_
    refine zr_aload_n (pc' := 25) cx rfl 0 dX0_add_24 rfl rfl ?_
    refine zg_X0_9 (pc' := 28) cx rfl hc0 dX0_add_25 ?_
    refine zr_iload (pc' := 30) cx rfl 4 dX0_add_28 rfl ?_
    refine zr_bast (pc' := 31) cx rfl 20 (zk1_2 hc0) (by decide) (L := 12) rfl dX0_add_30 ?_
    refine zr_letS (fun g2 => ?_)
    refine zr_aload_n (pc' := 32) cx rfl 0 dX0_add_31 rfl rfl ?_
    refine zg_X0_23 (pc' := 35) cx rfl (c2 := (c0 + 3)) hc0 rfl dX0_add_32 ?_
    refine zr_aload_n (pc' := 36) cx rfl 0 dX0_add_35 rfl rfl ?_
    refine zg_X0_9 (pc' := 39) cx rfl hc0 dX0_add_36 ?_
    refine zr_iconst (pc' := 40) cx rfl dX0_add_39 ?_
    refine zr_bast (pc' := 41) cx rfl 20 (zk1_3 hc0) (by decide) (L := 12) rfl dX0_add_40 ?_
    refine zr_letS (fun g3 => ?_)
    refine zr_aload_n (pc' := 42) cx rfl 0 dX0_add_41 rfl rfl ?_
    refine zg_X0_26 (pc' := 45) cx rfl (c2 := (c0 + 4)) hc0 rfl dX0_add_42 ?_
    refine zr_iconst (pc' := 46) cx rfl dX0_add_45 ?_
    refine zr_aload_n (pc' := 47) cx rfl 0 dX0_add_46 rfl rfl ?_
    refine zg_X0_9 (pc' := 50) cx rfl hc0 dX0_add_47 ?_
    refine zr_imul (pc' := 51) cx rfl dX0_add_50 ?_
    refine zr_iload_n (pc' := 52) cx rfl 2 dX0_add_51 rfl rfl ?_
    refine zr_iast (pc' := 53) cx rfl 11 (zk1_4 hc0) (by decide) (L := 24) rfl dX0_add_52 ?_
    refine zr_letS (fun g4 => ?_)
    refine zr_aload_n (pc' := 54) cx rfl 0 dX0_add_53 rfl rfl ?_
    refine zg_X0_26 (pc' := 57) cx rfl (c2 := (c0 + 4)) hc0 rfl dX0_add_54 ?_
    refine zr_iconst (pc' := 58) cx rfl dX0_add_57 ?_
    refine zr_aload_n (pc' := 59) cx rfl 0 dX0_add_58 rfl rfl ?_
    refine zg_X0_9 (pc' := 62) cx rfl hc0 dX0_add_59 ?_
    refine zr_imul (pc' := 63) cx rfl dX0_add_62 ?_
    refine zr_iconst (pc' := 64) cx rfl dX0_add_63 ?_
    refine zr_iadd (pc' := 65) cx rfl dX0_add_64 ?_
    refine zr_iload_n (pc' := 66) cx rfl 3 dX0_add_65 rfl rfl ?_
    refine zr_iast (pc' := 67) cx rfl 11 (zk1_4 hc0) (by decide) (L := 24) rfl dX0_add_66 ?_
    refine zr_letS (fun g5 => ?_)
    refine zr_aload_n (pc' := 68) cx rfl 0 dX0_add_67 rfl rfl ?_
    refine zg_X0_29 (pc' := 71) cx rfl (c2 := (c0 + 5)) hc0 rfl dX0_add_68 ?_
    refine zr_iconst (pc' := 72) cx rfl dX0_add_71 ?_
    refine zr_aload_n (pc' := 73) cx rfl 0 dX0_add_72 rfl rfl ?_
    refine zg_X0_9 (pc' := 76) cx rfl hc0 dX0_add_73 ?_
    refine zr_imul (pc' := 77) cx rfl dX0_add_76 ?_
    refine zr_iconst (pc' := 78) cx rfl dX0_add_77 ?_
    refine zr_bast (pc' := 79) cx rfl 21 (zk1_5 hc0) (by decide) (L := 24) rfl dX0_add_78 ?_
    refine zr_letS (fun g6 => ?_)
    refine zr_aload_n (pc' := 80) cx rfl 0 dX0_add_79 rfl rfl ?_
    refine zg_X0_29 (pc' := 83) cx rfl (c2 := (c0 + 5)) hc0 rfl dX0_add_80 ?_
    refine zr_iconst (pc' := 84) cx rfl dX0_add_83 ?_
    refine zr_aload_n (pc' := 85) cx rfl 0 dX0_add_84 rfl rfl ?_
    refine zg_X0_9 (pc' := 88) cx rfl hc0 dX0_add_85 ?_
    refine zr_imul (pc' := 89) cx rfl dX0_add_88 ?_
    refine zr_iconst (pc' := 90) cx rfl dX0_add_89 ?_
    refine zr_iadd (pc' := 91) cx rfl dX0_add_90 ?_
    refine zr_iconst (pc' := 92) cx rfl dX0_add_91 ?_
    refine zr_bast (pc' := 93) cx rfl 21 (zk1_5 hc0) (by decide) (L := 24) rfl dX0_add_92 ?_
    refine zr_letS (fun g7 => ?_)
    refine zr_aload_n (pc' := 94) cx rfl 0 dX0_add_93 rfl rfl ?_
    refine zr_dup (pc' := 95) cx rfl dX0_add_94 rfl ?_
    refine zg_X0_9 (pc' := 98) cx rfl hc0 dX0_add_95 ?_
    refine zr_iconst (pc' := 99) cx rfl dX0_add_98 ?_
    refine zr_iadd (pc' := 100) cx rfl dX0_add_99 ?_
    refine zp_X0_9 (pc' := 103) cx rfl hc0 dX0_add_100 ?_
    refine zr_letS (fun g8 => ?_)
    exact zr_vretE cx dX0_add_103
  · exact zr_vretE cx dX0_add_9
theorem mX0_add (l : Launch) (Y : zLy) (g : zSt) (c0 : Nat) (a1 : Int) (a2 : Int) (a3 : Int) (a4 : Int) (hc0 : zV Y c0 = 1) : ∀ g2, fX0_add g c0 a1 a2 a3 a4 = some g2 → zMt l yX0_add cX0_add 5 none 0 [.ref (zad Y c0), .int (i32 a1), .int (i32 a2), .int (i32 a3), .int (i32 a4)] Y g (zQv Y g2) := by
  intro g2 hv
  refine zmet_of RX0 rfl (by decide +kernel) (Nat.le_of_ble_eq_true rfl) ?_
  intro p e s m below meth c cx H locs ls hH hS hl
  exact wX0_add cx g c0 a1 a2 a3 a4 hc0 g2 hv H locs ls hH hS hl
theorem zc_X7_91 (cx : zCx Y p s m args meth c RX7 cc nl ret) (hpc : pc + 3 = pc') {g : zSt} {c0 : Nat} {a1 : Int} {a2 : Int} {a3 : Int} {a4 : Int} (hc0 : zV Y c0 = 1) {fk : zSt → Option ρ} (hR : 0 + 1 ≤ R.frames ∧ 8 + (5 + 11) + 40 * 0 ≤ R.locals) (hkn : k ≤ R.cells ∧ n ≤ R.slots) (hrest : (rest.map fun v => v.category).sum ≤ 8) (hdg : decode cc pc = .ok (.invokevirtual 91, 3)) (kk : ∀ g2 : zSt, zWo Y p l e R s m args below meth c nl k n kq g2 lv (rest) pc' (fk g2)) : zWo Y p l e R s m args below meth c nl k n kq g lv (.int (i32 a4) :: .int (i32 a3) :: .int (i32 a2) :: .int (i32 a1) :: .ref (zad Y c0) :: rest) pc (zbd (fX0_add g c0 a1 a2 a3 a4) fk) := zr_callVvE cx (an := 4) (As := [.int (i32 a1), .int (i32 a2), .int (i32 a3), .int (i32 a4)]) 1 hc0 (by decide) rfl (mX0_add l Y g c0 a1 a2 a3 a4 hc0) (zG_V zw_663 zw_664 zw_665 zw_28 zw_666) (by decide +kernel) hR hkn rfl rfl hrest hdg hpc kk
def fX0_connected (g : zSt) (c0 : Nat) (a1 : Int) (a2 : Int) : Option Int :=
    zck ((0 : Int) ≤ a1 ∧ a1 < 12) (
    zck ((0 : Int) ≤ a1 ∧ a1 < 12) (
    (if i32 (g.1 (c0 + 2) (Int.toNat a1)) = i32 0 then
    some ((2 * (g.1 (c0 + 1) (Int.toNat a1))) + a2)
    else
    some ((2 * (g.1 (c0 + 1) (Int.toNat a1))) + (1 - a2)))))
theorem wX0_connected (cx : zCx Y p s m args meth c RX0 cX0_connected 3 (some .int)) (g : zSt) (c0 : Nat) (a1 : Int) (a2 : Int) (hc0 : zV Y c0 = 1) : zWo Y p l e (zrm 0) s m args below meth c 3 0 0 (fun v : Int => MQ below (zQi Y v g) args s 0 0 (zA Y)) g [(0, .ref (zad Y c0)), (1, .int (i32 a1)), (2, .int (i32 a2))] ([]) 0 (fX0_connected g c0 a1 a2) := by
  unfold fX0_connected
  refine zr_iconst (pc' := 1) cx rfl dX0_connected_0 ?_
  refine zr_aload_n (pc' := 2) cx rfl 0 dX0_connected_1 rfl rfl ?_
  refine zg_X0_15 (pc' := 5) cx rfl (c2 := (c0 + 1)) hc0 rfl dX0_connected_2 ?_
  refine zr_iload_n (pc' := 6) cx rfl 1 dX0_connected_5 rfl rfl ?_
  refine zr_iald (pc' := 7) cx rfl 10 (zk1_1 hc0) (by decide) (L := 12) rfl dX0_connected_6 ?_
  refine zr_imul (pc' := 8) cx rfl dX0_connected_7 ?_
  refine zr_aload_n (pc' := 9) cx rfl 0 dX0_connected_8 rfl rfl ?_
  refine zg_X0_19 (pc' := 12) cx rfl (c2 := (c0 + 2)) hc0 rfl dX0_connected_9 ?_
  refine zr_iload_n (pc' := 13) cx rfl 1 dX0_connected_12 rfl rfl ?_
  refine zr_bald (pc' := 14) cx rfl 20 (zk1_2 hc0) (by decide) (L := 12) rfl dX0_connected_13 ?_
  refine zr_if_eq (pc' := 17) cx rfl (tgt := 23) dX0_connected_14 rfl ?_ ?_
  · refine zr_iload_n (pc' := 24) cx rfl 2 dX0_connected_23 rfl rfl ?_
    refine zr_iadd (pc' := 25) cx rfl dX0_connected_24 ?_
    exact zr_iretP cx dX0_connected_25
  · refine zr_iconst (pc' := 18) cx rfl dX0_connected_17 ?_
    refine zr_iload_n (pc' := 19) cx rfl 2 dX0_connected_18 rfl rfl ?_
    refine zr_isub (pc' := 20) cx rfl dX0_connected_19 ?_
    refine zr_gotoS cx (tgt := 24) dX0_connected_20 rfl ?_
    refine zr_iadd (pc' := 25) cx rfl dX0_connected_24 ?_
    exact zr_iretP cx dX0_connected_25
theorem mX0_connected (l : Launch) (Y : zLy) (g : zSt) (c0 : Nat) (a1 : Int) (a2 : Int) (hc0 : zV Y c0 = 1) : ∀ v, fX0_connected g c0 a1 a2 = some v → zMt l yX0_connected cX0_connected 3 (some .int) 0 [.ref (zad Y c0), .int (i32 a1), .int (i32 a2)] Y g (zQi Y v g) := by
  intro v hv
  refine zmet_of RX0 rfl (by decide +kernel) (Nat.le_of_ble_eq_true rfl) ?_
  intro p e s m below meth c cx H locs ls hH hS hl
  exact wX0_connected cx g c0 a1 a2 hc0 v hv H locs ls hH hS hl
theorem zc_X6_121 (cx : zCx Y p s m args meth c RX6 cc nl ret) (hpc : pc + 3 = pc') {g : zSt} {c0 : Nat} {a1 : Int} {a2 : Int} (hc0 : zV Y c0 = 1) {fk : Int → Option ρ} (hR : 0 + 1 ≤ R.frames ∧ 8 + (3 + 11) + 40 * 0 ≤ R.locals) (hkn : k ≤ R.cells ∧ n ≤ R.slots) (hrest : (rest.map fun v => v.category).sum ≤ 8) (hdg : decode cc pc = .ok (.invokevirtual 121, 3)) (kk : ∀ v : Int, zWo Y p l e R s m args below meth c nl k n kq g lv (.int (i32 v) :: rest) pc' (fk v)) : zWo Y p l e R s m args below meth c nl k n kq g lv (.int (i32 a2) :: .int (i32 a1) :: .ref (zad Y c0) :: rest) pc (zbd (fX0_connected g c0 a1 a2) fk) := zr_callViP cx (an := 2) (As := [.int (i32 a1), .int (i32 a2)]) 1 hc0 (by decide) rfl (mX0_connected l Y g c0 a1 a2 hc0) (zG_V zw_560 zw_561 zw_562 zw_28 zw_563) (by decide +kernel) hR hkn rfl rfl hrest hdg hpc kk
def fX0_blownFuses_p4 (g : zSt)  : Nat → Nat → Int → Int → Option Int
  | 0, _, _, _ => none
  | fu + 1, c0, a1, a2 =>
    (if i32 a2 < i32 (2 * (g.1 c0 0)) then
    zck ((0 : Int) ≤ a2 ∧ a2 < 24) (
    (if i32 (g.1 (c0 + 5) (Int.toNat a2)) = i32 0 then
    fX0_blownFuses_p4 g fu c0 a1 (a2 + 1)
    else
    fX0_blownFuses_p4 g fu c0 (a1 + 1) (a2 + 1)))
    else
    some a1)
def fX0_blownFuses (g : zSt) (c0 : Nat) : Option Int :=
    fX0_blownFuses_p4 g zfu c0 0 2
theorem wX0_blownFuses_p4 (cx : zCx Y p s m args meth c RX0 cX0_blownFuses 3 (some .int)) (g : zSt)   : ∀ (fu : Nat) (c0 : Nat) (a1 : Int) (a2 : Int) (hc0 : zV Y c0 = 1), zWo Y p l e (zrm 0) s m args below meth c 3 0 0 (fun v : Int => MQ below (zQi Y v g) args s 0 0 (zA Y)) g [(0, .ref (zad Y c0)), (1, .int (i32 a1)), (2, .int (i32 a2))] ([]) 4 (fX0_blownFuses_p4 g fu c0 a1 a2) := by
  intro fu
  induction fu with
  | zero => intro c0 a1 a2 hc0; exact zr_none
  | succ fu ih =>
    intro c0 a1 a2 hc0
    rw [fX0_blownFuses_p4]
    refine zr_iload_n (pc' := 5) cx rfl 2 dX0_blownFuses_4 rfl rfl ?_
    refine zr_iconst (pc' := 6) cx rfl dX0_blownFuses_5 ?_
    refine zr_aload_n (pc' := 7) cx rfl 0 dX0_blownFuses_6 rfl rfl ?_
    refine zg_X0_9 (pc' := 10) cx rfl hc0 dX0_blownFuses_7 ?_
    refine zr_imul (pc' := 11) cx rfl dX0_blownFuses_10 ?_
    refine zr_icmp_ge (pc' := 14) cx rfl (tgt := 32) dX0_blownFuses_11 rfl ?_ ?_
    · refine zr_iload_n (pc' := 33) cx rfl 1 dX0_blownFuses_32 rfl rfl ?_
      exact zr_iretP cx dX0_blownFuses_33
    · refine zr_aload_n (pc' := 15) cx rfl 0 dX0_blownFuses_14 rfl rfl ?_
      refine zg_X0_29 (pc' := 18) cx rfl (c2 := (c0 + 5)) hc0 rfl dX0_blownFuses_15 ?_
      refine zr_iload_n (pc' := 19) cx rfl 2 dX0_blownFuses_18 rfl rfl ?_
      refine zr_bald (pc' := 20) cx rfl 21 (zk1_5 hc0) (by decide) (L := 24) rfl dX0_blownFuses_19 ?_
      refine zr_if_eq (pc' := 23) cx rfl (tgt := 26) dX0_blownFuses_20 rfl ?_ ?_
      · refine zr_iinc (pc' := 29) cx rfl (lv' := [(2, .int (i32 (a2 + 1))), (0, .ref (zad Y c0)), (1, .int (i32 a1))]) 2 dX0_blownFuses_26 rfl (by decide) rfl ?_
        refine zr_goto cx (tgt := 4) dX0_blownFuses_29 rfl ?_
        refine zr_sub [1, 2, 0] rfl ?_
        exact ih c0 a1 (a2 + 1) hc0
      · refine zr_iinc (pc' := 26) cx rfl (lv' := [(1, .int (i32 (a1 + 1))), (0, .ref (zad Y c0)), (2, .int (i32 a2))]) 1 dX0_blownFuses_23 rfl (by decide) rfl ?_
        refine zr_iinc (pc' := 29) cx rfl (lv' := [(2, .int (i32 (a2 + 1))), (1, .int (i32 (a1 + 1))), (0, .ref (zad Y c0))]) 2 dX0_blownFuses_26 rfl (by decide) rfl ?_
        refine zr_goto cx (tgt := 4) dX0_blownFuses_29 rfl ?_
        refine zr_sub [2, 1, 0] rfl ?_
        exact ih c0 (a1 + 1) (a2 + 1) hc0
theorem wX0_blownFuses (cx : zCx Y p s m args meth c RX0 cX0_blownFuses 3 (some .int)) (g : zSt) (c0 : Nat) (hc0 : zV Y c0 = 1) : zWo Y p l e (zrm 0) s m args below meth c 3 0 0 (fun v : Int => MQ below (zQi Y v g) args s 0 0 (zA Y)) g [(0, .ref (zad Y c0))] ([]) 0 (fX0_blownFuses g c0) := by
  unfold fX0_blownFuses
  refine zr_iconst (pc' := 1) cx rfl dX0_blownFuses_0 ?_
  refine zr_istore_n (pc' := 2) cx rfl (lv' := [(1, .int (i32 0)), (0, .ref (zad Y c0))]) dX0_blownFuses_1 rfl (by decide) rfl ?_
  refine zr_iconst (pc' := 3) cx rfl dX0_blownFuses_2 ?_
  refine zr_istore_n (pc' := 4) cx rfl (lv' := [(2, .int (i32 2)), (1, .int (i32 0)), (0, .ref (zad Y c0))]) dX0_blownFuses_3 rfl (by decide) rfl ?_
  refine zr_sub [2, 1, 0] rfl ?_
  exact wX0_blownFuses_p4 cx g zfu c0 0 2 hc0
theorem mX0_blownFuses (l : Launch) (Y : zLy) (g : zSt) (c0 : Nat) (hc0 : zV Y c0 = 1) : ∀ v, fX0_blownFuses g c0 = some v → zMt l yX0_blownFuses cX0_blownFuses 3 (some .int) 0 [.ref (zad Y c0)] Y g (zQi Y v g) := by
  intro v hv
  refine zmet_of RX0 rfl (by decide +kernel) (Nat.le_of_ble_eq_true rfl) ?_
  intro p e s m below meth c cx H locs ls hH hS hl
  exact wX0_blownFuses cx g c0 hc0 v hv H locs ls hH hS hl
theorem zc_X7_400 (cx : zCx Y p s m args meth c RX7 cc nl ret) (hpc : pc + 3 = pc') {g : zSt} {c0 : Nat} (hc0 : zV Y c0 = 1) {fk : Int → Option ρ} (hR : 0 + 1 ≤ R.frames ∧ 8 + (3 + 11) + 40 * 0 ≤ R.locals) (hkn : k ≤ R.cells ∧ n ≤ R.slots) (hrest : (rest.map fun v => v.category).sum ≤ 8) (hdg : decode cc pc = .ok (.invokevirtual 400, 3)) (kk : ∀ v : Int, zWo Y p l e R s m args below meth c nl k n kq g lv (.int (i32 v) :: rest) pc' (fk v)) : zWo Y p l e R s m args below meth c nl k n kq g lv (.ref (zad Y c0) :: rest) pc (zbd (fX0_blownFuses g c0) fk) := zr_callViP cx (an := 0) (As := []) 1 hc0 (by decide) rfl (mX0_blownFuses l Y g c0 hc0) (zG_V zw_507 zw_508 zw_509 zw_28 zw_510) (by decide +kernel) hR hkn rfl rfl hrest hdg hpc kk
def fX0_copy_p62  : Nat → zSt → Nat → Nat → Int → Option zSt
  | 0, _, _, _, _ => none
  | fu + 1, g, c0, c1, a2 =>
    (if i32 a2 < i32 (2 * (g.1 c0 0)) then
    zck ((0 : Int) ≤ a2 ∧ a2 < 24) (
    zck ((0 : Int) ≤ a2 ∧ a2 < 24) (zlet (zwr g (c0 + 4) (Int.toNat a2) (g.1 (c1 + 4) (Int.toNat a2))) (fun g1 =>
    zck ((0 : Int) ≤ a2 ∧ a2 < 24) (
    zck ((0 : Int) ≤ a2 ∧ a2 < 24) (zck (((g1.1 (c1 + 5) (Int.toNat a2)) : Int) = 0 ∨ ((g1.1 (c1 + 5) (Int.toNat a2)) : Int) = 1) (zlet (zwr g1 (c0 + 5) (Int.toNat a2) (g1.1 (c1 + 5) (Int.toNat a2))) (fun g2 =>
    fX0_copy_p62 fu g2 c0 c1 (a2 + 1))))))))
    else
    some g)
def fX0_copy_p10  : Nat → zSt → Nat → Nat → Int → Option zSt
  | 0, _, _, _, _ => none
  | fu + 1, g, c0, c1, a2 =>
    (if i32 a2 < i32 (g.1 c0 0) then
    zck ((0 : Int) ≤ a2 ∧ a2 < 12) (
    zck ((0 : Int) ≤ a2 ∧ a2 < 12) (zlet (zwr g (c0 + 1) (Int.toNat a2) (g.1 (c1 + 1) (Int.toNat a2))) (fun g3 =>
    zck ((0 : Int) ≤ a2 ∧ a2 < 12) (
    zck ((0 : Int) ≤ a2 ∧ a2 < 12) (zck (((g3.1 (c1 + 2) (Int.toNat a2)) : Int) = 0 ∨ ((g3.1 (c1 + 2) (Int.toNat a2)) : Int) = 1) (zlet (zwr g3 (c0 + 2) (Int.toNat a2) (g3.1 (c1 + 2) (Int.toNat a2))) (fun g4 =>
    zck ((0 : Int) ≤ a2 ∧ a2 < 12) (
    zck ((0 : Int) ≤ a2 ∧ a2 < 12) (zck (((g4.1 (c1 + 3) (Int.toNat a2)) : Int) = 0 ∨ ((g4.1 (c1 + 3) (Int.toNat a2)) : Int) = 1) (zlet (zwr g4 (c0 + 3) (Int.toNat a2) (g4.1 (c1 + 3) (Int.toNat a2))) (fun g5 =>
    fX0_copy_p10 fu g5 c0 c1 (a2 + 1))))))))))))
    else
    fX0_copy_p62 zfu g c0 c1 0)
def fX0_copy (g : zSt) (c0 : Nat) (c1 : Nat) : Option zSt :=
    zlet (zwr g c0 0 (g.1 c1 0)) (fun g6 =>
    fX0_copy_p10 zfu g6 c0 c1 0)
theorem wX0_copy_p62 (cx : zCx Y p s m args meth c RX0 cX0_copy 3 none)   : ∀ (fu : Nat) (g : zSt) (c0 : Nat) (c1 : Nat) (a2 : Int) (hc0 : zV Y c0 = 1) (hc1 : zV Y c1 = 1), zWo Y p l e (zrm 0) s m args below meth c 3 0 0 (fun g9 : zSt => MQ below (zQv Y g9) args s 0 0 (zA Y)) g [(0, .ref (zad Y c0)), (1, .ref (zad Y c1)), (2, .int (i32 a2))] ([]) 62 (fX0_copy_p62 fu g c0 c1 a2) := by
  intro fu
  induction fu with
  | zero => intro g c0 c1 a2 hc0 hc1; exact zr_none
  | succ fu ih =>
    intro g c0 c1 a2 hc0 hc1
    rw [fX0_copy_p62]
    refine zr_iload_n (pc' := 63) cx rfl 2 dX0_copy_62 rfl rfl ?_
    refine zr_iconst (pc' := 64) cx rfl dX0_copy_63 ?_
    refine zr_aload_n (pc' := 65) cx rfl 0 dX0_copy_64 rfl rfl ?_
    refine zg_X0_9 (pc' := 68) cx rfl hc0 dX0_copy_65 ?_
    refine zr_imul (pc' := 69) cx rfl dX0_copy_68 ?_
    refine zr_icmp_ge (pc' := 72) cx rfl (tgt := 102) dX0_copy_69 rfl ?_ ?_
    · exact zr_vretE cx dX0_copy_102
    · refine zr_aload_n (pc' := 73) cx rfl 0 dX0_copy_72 rfl rfl ?_
      refine zg_X0_26 (pc' := 76) cx rfl (c2 := (c0 + 4)) hc0 rfl dX0_copy_73 ?_
      refine zr_iload_n (pc' := 77) cx rfl 2 dX0_copy_76 rfl rfl ?_
      refine zr_aload_n (pc' := 78) cx rfl 1 dX0_copy_77 rfl rfl ?_
      refine zg_X0_26 (pc' := 81) cx rfl (c2 := (c1 + 4)) hc1 rfl dX0_copy_78 ?_
      refine zr_iload_n (pc' := 82) cx rfl 2 dX0_copy_81 rfl rfl ?_
      refine zr_iald (pc' := 83) cx rfl 11 (zk1_4 hc1) (by decide) (L := 24) rfl dX0_copy_82 ?_
      refine zr_iast (pc' := 84) cx rfl 11 (zk1_4 hc0) (by decide) (L := 24) rfl dX0_copy_83 ?_
      refine zr_letS (fun g1 => ?_)
      refine zr_aload_n (pc' := 85) cx rfl 0 dX0_copy_84 rfl rfl ?_
      refine zg_X0_29 (pc' := 88) cx rfl (c2 := (c0 + 5)) hc0 rfl dX0_copy_85 ?_
      refine zr_iload_n (pc' := 89) cx rfl 2 dX0_copy_88 rfl rfl ?_
      refine zr_aload_n (pc' := 90) cx rfl 1 dX0_copy_89 rfl rfl ?_
      refine zg_X0_29 (pc' := 93) cx rfl (c2 := (c1 + 5)) hc1 rfl dX0_copy_90 ?_
      refine zr_iload_n (pc' := 94) cx rfl 2 dX0_copy_93 rfl rfl ?_
      refine zr_bald (pc' := 95) cx rfl 21 (zk1_5 hc1) (by decide) (L := 24) rfl dX0_copy_94 ?_
      refine zr_bast (pc' := 96) cx rfl 21 (zk1_5 hc0) (by decide) (L := 24) rfl dX0_copy_95 ?_
      refine zr_letS (fun g2 => ?_)
      refine zr_iinc (pc' := 99) cx rfl (lv' := [(2, .int (i32 (a2 + 1))), (0, .ref (zad Y c0)), (1, .ref (zad Y c1))]) 2 dX0_copy_96 rfl (by decide) rfl ?_
      refine zr_goto cx (tgt := 62) dX0_copy_99 rfl ?_
      refine zr_sub [1, 2, 0] rfl ?_
      exact ih g2 c0 c1 (a2 + 1) hc0 hc1
theorem wX0_copy_p10 (cx : zCx Y p s m args meth c RX0 cX0_copy 3 none)   : ∀ (fu : Nat) (g : zSt) (c0 : Nat) (c1 : Nat) (a2 : Int) (hc0 : zV Y c0 = 1) (hc1 : zV Y c1 = 1), zWo Y p l e (zrm 0) s m args below meth c 3 0 0 (fun g9 : zSt => MQ below (zQv Y g9) args s 0 0 (zA Y)) g [(0, .ref (zad Y c0)), (1, .ref (zad Y c1)), (2, .int (i32 a2))] ([]) 10 (fX0_copy_p10 fu g c0 c1 a2) := by
  intro fu
  induction fu with
  | zero => intro g c0 c1 a2 hc0 hc1; exact zr_none
  | succ fu ih =>
    intro g c0 c1 a2 hc0 hc1
    rw [fX0_copy_p10]
    refine zr_iload_n (pc' := 11) cx rfl 2 dX0_copy_10 rfl rfl ?_
    refine zr_aload_n (pc' := 12) cx rfl 0 dX0_copy_11 rfl rfl ?_
    refine zg_X0_9 (pc' := 15) cx rfl hc0 dX0_copy_12 ?_
    refine zr_icmp_ge (pc' := 18) cx rfl (tgt := 60) dX0_copy_15 rfl ?_ ?_
    · refine zr_iconst (pc' := 61) cx rfl dX0_copy_60 ?_
      refine zr_istore_n (pc' := 62) cx rfl (lv' := [(2, .int (i32 0)), (0, .ref (zad Y c0)), (1, .ref (zad Y c1))]) dX0_copy_61 rfl (by decide) rfl ?_
      refine zr_sub [1, 2, 0] rfl ?_
      exact wX0_copy_p62 cx zfu g c0 c1 0 hc0 hc1
    · refine zr_aload_n (pc' := 19) cx rfl 0 dX0_copy_18 rfl rfl ?_
      refine zg_X0_15 (pc' := 22) cx rfl (c2 := (c0 + 1)) hc0 rfl dX0_copy_19 ?_
      refine zr_iload_n (pc' := 23) cx rfl 2 dX0_copy_22 rfl rfl ?_
      refine zr_aload_n (pc' := 24) cx rfl 1 dX0_copy_23 rfl rfl ?_
      refine zg_X0_15 (pc' := 27) cx rfl (c2 := (c1 + 1)) hc1 rfl dX0_copy_24 ?_
      refine zr_iload_n (pc' := 28) cx rfl 2 dX0_copy_27 rfl rfl ?_
      refine zr_iald (pc' := 29) cx rfl 10 (zk1_1 hc1) (by decide) (L := 12) rfl dX0_copy_28 ?_
      refine zr_iast (pc' := 30) cx rfl 10 (zk1_1 hc0) (by decide) (L := 12) rfl dX0_copy_29 ?_
      refine zr_letS (fun g3 => ?_)
      refine zr_aload_n (pc' := 31) cx rfl 0 dX0_copy_30 rfl rfl ?_
      refine zg_X0_19 (pc' := 34) cx rfl (c2 := (c0 + 2)) hc0 rfl dX0_copy_31 ?_
      refine zr_iload_n (pc' := 35) cx rfl 2 dX0_copy_34 rfl rfl ?_
      refine zr_aload_n (pc' := 36) cx rfl 1 dX0_copy_35 rfl rfl ?_
      refine zg_X0_19 (pc' := 39) cx rfl (c2 := (c1 + 2)) hc1 rfl dX0_copy_36 ?_
      refine zr_iload_n (pc' := 40) cx rfl 2 dX0_copy_39 rfl rfl ?_
      refine zr_bald (pc' := 41) cx rfl 20 (zk1_2 hc1) (by decide) (L := 12) rfl dX0_copy_40 ?_
      refine zr_bast (pc' := 42) cx rfl 20 (zk1_2 hc0) (by decide) (L := 12) rfl dX0_copy_41 ?_
      refine zr_letS (fun g4 => ?_)
      refine zr_aload_n (pc' := 43) cx rfl 0 dX0_copy_42 rfl rfl ?_
      refine zg_X0_23 (pc' := 46) cx rfl (c2 := (c0 + 3)) hc0 rfl dX0_copy_43 ?_
      refine zr_iload_n (pc' := 47) cx rfl 2 dX0_copy_46 rfl rfl ?_
      refine zr_aload_n (pc' := 48) cx rfl 1 dX0_copy_47 rfl rfl ?_
      refine zg_X0_23 (pc' := 51) cx rfl (c2 := (c1 + 3)) hc1 rfl dX0_copy_48 ?_
      refine zr_iload_n (pc' := 52) cx rfl 2 dX0_copy_51 rfl rfl ?_
      refine zr_bald (pc' := 53) cx rfl 20 (zk1_3 hc1) (by decide) (L := 12) rfl dX0_copy_52 ?_
      refine zr_bast (pc' := 54) cx rfl 20 (zk1_3 hc0) (by decide) (L := 12) rfl dX0_copy_53 ?_
      refine zr_letS (fun g5 => ?_)
      refine zr_iinc (pc' := 57) cx rfl (lv' := [(2, .int (i32 (a2 + 1))), (0, .ref (zad Y c0)), (1, .ref (zad Y c1))]) 2 dX0_copy_54 rfl (by decide) rfl ?_
      refine zr_goto cx (tgt := 10) dX0_copy_57 rfl ?_
      refine zr_sub [1, 2, 0] rfl ?_
      exact ih g5 c0 c1 (a2 + 1) hc0 hc1
theorem wX0_copy (cx : zCx Y p s m args meth c RX0 cX0_copy 3 none) (g : zSt) (c0 : Nat) (c1 : Nat) (hc0 : zV Y c0 = 1) (hc1 : zV Y c1 = 1) : zWo Y p l e (zrm 0) s m args below meth c 3 0 0 (fun g9 : zSt => MQ below (zQv Y g9) args s 0 0 (zA Y)) g [(0, .ref (zad Y c0)), (1, .ref (zad Y c1))] ([]) 0 (fX0_copy g c0 c1) := by
  unfold fX0_copy
  refine zr_aload_n (pc' := 1) cx rfl 0 dX0_copy_0 rfl rfl ?_
  refine zr_aload_n (pc' := 2) cx rfl 1 dX0_copy_1 rfl rfl ?_
  refine zg_X0_9 (pc' := 5) cx rfl hc1 dX0_copy_2 ?_
  refine zp_X0_9 (pc' := 8) cx rfl hc0 dX0_copy_5 ?_
  refine zr_letS (fun g6 => ?_)
  refine zr_iconst (pc' := 9) cx rfl dX0_copy_8 ?_
  refine zr_istore_n (pc' := 10) cx rfl (lv' := [(2, .int (i32 0)), (0, .ref (zad Y c0)), (1, .ref (zad Y c1))]) dX0_copy_9 rfl (by decide) rfl ?_
  refine zr_sub [1, 2, 0] rfl ?_
  exact wX0_copy_p10 cx zfu g6 c0 c1 0 hc0 hc1
theorem mX0_copy (l : Launch) (Y : zLy) (g : zSt) (c0 : Nat) (c1 : Nat) (hc0 : zV Y c0 = 1) (hc1 : zV Y c1 = 1) : ∀ g2, fX0_copy g c0 c1 = some g2 → zMt l yX0_copy cX0_copy 3 none 0 [.ref (zad Y c0), .ref (zad Y c1)] Y g (zQv Y g2) := by
  intro g2 hv
  refine zmet_of RX0 rfl (by decide +kernel) (Nat.le_of_ble_eq_true rfl) ?_
  intro p e s m below meth c cx H locs ls hH hS hl
  exact wX0_copy cx g c0 c1 hc0 hc1 g2 hv H locs ls hH hS hl
theorem zc_X5_48 (cx : zCx Y p s m args meth c RX5 cc nl ret) (hpc : pc + 3 = pc') {g : zSt} {c0 : Nat} {c1 : Nat} (hc0 : zV Y c0 = 1) (hc1 : zV Y c1 = 1) {fk : zSt → Option ρ} (hR : 0 + 1 ≤ R.frames ∧ 8 + (3 + 11) + 40 * 0 ≤ R.locals) (hkn : k ≤ R.cells ∧ n ≤ R.slots) (hrest : (rest.map fun v => v.category).sum ≤ 8) (hdg : decode cc pc = .ok (.invokevirtual 48, 3)) (kk : ∀ g2 : zSt, zWo Y p l e R s m args below meth c nl k n kq g2 lv (rest) pc' (fk g2)) : zWo Y p l e R s m args below meth c nl k n kq g lv (.ref (zad Y c1) :: .ref (zad Y c0) :: rest) pc (zbd (fX0_copy g c0 c1) fk) := zr_callVvE cx (an := 1) (As := [.ref (zad Y c1)]) 1 hc0 (by decide) rfl (mX0_copy l Y g c0 c1 hc0 hc1) (zG_V zw_532 zw_533 zw_534 zw_28 zw_535) (by decide +kernel) hR hkn rfl rfl hrest hdg hpc kk
def fX1_add (g : zSt) (c0 : Nat) (a1 : Int) (a2 : Int) (a3 : Int) : Option zSt :=
    (if i32 (g.1 c0 0) < i32 9 then
    zck ((0 : Int) ≤ (g.1 c0 0) ∧ (g.1 c0 0) < 9) (zlet (zwr g (c0 + 1) (Int.toNat (g.1 c0 0)) a1) (fun g1 =>
    zck ((0 : Int) ≤ (g1.1 c0 0) ∧ (g1.1 c0 0) < 9) (zlet (zwr g1 (c0 + 2) (Int.toNat (g1.1 c0 0)) a2) (fun g2 =>
    zck ((0 : Int) ≤ (g2.1 c0 0) ∧ (g2.1 c0 0) < 9) (zlet (zwr g2 (c0 + 3) (Int.toNat (g2.1 c0 0)) a3) (fun g3 =>
    zlet (zwr g3 c0 0 ((g3.1 c0 0) + 1)) (fun g4 =>
    some g4)))))))
    else
    some g)
theorem wX1_add (cx : zCx Y p s m args meth c RX1 cX1_add 4 none) (g : zSt) (c0 : Nat) (a1 : Int) (a2 : Int) (a3 : Int) (hc0 : zV Y c0 = 2) : zWo Y p l e (zrm 0) s m args below meth c 4 0 0 (fun g9 : zSt => MQ below (zQv Y g9) args s 0 0 (zA Y)) g [(0, .ref (zad Y c0)), (1, .int (i32 a1)), (2, .int (i32 a2)), (3, .int (i32 a3))] ([]) 0 (fX1_add g c0 a1 a2 a3) := by
  unfold fX1_add
  refine zr_aload_n (pc' := 1) cx rfl 0 dX1_add_0 rfl rfl ?_
  refine zg_X1_9 (pc' := 4) cx rfl hc0 dX1_add_1 ?_
  refine zr_bipush (pc' := 6) cx rfl dX1_add_4 (by decide +kernel) ?_
  refine zr_icmp_lt (pc' := 9) cx rfl (tgt := 10) dX1_add_6 rfl ?_ ?_
  · refine zr_aload_n (pc' := 11) cx rfl 0 dX1_add_10 rfl rfl ?_
    refine zg_X1_15 (pc' := 14) cx rfl (c2 := (c0 + 1)) hc0 rfl dX1_add_11 ?_
    refine zr_aload_n (pc' := 15) cx rfl 0 dX1_add_14 rfl rfl ?_
    refine zg_X1_9 (pc' := 18) cx rfl hc0 dX1_add_15 ?_
    refine zr_iload_n (pc' := 19) cx rfl 1 dX1_add_18 rfl rfl ?_
    refine zr_iast (pc' := 20) cx rfl 13 (zk2_1 hc0) (by decide) (L := 9) rfl dX1_add_19 ?_
    refine zr_letS (fun g1 => ?_)
    refine zr_aload_n (pc' := 21) cx rfl 0 dX1_add_20 rfl rfl ?_
    refine zg_X1_19 (pc' := 24) cx rfl (c2 := (c0 + 2)) hc0 rfl dX1_add_21 ?_
    refine zr_aload_n (pc' := 25) cx rfl 0 dX1_add_24 rfl rfl ?_
    refine zg_X1_9 (pc' := 28) cx rfl hc0 dX1_add_25 ?_
    refine zr_iload_n (pc' := 29) cx rfl 2 dX1_add_28 rfl rfl ?_
    refine zr_iast (pc' := 30) cx rfl 13 (zk2_2 hc0) (by decide) (L := 9) rfl dX1_add_29 ?_
    refine zr_letS (fun g2 => ?_)
    refine zr_aload_n (pc' := 31) cx rfl 0 dX1_add_30 rfl rfl ?_
    refine zg_X1_22 (pc' := 34) cx rfl (c2 := (c0 + 3)) hc0 rfl dX1_add_31 ?_
    refine zr_aload_n (pc' := 35) cx rfl 0 dX1_add_34 rfl rfl ?_
    refine zg_X1_9 (pc' := 38) cx rfl hc0 dX1_add_35 ?_
    refine zr_iload_n (pc' := 39) cx rfl 3 dX1_add_38 rfl rfl ?_
    refine zr_iast (pc' := 40) cx rfl 13 (zk2_3 hc0) (by decide) (L := 9) rfl dX1_add_39 ?_
    refine zr_letS (fun g3 => ?_)
    refine zr_aload_n (pc' := 41) cx rfl 0 dX1_add_40 rfl rfl ?_
    refine zr_dup (pc' := 42) cx rfl dX1_add_41 rfl ?_
    refine zg_X1_9 (pc' := 45) cx rfl hc0 dX1_add_42 ?_
    refine zr_iconst (pc' := 46) cx rfl dX1_add_45 ?_
    refine zr_iadd (pc' := 47) cx rfl dX1_add_46 ?_
    refine zp_X1_9 (pc' := 50) cx rfl hc0 dX1_add_47 ?_
    refine zr_letS (fun g4 => ?_)
    exact zr_vretE cx dX1_add_50
  · exact zr_vretE cx dX1_add_9
theorem mX1_add (l : Launch) (Y : zLy) (g : zSt) (c0 : Nat) (a1 : Int) (a2 : Int) (a3 : Int) (hc0 : zV Y c0 = 2) : ∀ g2, fX1_add g c0 a1 a2 a3 = some g2 → zMt l yX1_add cX1_add 4 none 0 [.ref (zad Y c0), .int (i32 a1), .int (i32 a2), .int (i32 a3)] Y g (zQv Y g2) := by
  intro g2 hv
  refine zmet_of RX1 rfl (by decide +kernel) (Nat.le_of_ble_eq_true rfl) ?_
  intro p e s m below meth c cx H locs ls hH hS hl
  exact wX1_add cx g c0 a1 a2 a3 hc0 g2 hv H locs ls hH hS hl
theorem zc_X7_184 (cx : zCx Y p s m args meth c RX7 cc nl ret) (hpc : pc + 3 = pc') {g : zSt} {c0 : Nat} {a1 : Int} {a2 : Int} {a3 : Int} (hc0 : zV Y c0 = 2) {fk : zSt → Option ρ} (hR : 0 + 1 ≤ R.frames ∧ 8 + (4 + 11) + 40 * 0 ≤ R.locals) (hkn : k ≤ R.cells ∧ n ≤ R.slots) (hrest : (rest.map fun v => v.category).sum ≤ 8) (hdg : decode cc pc = .ok (.invokevirtual 184, 3)) (kk : ∀ g2 : zSt, zWo Y p l e R s m args below meth c nl k n kq g2 lv (rest) pc' (fk g2)) : zWo Y p l e R s m args below meth c nl k n kq g lv (.int (i32 a3) :: .int (i32 a2) :: .int (i32 a1) :: .ref (zad Y c0) :: rest) pc (zbd (fX1_add g c0 a1 a2 a3) fk) := zr_callVvE cx (an := 3) (As := [.int (i32 a1), .int (i32 a2), .int (i32 a3)]) 2 hc0 (by decide) rfl (mX1_add l Y g c0 a1 a2 a3 hc0) (zG_V zw_544 zw_545 zw_546 zw_30 zw_547) (by decide +kernel) hR hkn rfl rfl hrest hdg hpc kk
def fX1_remove_p2  : Nat → zSt → Nat → Int → Option zSt
  | 0, _, _, _ => none
  | fu + 1, g, c0, a2 =>
    (if i32 a2 < i32 ((g.1 c0 0) - 1) then
    zck ((0 : Int) ≤ (a2 + 1) ∧ (a2 + 1) < 9) (
    zck ((0 : Int) ≤ a2 ∧ a2 < 9) (zlet (zwr g (c0 + 1) (Int.toNat a2) (g.1 (c0 + 1) (Int.toNat (a2 + 1)))) (fun g2 =>
    zck ((0 : Int) ≤ (a2 + 1) ∧ (a2 + 1) < 9) (
    zck ((0 : Int) ≤ a2 ∧ a2 < 9) (zlet (zwr g2 (c0 + 2) (Int.toNat a2) (g2.1 (c0 + 2) (Int.toNat (a2 + 1)))) (fun g3 =>
    zck ((0 : Int) ≤ (a2 + 1) ∧ (a2 + 1) < 9) (
    zck ((0 : Int) ≤ a2 ∧ a2 < 9) (zlet (zwr g3 (c0 + 3) (Int.toNat a2) (g3.1 (c0 + 3) (Int.toNat (a2 + 1)))) (fun g4 =>
    fX1_remove_p2 fu g4 c0 (a2 + 1))))))))))
    else
    zlet (zwr g c0 0 ((g.1 c0 0) - 1)) (fun g1 =>
    some g1))
def fX1_remove (g : zSt) (c0 : Nat) (a1 : Int) : Option zSt :=
    fX1_remove_p2 zfu g c0 a1
theorem wX1_remove_p2 (cx : zCx Y p s m args meth c RX1 cX1_remove 3 none)   : ∀ (fu : Nat) (g : zSt) (c0 : Nat) (a2 : Int) (hc0 : zV Y c0 = 2), zWo Y p l e (zrm 0) s m args below meth c 3 0 0 (fun g9 : zSt => MQ below (zQv Y g9) args s 0 0 (zA Y)) g [(0, .ref (zad Y c0)), (2, .int (i32 a2))] ([]) 2 (fX1_remove_p2 fu g c0 a2) := by
  intro fu
  induction fu with
  | zero => intro g c0 a2 hc0; exact zr_none
  | succ fu ih =>
    intro g c0 a2 hc0
    rw [fX1_remove_p2]
    refine zr_iload_n (pc' := 3) cx rfl 1 dX1_remove_2 rfl rfl ?_
    refine zr_aload_n (pc' := 4) cx rfl 0 dX1_remove_3 rfl rfl ?_
    refine zg_X1_9 (pc' := 7) cx rfl hc0 dX1_remove_4 ?_
    refine zr_iconst (pc' := 8) cx rfl dX1_remove_7 ?_
    refine zr_isub (pc' := 9) cx rfl dX1_remove_8 ?_
    refine zr_icmp_ge (pc' := 12) cx rfl (tgt := 60) dX1_remove_9 rfl ?_ ?_
    · refine zr_aload_n (pc' := 61) cx rfl 0 dX1_remove_60 rfl rfl ?_
      refine zr_dup (pc' := 62) cx rfl dX1_remove_61 rfl ?_
      refine zg_X1_9 (pc' := 65) cx rfl hc0 dX1_remove_62 ?_
      refine zr_iconst (pc' := 66) cx rfl dX1_remove_65 ?_
      refine zr_isub (pc' := 67) cx rfl dX1_remove_66 ?_
      refine zp_X1_9 (pc' := 70) cx rfl hc0 dX1_remove_67 ?_
      refine zr_letS (fun g1 => ?_)
      exact zr_vretE cx dX1_remove_70
    · refine zr_aload_n (pc' := 13) cx rfl 0 dX1_remove_12 rfl rfl ?_
      refine zg_X1_15 (pc' := 16) cx rfl (c2 := (c0 + 1)) hc0 rfl dX1_remove_13 ?_
      refine zr_iload_n (pc' := 17) cx rfl 1 dX1_remove_16 rfl rfl ?_
      refine zr_aload_n (pc' := 18) cx rfl 0 dX1_remove_17 rfl rfl ?_
      refine zg_X1_15 (pc' := 21) cx rfl (c2 := (c0 + 1)) hc0 rfl dX1_remove_18 ?_
      refine zr_iload_n (pc' := 22) cx rfl 1 dX1_remove_21 rfl rfl ?_
      refine zr_iconst (pc' := 23) cx rfl dX1_remove_22 ?_
      refine zr_iadd (pc' := 24) cx rfl dX1_remove_23 ?_
      refine zr_iald (pc' := 25) cx rfl 13 (zk2_1 hc0) (by decide) (L := 9) rfl dX1_remove_24 ?_
      refine zr_iast (pc' := 26) cx rfl 13 (zk2_1 hc0) (by decide) (L := 9) rfl dX1_remove_25 ?_
      refine zr_letS (fun g2 => ?_)
      refine zr_aload_n (pc' := 27) cx rfl 0 dX1_remove_26 rfl rfl ?_
      refine zg_X1_19 (pc' := 30) cx rfl (c2 := (c0 + 2)) hc0 rfl dX1_remove_27 ?_
      refine zr_iload_n (pc' := 31) cx rfl 1 dX1_remove_30 rfl rfl ?_
      refine zr_aload_n (pc' := 32) cx rfl 0 dX1_remove_31 rfl rfl ?_
      refine zg_X1_19 (pc' := 35) cx rfl (c2 := (c0 + 2)) hc0 rfl dX1_remove_32 ?_
      refine zr_iload_n (pc' := 36) cx rfl 1 dX1_remove_35 rfl rfl ?_
      refine zr_iconst (pc' := 37) cx rfl dX1_remove_36 ?_
      refine zr_iadd (pc' := 38) cx rfl dX1_remove_37 ?_
      refine zr_iald (pc' := 39) cx rfl 13 (zk2_2 hc0) (by decide) (L := 9) rfl dX1_remove_38 ?_
      refine zr_iast (pc' := 40) cx rfl 13 (zk2_2 hc0) (by decide) (L := 9) rfl dX1_remove_39 ?_
      refine zr_letS (fun g3 => ?_)
      refine zr_aload_n (pc' := 41) cx rfl 0 dX1_remove_40 rfl rfl ?_
      refine zg_X1_22 (pc' := 44) cx rfl (c2 := (c0 + 3)) hc0 rfl dX1_remove_41 ?_
      refine zr_iload_n (pc' := 45) cx rfl 1 dX1_remove_44 rfl rfl ?_
      refine zr_aload_n (pc' := 46) cx rfl 0 dX1_remove_45 rfl rfl ?_
      refine zg_X1_22 (pc' := 49) cx rfl (c2 := (c0 + 3)) hc0 rfl dX1_remove_46 ?_
      refine zr_iload_n (pc' := 50) cx rfl 1 dX1_remove_49 rfl rfl ?_
      refine zr_iconst (pc' := 51) cx rfl dX1_remove_50 ?_
      refine zr_iadd (pc' := 52) cx rfl dX1_remove_51 ?_
      refine zr_iald (pc' := 53) cx rfl 13 (zk2_3 hc0) (by decide) (L := 9) rfl dX1_remove_52 ?_
      refine zr_iast (pc' := 54) cx rfl 13 (zk2_3 hc0) (by decide) (L := 9) rfl dX1_remove_53 ?_
      refine zr_letS (fun g4 => ?_)
      refine zr_iinc (pc' := 57) cx rfl (lv' := [(2, .int (i32 (a2 + 1))), (0, .ref (zad Y c0))]) 1 dX1_remove_54 rfl (by decide) rfl ?_
      refine zr_goto cx (tgt := 2) dX1_remove_57 rfl ?_
      refine zr_sub [1, 0] rfl ?_
      exact ih g4 c0 (a2 + 1) hc0
theorem wX1_remove (cx : zCx Y p s m args meth c RX1 cX1_remove 3 none) (g : zSt) (c0 : Nat) (a1 : Int) (hc0 : zV Y c0 = 2) : zWo Y p l e (zrm 0) s m args below meth c 3 0 0 (fun g9 : zSt => MQ below (zQv Y g9) args s 0 0 (zA Y)) g [(0, .ref (zad Y c0)), (1, .int (i32 a1))] ([]) 0 (fX1_remove g c0 a1) := by
  unfold fX1_remove
  refine zr_iload_n (pc' := 1) cx rfl 1 dX1_remove_0 rfl rfl ?_
  refine zr_istore_n (pc' := 2) cx rfl (lv' := [(2, .int (i32 a1)), (0, .ref (zad Y c0)), (1, .int (i32 a1))]) dX1_remove_1 rfl (by decide) rfl ?_
  refine zr_sub [1, 0] rfl ?_
  exact wX1_remove_p2 cx zfu g c0 a1 hc0
theorem mX1_remove (l : Launch) (Y : zLy) (g : zSt) (c0 : Nat) (a1 : Int) (hc0 : zV Y c0 = 2) : ∀ g2, fX1_remove g c0 a1 = some g2 → zMt l yX1_remove cX1_remove 3 none 0 [.ref (zad Y c0), .int (i32 a1)] Y g (zQv Y g2) := by
  intro g2 hv
  refine zmet_of RX1 rfl (by decide +kernel) (Nat.le_of_ble_eq_true rfl) ?_
  intro p e s m below meth c cx H locs ls hH hS hl
  exact wX1_remove cx g c0 a1 hc0 g2 hv H locs ls hH hS hl
theorem zc_X7_195 (cx : zCx Y p s m args meth c RX7 cc nl ret) (hpc : pc + 3 = pc') {g : zSt} {c0 : Nat} {a1 : Int} (hc0 : zV Y c0 = 2) {fk : zSt → Option ρ} (hR : 0 + 1 ≤ R.frames ∧ 8 + (3 + 11) + 40 * 0 ≤ R.locals) (hkn : k ≤ R.cells ∧ n ≤ R.slots) (hrest : (rest.map fun v => v.category).sum ≤ 8) (hdg : decode cc pc = .ok (.invokevirtual 195, 3)) (kk : ∀ g2 : zSt, zWo Y p l e R s m args below meth c nl k n kq g2 lv (rest) pc' (fk g2)) : zWo Y p l e R s m args below meth c nl k n kq g lv (.int (i32 a1) :: .ref (zad Y c0) :: rest) pc (zbd (fX1_remove g c0 a1) fk) := zr_callVvE cx (an := 1) (As := [.int (i32 a1)]) 2 hc0 (by decide) rfl (mX1_remove l Y g c0 a1 hc0) (zG_V zw_687 zw_688 zw_689 zw_30 zw_690) (by decide +kernel) hR hkn rfl rfl hrest hdg hpc kk
def fX1_copy_p10  : Nat → zSt → Nat → Nat → Int → Option zSt
  | 0, _, _, _, _ => none
  | fu + 1, g, c0, c1, a2 =>
    (if i32 a2 < i32 (g.1 c0 0) then
    zck ((0 : Int) ≤ a2 ∧ a2 < 9) (
    zck ((0 : Int) ≤ a2 ∧ a2 < 9) (zlet (zwr g (c0 + 1) (Int.toNat a2) (g.1 (c1 + 1) (Int.toNat a2))) (fun g1 =>
    zck ((0 : Int) ≤ a2 ∧ a2 < 9) (
    zck ((0 : Int) ≤ a2 ∧ a2 < 9) (zlet (zwr g1 (c0 + 2) (Int.toNat a2) (g1.1 (c1 + 2) (Int.toNat a2))) (fun g2 =>
    zck ((0 : Int) ≤ a2 ∧ a2 < 9) (
    zck ((0 : Int) ≤ a2 ∧ a2 < 9) (zlet (zwr g2 (c0 + 3) (Int.toNat a2) (g2.1 (c1 + 3) (Int.toNat a2))) (fun g3 =>
    fX1_copy_p10 fu g3 c0 c1 (a2 + 1))))))))))
    else
    some g)
def fX1_copy (g : zSt) (c0 : Nat) (c1 : Nat) : Option zSt :=
    zlet (zwr g c0 0 (g.1 c1 0)) (fun g4 =>
    fX1_copy_p10 zfu g4 c0 c1 0)
theorem wX1_copy_p10 (cx : zCx Y p s m args meth c RX1 cX1_copy 3 none)   : ∀ (fu : Nat) (g : zSt) (c0 : Nat) (c1 : Nat) (a2 : Int) (hc0 : zV Y c0 = 2) (hc1 : zV Y c1 = 2), zWo Y p l e (zrm 0) s m args below meth c 3 0 0 (fun g9 : zSt => MQ below (zQv Y g9) args s 0 0 (zA Y)) g [(0, .ref (zad Y c0)), (1, .ref (zad Y c1)), (2, .int (i32 a2))] ([]) 10 (fX1_copy_p10 fu g c0 c1 a2) := by
  intro fu
  induction fu with
  | zero => intro g c0 c1 a2 hc0 hc1; exact zr_none
  | succ fu ih =>
    intro g c0 c1 a2 hc0 hc1
    rw [fX1_copy_p10]
    refine zr_iload_n (pc' := 11) cx rfl 2 dX1_copy_10 rfl rfl ?_
    refine zr_aload_n (pc' := 12) cx rfl 0 dX1_copy_11 rfl rfl ?_
    refine zg_X1_9 (pc' := 15) cx rfl hc0 dX1_copy_12 ?_
    refine zr_icmp_ge (pc' := 18) cx rfl (tgt := 60) dX1_copy_15 rfl ?_ ?_
    · exact zr_vretE cx dX1_copy_60
    · refine zr_aload_n (pc' := 19) cx rfl 0 dX1_copy_18 rfl rfl ?_
      refine zg_X1_15 (pc' := 22) cx rfl (c2 := (c0 + 1)) hc0 rfl dX1_copy_19 ?_
      refine zr_iload_n (pc' := 23) cx rfl 2 dX1_copy_22 rfl rfl ?_
      refine zr_aload_n (pc' := 24) cx rfl 1 dX1_copy_23 rfl rfl ?_
      refine zg_X1_15 (pc' := 27) cx rfl (c2 := (c1 + 1)) hc1 rfl dX1_copy_24 ?_
      refine zr_iload_n (pc' := 28) cx rfl 2 dX1_copy_27 rfl rfl ?_
      refine zr_iald (pc' := 29) cx rfl 13 (zk2_1 hc1) (by decide) (L := 9) rfl dX1_copy_28 ?_
      refine zr_iast (pc' := 30) cx rfl 13 (zk2_1 hc0) (by decide) (L := 9) rfl dX1_copy_29 ?_
      refine zr_letS (fun g1 => ?_)
      refine zr_aload_n (pc' := 31) cx rfl 0 dX1_copy_30 rfl rfl ?_
      refine zg_X1_19 (pc' := 34) cx rfl (c2 := (c0 + 2)) hc0 rfl dX1_copy_31 ?_
      refine zr_iload_n (pc' := 35) cx rfl 2 dX1_copy_34 rfl rfl ?_
      refine zr_aload_n (pc' := 36) cx rfl 1 dX1_copy_35 rfl rfl ?_
      refine zg_X1_19 (pc' := 39) cx rfl (c2 := (c1 + 2)) hc1 rfl dX1_copy_36 ?_
      refine zr_iload_n (pc' := 40) cx rfl 2 dX1_copy_39 rfl rfl ?_
      refine zr_iald (pc' := 41) cx rfl 13 (zk2_2 hc1) (by decide) (L := 9) rfl dX1_copy_40 ?_
      refine zr_iast (pc' := 42) cx rfl 13 (zk2_2 hc0) (by decide) (L := 9) rfl dX1_copy_41 ?_
      refine zr_letS (fun g2 => ?_)
      refine zr_aload_n (pc' := 43) cx rfl 0 dX1_copy_42 rfl rfl ?_
      refine zg_X1_22 (pc' := 46) cx rfl (c2 := (c0 + 3)) hc0 rfl dX1_copy_43 ?_
      refine zr_iload_n (pc' := 47) cx rfl 2 dX1_copy_46 rfl rfl ?_
      refine zr_aload_n (pc' := 48) cx rfl 1 dX1_copy_47 rfl rfl ?_
      refine zg_X1_22 (pc' := 51) cx rfl (c2 := (c1 + 3)) hc1 rfl dX1_copy_48 ?_
      refine zr_iload_n (pc' := 52) cx rfl 2 dX1_copy_51 rfl rfl ?_
      refine zr_iald (pc' := 53) cx rfl 13 (zk2_3 hc1) (by decide) (L := 9) rfl dX1_copy_52 ?_
      refine zr_iast (pc' := 54) cx rfl 13 (zk2_3 hc0) (by decide) (L := 9) rfl dX1_copy_53 ?_
      refine zr_letS (fun g3 => ?_)
      refine zr_iinc (pc' := 57) cx rfl (lv' := [(2, .int (i32 (a2 + 1))), (0, .ref (zad Y c0)), (1, .ref (zad Y c1))]) 2 dX1_copy_54 rfl (by decide) rfl ?_
      refine zr_goto cx (tgt := 10) dX1_copy_57 rfl ?_
      refine zr_sub [1, 2, 0] rfl ?_
      exact ih g3 c0 c1 (a2 + 1) hc0 hc1
theorem wX1_copy (cx : zCx Y p s m args meth c RX1 cX1_copy 3 none) (g : zSt) (c0 : Nat) (c1 : Nat) (hc0 : zV Y c0 = 2) (hc1 : zV Y c1 = 2) : zWo Y p l e (zrm 0) s m args below meth c 3 0 0 (fun g9 : zSt => MQ below (zQv Y g9) args s 0 0 (zA Y)) g [(0, .ref (zad Y c0)), (1, .ref (zad Y c1))] ([]) 0 (fX1_copy g c0 c1) := by
  unfold fX1_copy
  refine zr_aload_n (pc' := 1) cx rfl 0 dX1_copy_0 rfl rfl ?_
  refine zr_aload_n (pc' := 2) cx rfl 1 dX1_copy_1 rfl rfl ?_
  refine zg_X1_9 (pc' := 5) cx rfl hc1 dX1_copy_2 ?_
  refine zp_X1_9 (pc' := 8) cx rfl hc0 dX1_copy_5 ?_
  refine zr_letS (fun g4 => ?_)
  refine zr_iconst (pc' := 9) cx rfl dX1_copy_8 ?_
  refine zr_istore_n (pc' := 10) cx rfl (lv' := [(2, .int (i32 0)), (0, .ref (zad Y c0)), (1, .ref (zad Y c1))]) dX1_copy_9 rfl (by decide) rfl ?_
  refine zr_sub [1, 2, 0] rfl ?_
  exact wX1_copy_p10 cx zfu g4 c0 c1 0 hc0 hc1
theorem mX1_copy (l : Launch) (Y : zLy) (g : zSt) (c0 : Nat) (c1 : Nat) (hc0 : zV Y c0 = 2) (hc1 : zV Y c1 = 2) : ∀ g2, fX1_copy g c0 c1 = some g2 → zMt l yX1_copy cX1_copy 3 none 0 [.ref (zad Y c0), .ref (zad Y c1)] Y g (zQv Y g2) := by
  intro g2 hv
  refine zmet_of RX1 rfl (by decide +kernel) (Nat.le_of_ble_eq_true rfl) ?_
  intro p e s m below meth c cx H locs ls hH hS hl
  exact wX1_copy cx g c0 c1 hc0 hc1 g2 hv H locs ls hH hS hl
theorem zc_X5_55 (cx : zCx Y p s m args meth c RX5 cc nl ret) (hpc : pc + 3 = pc') {g : zSt} {c0 : Nat} {c1 : Nat} (hc0 : zV Y c0 = 2) (hc1 : zV Y c1 = 2) {fk : zSt → Option ρ} (hR : 0 + 1 ≤ R.frames ∧ 8 + (3 + 11) + 40 * 0 ≤ R.locals) (hkn : k ≤ R.cells ∧ n ≤ R.slots) (hrest : (rest.map fun v => v.category).sum ≤ 8) (hdg : decode cc pc = .ok (.invokevirtual 55, 3)) (kk : ∀ g2 : zSt, zWo Y p l e R s m args below meth c nl k n kq g2 lv (rest) pc' (fk g2)) : zWo Y p l e R s m args below meth c nl k n kq g lv (.ref (zad Y c1) :: .ref (zad Y c0) :: rest) pc (zbd (fX1_copy g c0 c1) fk) := zr_callVvE cx (an := 1) (As := [.ref (zad Y c1)]) 2 hc0 (by decide) rfl (mX1_copy l Y g c0 c1 hc0 hc1) (zG_V zw_540 zw_541 zw_542 zw_30 zw_543) (by decide +kernel) hR hkn rfl rfl hrest hdg hpc kk
def fX2_dropOldest_p9  : Nat → zSt → Nat → Int → Option zSt
  | 0, _, _, _ => none
  | fu + 1, g, c1, a2 =>
    (if i32 a2 < i32 5 then
    zck ((0 : Int) ≤ (a2 + 1) ∧ (a2 + 1) < 6) (zck (zK (g.2.1 (Int.toNat (a2 + 1))) = 6) (zlet (g.2.1 (Int.toNat (a2 + 1))) (fun r3 =>
    zck ((0 : Int) ≤ a2 ∧ a2 < 6) (zlet (zws g (Int.toNat a2) r3) (fun g4 =>
    fX2_dropOldest_p9 fu g4 c1 (a2 + 1))))))
    else
    zck ((0 : Int) ≤ 5 ∧ 5 < 6) (zlet (zws g (Int.toNat 5) c1) (fun g1 =>
    zlet (zwr g1 300 0 5) (fun g2 =>
    some g2))))
def fX2_dropOldest (g : zSt) : Option zSt :=
    zck ((0 : Int) ≤ 0 ∧ 0 < 6) (zck (zK (g.2.1 (Int.toNat 0)) = 6) (zlet (g.2.1 (Int.toNat 0)) (fun r5 =>
    fX2_dropOldest_p9 zfu g r5 0)))
theorem wX2_dropOldest_p9 (cx : zCx Y p s m args meth c RX2 cX2_dropOldest 3 none)   : ∀ (fu : Nat) (g : zSt) (c1 : Nat) (a2 : Int) (hc1 : zV Y c1 = 6), zWo Y p l e (zrm 0) s m args below meth c 3 0 0 (fun g9 : zSt => MQ below (zQv Y g9) args s 0 0 (zA Y)) g [(0, .ref (zad Y 300)), (1, .ref (zad Y c1)), (2, .int (i32 a2))] ([]) 9 (fX2_dropOldest_p9 fu g c1 a2) := by
  intro fu
  induction fu with
  | zero => intro g c1 a2 hc1; exact zr_none
  | succ fu ih =>
    intro g c1 a2 hc1
    rw [fX2_dropOldest_p9]
    refine zr_iload_n (pc' := 10) cx rfl 2 dX2_dropOldest_9 rfl rfl ?_
    refine zr_iconst (pc' := 11) cx rfl dX2_dropOldest_10 ?_
    refine zr_icmp_ge (pc' := 14) cx rfl (tgt := 34) dX2_dropOldest_11 rfl ?_ ?_
    · refine zr_aload_n (pc' := 35) cx rfl 0 dX2_dropOldest_34 rfl rfl ?_
      refine zg_X2_17 (pc' := 38) cx rfl (c2 := 301) zkc_300 rfl dX2_dropOldest_35 ?_
      refine zr_iconst (pc' := 39) cx rfl dX2_dropOldest_38 ?_
      refine zr_aload_n (pc' := 40) cx rfl 1 dX2_dropOldest_39 rfl rfl ?_
      refine zr_aast (pc' := 41) cx rfl zkc_301 zk30_one hc1 dX2_dropOldest_40 ?_
      refine zr_letS (fun g1 => ?_)
      refine zr_aload_n (pc' := 42) cx rfl 0 dX2_dropOldest_41 rfl rfl ?_
      refine zr_iconst (pc' := 43) cx rfl dX2_dropOldest_42 ?_
      refine zp_X2_9 (pc' := 46) cx rfl zkc_300 dX2_dropOldest_43 ?_
      refine zr_letS (fun g2 => ?_)
      exact zr_vretE cx dX2_dropOldest_46
    · refine zr_aload_n (pc' := 15) cx rfl 0 dX2_dropOldest_14 rfl rfl ?_
      refine zg_X2_17 (pc' := 18) cx rfl (c2 := 301) zkc_300 rfl dX2_dropOldest_15 ?_
      refine zr_iload_n (pc' := 19) cx rfl 2 dX2_dropOldest_18 rfl rfl ?_
      refine zr_aload_n (pc' := 20) cx rfl 0 dX2_dropOldest_19 rfl rfl ?_
      refine zg_X2_17 (pc' := 23) cx rfl (c2 := 301) zkc_300 rfl dX2_dropOldest_20 ?_
      refine zr_iload_n (pc' := 24) cx rfl 2 dX2_dropOldest_23 rfl rfl ?_
      refine zr_iconst (pc' := 25) cx rfl dX2_dropOldest_24 ?_
      refine zr_iadd (pc' := 26) cx rfl dX2_dropOldest_25 ?_
      refine zr_aald (pc' := 27) cx rfl zkc_301 dX2_dropOldest_26 (fun hr3 => ?_)
      refine zr_letr hr3 (fun r3 hr3 => ?_)
      refine zr_aast (pc' := 28) cx rfl zkc_301 zk30_one hr3 dX2_dropOldest_27 ?_
      refine zr_letS (fun g4 => ?_)
      refine zr_iinc (pc' := 31) cx rfl (lv' := [(2, .int (i32 (a2 + 1))), (0, .ref (zad Y 300)), (1, .ref (zad Y c1))]) 2 dX2_dropOldest_28 rfl (by decide) rfl ?_
      refine zr_goto cx (tgt := 9) dX2_dropOldest_31 rfl ?_
      refine zr_sub [1, 2, 0] rfl ?_
      exact ih g4 c1 (a2 + 1) hc1
theorem wX2_dropOldest (cx : zCx Y p s m args meth c RX2 cX2_dropOldest 3 none) (g : zSt)  : zWo Y p l e (zrm 0) s m args below meth c 3 0 0 (fun g9 : zSt => MQ below (zQv Y g9) args s 0 0 (zA Y)) g [(0, .ref (zad Y 300))] ([]) 0 (fX2_dropOldest g) := by
  unfold fX2_dropOldest
  refine zr_aload_n (pc' := 1) cx rfl 0 dX2_dropOldest_0 rfl rfl ?_
  refine zg_X2_17 (pc' := 4) cx rfl (c2 := 301) zkc_300 rfl dX2_dropOldest_1 ?_
  refine zr_iconst (pc' := 5) cx rfl dX2_dropOldest_4 ?_
  refine zr_aald (pc' := 6) cx rfl zkc_301 dX2_dropOldest_5 (fun hr5 => ?_)
  refine zr_letr hr5 (fun r5 hr5 => ?_)
  refine zr_astore_n (pc' := 7) cx rfl (lv' := [(1, .ref (zad Y r5)), (0, .ref (zad Y 300))]) dX2_dropOldest_6 rfl (by decide) rfl ?_
  refine zr_iconst (pc' := 8) cx rfl dX2_dropOldest_7 ?_
  refine zr_istore_n (pc' := 9) cx rfl (lv' := [(2, .int (i32 0)), (1, .ref (zad Y r5)), (0, .ref (zad Y 300))]) dX2_dropOldest_8 rfl (by decide) rfl ?_
  refine zr_sub [2, 1, 0] rfl ?_
  exact wX2_dropOldest_p9 cx zfu g r5 0 hr5
theorem mX2_dropOldest (l : Launch) (Y : zLy) (g : zSt)  : ∀ g2, fX2_dropOldest g = some g2 → zMt l yX2_dropOldest cX2_dropOldest 3 none 0 [.ref (zad Y 300)] Y g (zQv Y g2) := by
  intro g2 hv
  refine zmet_of RX2 rfl (by decide +kernel) (Nat.le_of_ble_eq_true rfl) ?_
  intro p e s m below meth c cx H locs ls hH hS hl
  exact wX2_dropOldest cx g   g2 hv H locs ls hH hS hl
theorem zc_X2_22 (cx : zCx Y p s m args meth c RX2 cc nl ret) (hpc : pc + 3 = pc') {g : zSt}   {fk : zSt → Option ρ} (hR : 0 + 1 ≤ R.frames ∧ 8 + (3 + 11) + 40 * 0 ≤ R.locals) (hkn : k ≤ R.cells ∧ n ≤ R.slots) (hrest : (rest.map fun v => v.category).sum ≤ 8) (hdg : decode cc pc = .ok (.invokevirtual 22, 3)) (kk : ∀ g2 : zSt, zWo Y p l e R s m args below meth c nl k n kq g2 lv (rest) pc' (fk g2)) : zWo Y p l e R s m args below meth c nl k n kq g lv (.ref (zad Y 300) :: rest) pc (zbd (fX2_dropOldest g) fk) := zr_callVvE cx (an := 0) (As := []) 3 zkc_300 (by decide) rfl (mX2_dropOldest l Y g) (zG_V zw_658 zw_660 zw_24 zw_32 zw_661) (by decide +kernel) hR hkn rfl rfl hrest hdg hpc kk
def fX3_copy_p10  : Nat → zSt → Nat → Nat → Int → Option zSt
  | 0, _, _, _, _ => none
  | fu + 1, g, c0, c1, a2 =>
    (if i32 a2 < i32 (g.1 c0 0) then
    zck ((0 : Int) ≤ a2 ∧ a2 < 16) (
    zck ((0 : Int) ≤ a2 ∧ a2 < 16) (zlet (zwr g (c0 + 1) (Int.toNat a2) (g.1 (c1 + 1) (Int.toNat a2))) (fun g1 =>
    zck ((0 : Int) ≤ a2 ∧ a2 < 16) (
    zck ((0 : Int) ≤ a2 ∧ a2 < 16) (zlet (zwr g1 (c0 + 2) (Int.toNat a2) (g1.1 (c1 + 2) (Int.toNat a2))) (fun g2 =>
    zck ((0 : Int) ≤ a2 ∧ a2 < 16) (
    zck ((0 : Int) ≤ a2 ∧ a2 < 16) (zck (((g2.1 (c1 + 3) (Int.toNat a2)) : Int) = 0 ∨ ((g2.1 (c1 + 3) (Int.toNat a2)) : Int) = 1) (zlet (zwr g2 (c0 + 3) (Int.toNat a2) (g2.1 (c1 + 3) (Int.toNat a2))) (fun g3 =>
    fX3_copy_p10 fu g3 c0 c1 (a2 + 1)))))))))))
    else
    some g)
def fX3_copy (g : zSt) (c0 : Nat) (c1 : Nat) : Option zSt :=
    zlet (zwr g c0 0 (g.1 c1 0)) (fun g4 =>
    fX3_copy_p10 zfu g4 c0 c1 0)
theorem wX3_copy_p10 (cx : zCx Y p s m args meth c RX3 cX3_copy 3 none)   : ∀ (fu : Nat) (g : zSt) (c0 : Nat) (c1 : Nat) (a2 : Int) (hc0 : zV Y c0 = 4) (hc1 : zV Y c1 = 4), zWo Y p l e (zrm 0) s m args below meth c 3 0 0 (fun g9 : zSt => MQ below (zQv Y g9) args s 0 0 (zA Y)) g [(0, .ref (zad Y c0)), (1, .ref (zad Y c1)), (2, .int (i32 a2))] ([]) 10 (fX3_copy_p10 fu g c0 c1 a2) := by
  intro fu
  induction fu with
  | zero => intro g c0 c1 a2 hc0 hc1; exact zr_none
  | succ fu ih =>
    intro g c0 c1 a2 hc0 hc1
    rw [fX3_copy_p10]
    refine zr_iload_n (pc' := 11) cx rfl 2 dX3_copy_10 rfl rfl ?_
    refine zr_aload_n (pc' := 12) cx rfl 0 dX3_copy_11 rfl rfl ?_
    refine zg_X3_9 (pc' := 15) cx rfl hc0 dX3_copy_12 ?_
    refine zr_icmp_ge (pc' := 18) cx rfl (tgt := 60) dX3_copy_15 rfl ?_ ?_
    · exact zr_vretE cx dX3_copy_60
    · refine zr_aload_n (pc' := 19) cx rfl 0 dX3_copy_18 rfl rfl ?_
      refine zg_X3_15 (pc' := 22) cx rfl (c2 := (c0 + 1)) hc0 rfl dX3_copy_19 ?_
      refine zr_iload_n (pc' := 23) cx rfl 2 dX3_copy_22 rfl rfl ?_
      refine zr_aload_n (pc' := 24) cx rfl 1 dX3_copy_23 rfl rfl ?_
      refine zg_X3_15 (pc' := 27) cx rfl (c2 := (c1 + 1)) hc1 rfl dX3_copy_24 ?_
      refine zr_iload_n (pc' := 28) cx rfl 2 dX3_copy_27 rfl rfl ?_
      refine zr_iald (pc' := 29) cx rfl 12 (zk4_1 hc1) (by decide) (L := 16) rfl dX3_copy_28 ?_
      refine zr_iast (pc' := 30) cx rfl 12 (zk4_1 hc0) (by decide) (L := 16) rfl dX3_copy_29 ?_
      refine zr_letS (fun g1 => ?_)
      refine zr_aload_n (pc' := 31) cx rfl 0 dX3_copy_30 rfl rfl ?_
      refine zg_X3_19 (pc' := 34) cx rfl (c2 := (c0 + 2)) hc0 rfl dX3_copy_31 ?_
      refine zr_iload_n (pc' := 35) cx rfl 2 dX3_copy_34 rfl rfl ?_
      refine zr_aload_n (pc' := 36) cx rfl 1 dX3_copy_35 rfl rfl ?_
      refine zg_X3_19 (pc' := 39) cx rfl (c2 := (c1 + 2)) hc1 rfl dX3_copy_36 ?_
      refine zr_iload_n (pc' := 40) cx rfl 2 dX3_copy_39 rfl rfl ?_
      refine zr_iald (pc' := 41) cx rfl 12 (zk4_2 hc1) (by decide) (L := 16) rfl dX3_copy_40 ?_
      refine zr_iast (pc' := 42) cx rfl 12 (zk4_2 hc0) (by decide) (L := 16) rfl dX3_copy_41 ?_
      refine zr_letS (fun g2 => ?_)
      refine zr_aload_n (pc' := 43) cx rfl 0 dX3_copy_42 rfl rfl ?_
      refine zg_X3_22 (pc' := 46) cx rfl (c2 := (c0 + 3)) hc0 rfl dX3_copy_43 ?_
      refine zr_iload_n (pc' := 47) cx rfl 2 dX3_copy_46 rfl rfl ?_
      refine zr_aload_n (pc' := 48) cx rfl 1 dX3_copy_47 rfl rfl ?_
      refine zg_X3_22 (pc' := 51) cx rfl (c2 := (c1 + 3)) hc1 rfl dX3_copy_48 ?_
      refine zr_iload_n (pc' := 52) cx rfl 2 dX3_copy_51 rfl rfl ?_
      refine zr_bald (pc' := 53) cx rfl 22 (zk4_3 hc1) (by decide) (L := 16) rfl dX3_copy_52 ?_
      refine zr_bast (pc' := 54) cx rfl 22 (zk4_3 hc0) (by decide) (L := 16) rfl dX3_copy_53 ?_
      refine zr_letS (fun g3 => ?_)
      refine zr_iinc (pc' := 57) cx rfl (lv' := [(2, .int (i32 (a2 + 1))), (0, .ref (zad Y c0)), (1, .ref (zad Y c1))]) 2 dX3_copy_54 rfl (by decide) rfl ?_
      refine zr_goto cx (tgt := 10) dX3_copy_57 rfl ?_
      refine zr_sub [1, 2, 0] rfl ?_
      exact ih g3 c0 c1 (a2 + 1) hc0 hc1
theorem wX3_copy (cx : zCx Y p s m args meth c RX3 cX3_copy 3 none) (g : zSt) (c0 : Nat) (c1 : Nat) (hc0 : zV Y c0 = 4) (hc1 : zV Y c1 = 4) : zWo Y p l e (zrm 0) s m args below meth c 3 0 0 (fun g9 : zSt => MQ below (zQv Y g9) args s 0 0 (zA Y)) g [(0, .ref (zad Y c0)), (1, .ref (zad Y c1))] ([]) 0 (fX3_copy g c0 c1) := by
  unfold fX3_copy
  refine zr_aload_n (pc' := 1) cx rfl 0 dX3_copy_0 rfl rfl ?_
  refine zr_aload_n (pc' := 2) cx rfl 1 dX3_copy_1 rfl rfl ?_
  refine zg_X3_9 (pc' := 5) cx rfl hc1 dX3_copy_2 ?_
  refine zp_X3_9 (pc' := 8) cx rfl hc0 dX3_copy_5 ?_
  refine zr_letS (fun g4 => ?_)
  refine zr_iconst (pc' := 9) cx rfl dX3_copy_8 ?_
  refine zr_istore_n (pc' := 10) cx rfl (lv' := [(2, .int (i32 0)), (0, .ref (zad Y c0)), (1, .ref (zad Y c1))]) dX3_copy_9 rfl (by decide) rfl ?_
  refine zr_sub [1, 2, 0] rfl ?_
  exact wX3_copy_p10 cx zfu g4 c0 c1 0 hc0 hc1
theorem mX3_copy (l : Launch) (Y : zLy) (g : zSt) (c0 : Nat) (c1 : Nat) (hc0 : zV Y c0 = 4) (hc1 : zV Y c1 = 4) : ∀ g2, fX3_copy g c0 c1 = some g2 → zMt l yX3_copy cX3_copy 3 none 0 [.ref (zad Y c0), .ref (zad Y c1)] Y g (zQv Y g2) := by
  intro g2 hv
  refine zmet_of RX3 rfl (by decide +kernel) (Nat.le_of_ble_eq_true rfl) ?_
  intro p e s m below meth c cx H locs ls hH hS hl
  exact wX3_copy cx g c0 c1 hc0 hc1 g2 hv H locs ls hH hS hl
theorem zc_X5_52 (cx : zCx Y p s m args meth c RX5 cc nl ret) (hpc : pc + 3 = pc') {g : zSt} {c0 : Nat} {c1 : Nat} (hc0 : zV Y c0 = 4) (hc1 : zV Y c1 = 4) {fk : zSt → Option ρ} (hR : 0 + 1 ≤ R.frames ∧ 8 + (3 + 11) + 40 * 0 ≤ R.locals) (hkn : k ≤ R.cells ∧ n ≤ R.slots) (hrest : (rest.map fun v => v.category).sum ≤ 8) (hdg : decode cc pc = .ok (.invokevirtual 52, 3)) (kk : ∀ g2 : zSt, zWo Y p l e R s m args below meth c nl k n kq g2 lv (rest) pc' (fk g2)) : zWo Y p l e R s m args below meth c nl k n kq g lv (.ref (zad Y c1) :: .ref (zad Y c0) :: rest) pc (zbd (fX3_copy g c0 c1) fk) := zr_callVvE cx (an := 1) (As := [.ref (zad Y c1)]) 4 hc0 (by decide) rfl (mX3_copy l Y g c0 c1 hc0 hc1) (zG_V zw_536 zw_537 zw_538 zw_29 zw_539) (by decide +kernel) hR hkn rfl rfl hrest hdg hpc kk
def fX5_copy (g : zSt) (c0 : Nat) (c1 : Nat) : Option zSt :=
    zbd (fX0_copy g (c0 + 1) (c1 + 1)) (fun g1 =>
    zbd (fX3_copy g1 (c0 + 7) (c1 + 7)) (fun g2 =>
    zbd (fX1_copy g2 (c0 + 11) (c1 + 11)) (fun g3 =>
    zlet (zwr g3 c0 3 (g3.1 c1 3)) (fun g4 =>
    zlet (zwr g4 c0 4 (g4.1 c1 4)) (fun g5 =>
    zlet (zwr g5 c0 5 (g5.1 c1 5)) (fun g6 =>
    zlet (zwr g6 c0 6 (g6.1 c1 6)) (fun g7 =>
    zlet (zwr g7 c0 7 (g7.1 c1 7)) (fun g8 =>
    some g8))))))))
theorem wX5_copy (cx : zCx Y p s m args meth c RX5 cX5_copy 2 none) (g : zSt) (c0 : Nat) (c1 : Nat) (hc0 : zV Y c0 = 6) (hc1 : zV Y c1 = 6) : zWo Y p l e (zrm 1) s m args below meth c 2 0 0 (fun g9 : zSt => MQ below (zQv Y g9) args s 0 0 (zA Y)) g [(0, .ref (zad Y c0)), (1, .ref (zad Y c1))] ([]) 0 (fX5_copy g c0 c1) := by
  unfold fX5_copy
  refine zr_aload_n (pc' := 1) cx rfl 0 dX5_copy_0 rfl rfl ?_
  refine zg_X5_12 (pc' := 4) cx rfl (c2 := (c0 + 1)) hc0 rfl dX5_copy_1 ?_
  refine zr_aload_n (pc' := 5) cx rfl 1 dX5_copy_4 rfl rfl ?_
  refine zg_X5_12 (pc' := 8) cx rfl (c2 := (c1 + 1)) hc1 rfl dX5_copy_5 ?_
  refine zc_X5_48 (pc' := 11) cx rfl (zk6_1 hc0) (zk6_1 hc1) ⟨Nat.le_of_ble_eq_true rfl, Nat.le_of_ble_eq_true rfl⟩ ⟨Nat.zero_le _, Nat.zero_le _⟩ (Nat.le_of_ble_eq_true rfl) dX5_copy_8 (fun g1 => ?_)
  refine zr_aload_n (pc' := 12) cx rfl 0 dX5_copy_11 rfl rfl ?_
  refine zg_X5_21 (pc' := 15) cx rfl (c2 := (c0 + 7)) hc0 rfl dX5_copy_12 ?_
  refine zr_aload_n (pc' := 16) cx rfl 1 dX5_copy_15 rfl rfl ?_
  refine zg_X5_21 (pc' := 19) cx rfl (c2 := (c1 + 7)) hc1 rfl dX5_copy_16 ?_
  refine zc_X5_52 (pc' := 22) cx rfl (zk6_7 hc0) (zk6_7 hc1) ⟨Nat.le_of_ble_eq_true rfl, Nat.le_of_ble_eq_true rfl⟩ ⟨Nat.zero_le _, Nat.zero_le _⟩ (Nat.le_of_ble_eq_true rfl) dX5_copy_19 (fun g2 => ?_)
  refine zr_aload_n (pc' := 23) cx rfl 0 dX5_copy_22 rfl rfl ?_
  refine zg_X5_28 (pc' := 26) cx rfl (c2 := (c0 + 11)) hc0 rfl dX5_copy_23 ?_
  refine zr_aload_n (pc' := 27) cx rfl 1 dX5_copy_26 rfl rfl ?_
  refine zg_X5_28 (pc' := 30) cx rfl (c2 := (c1 + 11)) hc1 rfl dX5_copy_27 ?_
  refine zc_X5_55 (pc' := 33) cx rfl (zk6_11 hc0) (zk6_11 hc1) ⟨Nat.le_of_ble_eq_true rfl, Nat.le_of_ble_eq_true rfl⟩ ⟨Nat.zero_le _, Nat.zero_le _⟩ (Nat.le_of_ble_eq_true rfl) dX5_copy_30 (fun g3 => ?_)
  refine zr_aload_n (pc' := 34) cx rfl 0 dX5_copy_33 rfl rfl ?_
  refine zr_aload_n (pc' := 35) cx rfl 1 dX5_copy_34 rfl rfl ?_
  refine zg_X5_32 (pc' := 38) cx rfl hc1 dX5_copy_35 ?_
  refine zp_X5_32 (pc' := 41) cx rfl hc0 dX5_copy_38 ?_
  refine zr_letS (fun g4 => ?_)
  refine zr_aload_n (pc' := 42) cx rfl 0 dX5_copy_41 rfl rfl ?_
  refine zr_aload_n (pc' := 43) cx rfl 1 dX5_copy_42 rfl rfl ?_
  refine zg_X5_36 (pc' := 46) cx rfl hc1 dX5_copy_43 ?_
  refine zp_X5_36 (pc' := 49) cx rfl hc0 dX5_copy_46 ?_
  refine zr_letS (fun g5 => ?_)
  refine zr_aload_n (pc' := 50) cx rfl 0 dX5_copy_49 rfl rfl ?_
  refine zr_aload_n (pc' := 51) cx rfl 1 dX5_copy_50 rfl rfl ?_
  refine zg_X5_39 (pc' := 54) cx rfl hc1 dX5_copy_51 ?_
  refine zp_X5_39 (pc' := 57) cx rfl hc0 dX5_copy_54 ?_
  refine zr_letS (fun g6 => ?_)
  refine zr_aload_n (pc' := 58) cx rfl 0 dX5_copy_57 rfl rfl ?_
  refine zr_aload_n (pc' := 59) cx rfl 1 dX5_copy_58 rfl rfl ?_
  refine zg_X5_42 (pc' := 62) cx rfl hc1 dX5_copy_59 ?_
  refine zp_X5_42 (pc' := 65) cx rfl hc0 dX5_copy_62 ?_
  refine zr_letS (fun g7 => ?_)
  refine zr_aload_n (pc' := 66) cx rfl 0 dX5_copy_65 rfl rfl ?_
  refine zr_aload_n (pc' := 67) cx rfl 1 dX5_copy_66 rfl rfl ?_
  refine zg_X5_45 (pc' := 70) cx rfl hc1 dX5_copy_67 ?_
  refine zp_X5_45 (pc' := 73) cx rfl hc0 dX5_copy_70 ?_
  refine zr_letS (fun g8 => ?_)
  exact zr_vretE cx dX5_copy_73
theorem mX5_copy (l : Launch) (Y : zLy) (g : zSt) (c0 : Nat) (c1 : Nat) (hc0 : zV Y c0 = 6) (hc1 : zV Y c1 = 6) : ∀ g2, fX5_copy g c0 c1 = some g2 → zMt l yX5_copy cX5_copy 2 none 1 [.ref (zad Y c0), .ref (zad Y c1)] Y g (zQv Y g2) := by
  intro g2 hv
  refine zmet_of RX5 rfl (by decide +kernel) (Nat.le_of_ble_eq_true rfl) ?_
  intro p e s m below meth c cx H locs ls hH hS hl
  exact wX5_copy cx g c0 c1 hc0 hc1 g2 hv H locs ls hH hS hl
theorem zc_X7_283 (cx : zCx Y p s m args meth c RX7 cc nl ret) (hpc : pc + 3 = pc') {g : zSt} {c0 : Nat} {c1 : Nat} (hc0 : zV Y c0 = 6) (hc1 : zV Y c1 = 6) {fk : zSt → Option ρ} (hR : 1 + 1 ≤ R.frames ∧ 8 + (2 + 11) + 40 * 1 ≤ R.locals) (hkn : k ≤ R.cells ∧ n ≤ R.slots) (hrest : (rest.map fun v => v.category).sum ≤ 8) (hdg : decode cc pc = .ok (.invokevirtual 283, 3)) (kk : ∀ g2 : zSt, zWo Y p l e R s m args below meth c nl k n kq g2 lv (rest) pc' (fk g2)) : zWo Y p l e R s m args below meth c nl k n kq g lv (.ref (zad Y c1) :: .ref (zad Y c0) :: rest) pc (zbd (fX5_copy g c0 c1) fk) := zr_callVvE cx (an := 1) (As := [.ref (zad Y c1)]) 6 hc0 (by decide) rfl (mX5_copy l Y g c0 c1 hc0 hc1) (zG_V zw_528 zw_529 zw_530 zw_27 zw_531) (by decide +kernel) hR hkn rfl rfl hrest hdg hpc kk
theorem zc_X2_25 (cx : zCx Y p s m args meth c RX2 cc nl ret) (hpc : pc + 3 = pc') {g : zSt} {c0 : Nat} {c1 : Nat} (hc0 : zV Y c0 = 6) (hc1 : zV Y c1 = 6) {fk : zSt → Option ρ} (hR : 1 + 1 ≤ R.frames ∧ 8 + (2 + 11) + 40 * 1 ≤ R.locals) (hkn : k ≤ R.cells ∧ n ≤ R.slots) (hrest : (rest.map fun v => v.category).sum ≤ 8) (hdg : decode cc pc = .ok (.invokevirtual 25, 3)) (kk : ∀ g2 : zSt, zWo Y p l e R s m args below meth c nl k n kq g2 lv (rest) pc' (fk g2)) : zWo Y p l e R s m args below meth c nl k n kq g lv (.ref (zad Y c1) :: .ref (zad Y c0) :: rest) pc (zbd (fX5_copy g c0 c1) fk) := zr_callVvE cx (an := 1) (As := [.ref (zad Y c1)]) 6 hc0 (by decide) rfl (mX5_copy l Y g c0 c1 hc0 hc1) (zG_V zw_662 zw_529 zw_530 zw_27 zw_531) (by decide +kernel) hR hkn rfl rfl hrest hdg hpc kk
def fX2_save_p13  (g : zSt) (c1 : Nat) : Option zSt :=
    zck ((0 : Int) ≤ (g.1 300 0) ∧ (g.1 300 0) < 6) (zck (zK (g.2.1 (Int.toNat (g.1 300 0))) = 6) (zlet (g.2.1 (Int.toNat (g.1 300 0))) (fun r1 =>
    zbd (fX5_copy g r1 c1) (fun g2 =>
    zlet (zwr g2 300 0 ((g2.1 300 0) + 1)) (fun g3 =>
    some g3)))))
def fX2_save (g : zSt) (c1 : Nat) : Option zSt :=
    (if i32 (g.1 300 0) < i32 6 then
    fX2_save_p13 g c1
    else
    zbd (fX2_dropOldest g) (fun g4 =>
    fX2_save_p13 g4 c1))
theorem wX2_save_p13 (cx : zCx Y p s m args meth c RX2 cX2_save 2 none)   : ∀ (g : zSt) (c1 : Nat) (hc1 : zV Y c1 = 6), zWo Y p l e (zrm 2) s m args below meth c 2 0 0 (fun g9 : zSt => MQ below (zQv Y g9) args s 0 0 (zA Y)) g [(0, .ref (zad Y 300)), (1, .ref (zad Y c1))] ([]) 13 (fX2_save_p13 g c1) := by
  intro g c1 hc1
  unfold fX2_save_p13
  refine zr_aload_n (pc' := 14) cx rfl 0 dX2_save_13 rfl rfl ?_
  refine zg_X2_17 (pc' := 17) cx rfl (c2 := 301) zkc_300 rfl dX2_save_14 ?_
  refine zr_aload_n (pc' := 18) cx rfl 0 dX2_save_17 rfl rfl ?_
  refine zg_X2_9 (pc' := 21) cx rfl zkc_300 dX2_save_18 ?_
  refine zr_aald (pc' := 22) cx rfl zkc_301 dX2_save_21 (fun hr1 => ?_)
  refine zr_letr hr1 (fun r1 hr1 => ?_)
  refine zr_aload_n (pc' := 23) cx rfl 1 dX2_save_22 rfl rfl ?_
  refine zc_X2_25 (pc' := 26) cx rfl hr1 hc1 ⟨Nat.le_of_ble_eq_true rfl, Nat.le_of_ble_eq_true rfl⟩ ⟨Nat.zero_le _, Nat.zero_le _⟩ (Nat.le_of_ble_eq_true rfl) dX2_save_23 (fun g2 => ?_)
  refine zr_aload_n (pc' := 27) cx rfl 0 dX2_save_26 rfl rfl ?_
  refine zr_dup (pc' := 28) cx rfl dX2_save_27 rfl ?_
  refine zg_X2_9 (pc' := 31) cx rfl zkc_300 dX2_save_28 ?_
  refine zr_iconst (pc' := 32) cx rfl dX2_save_31 ?_
  refine zr_iadd (pc' := 33) cx rfl dX2_save_32 ?_
  refine zp_X2_9 (pc' := 36) cx rfl zkc_300 dX2_save_33 ?_
  refine zr_letS (fun g3 => ?_)
  exact zr_vretE cx dX2_save_36
theorem wX2_save (cx : zCx Y p s m args meth c RX2 cX2_save 2 none) (g : zSt) (c1 : Nat) (hc1 : zV Y c1 = 6) : zWo Y p l e (zrm 2) s m args below meth c 2 0 0 (fun g9 : zSt => MQ below (zQv Y g9) args s 0 0 (zA Y)) g [(0, .ref (zad Y 300)), (1, .ref (zad Y c1))] ([]) 0 (fX2_save g c1) := by
  unfold fX2_save
  refine zr_aload_n (pc' := 1) cx rfl 0 dX2_save_0 rfl rfl ?_
  refine zg_X2_9 (pc' := 4) cx rfl zkc_300 dX2_save_1 ?_
  refine zr_bipush (pc' := 6) cx rfl dX2_save_4 (by decide +kernel) ?_
  refine zr_icmp_lt (pc' := 9) cx rfl (tgt := 13) dX2_save_6 rfl ?_ ?_
  · refine zr_sub [0, 1] rfl ?_
    exact wX2_save_p13 cx g c1 hc1
  · refine zr_aload_n (pc' := 10) cx rfl 0 dX2_save_9 rfl rfl ?_
    refine zc_X2_22 (pc' := 13) cx rfl  ⟨Nat.le_of_ble_eq_true rfl, Nat.le_of_ble_eq_true rfl⟩ ⟨Nat.zero_le _, Nat.zero_le _⟩ (Nat.le_of_ble_eq_true rfl) dX2_save_10 (fun g4 => ?_)
    refine zr_sub [0, 1] rfl ?_
    exact wX2_save_p13 cx g4 c1 hc1
theorem mX2_save (l : Launch) (Y : zLy) (g : zSt) (c1 : Nat) (hc1 : zV Y c1 = 6) : ∀ g2, fX2_save g c1 = some g2 → zMt l yX2_save cX2_save 2 none 2 [.ref (zad Y 300), .ref (zad Y c1)] Y g (zQv Y g2) := by
  intro g2 hv
  refine zmet_of RX2 rfl (by decide +kernel) (Nat.le_of_ble_eq_true rfl) ?_
  intro p e s m below meth c cx H locs ls hH hS hl
  exact wX2_save cx g c1 hc1 g2 hv H locs ls hH hS hl
theorem zc_X7_87 (cx : zCx Y p s m args meth c RX7 cc nl ret) (hpc : pc + 3 = pc') {g : zSt} {c1 : Nat} (hc1 : zV Y c1 = 6) {fk : zSt → Option ρ} (hR : 2 + 1 ≤ R.frames ∧ 8 + (2 + 11) + 40 * 2 ≤ R.locals) (hkn : k ≤ R.cells ∧ n ≤ R.slots) (hrest : (rest.map fun v => v.category).sum ≤ 8) (hdg : decode cc pc = .ok (.invokevirtual 87, 3)) (kk : ∀ g2 : zSt, zWo Y p l e R s m args below meth c nl k n kq g2 lv (rest) pc' (fk g2)) : zWo Y p l e R s m args below meth c nl k n kq g lv (.ref (zad Y c1) :: .ref (zad Y 300) :: rest) pc (zbd (fX2_save g c1) fk) := zr_callVvE cx (an := 1) (As := [.ref (zad Y c1)]) 3 zkc_300 (by decide) rfl (mX2_save l Y g c1 hc1) (zG_V zw_654 zw_655 zw_656 zw_32 zw_657) (by decide +kernel) hR hkn rfl rfl hrest hdg hpc kk
def fX3_add (g : zSt) (c0 : Nat) (a1 : Int) (a2 : Int) (a3 : Int) : Option zSt :=
    (if i32 (g.1 c0 0) < i32 16 then
    zck ((0 : Int) ≤ (g.1 c0 0) ∧ (g.1 c0 0) < 16) (zlet (zwr g (c0 + 1) (Int.toNat (g.1 c0 0)) a1) (fun g1 =>
    zck ((0 : Int) ≤ (g1.1 c0 0) ∧ (g1.1 c0 0) < 16) (zlet (zwr g1 (c0 + 2) (Int.toNat (g1.1 c0 0)) a2) (fun g2 =>
    zck ((0 : Int) ≤ (g2.1 c0 0) ∧ (g2.1 c0 0) < 16) (zck ((a3 : Int) = 0 ∨ (a3 : Int) = 1) (zlet (zwr g2 (c0 + 3) (Int.toNat (g2.1 c0 0)) a3) (fun g3 =>
    zlet (zwr g3 c0 0 ((g3.1 c0 0) + 1)) (fun g4 =>
    some g4))))))))
    else
    some g)
theorem wX3_add (cx : zCx Y p s m args meth c RX3 cX3_add 4 none) (g : zSt) (c0 : Nat) (a1 : Int) (a2 : Int) (a3 : Int) (hc0 : zV Y c0 = 4) : zWo Y p l e (zrm 0) s m args below meth c 4 0 0 (fun g9 : zSt => MQ below (zQv Y g9) args s 0 0 (zA Y)) g [(0, .ref (zad Y c0)), (1, .int (i32 a1)), (2, .int (i32 a2)), (3, .int (i32 a3))] ([]) 0 (fX3_add g c0 a1 a2 a3) := by
  unfold fX3_add
  refine zr_aload_n (pc' := 1) cx rfl 0 dX3_add_0 rfl rfl ?_
  refine zg_X3_9 (pc' := 4) cx rfl hc0 dX3_add_1 ?_
  refine zr_bipush (pc' := 6) cx rfl dX3_add_4 (by decide +kernel) ?_
  refine zr_icmp_lt (pc' := 9) cx rfl (tgt := 10) dX3_add_6 rfl ?_ ?_
  · refine zr_aload_n (pc' := 11) cx rfl 0 dX3_add_10 rfl rfl ?_
    refine zg_X3_15 (pc' := 14) cx rfl (c2 := (c0 + 1)) hc0 rfl dX3_add_11 ?_
    refine zr_aload_n (pc' := 15) cx rfl 0 dX3_add_14 rfl rfl ?_
    refine zg_X3_9 (pc' := 18) cx rfl hc0 dX3_add_15 ?_
    refine zr_iload_n (pc' := 19) cx rfl 1 dX3_add_18 rfl rfl ?_
    refine zr_iast (pc' := 20) cx rfl 12 (zk4_1 hc0) (by decide) (L := 16) rfl dX3_add_19 ?_
    refine zr_letS (fun g1 => ?_)
    refine zr_aload_n (pc' := 21) cx rfl 0 dX3_add_20 rfl rfl ?_
    refine zg_X3_19 (pc' := 24) cx rfl (c2 := (c0 + 2)) hc0 rfl dX3_add_21 ?_
    refine zr_aload_n (pc' := 25) cx rfl 0 dX3_add_24 rfl rfl ?_
    refine zg_X3_9 (pc' := 28) cx rfl hc0 dX3_add_25 ?_
    refine zr_iload_n (pc' := 29) cx rfl 2 dX3_add_28 rfl rfl ?_
    refine zr_iast (pc' := 30) cx rfl 12 (zk4_2 hc0) (by decide) (L := 16) rfl dX3_add_29 ?_
    refine zr_letS (fun g2 => ?_)
    refine zr_aload_n (pc' := 31) cx rfl 0 dX3_add_30 rfl rfl ?_
    refine zg_X3_22 (pc' := 34) cx rfl (c2 := (c0 + 3)) hc0 rfl dX3_add_31 ?_
    refine zr_aload_n (pc' := 35) cx rfl 0 dX3_add_34 rfl rfl ?_
    refine zg_X3_9 (pc' := 38) cx rfl hc0 dX3_add_35 ?_
    refine zr_iload_n (pc' := 39) cx rfl 3 dX3_add_38 rfl rfl ?_
    refine zr_bast (pc' := 40) cx rfl 22 (zk4_3 hc0) (by decide) (L := 16) rfl dX3_add_39 ?_
    refine zr_letS (fun g3 => ?_)
    refine zr_aload_n (pc' := 41) cx rfl 0 dX3_add_40 rfl rfl ?_
    refine zr_dup (pc' := 42) cx rfl dX3_add_41 rfl ?_
    refine zg_X3_9 (pc' := 45) cx rfl hc0 dX3_add_42 ?_
    refine zr_iconst (pc' := 46) cx rfl dX3_add_45 ?_
    refine zr_iadd (pc' := 47) cx rfl dX3_add_46 ?_
    refine zp_X3_9 (pc' := 50) cx rfl hc0 dX3_add_47 ?_
    refine zr_letS (fun g4 => ?_)
    exact zr_vretE cx dX3_add_50
  · exact zr_vretE cx dX3_add_9
theorem mX3_add (l : Launch) (Y : zLy) (g : zSt) (c0 : Nat) (a1 : Int) (a2 : Int) (a3 : Int) (hc0 : zV Y c0 = 4) : ∀ g2, fX3_add g c0 a1 a2 a3 = some g2 → zMt l yX3_add cX3_add 4 none 0 [.ref (zad Y c0), .int (i32 a1), .int (i32 a2), .int (i32 a3)] Y g (zQv Y g2) := by
  intro g2 hv
  refine zmet_of RX3 rfl (by decide +kernel) (Nat.le_of_ble_eq_true rfl) ?_
  intro p e s m below meth c cx H locs ls hH hS hl
  exact wX3_add cx g c0 a1 a2 a3 hc0 g2 hv H locs ls hH hS hl
theorem zc_X7_153 (cx : zCx Y p s m args meth c RX7 cc nl ret) (hpc : pc + 3 = pc') {g : zSt} {c0 : Nat} {a1 : Int} {a2 : Int} {a3 : Int} (hc0 : zV Y c0 = 4) {fk : zSt → Option ρ} (hR : 0 + 1 ≤ R.frames ∧ 8 + (4 + 11) + 40 * 0 ≤ R.locals) (hkn : k ≤ R.cells ∧ n ≤ R.slots) (hrest : (rest.map fun v => v.category).sum ≤ 8) (hdg : decode cc pc = .ok (.invokevirtual 153, 3)) (kk : ∀ g2 : zSt, zWo Y p l e R s m args below meth c nl k n kq g2 lv (rest) pc' (fk g2)) : zWo Y p l e R s m args below meth c nl k n kq g lv (.int (i32 a3) :: .int (i32 a2) :: .int (i32 a1) :: .ref (zad Y c0) :: rest) pc (zbd (fX3_add g c0 a1 a2 a3) fk) := zr_callVvE cx (an := 3) (As := [.int (i32 a1), .int (i32 a2), .int (i32 a3)]) 4 hc0 (by decide) rfl (mX3_add l Y g c0 a1 a2 a3 hc0) (zG_V zw_673 zw_674 zw_675 zw_29 zw_676) (by decide +kernel) hR hkn rfl rfl hrest hdg hpc kk
def fX3_remove_p2  : Nat → zSt → Nat → Int → Option zSt
  | 0, _, _, _ => none
  | fu + 1, g, c0, a2 =>
    (if i32 a2 < i32 ((g.1 c0 0) - 1) then
    zck ((0 : Int) ≤ (a2 + 1) ∧ (a2 + 1) < 16) (
    zck ((0 : Int) ≤ a2 ∧ a2 < 16) (zlet (zwr g (c0 + 1) (Int.toNat a2) (g.1 (c0 + 1) (Int.toNat (a2 + 1)))) (fun g2 =>
    zck ((0 : Int) ≤ (a2 + 1) ∧ (a2 + 1) < 16) (
    zck ((0 : Int) ≤ a2 ∧ a2 < 16) (zlet (zwr g2 (c0 + 2) (Int.toNat a2) (g2.1 (c0 + 2) (Int.toNat (a2 + 1)))) (fun g3 =>
    zck ((0 : Int) ≤ (a2 + 1) ∧ (a2 + 1) < 16) (
    zck ((0 : Int) ≤ a2 ∧ a2 < 16) (zck (((g3.1 (c0 + 3) (Int.toNat (a2 + 1))) : Int) = 0 ∨ ((g3.1 (c0 + 3) (Int.toNat (a2 + 1))) : Int) = 1) (zlet (zwr g3 (c0 + 3) (Int.toNat a2) (g3.1 (c0 + 3) (Int.toNat (a2 + 1)))) (fun g4 =>
    fX3_remove_p2 fu g4 c0 (a2 + 1)))))))))))
    else
    zlet (zwr g c0 0 ((g.1 c0 0) - 1)) (fun g1 =>
    some g1))
def fX3_remove (g : zSt) (c0 : Nat) (a1 : Int) : Option zSt :=
    fX3_remove_p2 zfu g c0 a1
theorem wX3_remove_p2 (cx : zCx Y p s m args meth c RX3 cX3_remove 3 none)   : ∀ (fu : Nat) (g : zSt) (c0 : Nat) (a2 : Int) (hc0 : zV Y c0 = 4), zWo Y p l e (zrm 0) s m args below meth c 3 0 0 (fun g9 : zSt => MQ below (zQv Y g9) args s 0 0 (zA Y)) g [(0, .ref (zad Y c0)), (2, .int (i32 a2))] ([]) 2 (fX3_remove_p2 fu g c0 a2) := by
  intro fu
  induction fu with
  | zero => intro g c0 a2 hc0; exact zr_none
  | succ fu ih =>
    intro g c0 a2 hc0
    rw [fX3_remove_p2]
    refine zr_iload_n (pc' := 3) cx rfl 1 dX3_remove_2 rfl rfl ?_
    refine zr_aload_n (pc' := 4) cx rfl 0 dX3_remove_3 rfl rfl ?_
    refine zg_X3_9 (pc' := 7) cx rfl hc0 dX3_remove_4 ?_
    refine zr_iconst (pc' := 8) cx rfl dX3_remove_7 ?_
    refine zr_isub (pc' := 9) cx rfl dX3_remove_8 ?_
    refine zr_icmp_ge (pc' := 12) cx rfl (tgt := 60) dX3_remove_9 rfl ?_ ?_
    · refine zr_aload_n (pc' := 61) cx rfl 0 dX3_remove_60 rfl rfl ?_
      refine zr_dup (pc' := 62) cx rfl dX3_remove_61 rfl ?_
      refine zg_X3_9 (pc' := 65) cx rfl hc0 dX3_remove_62 ?_
      refine zr_iconst (pc' := 66) cx rfl dX3_remove_65 ?_
      refine zr_isub (pc' := 67) cx rfl dX3_remove_66 ?_
      refine zp_X3_9 (pc' := 70) cx rfl hc0 dX3_remove_67 ?_
      refine zr_letS (fun g1 => ?_)
      exact zr_vretE cx dX3_remove_70
    · refine zr_aload_n (pc' := 13) cx rfl 0 dX3_remove_12 rfl rfl ?_
      refine zg_X3_15 (pc' := 16) cx rfl (c2 := (c0 + 1)) hc0 rfl dX3_remove_13 ?_
      refine zr_iload_n (pc' := 17) cx rfl 1 dX3_remove_16 rfl rfl ?_
      refine zr_aload_n (pc' := 18) cx rfl 0 dX3_remove_17 rfl rfl ?_
      refine zg_X3_15 (pc' := 21) cx rfl (c2 := (c0 + 1)) hc0 rfl dX3_remove_18 ?_
      refine zr_iload_n (pc' := 22) cx rfl 1 dX3_remove_21 rfl rfl ?_
      refine zr_iconst (pc' := 23) cx rfl dX3_remove_22 ?_
      refine zr_iadd (pc' := 24) cx rfl dX3_remove_23 ?_
      refine zr_iald (pc' := 25) cx rfl 12 (zk4_1 hc0) (by decide) (L := 16) rfl dX3_remove_24 ?_
      refine zr_iast (pc' := 26) cx rfl 12 (zk4_1 hc0) (by decide) (L := 16) rfl dX3_remove_25 ?_
      refine zr_letS (fun g2 => ?_)
      refine zr_aload_n (pc' := 27) cx rfl 0 dX3_remove_26 rfl rfl ?_
      refine zg_X3_19 (pc' := 30) cx rfl (c2 := (c0 + 2)) hc0 rfl dX3_remove_27 ?_
      refine zr_iload_n (pc' := 31) cx rfl 1 dX3_remove_30 rfl rfl ?_
      refine zr_aload_n (pc' := 32) cx rfl 0 dX3_remove_31 rfl rfl ?_
      refine zg_X3_19 (pc' := 35) cx rfl (c2 := (c0 + 2)) hc0 rfl dX3_remove_32 ?_
      refine zr_iload_n (pc' := 36) cx rfl 1 dX3_remove_35 rfl rfl ?_
      refine zr_iconst (pc' := 37) cx rfl dX3_remove_36 ?_
      refine zr_iadd (pc' := 38) cx rfl dX3_remove_37 ?_
      refine zr_iald (pc' := 39) cx rfl 12 (zk4_2 hc0) (by decide) (L := 16) rfl dX3_remove_38 ?_
      refine zr_iast (pc' := 40) cx rfl 12 (zk4_2 hc0) (by decide) (L := 16) rfl dX3_remove_39 ?_
      refine zr_letS (fun g3 => ?_)
      refine zr_aload_n (pc' := 41) cx rfl 0 dX3_remove_40 rfl rfl ?_
      refine zg_X3_22 (pc' := 44) cx rfl (c2 := (c0 + 3)) hc0 rfl dX3_remove_41 ?_
      refine zr_iload_n (pc' := 45) cx rfl 1 dX3_remove_44 rfl rfl ?_
      refine zr_aload_n (pc' := 46) cx rfl 0 dX3_remove_45 rfl rfl ?_
      refine zg_X3_22 (pc' := 49) cx rfl (c2 := (c0 + 3)) hc0 rfl dX3_remove_46 ?_
      refine zr_iload_n (pc' := 50) cx rfl 1 dX3_remove_49 rfl rfl ?_
      refine zr_iconst (pc' := 51) cx rfl dX3_remove_50 ?_
      refine zr_iadd (pc' := 52) cx rfl dX3_remove_51 ?_
      refine zr_bald (pc' := 53) cx rfl 22 (zk4_3 hc0) (by decide) (L := 16) rfl dX3_remove_52 ?_
      refine zr_bast (pc' := 54) cx rfl 22 (zk4_3 hc0) (by decide) (L := 16) rfl dX3_remove_53 ?_
      refine zr_letS (fun g4 => ?_)
      refine zr_iinc (pc' := 57) cx rfl (lv' := [(2, .int (i32 (a2 + 1))), (0, .ref (zad Y c0))]) 1 dX3_remove_54 rfl (by decide) rfl ?_
      refine zr_goto cx (tgt := 2) dX3_remove_57 rfl ?_
      refine zr_sub [1, 0] rfl ?_
      exact ih g4 c0 (a2 + 1) hc0
theorem wX3_remove (cx : zCx Y p s m args meth c RX3 cX3_remove 3 none) (g : zSt) (c0 : Nat) (a1 : Int) (hc0 : zV Y c0 = 4) : zWo Y p l e (zrm 0) s m args below meth c 3 0 0 (fun g9 : zSt => MQ below (zQv Y g9) args s 0 0 (zA Y)) g [(0, .ref (zad Y c0)), (1, .int (i32 a1))] ([]) 0 (fX3_remove g c0 a1) := by
  unfold fX3_remove
  refine zr_iload_n (pc' := 1) cx rfl 1 dX3_remove_0 rfl rfl ?_
  refine zr_istore_n (pc' := 2) cx rfl (lv' := [(2, .int (i32 a1)), (0, .ref (zad Y c0)), (1, .int (i32 a1))]) dX3_remove_1 rfl (by decide) rfl ?_
  refine zr_sub [1, 0] rfl ?_
  exact wX3_remove_p2 cx zfu g c0 a1 hc0
theorem mX3_remove (l : Launch) (Y : zLy) (g : zSt) (c0 : Nat) (a1 : Int) (hc0 : zV Y c0 = 4) : ∀ g2, fX3_remove g c0 a1 = some g2 → zMt l yX3_remove cX3_remove 3 none 0 [.ref (zad Y c0), .int (i32 a1)] Y g (zQv Y g2) := by
  intro g2 hv
  refine zmet_of RX3 rfl (by decide +kernel) (Nat.le_of_ble_eq_true rfl) ?_
  intro p e s m below meth c cx H locs ls hH hS hl
  exact wX3_remove cx g c0 a1 hc0 g2 hv H locs ls hH hS hl
theorem zc_X7_164 (cx : zCx Y p s m args meth c RX7 cc nl ret) (hpc : pc + 3 = pc') {g : zSt} {c0 : Nat} {a1 : Int} (hc0 : zV Y c0 = 4) {fk : zSt → Option ρ} (hR : 0 + 1 ≤ R.frames ∧ 8 + (3 + 11) + 40 * 0 ≤ R.locals) (hkn : k ≤ R.cells ∧ n ≤ R.slots) (hrest : (rest.map fun v => v.category).sum ≤ 8) (hdg : decode cc pc = .ok (.invokevirtual 164, 3)) (kk : ∀ g2 : zSt, zWo Y p l e R s m args below meth c nl k n kq g2 lv (rest) pc' (fk g2)) : zWo Y p l e R s m args below meth c nl k n kq g lv (.int (i32 a1) :: .ref (zad Y c0) :: rest) pc (zbd (fX3_remove g c0 a1) fk) := zr_callVvE cx (an := 1) (As := [.int (i32 a1)]) 4 hc0 (by decide) rfl (mX3_remove l Y g c0 a1 hc0) (zG_V zw_695 zw_696 zw_697 zw_29 zw_698) (by decide +kernel) hR hkn rfl rfl hrest hdg hpc kk
def fX6_clearSums_p23 (k2 : zSt → Nat → Int → Int → Option zSt) : Nat → zSt → Nat → Int → Int → Int → Option zSt
  | 0, _, _, _, _, _ => none
  | fu + 1, g, c0, a1, a2, a3 =>
    (if i32 a3 < i32 2 then
    zck ((0 : Int) ≤ ((2 * a2) + a3) ∧ ((2 * a2) + a3) < 24) (zlet (zwr g (c0 + 9) (Int.toNat ((2 * a2) + a3)) 0) (fun g1 =>
    zck ((0 : Int) ≤ ((2 * a2) + a3) ∧ ((2 * a2) + a3) < 24) (zlet (zwr g1 (c0 + 10) (Int.toNat ((2 * a2) + a3)) 0) (fun g2 =>
    fX6_clearSums_p23 k2 fu g2 c0 a1 a2 (a3 + 1)))))
    else
    k2 g c0 a1 (a2 + 1))
def fX6_clearSums_p2  : Nat → zSt → Nat → Int → Int → Option zSt
  | 0, _, _, _, _ => none
  | fu + 1, g, c0, a1, a2 =>
    (if i32 a2 < i32 a1 then
    zck ((0 : Int) ≤ a2 ∧ a2 < 12) (zlet (zwr g (c0 + 2) (Int.toNat a2) 0) (fun g3 =>
    zck ((0 : Int) ≤ a2 ∧ a2 < 12) (zlet (zwr g3 (c0 + 8) (Int.toNat a2) 0) (fun g4 =>
    fX6_clearSums_p23 (fX6_clearSums_p2 fu) zfu g4 c0 a1 a2 0))))
    else
    some g)
def fX6_clearSums (g : zSt) (c0 : Nat) (a1 : Int) : Option zSt :=
    fX6_clearSums_p2 zfu g c0 a1 0
theorem wX6_clearSums_p23 (cx : zCx Y p s m args meth c RX6 cX6_clearSums 4 none) {k2 : zSt → Nat → Int → Int → Option zSt} (hk2 : ∀ (g : zSt) (c0 : Nat) (a1 : Int) (a2 : Int) (hc0 : zV Y c0 = 7), zWo Y p l e (zrm 0) s m args below meth c 4 0 0 (fun g9 : zSt => MQ below (zQv Y g9) args s 0 0 (zA Y)) g [(0, .ref (zad Y c0)), (1, .int (i32 a1)), (2, .int (i32 a2))] ([]) 2 (k2 g c0 a1 a2)) : ∀ (fu : Nat) (g : zSt) (c0 : Nat) (a1 : Int) (a2 : Int) (a3 : Int) (hc0 : zV Y c0 = 7), zWo Y p l e (zrm 0) s m args below meth c 4 0 0 (fun g9 : zSt => MQ below (zQv Y g9) args s 0 0 (zA Y)) g [(0, .ref (zad Y c0)), (1, .int (i32 a1)), (2, .int (i32 a2)), (3, .int (i32 a3))] ([]) 23 (fX6_clearSums_p23 k2 fu g c0 a1 a2 a3) := by
  intro fu
  induction fu with
  | zero => intro g c0 a1 a2 a3 hc0; exact zr_none
  | succ fu ih =>
    intro g c0 a1 a2 a3 hc0
    rw [fX6_clearSums_p23]
    refine zr_iload_n (pc' := 24) cx rfl 3 dX6_clearSums_23 rfl rfl ?_
    refine zr_iconst (pc' := 25) cx rfl dX6_clearSums_24 ?_
    refine zr_icmp_ge (pc' := 28) cx rfl (tgt := 56) dX6_clearSums_25 rfl ?_ ?_
    · refine zr_iinc (pc' := 59) cx rfl (lv' := [(2, .int (i32 (a2 + 1))), (0, .ref (zad Y c0)), (1, .int (i32 a1)), (3, .int (i32 a3))]) 2 dX6_clearSums_56 rfl (by decide) rfl ?_
      refine zr_goto cx (tgt := 2) dX6_clearSums_59 rfl ?_
      refine zr_sub [1, 2, 0] rfl ?_
      exact hk2 g c0 a1 (a2 + 1) hc0
    · refine zr_aload_n (pc' := 29) cx rfl 0 dX6_clearSums_28 rfl rfl ?_
      refine zg_X6_44 (pc' := 32) cx rfl (c2 := (c0 + 9)) hc0 rfl dX6_clearSums_29 ?_
      refine zr_iconst (pc' := 33) cx rfl dX6_clearSums_32 ?_
      refine zr_iload_n (pc' := 34) cx rfl 2 dX6_clearSums_33 rfl rfl ?_
      refine zr_imul (pc' := 35) cx rfl dX6_clearSums_34 ?_
      refine zr_iload_n (pc' := 36) cx rfl 3 dX6_clearSums_35 rfl rfl ?_
      refine zr_iadd (pc' := 37) cx rfl dX6_clearSums_36 ?_
      refine zr_iconst (pc' := 38) cx rfl dX6_clearSums_37 ?_
      refine zr_iast (pc' := 39) cx rfl 11 (zk7_9 hc0) (by decide) (L := 24) rfl dX6_clearSums_38 ?_
      refine zr_letS (fun g1 => ?_)
      refine zr_aload_n (pc' := 40) cx rfl 0 dX6_clearSums_39 rfl rfl ?_
      refine zg_X6_47 (pc' := 43) cx rfl (c2 := (c0 + 10)) hc0 rfl dX6_clearSums_40 ?_
      refine zr_iconst (pc' := 44) cx rfl dX6_clearSums_43 ?_
      refine zr_iload_n (pc' := 45) cx rfl 2 dX6_clearSums_44 rfl rfl ?_
      refine zr_imul (pc' := 46) cx rfl dX6_clearSums_45 ?_
      refine zr_iload_n (pc' := 47) cx rfl 3 dX6_clearSums_46 rfl rfl ?_
      refine zr_iadd (pc' := 48) cx rfl dX6_clearSums_47 ?_
      refine zr_iconst (pc' := 49) cx rfl dX6_clearSums_48 ?_
      refine zr_iast (pc' := 50) cx rfl 11 (zk7_10 hc0) (by decide) (L := 24) rfl dX6_clearSums_49 ?_
      refine zr_letS (fun g2 => ?_)
      refine zr_iinc (pc' := 53) cx rfl (lv' := [(3, .int (i32 (a3 + 1))), (0, .ref (zad Y c0)), (1, .int (i32 a1)), (2, .int (i32 a2))]) 3 dX6_clearSums_50 rfl (by decide) rfl ?_
      refine zr_goto cx (tgt := 23) dX6_clearSums_53 rfl ?_
      refine zr_sub [1, 2, 3, 0] rfl ?_
      exact ih g2 c0 a1 a2 (a3 + 1) hc0
theorem wX6_clearSums_p2 (cx : zCx Y p s m args meth c RX6 cX6_clearSums 4 none)   : ∀ (fu : Nat) (g : zSt) (c0 : Nat) (a1 : Int) (a2 : Int) (hc0 : zV Y c0 = 7), zWo Y p l e (zrm 0) s m args below meth c 4 0 0 (fun g9 : zSt => MQ below (zQv Y g9) args s 0 0 (zA Y)) g [(0, .ref (zad Y c0)), (1, .int (i32 a1)), (2, .int (i32 a2))] ([]) 2 (fX6_clearSums_p2 fu g c0 a1 a2) := by
  intro fu
  induction fu with
  | zero => intro g c0 a1 a2 hc0; exact zr_none
  | succ fu ih =>
    intro g c0 a1 a2 hc0
    rw [fX6_clearSums_p2]
    refine zr_iload_n (pc' := 3) cx rfl 2 dX6_clearSums_2 rfl rfl ?_
    refine zr_iload_n (pc' := 4) cx rfl 1 dX6_clearSums_3 rfl rfl ?_
    refine zr_icmp_ge (pc' := 7) cx rfl (tgt := 62) dX6_clearSums_4 rfl ?_ ?_
    · exact zr_vretE cx dX6_clearSums_62
    · refine zr_aload_n (pc' := 8) cx rfl 0 dX6_clearSums_7 rfl rfl ?_
      refine zg_X6_15 (pc' := 11) cx rfl (c2 := (c0 + 2)) hc0 rfl dX6_clearSums_8 ?_
      refine zr_iload_n (pc' := 12) cx rfl 2 dX6_clearSums_11 rfl rfl ?_
      refine zr_iconst (pc' := 13) cx rfl dX6_clearSums_12 ?_
      refine zr_iast (pc' := 14) cx rfl 10 (zk7_2 hc0) (by decide) (L := 12) rfl dX6_clearSums_13 ?_
      refine zr_letS (fun g3 => ?_)
      refine zr_aload_n (pc' := 15) cx rfl 0 dX6_clearSums_14 rfl rfl ?_
      refine zg_X6_41 (pc' := 18) cx rfl (c2 := (c0 + 8)) hc0 rfl dX6_clearSums_15 ?_
      refine zr_iload_n (pc' := 19) cx rfl 2 dX6_clearSums_18 rfl rfl ?_
      refine zr_iconst (pc' := 20) cx rfl dX6_clearSums_19 ?_
      refine zr_iast (pc' := 21) cx rfl 10 (zk7_8 hc0) (by decide) (L := 12) rfl dX6_clearSums_20 ?_
      refine zr_letS (fun g4 => ?_)
      refine zr_iconst (pc' := 22) cx rfl dX6_clearSums_21 ?_
      refine zr_istore_n (pc' := 23) cx rfl (lv' := [(3, .int (i32 0)), (0, .ref (zad Y c0)), (1, .int (i32 a1)), (2, .int (i32 a2))]) dX6_clearSums_22 rfl (by decide) rfl ?_
      refine zr_sub [1, 2, 3, 0] rfl ?_
      exact wX6_clearSums_p23 cx ih zfu g4 c0 a1 a2 0 hc0
theorem wX6_clearSums (cx : zCx Y p s m args meth c RX6 cX6_clearSums 4 none) (g : zSt) (c0 : Nat) (a1 : Int) (hc0 : zV Y c0 = 7) : zWo Y p l e (zrm 0) s m args below meth c 4 0 0 (fun g9 : zSt => MQ below (zQv Y g9) args s 0 0 (zA Y)) g [(0, .ref (zad Y c0)), (1, .int (i32 a1))] ([]) 0 (fX6_clearSums g c0 a1) := by
  unfold fX6_clearSums
  refine zr_iconst (pc' := 1) cx rfl dX6_clearSums_0 ?_
  refine zr_istore_n (pc' := 2) cx rfl (lv' := [(2, .int (i32 0)), (0, .ref (zad Y c0)), (1, .int (i32 a1))]) dX6_clearSums_1 rfl (by decide) rfl ?_
  refine zr_sub [1, 2, 0] rfl ?_
  exact wX6_clearSums_p2 cx zfu g c0 a1 0 hc0
theorem mX6_clearSums (l : Launch) (Y : zLy) (g : zSt) (c0 : Nat) (a1 : Int) (hc0 : zV Y c0 = 7) : ∀ g2, fX6_clearSums g c0 a1 = some g2 → zMt l yX6_clearSums cX6_clearSums 4 none 0 [.ref (zad Y c0), .int (i32 a1)] Y g (zQv Y g2) := by
  intro g2 hv
  refine zmet_of RX6 rfl (by decide +kernel) (Nat.le_of_ble_eq_true rfl) ?_
  intro p e s m below meth c cx H locs ls hH hS hl
  exact wX6_clearSums cx g c0 a1 hc0 g2 hv H locs ls hH hS hl
theorem zc_X6_61 (cx : zCx Y p s m args meth c RX6 cc nl ret) (hpc : pc + 3 = pc') {g : zSt} {c0 : Nat} {a1 : Int} (hc0 : zV Y c0 = 7) {fk : zSt → Option ρ} (hR : 0 + 1 ≤ R.frames ∧ 8 + (4 + 11) + 40 * 0 ≤ R.locals) (hkn : k ≤ R.cells ∧ n ≤ R.slots) (hrest : (rest.map fun v => v.category).sum ≤ 8) (hdg : decode cc pc = .ok (.invokevirtual 61, 3)) (kk : ∀ g2 : zSt, zWo Y p l e R s m args below meth c nl k n kq g2 lv (rest) pc' (fk g2)) : zWo Y p l e R s m args below meth c nl k n kq g lv (.int (i32 a1) :: .ref (zad Y c0) :: rest) pc (zbd (fX6_clearSums g c0 a1) fk) := zr_callVvE cx (an := 1) (As := [.int (i32 a1)]) 7 hc0 (by decide) rfl (mX6_clearSums l Y g c0 a1 hc0) (zG_V zw_552 zw_554 zw_13 zw_31 zw_555) (by decide +kernel) hR hkn rfl rfl hrest hdg hpc kk
def fX6_isAlive (g : zSt) (c0 : Nat) (a1 : Int) : Option Int :=
    zck ((0 : Int) ≤ (zsr a1 1) ∧ (zsr a1 1) < 12) (
    (if i32 (g.1 (c0 + 3) (Int.toNat (zsr a1 1))) = i32 0 then
    zck ((0 : Int) ≤ a1 ∧ a1 < 24) (
    (if i32 (g.1 (c0 + 4) (Int.toNat a1)) = i32 0 then
    zck ((1 : Int) = 0 ∨ (1 : Int) = 1) (some 1)
    else
    zck ((0 : Int) = 0 ∨ (0 : Int) = 1) (some 0)))
    else
    zck ((0 : Int) = 0 ∨ (0 : Int) = 1) (some 0)))
theorem wX6_isAlive (cx : zCx Y p s m args meth c RX6 cX6_isAlive 2 (some .boolean)) (g : zSt) (c0 : Nat) (a1 : Int) (hc0 : zV Y c0 = 7) : zWo Y p l e (zrm 0) s m args below meth c 2 0 0 (fun v : Int => MQ below (zQi Y v g) args s 0 0 (zA Y)) g [(0, .ref (zad Y c0)), (1, .int (i32 a1))] ([]) 0 (fX6_isAlive g c0 a1) := by
  unfold fX6_isAlive
  refine zr_aload_n (pc' := 1) cx rfl 0 dX6_isAlive_0 rfl rfl ?_
  refine zg_X6_18 (pc' := 4) cx rfl (c2 := (c0 + 3)) hc0 rfl dX6_isAlive_1 ?_
  refine zr_iload_n (pc' := 5) cx rfl 1 dX6_isAlive_4 rfl rfl ?_
  refine zr_iconst (pc' := 6) cx rfl dX6_isAlive_5 ?_
  refine zr_ishr (pc' := 7) cx rfl dX6_isAlive_6 ?_
  refine zr_bald (pc' := 8) cx rfl 20 (zk7_3 hc0) (by decide) (L := 12) rfl dX6_isAlive_7 ?_
  refine zr_if_ne (pc' := 11) cx rfl (tgt := 24) dX6_isAlive_8 rfl ?_ ?_
  · refine zr_iconst (pc' := 25) cx rfl dX6_isAlive_24 ?_
    exact zr_zretP cx dX6_isAlive_25
  · refine zr_aload_n (pc' := 12) cx rfl 0 dX6_isAlive_11 rfl rfl ?_
    refine zg_X6_22 (pc' := 15) cx rfl (c2 := (c0 + 4)) hc0 rfl dX6_isAlive_12 ?_
    refine zr_iload_n (pc' := 16) cx rfl 1 dX6_isAlive_15 rfl rfl ?_
    refine zr_bald (pc' := 17) cx rfl 21 (zk7_4 hc0) (by decide) (L := 24) rfl dX6_isAlive_16 ?_
    refine zr_if_ne (pc' := 20) cx rfl (tgt := 24) dX6_isAlive_17 rfl ?_ ?_
    · refine zr_iconst (pc' := 25) cx rfl dX6_isAlive_24 ?_
      exact zr_zretP cx dX6_isAlive_25
    · refine zr_iconst (pc' := 21) cx rfl dX6_isAlive_20 ?_
      refine zr_gotoS cx (tgt := 25) dX6_isAlive_21 rfl ?_
      exact zr_zretP cx dX6_isAlive_25
theorem mX6_isAlive (l : Launch) (Y : zLy) (g : zSt) (c0 : Nat) (a1 : Int) (hc0 : zV Y c0 = 7) : ∀ v, fX6_isAlive g c0 a1 = some v → zMt l yX6_isAlive cX6_isAlive 2 (some .boolean) 0 [.ref (zad Y c0), .int (i32 a1)] Y g (zQi Y v g) := by
  intro v hv
  refine zmet_of RX6 rfl (by decide +kernel) (Nat.le_of_ble_eq_true rfl) ?_
  intro p e s m below meth c cx H locs ls hH hS hl
  exact wX6_isAlive cx g c0 a1 hc0 v hv H locs ls hH hS hl
theorem zc_X7_375 (cx : zCx Y p s m args meth c RX7 cc nl ret) (hpc : pc + 3 = pc') {g : zSt} {c0 : Nat} {a1 : Int} (hc0 : zV Y c0 = 7) {fk : Int → Option ρ} (hR : 0 + 1 ≤ R.frames ∧ 8 + (2 + 11) + 40 * 0 ≤ R.locals) (hkn : k ≤ R.cells ∧ n ≤ R.slots) (hrest : (rest.map fun v => v.category).sum ≤ 8) (hdg : decode cc pc = .ok (.invokevirtual 375, 3)) (kk : ∀ v : Int, zWo Y p l e R s m args below meth c nl k n kq g lv (.int (i32 v) :: rest) pc' (fk v)) : zWo Y p l e R s m args below meth c nl k n kq g lv (.int (i32 a1) :: .ref (zad Y c0) :: rest) pc (zbd (fX6_isAlive g c0 a1) fk) := zr_callViP cx (an := 1) (As := [.int (i32 a1)]) 7 hc0 (by decide) rfl (mX6_isAlive l Y g c0 a1 hc0) (zG_V zw_437 zw_438 zw_439 zw_31 zw_440) (by decide +kernel) hR hkn rfl rfl hrest hdg hpc kk
theorem zc_X6_105 (cx : zCx Y p s m args meth c RX6 cc nl ret) (hpc : pc + 3 = pc') {g : zSt} {c0 : Nat} {a1 : Int} (hc0 : zV Y c0 = 7) {fk : Int → Option ρ} (hR : 0 + 1 ≤ R.frames ∧ 8 + (2 + 11) + 40 * 0 ≤ R.locals) (hkn : k ≤ R.cells ∧ n ≤ R.slots) (hrest : (rest.map fun v => v.category).sum ≤ 8) (hdg : decode cc pc = .ok (.invokevirtual 105, 3)) (kk : ∀ v : Int, zWo Y p l e R s m args below meth c nl k n kq g lv (.int (i32 v) :: rest) pc' (fk v)) : zWo Y p l e R s m args below meth c nl k n kq g lv (.int (i32 a1) :: .ref (zad Y c0) :: rest) pc (zbd (fX6_isAlive g c0 a1) fk) := zr_callViP cx (an := 1) (As := [.int (i32 a1)]) 7 hc0 (by decide) rfl (mX6_isAlive l Y g c0 a1 hc0) (zG_V zw_445 zw_438 zw_439 zw_31 zw_440) (by decide +kernel) hR hkn rfl rfl hrest hdg hpc kk
def fX6_findBurning_p86 (k7 : zSt → Nat → Nat → Int → Option zSt) (g : zSt) (yc0 : Nat) (y1 : Int) (y2 : Int) (c0 : Nat) (c1 : Nat) (a2 : Int) (a3 : Int) : Option zSt :=
    zck ((0 : Int) ≤ y1 ∧ y1 < 16) (zck ((y2 : Int) = 0 ∨ (y2 : Int) = 1) (zlet (zwr g yc0 (Int.toNat y1) y2) (fun g1 =>
    zck ((0 : Int) ≤ a2 ∧ a2 < 16) (
    (if i32 (g1.1 (c0 + 6) (Int.toNat a2)) = i32 0 then
    k7 g1 c0 c1 (a2 + 1)
    else
    zlet (zwr g1 c0 6 ((g1.1 c0 6) + 1)) (fun g2 =>
    zck ((0 : Int) ≤ a3 ∧ a3 < 12) (
    zck ((0 : Int) ≤ a2 ∧ a2 < 16) (
    zck ((0 : Int) ≤ a3 ∧ a3 < 12) (zlet (zwr g2 (c0 + 8) (Int.toNat a3) ((g2.1 (c0 + 8) (Int.toNat a3)) + (g2.1 (c1 + 2) (Int.toNat a2)))) (fun g3 =>
    k7 g3 c0 c1 (a2 + 1)))))))))))
def fX6_findBurning_p47 (k7 : zSt → Nat → Nat → Int → Option zSt) (g : zSt) (y0 : Int) (c0 : Nat) (c1 : Nat) (a2 : Int) (a3 : Int) : Option zSt :=
    zbd (fX6_isAlive g c0 (2 * a3)) (fun v4 =>
    (if i32 v4 = i32 0 then
    fX6_findBurning_p86 k7 g (c0 + 6) a2 0 c0 c1 a2 a3
    else
    zbd (fX6_isAlive g c0 ((2 * a3) + 1)) (fun v5 =>
    (if i32 v5 = i32 0 then
    fX6_findBurning_p86 k7 g (c0 + 6) a2 0 c0 c1 a2 a3
    else
    (if i32 y0 = i32 0 then
    fX6_findBurning_p86 k7 g (c0 + 6) a2 1 c0 c1 a2 a3
    else
    fX6_findBurning_p86 k7 g (c0 + 6) a2 0 c0 c1 a2 a3)))))
def fX6_findBurning_p7  : Nat → zSt → Nat → Nat → Int → Option zSt
  | 0, _, _, _, _ => none
  | fu + 1, g, c0, c1, a2 =>
    (if i32 a2 < i32 (g.1 c1 0) then
    zck ((0 : Int) ≤ a2 ∧ a2 < 16) (
    zlet (g.1 (c1 + 1) (Int.toNat a2)) (fun x6 =>
    zck ((0 : Int) ≤ a2 ∧ a2 < 16) (
    (if i32 (g.1 (c1 + 3) (Int.toNat a2)) = i32 0 then
    fX6_findBurning_p47 (fX6_findBurning_p7 fu) g 0 c0 c1 a2 x6
    else
    zck ((0 : Int) ≤ (2 * x6) ∧ (2 * x6) < 24) (
    (if i32 (g.1 (c0 + 5) (Int.toNat (2 * x6))) = i32 0 then
    fX6_findBurning_p47 (fX6_findBurning_p7 fu) g 0 c0 c1 a2 x6
    else
    fX6_findBurning_p47 (fX6_findBurning_p7 fu) g 1 c0 c1 a2 x6))))))
    else
    some g)
def fX6_findBurning (g : zSt) (c0 : Nat) (c1 : Nat) : Option zSt :=
    zlet (zwr g c0 6 0) (fun g7 =>
    fX6_findBurning_p7 zfu g7 c0 c1 0)
theorem wX6_findBurning_p86 (cx : zCx Y p s m args meth c RX6 cX6_findBurning 5 none) {k7 : zSt → Nat → Nat → Int → Option zSt} (hk7 : ∀ (g : zSt) (c0 : Nat) (c1 : Nat) (a2 : Int) (hc0 : zV Y c0 = 7) (hc1 : zV Y c1 = 4), zWo Y p l e (zrm 1) s m args below meth c 5 0 0 (fun g9 : zSt => MQ below (zQv Y g9) args s 0 0 (zA Y)) g [(0, .ref (zad Y c0)), (1, .ref (zad Y c1)), (2, .int (i32 a2))] ([]) 7 (k7 g c0 c1 a2)) : ∀ (g : zSt) (yc0 : Nat) (y1 : Int) (y2 : Int) (c0 : Nat) (c1 : Nat) (a2 : Int) (a3 : Int) (hyc0 : zV Y yc0 = 22) (hc0 : zV Y c0 = 7) (hc1 : zV Y c1 = 4), zWo Y p l e (zrm 1) s m args below meth c 5 0 0 (fun g9 : zSt => MQ below (zQv Y g9) args s 0 0 (zA Y)) g [(0, .ref (zad Y c0)), (1, .ref (zad Y c1)), (2, .int (i32 a2)), (3, .int (i32 a3))] (.int (i32 y2) :: .int (i32 y1) :: .ref (zad Y yc0) :: []) 86 (fX6_findBurning_p86 k7 g yc0 y1 y2 c0 c1 a2 a3) := by
  intro g yc0 y1 y2 c0 c1 a2 a3 hyc0 hc0 hc1
  unfold fX6_findBurning_p86
  refine zr_bast (pc' := 87) cx rfl 22 hyc0 (by decide) (L := 16) rfl dX6_findBurning_86 ?_
  refine zr_letS (fun g1 => ?_)
  refine zr_aload_n (pc' := 88) cx rfl 0 dX6_findBurning_87 rfl rfl ?_
  refine zg_X6_28 (pc' := 91) cx rfl (c2 := (c0 + 6)) hc0 rfl dX6_findBurning_88 ?_
  refine zr_iload_n (pc' := 92) cx rfl 2 dX6_findBurning_91 rfl rfl ?_
  refine zr_bald (pc' := 93) cx rfl 22 (zk7_6 hc0) (by decide) (L := 16) rfl dX6_findBurning_92 ?_
  refine zr_if_eq (pc' := 96) cx rfl (tgt := 121) dX6_findBurning_93 rfl ?_ ?_
  · refine zr_iinc (pc' := 124) cx rfl (lv' := [(2, .int (i32 (a2 + 1))), (0, .ref (zad Y c0)), (1, .ref (zad Y c1)), (3, .int (i32 a3))]) 2 dX6_findBurning_121 rfl (by decide) rfl ?_
    refine zr_goto cx (tgt := 7) dX6_findBurning_124 rfl ?_
    refine zr_sub [1, 2, 0] rfl ?_
    exact hk7 g1 c0 c1 (a2 + 1) hc0 hc1
  · refine zr_aload_n (pc' := 97) cx rfl 0 dX6_findBurning_96 rfl rfl ?_
    refine zr_dup (pc' := 98) cx rfl dX6_findBurning_97 rfl ?_
    refine zg_X6_31 (pc' := 101) cx rfl hc0 dX6_findBurning_98 ?_
    refine zr_iconst (pc' := 102) cx rfl dX6_findBurning_101 ?_
    refine zr_iadd (pc' := 103) cx rfl dX6_findBurning_102 ?_
    refine zp_X6_31 (pc' := 106) cx rfl hc0 dX6_findBurning_103 ?_
    refine zr_letS (fun g2 => ?_)
    refine zr_aload_n (pc' := 107) cx rfl 0 dX6_findBurning_106 rfl rfl ?_
    refine zg_X6_41 (pc' := 110) cx rfl (c2 := (c0 + 8)) hc0 rfl dX6_findBurning_107 ?_
    refine zr_iload_n (pc' := 111) cx rfl 3 dX6_findBurning_110 rfl rfl ?_
    refine zr_dup2 (pc' := 112) cx rfl dX6_findBurning_111 rfl rfl ?_
    refine zr_iald (pc' := 113) cx rfl 10 (zk7_8 hc0) (by decide) (L := 12) rfl dX6_findBurning_112 ?_
    refine zr_aload_n (pc' := 114) cx rfl 1 dX6_findBurning_113 rfl rfl ?_
    refine zg_X6_138 (pc' := 117) cx rfl (c2 := (c1 + 2)) hc1 rfl dX6_findBurning_114 ?_
    refine zr_iload_n (pc' := 118) cx rfl 2 dX6_findBurning_117 rfl rfl ?_
    refine zr_iald (pc' := 119) cx rfl 12 (zk4_2 hc1) (by decide) (L := 16) rfl dX6_findBurning_118 ?_
    refine zr_iadd (pc' := 120) cx rfl dX6_findBurning_119 ?_
    refine zr_iast (pc' := 121) cx rfl 10 (zk7_8 hc0) (by decide) (L := 12) rfl dX6_findBurning_120 ?_
    refine zr_letS (fun g3 => ?_)
    refine zr_iinc (pc' := 124) cx rfl (lv' := [(2, .int (i32 (a2 + 1))), (0, .ref (zad Y c0)), (1, .ref (zad Y c1)), (3, .int (i32 a3))]) 2 dX6_findBurning_121 rfl (by decide) rfl ?_
    refine zr_goto cx (tgt := 7) dX6_findBurning_124 rfl ?_
    refine zr_sub [1, 2, 0] rfl ?_
    exact hk7 g3 c0 c1 (a2 + 1) hc0 hc1
theorem wX6_findBurning_p47 (cx : zCx Y p s m args meth c RX6 cX6_findBurning 5 none) {k7 : zSt → Nat → Nat → Int → Option zSt} (hk7 : ∀ (g : zSt) (c0 : Nat) (c1 : Nat) (a2 : Int) (hc0 : zV Y c0 = 7) (hc1 : zV Y c1 = 4), zWo Y p l e (zrm 1) s m args below meth c 5 0 0 (fun g9 : zSt => MQ below (zQv Y g9) args s 0 0 (zA Y)) g [(0, .ref (zad Y c0)), (1, .ref (zad Y c1)), (2, .int (i32 a2))] ([]) 7 (k7 g c0 c1 a2)) : ∀ (g : zSt) (y0 : Int) (c0 : Nat) (c1 : Nat) (a2 : Int) (a3 : Int) (hc0 : zV Y c0 = 7) (hc1 : zV Y c1 = 4), zWo Y p l e (zrm 1) s m args below meth c 5 0 0 (fun g9 : zSt => MQ below (zQv Y g9) args s 0 0 (zA Y)) g [(0, .ref (zad Y c0)), (1, .ref (zad Y c1)), (2, .int (i32 a2)), (3, .int (i32 a3))] (.int (i32 y0) :: []) 47 (fX6_findBurning_p47 k7 g y0 c0 c1 a2 a3) := by
  intro g y0 c0 c1 a2 a3 hc0 hc1
  unfold fX6_findBurning_p47
  refine zr_istore (pc' := 49) cx rfl (lv' := [(4, .int (i32 y0)), (0, .ref (zad Y c0)), (1, .ref (zad Y c1)), (2, .int (i32 a2)), (3, .int (i32 a3))]) dX6_findBurning_47 (by decide) rfl ?_
  refine zr_aload_n (pc' := 50) cx rfl 1 dX6_findBurning_49 rfl rfl ?_
  refine zg_X6_28 (pc' := 53) cx rfl (c2 := (c0 + 6)) hc0 rfl dX6_findBurning_50 ?_
  refine zr_iload_n (pc' := 54) cx rfl 3 dX6_findBurning_53 rfl rfl ?_
  refine zr_aload_n (pc' := 55) cx rfl 1 dX6_findBurning_54 rfl rfl ?_
  refine zr_iconst (pc' := 56) cx rfl dX6_findBurning_55 ?_
  refine zr_iload_n (pc' := 57) cx rfl 4 dX6_findBurning_56 rfl rfl ?_
  refine zr_imul (pc' := 58) cx rfl dX6_findBurning_57 ?_
  refine zc_X6_105 (pc' := 61) cx rfl hc0 ⟨Nat.le_of_ble_eq_true rfl, Nat.le_of_ble_eq_true rfl⟩ ⟨Nat.zero_le _, Nat.zero_le _⟩ (Nat.le_of_ble_eq_true rfl) dX6_findBurning_58 (fun v4 => ?_)
  refine zr_if_eq (pc' := 64) cx rfl (tgt := 85) dX6_findBurning_61 rfl ?_ ?_
  · refine zr_iconst (pc' := 86) cx rfl dX6_findBurning_85 ?_
    refine zr_sub [1, 2, 3, 4] rfl ?_
    exact wX6_findBurning_p86 cx hk7 g (c0 + 6) a2 0 c0 c1 a2 a3 (zk7_6 hc0) hc0 hc1
  · refine zr_aload_n (pc' := 65) cx rfl 1 dX6_findBurning_64 rfl rfl ?_
    refine zr_iconst (pc' := 66) cx rfl dX6_findBurning_65 ?_
    refine zr_iload_n (pc' := 67) cx rfl 4 dX6_findBurning_66 rfl rfl ?_
    refine zr_imul (pc' := 68) cx rfl dX6_findBurning_67 ?_
    refine zr_iconst (pc' := 69) cx rfl dX6_findBurning_68 ?_
    refine zr_iadd (pc' := 70) cx rfl dX6_findBurning_69 ?_
    refine zc_X6_105 (pc' := 73) cx rfl hc0 ⟨Nat.le_of_ble_eq_true rfl, Nat.le_of_ble_eq_true rfl⟩ ⟨Nat.zero_le _, Nat.zero_le _⟩ (Nat.le_of_ble_eq_true rfl) dX6_findBurning_70 (fun v5 => ?_)
    refine zr_if_eq (pc' := 76) cx rfl (tgt := 85) dX6_findBurning_73 rfl ?_ ?_
    · refine zr_iconst (pc' := 86) cx rfl dX6_findBurning_85 ?_
      refine zr_sub [1, 2, 3, 4] rfl ?_
      exact wX6_findBurning_p86 cx hk7 g (c0 + 6) a2 0 c0 c1 a2 a3 (zk7_6 hc0) hc0 hc1
    · refine zr_iload (pc' := 78) cx rfl 0 dX6_findBurning_76 rfl ?_
      refine zr_if_ne (pc' := 81) cx rfl (tgt := 85) dX6_findBurning_78 rfl ?_ ?_
      · refine zr_iconst (pc' := 86) cx rfl dX6_findBurning_85 ?_
        refine zr_sub [1, 2, 3, 4] rfl ?_
        exact wX6_findBurning_p86 cx hk7 g (c0 + 6) a2 0 c0 c1 a2 a3 (zk7_6 hc0) hc0 hc1
      · refine zr_iconst (pc' := 82) cx rfl dX6_findBurning_81 ?_
        refine zr_gotoS cx (tgt := 86) dX6_findBurning_82 rfl ?_
        refine zr_sub [1, 2, 3, 4] rfl ?_
        exact wX6_findBurning_p86 cx hk7 g (c0 + 6) a2 1 c0 c1 a2 a3 (zk7_6 hc0) hc0 hc1
theorem wX6_findBurning_p7 (cx : zCx Y p s m args meth c RX6 cX6_findBurning 5 none)   : ∀ (fu : Nat) (g : zSt) (c0 : Nat) (c1 : Nat) (a2 : Int) (hc0 : zV Y c0 = 7) (hc1 : zV Y c1 = 4), zWo Y p l e (zrm 1) s m args below meth c 5 0 0 (fun g9 : zSt => MQ below (zQv Y g9) args s 0 0 (zA Y)) g [(0, .ref (zad Y c0)), (1, .ref (zad Y c1)), (2, .int (i32 a2))] ([]) 7 (fX6_findBurning_p7 fu g c0 c1 a2) := by
  intro fu
  induction fu with
  | zero => intro g c0 c1 a2 hc0 hc1; exact zr_none
  | succ fu ih =>
    intro g c0 c1 a2 hc0 hc1
    rw [fX6_findBurning_p7]
    refine zr_iload_n (pc' := 8) cx rfl 2 dX6_findBurning_7 rfl rfl ?_
    refine zr_aload_n (pc' := 9) cx rfl 1 dX6_findBurning_8 rfl rfl ?_
    refine zg_X6_127 (pc' := 12) cx rfl hc1 dX6_findBurning_9 ?_
    refine zr_icmp_ge (pc' := 15) cx rfl (tgt := 127) dX6_findBurning_12 rfl ?_ ?_
    · exact zr_vretE cx dX6_findBurning_127
    · refine zr_aload_n (pc' := 16) cx rfl 1 dX6_findBurning_15 rfl rfl ?_
      refine zg_X6_132 (pc' := 19) cx rfl (c2 := (c1 + 1)) hc1 rfl dX6_findBurning_16 ?_
      refine zr_iload_n (pc' := 20) cx rfl 2 dX6_findBurning_19 rfl rfl ?_
      refine zr_iald (pc' := 21) cx rfl 12 (zk4_1 hc1) (by decide) (L := 16) rfl dX6_findBurning_20 ?_
      refine zr_leti (fun x6 => ?_)
      refine zr_istore_n (pc' := 22) cx rfl (lv' := [(3, .int (i32 x6)), (0, .ref (zad Y c0)), (1, .ref (zad Y c1)), (2, .int (i32 a2))]) dX6_findBurning_21 rfl (by decide) rfl ?_
      refine zr_aload_n (pc' := 23) cx rfl 2 dX6_findBurning_22 rfl rfl ?_
      refine zg_X6_135 (pc' := 26) cx rfl (c2 := (c1 + 3)) hc1 rfl dX6_findBurning_23 ?_
      refine zr_iload_n (pc' := 27) cx rfl 3 dX6_findBurning_26 rfl rfl ?_
      refine zr_bald (pc' := 28) cx rfl 22 (zk4_3 hc1) (by decide) (L := 16) rfl dX6_findBurning_27 ?_
      refine zr_if_eq (pc' := 31) cx rfl (tgt := 46) dX6_findBurning_28 rfl ?_ ?_
      · refine zr_iconst (pc' := 47) cx rfl dX6_findBurning_46 ?_
        refine zr_sub [1, 2, 3, 0] rfl ?_
        exact wX6_findBurning_p47 cx ih g 0 c0 c1 a2 x6 hc0 hc1
      · refine zr_aload_n (pc' := 32) cx rfl 1 dX6_findBurning_31 rfl rfl ?_
        refine zg_X6_25 (pc' := 35) cx rfl (c2 := (c0 + 5)) hc0 rfl dX6_findBurning_32 ?_
        refine zr_iconst (pc' := 36) cx rfl dX6_findBurning_35 ?_
        refine zr_iload_n (pc' := 37) cx rfl 0 dX6_findBurning_36 rfl rfl ?_
        refine zr_imul (pc' := 38) cx rfl dX6_findBurning_37 ?_
        refine zr_iald (pc' := 39) cx rfl 11 (zk7_5 hc0) (by decide) (L := 24) rfl dX6_findBurning_38 ?_
        refine zr_if_eq (pc' := 42) cx rfl (tgt := 46) dX6_findBurning_39 rfl ?_ ?_
        · refine zr_iconst (pc' := 47) cx rfl dX6_findBurning_46 ?_
          refine zr_sub [1, 2, 3, 0] rfl ?_
          exact wX6_findBurning_p47 cx ih g 0 c0 c1 a2 x6 hc0 hc1
        · refine zr_iconst (pc' := 43) cx rfl dX6_findBurning_42 ?_
          refine zr_gotoS cx (tgt := 47) dX6_findBurning_43 rfl ?_
          refine zr_sub [1, 2, 3, 0] rfl ?_
          exact wX6_findBurning_p47 cx ih g 1 c0 c1 a2 x6 hc0 hc1
theorem wX6_findBurning (cx : zCx Y p s m args meth c RX6 cX6_findBurning 5 none) (g : zSt) (c0 : Nat) (c1 : Nat) (hc0 : zV Y c0 = 7) (hc1 : zV Y c1 = 4) : zWo Y p l e (zrm 1) s m args below meth c 5 0 0 (fun g9 : zSt => MQ below (zQv Y g9) args s 0 0 (zA Y)) g [(0, .ref (zad Y c0)), (1, .ref (zad Y c1))] ([]) 0 (fX6_findBurning g c0 c1) := by
  unfold fX6_findBurning
  refine zr_aload_n (pc' := 1) cx rfl 0 dX6_findBurning_0 rfl rfl ?_
  refine zr_iconst (pc' := 2) cx rfl dX6_findBurning_1 ?_
  refine zp_X6_31 (pc' := 5) cx rfl hc0 dX6_findBurning_2 ?_
  refine zr_letS (fun g7 => ?_)
  refine zr_iconst (pc' := 6) cx rfl dX6_findBurning_5 ?_
  refine zr_istore_n (pc' := 7) cx rfl (lv' := [(2, .int (i32 0)), (0, .ref (zad Y c0)), (1, .ref (zad Y c1))]) dX6_findBurning_6 rfl (by decide) rfl ?_
  refine zr_sub [1, 2, 0] rfl ?_
  exact wX6_findBurning_p7 cx zfu g7 c0 c1 0 hc0 hc1
theorem mX6_findBurning (l : Launch) (Y : zLy) (g : zSt) (c0 : Nat) (c1 : Nat) (hc0 : zV Y c0 = 7) (hc1 : zV Y c1 = 4) : ∀ g2, fX6_findBurning g c0 c1 = some g2 → zMt l yX6_findBurning cX6_findBurning 5 none 1 [.ref (zad Y c0), .ref (zad Y c1)] Y g (zQv Y g2) := by
  intro g2 hv
  refine zmet_of RX6 rfl (by decide +kernel) (Nat.le_of_ble_eq_true rfl) ?_
  intro p e s m below meth c cx H locs ls hH hS hl
  exact wX6_findBurning cx g c0 c1 hc0 hc1 g2 hv H locs ls hH hS hl
theorem zc_X6_73 (cx : zCx Y p s m args meth c RX6 cc nl ret) (hpc : pc + 3 = pc') {g : zSt} {c0 : Nat} {c1 : Nat} (hc0 : zV Y c0 = 7) (hc1 : zV Y c1 = 4) {fk : zSt → Option ρ} (hR : 1 + 1 ≤ R.frames ∧ 8 + (5 + 11) + 40 * 1 ≤ R.locals) (hkn : k ≤ R.cells ∧ n ≤ R.slots) (hrest : (rest.map fun v => v.category).sum ≤ 8) (hdg : decode cc pc = .ok (.invokevirtual 73, 3)) (kk : ∀ g2 : zSt, zWo Y p l e R s m args below meth c nl k n kq g2 lv (rest) pc' (fk g2)) : zWo Y p l e R s m args below meth c nl k n kq g lv (.ref (zad Y c1) :: .ref (zad Y c0) :: rest) pc (zbd (fX6_findBurning g c0 c1) fk) := zr_callVvE cx (an := 1) (As := [.ref (zad Y c1)]) 7 hc0 (by decide) rfl (mX6_findBurning l Y g c0 c1 hc0 hc1) (zG_V zw_564 zw_566 zw_15 zw_31 zw_567) (by decide +kernel) hR hkn rfl rfl hrest hdg hpc kk
def fX6_findStrengths_p2  : Nat → zSt → Nat → Nat → Int → Option zSt
  | 0, _, _, _, _ => none
  | fu + 1, g, c0, c1, a2 =>
    (if i32 a2 < i32 (g.1 c1 0) then
    zck ((0 : Int) ≤ a2 ∧ a2 < 9) (
    zck ((0 : Int) ≤ a2 ∧ a2 < 9) (
    zlet ((2 * (g.1 (c1 + 1) (Int.toNat a2))) + (g.1 (c1 + 2) (Int.toNat a2))) (fun x1 =>
    zbd (fX6_isAlive g c0 x1) (fun v2 =>
    (if i32 v2 = i32 0 then
    fX6_findStrengths_p2 fu g c0 c1 (a2 + 1)
    else
    zck ((0 : Int) ≤ a2 ∧ a2 < 9) (
    zck ((0 : Int) ≤ x1 ∧ x1 < 24) (
    zlet ((2 * (g.1 (c1 + 1) (Int.toNat a2))) + (g.1 (c0 + 5) (Int.toNat x1))) (fun x3 =>
    zck ((0 : Int) ≤ x3 ∧ x3 < 24) (
    zck ((0 : Int) ≤ a2 ∧ a2 < 9) (
    zck ((0 : Int) ≤ x3 ∧ x3 < 24) (zlet (zwr g (c0 + 10) (Int.toNat x3) ((g.1 (c0 + 10) (Int.toNat x3)) + (g.1 (c1 + 3) (Int.toNat a2)))) (fun g4 =>
    fX6_findStrengths_p2 fu g4 c0 c1 (a2 + 1)))))))))))))
    else
    some g)
def fX6_findStrengths (g : zSt) (c0 : Nat) (c1 : Nat) : Option zSt :=
    fX6_findStrengths_p2 zfu g c0 c1 0
theorem wX6_findStrengths_p2 (cx : zCx Y p s m args meth c RX6 cX6_findStrengths 4 none)   : ∀ (fu : Nat) (g : zSt) (c0 : Nat) (c1 : Nat) (a2 : Int) (hc0 : zV Y c0 = 7) (hc1 : zV Y c1 = 2), zWo Y p l e (zrm 1) s m args below meth c 4 0 0 (fun g9 : zSt => MQ below (zQv Y g9) args s 0 0 (zA Y)) g [(0, .ref (zad Y c0)), (1, .ref (zad Y c1)), (2, .int (i32 a2))] ([]) 2 (fX6_findStrengths_p2 fu g c0 c1 a2) := by
  intro fu
  induction fu with
  | zero => intro g c0 c1 a2 hc0 hc1; exact zr_none
  | succ fu ih =>
    intro g c0 c1 a2 hc0 hc1
    rw [fX6_findStrengths_p2]
    refine zr_iload_n (pc' := 3) cx rfl 2 dX6_findStrengths_2 rfl rfl ?_
    refine zr_aload_n (pc' := 4) cx rfl 1 dX6_findStrengths_3 rfl rfl ?_
    refine zg_X6_141 (pc' := 7) cx rfl hc1 dX6_findStrengths_4 ?_
    refine zr_icmp_ge (pc' := 10) cx rfl (tgt := 69) dX6_findStrengths_7 rfl ?_ ?_
    · exact zr_vretE cx dX6_findStrengths_69
    · refine zr_iconst (pc' := 11) cx rfl dX6_findStrengths_10 ?_
      refine zr_aload_n (pc' := 12) cx rfl 1 dX6_findStrengths_11 rfl rfl ?_
      refine zg_X6_144 (pc' := 15) cx rfl (c2 := (c1 + 1)) hc1 rfl dX6_findStrengths_12 ?_
      refine zr_iload_n (pc' := 16) cx rfl 2 dX6_findStrengths_15 rfl rfl ?_
      refine zr_iald (pc' := 17) cx rfl 13 (zk2_1 hc1) (by decide) (L := 9) rfl dX6_findStrengths_16 ?_
      refine zr_imul (pc' := 18) cx rfl dX6_findStrengths_17 ?_
      refine zr_aload_n (pc' := 19) cx rfl 1 dX6_findStrengths_18 rfl rfl ?_
      refine zg_X6_145 (pc' := 22) cx rfl (c2 := (c1 + 2)) hc1 rfl dX6_findStrengths_19 ?_
      refine zr_iload_n (pc' := 23) cx rfl 2 dX6_findStrengths_22 rfl rfl ?_
      refine zr_iald (pc' := 24) cx rfl 13 (zk2_2 hc1) (by decide) (L := 9) rfl dX6_findStrengths_23 ?_
      refine zr_iadd (pc' := 25) cx rfl dX6_findStrengths_24 ?_
      refine zr_leti (fun x1 => ?_)
      refine zr_istore_n (pc' := 26) cx rfl (lv' := [(3, .int (i32 x1)), (0, .ref (zad Y c0)), (1, .ref (zad Y c1)), (2, .int (i32 a2))]) dX6_findStrengths_25 rfl (by decide) rfl ?_
      refine zr_aload_n (pc' := 27) cx rfl 1 dX6_findStrengths_26 rfl rfl ?_
      refine zr_iload_n (pc' := 28) cx rfl 0 dX6_findStrengths_27 rfl rfl ?_
      refine zc_X6_105 (pc' := 31) cx rfl hc0 ⟨Nat.le_of_ble_eq_true rfl, Nat.le_of_ble_eq_true rfl⟩ ⟨Nat.zero_le _, Nat.zero_le _⟩ (Nat.le_of_ble_eq_true rfl) dX6_findStrengths_28 (fun v2 => ?_)
      refine zr_if_eq (pc' := 34) cx rfl (tgt := 63) dX6_findStrengths_31 rfl ?_ ?_
      · refine zr_iinc (pc' := 66) cx rfl (lv' := [(2, .int (i32 (a2 + 1))), (3, .int (i32 x1)), (0, .ref (zad Y c0)), (1, .ref (zad Y c1))]) 3 dX6_findStrengths_63 rfl (by decide) rfl ?_
        refine zr_goto cx (tgt := 2) dX6_findStrengths_66 rfl ?_
        refine zr_sub [2, 3, 0] rfl ?_
        exact ih g c0 c1 (a2 + 1) hc0 hc1
      · refine zr_aload_n (pc' := 35) cx rfl 1 dX6_findStrengths_34 rfl rfl ?_
        refine zg_X6_47 (pc' := 38) cx rfl (c2 := (c0 + 10)) hc0 rfl dX6_findStrengths_35 ?_
        refine zr_iconst (pc' := 39) cx rfl dX6_findStrengths_38 ?_
        refine zr_aload_n (pc' := 40) cx rfl 2 dX6_findStrengths_39 rfl rfl ?_
        refine zg_X6_144 (pc' := 43) cx rfl (c2 := (c1 + 1)) hc1 rfl dX6_findStrengths_40 ?_
        refine zr_iload_n (pc' := 44) cx rfl 3 dX6_findStrengths_43 rfl rfl ?_
        refine zr_iald (pc' := 45) cx rfl 13 (zk2_1 hc1) (by decide) (L := 9) rfl dX6_findStrengths_44 ?_
        refine zr_imul (pc' := 46) cx rfl dX6_findStrengths_45 ?_
        refine zr_aload_n (pc' := 47) cx rfl 1 dX6_findStrengths_46 rfl rfl ?_
        refine zg_X6_25 (pc' := 50) cx rfl (c2 := (c0 + 5)) hc0 rfl dX6_findStrengths_47 ?_
        refine zr_iload_n (pc' := 51) cx rfl 0 dX6_findStrengths_50 rfl rfl ?_
        refine zr_iald (pc' := 52) cx rfl 11 (zk7_5 hc0) (by decide) (L := 24) rfl dX6_findStrengths_51 ?_
        refine zr_iadd (pc' := 53) cx rfl dX6_findStrengths_52 ?_
        refine zr_leti (fun x3 => ?_)
        refine zr_dup2 (pc' := 54) cx rfl dX6_findStrengths_53 rfl rfl ?_
        refine zr_iald (pc' := 55) cx rfl 11 (zk7_10 hc0) (by decide) (L := 24) rfl dX6_findStrengths_54 ?_
        refine zr_aload_n (pc' := 56) cx rfl 2 dX6_findStrengths_55 rfl rfl ?_
        refine zg_X6_148 (pc' := 59) cx rfl (c2 := (c1 + 3)) hc1 rfl dX6_findStrengths_56 ?_
        refine zr_iload_n (pc' := 60) cx rfl 3 dX6_findStrengths_59 rfl rfl ?_
        refine zr_iald (pc' := 61) cx rfl 13 (zk2_3 hc1) (by decide) (L := 9) rfl dX6_findStrengths_60 ?_
        refine zr_iadd (pc' := 62) cx rfl dX6_findStrengths_61 ?_
        refine zr_iast (pc' := 63) cx rfl 11 (zk7_10 hc0) (by decide) (L := 24) rfl dX6_findStrengths_62 ?_
        refine zr_letS (fun g4 => ?_)
        refine zr_iinc (pc' := 66) cx rfl (lv' := [(2, .int (i32 (a2 + 1))), (3, .int (i32 x1)), (0, .ref (zad Y c0)), (1, .ref (zad Y c1))]) 3 dX6_findStrengths_63 rfl (by decide) rfl ?_
        refine zr_goto cx (tgt := 2) dX6_findStrengths_66 rfl ?_
        refine zr_sub [2, 3, 0] rfl ?_
        exact ih g4 c0 c1 (a2 + 1) hc0 hc1
theorem wX6_findStrengths (cx : zCx Y p s m args meth c RX6 cX6_findStrengths 4 none) (g : zSt) (c0 : Nat) (c1 : Nat) (hc0 : zV Y c0 = 7) (hc1 : zV Y c1 = 2) : zWo Y p l e (zrm 1) s m args below meth c 4 0 0 (fun g9 : zSt => MQ below (zQv Y g9) args s 0 0 (zA Y)) g [(0, .ref (zad Y c0)), (1, .ref (zad Y c1))] ([]) 0 (fX6_findStrengths g c0 c1) := by
  unfold fX6_findStrengths
  refine zr_iconst (pc' := 1) cx rfl dX6_findStrengths_0 ?_
  refine zr_istore_n (pc' := 2) cx rfl (lv' := [(2, .int (i32 0)), (0, .ref (zad Y c0)), (1, .ref (zad Y c1))]) dX6_findStrengths_1 rfl (by decide) rfl ?_
  refine zr_sub [1, 2, 0] rfl ?_
  exact wX6_findStrengths_p2 cx zfu g c0 c1 0 hc0 hc1
theorem mX6_findStrengths (l : Launch) (Y : zLy) (g : zSt) (c0 : Nat) (c1 : Nat) (hc0 : zV Y c0 = 7) (hc1 : zV Y c1 = 2) : ∀ g2, fX6_findStrengths g c0 c1 = some g2 → zMt l yX6_findStrengths cX6_findStrengths 4 none 1 [.ref (zad Y c0), .ref (zad Y c1)] Y g (zQv Y g2) := by
  intro g2 hv
  refine zmet_of RX6 rfl (by decide +kernel) (Nat.le_of_ble_eq_true rfl) ?_
  intro p e s m below meth c cx H locs ls hH hS hl
  exact wX6_findStrengths cx g c0 c1 hc0 hc1 g2 hv H locs ls hH hS hl
theorem zc_X6_81 (cx : zCx Y p s m args meth c RX6 cc nl ret) (hpc : pc + 3 = pc') {g : zSt} {c0 : Nat} {c1 : Nat} (hc0 : zV Y c0 = 7) (hc1 : zV Y c1 = 2) {fk : zSt → Option ρ} (hR : 1 + 1 ≤ R.frames ∧ 8 + (4 + 11) + 40 * 1 ≤ R.locals) (hkn : k ≤ R.cells ∧ n ≤ R.slots) (hrest : (rest.map fun v => v.category).sum ≤ 8) (hdg : decode cc pc = .ok (.invokevirtual 81, 3)) (kk : ∀ g2 : zSt, zWo Y p l e R s m args below meth c nl k n kq g2 lv (rest) pc' (fk g2)) : zWo Y p l e R s m args below meth c nl k n kq g lv (.ref (zad Y c1) :: .ref (zad Y c0) :: rest) pc (zbd (fX6_findStrengths g c0 c1) fk) := zr_callVvE cx (an := 1) (As := [.ref (zad Y c1)]) 7 hc0 (by decide) rfl (mX6_findStrengths l Y g c0 c1 hc0 hc1) (zG_V zw_568 zw_570 zw_16 zw_31 zw_571) (by decide +kernel) hR hkn rfl rfl hrest hdg hpc kk
def fX6_followCables_p63 (k2 : zSt → Nat → Nat → Int → Option zSt) : Nat → zSt → Nat → Nat → Int → Int → Option zSt
  | 0, _, _, _, _, _ => none
  | fu + 1, g, c0, c1, a2, a4 =>
    (if i32 a4 < i32 2 then
    zlet ((2 * a2) + a4) (fun x1 =>
    zbd (fX0_connected g c1 a2 a4) (fun v2 =>
    zck ((0 : Int) ≤ v2 ∧ v2 < 24) (
    zck ((0 : Int) ≤ x1 ∧ x1 < 24) (zlet (zwr g (c0 + 5) (Int.toNat x1) (g.1 (c0 + 5) (Int.toNat v2))) (fun g3 =>
    zck ((0 : Int) ≤ x1 ∧ x1 < 24) (
    (if i32 (g3.1 (c1 + 5) (Int.toNat x1)) = i32 0 then
    zck ((0 : Int) ≤ v2 ∧ v2 < 24) (
    (if i32 (g3.1 (c0 + 4) (Int.toNat v2)) = i32 0 then
    zck ((0 : Int) ≤ x1 ∧ x1 < 24) (zck ((0 : Int) = 0 ∨ (0 : Int) = 1) (zlet (zwr g3 (c0 + 4) (Int.toNat x1) 0) (fun g5 =>
    fX6_followCables_p63 k2 fu g5 c0 c1 a2 (a4 + 1))))
    else
    zck ((0 : Int) ≤ x1 ∧ x1 < 24) (zck ((1 : Int) = 0 ∨ (1 : Int) = 1) (zlet (zwr g3 (c0 + 4) (Int.toNat x1) 1) (fun g6 =>
    fX6_followCables_p63 k2 fu g6 c0 c1 a2 (a4 + 1))))))
    else
    zck ((0 : Int) ≤ x1 ∧ x1 < 24) (zck ((1 : Int) = 0 ∨ (1 : Int) = 1) (zlet (zwr g3 (c0 + 4) (Int.toNat x1) 1) (fun g4 =>
    fX6_followCables_p63 k2 fu g4 c0 c1 a2 (a4 + 1)))))))))))
    else
    k2 g c0 c1 (a2 + 1))
def fX6_followCables_p151  : Nat → zSt → Nat → Nat → Int → Option zSt
  | 0, _, _, _, _ => none
  | fu + 1, g, c0, c1, a2 =>
    (if i32 0 < i32 a2 then
    zck ((0 : Int) ≤ a2 ∧ a2 < 12) (
    zlet (g.1 (c1 + 1) (Int.toNat a2)) (fun x7 =>
    zck ((0 : Int) ≤ x7 ∧ x7 < 12) (
    zck ((0 : Int) ≤ a2 ∧ a2 < 12) (
    zck ((0 : Int) ≤ x7 ∧ x7 < 12) (zlet (zwr g (c0 + 2) (Int.toNat x7) ((g.1 (c0 + 2) (Int.toNat x7)) + ((g.1 (c0 + 2) (Int.toNat a2)) + 1))) (fun g8 =>
    fX6_followCables_p151 fu g8 c0 c1 (a2 + (-1))))))))
    else
    some g)
def fX6_followCables_p2  : Nat → zSt → Nat → Nat → Int → Option zSt
  | 0, _, _, _, _ => none
  | fu + 1, g, c0, c1, a2 =>
    (if i32 a2 < i32 (g.1 c1 0) then
    zck ((0 : Int) ≤ a2 ∧ a2 < 12) (
    zlet (g.1 (c1 + 1) (Int.toNat a2)) (fun x10 =>
    zck ((0 : Int) ≤ x10 ∧ x10 < 12) (
    zck ((0 : Int) ≤ a2 ∧ a2 < 12) (zlet (zwr g (c0 + 1) (Int.toNat a2) ((g.1 (c0 + 1) (Int.toNat x10)) + 1)) (fun g11 =>
    zck ((0 : Int) ≤ a2 ∧ a2 < 12) (
    (if i32 (g11.1 (c1 + 3) (Int.toNat a2)) = i32 0 then
    zck ((0 : Int) ≤ a2 ∧ a2 < 12) (zck ((1 : Int) = 0 ∨ (1 : Int) = 1) (zlet (zwr g11 (c0 + 3) (Int.toNat a2) 1) (fun g12 =>
    fX6_followCables_p63 (fX6_followCables_p2 fu) zfu g12 c0 c1 a2 0)))
    else
    zck ((0 : Int) ≤ x10 ∧ x10 < 12) (
    (if i32 (g11.1 (c0 + 3) (Int.toNat x10)) = i32 0 then
    zck ((0 : Int) ≤ a2 ∧ a2 < 12) (zck ((0 : Int) = 0 ∨ (0 : Int) = 1) (zlet (zwr g11 (c0 + 3) (Int.toNat a2) 0) (fun g13 =>
    fX6_followCables_p63 (fX6_followCables_p2 fu) zfu g13 c0 c1 a2 0)))
    else
    zck ((0 : Int) ≤ a2 ∧ a2 < 12) (zck ((1 : Int) = 0 ∨ (1 : Int) = 1) (zlet (zwr g11 (c0 + 3) (Int.toNat a2) 1) (fun g14 =>
    fX6_followCables_p63 (fX6_followCables_p2 fu) zfu g14 c0 c1 a2 0))))))))))))
    else
    zlet ((g.1 c1 0) - 1) (fun x9 =>
    fX6_followCables_p151 zfu g c0 c1 x9))
def fX6_followCables (g : zSt) (c0 : Nat) (c1 : Nat) : Option zSt :=
    fX6_followCables_p2 zfu g c0 c1 1
theorem wX6_followCables_p63 (cx : zCx Y p s m args meth c RX6 cX6_followCables 7 none) {k2 : zSt → Nat → Nat → Int → Option zSt} (hk2 : ∀ (g : zSt) (c0 : Nat) (c1 : Nat) (a2 : Int) (hc0 : zV Y c0 = 7) (hc1 : zV Y c1 = 1), zWo Y p l e (zrm 1) s m args below meth c 7 0 0 (fun g9 : zSt => MQ below (zQv Y g9) args s 0 0 (zA Y)) g [(0, .ref (zad Y c0)), (1, .ref (zad Y c1)), (2, .int (i32 a2))] ([]) 2 (k2 g c0 c1 a2)) : ∀ (fu : Nat) (g : zSt) (c0 : Nat) (c1 : Nat) (a2 : Int) (a4 : Int) (hc0 : zV Y c0 = 7) (hc1 : zV Y c1 = 1), zWo Y p l e (zrm 1) s m args below meth c 7 0 0 (fun g9 : zSt => MQ below (zQv Y g9) args s 0 0 (zA Y)) g [(0, .ref (zad Y c0)), (1, .ref (zad Y c1)), (2, .int (i32 a2)), (4, .int (i32 a4))] ([]) 63 (fX6_followCables_p63 k2 fu g c0 c1 a2 a4) := by
  intro fu
  induction fu with
  | zero => intro g c0 c1 a2 a4 hc0 hc1; exact zr_none
  | succ fu ih =>
    intro g c0 c1 a2 a4 hc0 hc1
    rw [fX6_followCables_p63]
    refine zr_iload (pc' := 65) cx rfl 3 dX6_followCables_63 rfl ?_
    refine zr_iconst (pc' := 66) cx rfl dX6_followCables_65 ?_
    refine zr_icmp_ge (pc' := 69) cx rfl (tgt := 138) dX6_followCables_66 rfl ?_ ?_
    · refine zr_iinc (pc' := 141) cx rfl (lv' := [(2, .int (i32 (a2 + 1))), (0, .ref (zad Y c0)), (1, .ref (zad Y c1)), (4, .int (i32 a4))]) 2 dX6_followCables_138 rfl (by decide) rfl ?_
      refine zr_goto cx (tgt := 2) dX6_followCables_141 rfl ?_
      refine zr_sub [1, 2, 0] rfl ?_
      exact hk2 g c0 c1 (a2 + 1) hc0 hc1
    · refine zr_iconst (pc' := 70) cx rfl dX6_followCables_69 ?_
      refine zr_iload_n (pc' := 71) cx rfl 2 dX6_followCables_70 rfl rfl ?_
      refine zr_imul (pc' := 72) cx rfl dX6_followCables_71 ?_
      refine zr_iload (pc' := 74) cx rfl 3 dX6_followCables_72 rfl ?_
      refine zr_iadd (pc' := 75) cx rfl dX6_followCables_74 ?_
      refine zr_leti (fun x1 => ?_)
      refine zr_istore (pc' := 77) cx rfl (lv' := [(5, .int (i32 x1)), (0, .ref (zad Y c0)), (1, .ref (zad Y c1)), (2, .int (i32 a2)), (4, .int (i32 a4))]) dX6_followCables_75 (by decide) rfl ?_
      refine zr_aload_n (pc' := 78) cx rfl 2 dX6_followCables_77 rfl rfl ?_
      refine zr_iload_n (pc' := 79) cx rfl 3 dX6_followCables_78 rfl rfl ?_
      refine zr_iload (pc' := 81) cx rfl 4 dX6_followCables_79 rfl ?_
      refine zc_X6_121 (pc' := 84) cx rfl hc1 ⟨Nat.le_of_ble_eq_true rfl, Nat.le_of_ble_eq_true rfl⟩ ⟨Nat.zero_le _, Nat.zero_le _⟩ (Nat.le_of_ble_eq_true rfl) dX6_followCables_81 (fun v2 => ?_)
      refine zr_istore (pc' := 86) cx rfl (lv' := [(6, .int (i32 v2)), (5, .int (i32 x1)), (0, .ref (zad Y c0)), (1, .ref (zad Y c1)), (2, .int (i32 a2)), (4, .int (i32 a4))]) dX6_followCables_84 (by decide) rfl ?_
      refine zr_aload_n (pc' := 87) cx rfl 2 dX6_followCables_86 rfl rfl ?_
      refine zg_X6_25 (pc' := 90) cx rfl (c2 := (c0 + 5)) hc0 rfl dX6_followCables_87 ?_
      refine zr_iload (pc' := 92) cx rfl 1 dX6_followCables_90 rfl ?_
      refine zr_aload_n (pc' := 93) cx rfl 2 dX6_followCables_92 rfl rfl ?_
      refine zg_X6_25 (pc' := 96) cx rfl (c2 := (c0 + 5)) hc0 rfl dX6_followCables_93 ?_
      refine zr_iload (pc' := 98) cx rfl 0 dX6_followCables_96 rfl ?_
      refine zr_iald (pc' := 99) cx rfl 11 (zk7_5 hc0) (by decide) (L := 24) rfl dX6_followCables_98 ?_
      refine zr_iast (pc' := 100) cx rfl 11 (zk7_5 hc0) (by decide) (L := 24) rfl dX6_followCables_99 ?_
      refine zr_letS (fun g3 => ?_)
      refine zr_aload_n (pc' := 101) cx rfl 2 dX6_followCables_100 rfl rfl ?_
      refine zg_X6_22 (pc' := 104) cx rfl (c2 := (c0 + 4)) hc0 rfl dX6_followCables_101 ?_
      refine zr_iload (pc' := 106) cx rfl 1 dX6_followCables_104 rfl ?_
      refine zr_aload_n (pc' := 107) cx rfl 3 dX6_followCables_106 rfl rfl ?_
      refine zg_X6_124 (pc' := 110) cx rfl (c2 := (c1 + 5)) hc1 rfl dX6_followCables_107 ?_
      refine zr_iload (pc' := 112) cx rfl 1 dX6_followCables_110 rfl ?_
      refine zr_bald (pc' := 113) cx rfl 21 (zk1_5 hc1) (by decide) (L := 24) rfl dX6_followCables_112 ?_
      refine zr_if_ne (pc' := 116) cx rfl (tgt := 126) dX6_followCables_113 rfl ?_ ?_
      · refine zr_iconst (pc' := 127) cx rfl dX6_followCables_126 ?_
        refine zr_gotoS cx (tgt := 131) dX6_followCables_127 rfl ?_
        refine zr_bast (pc' := 132) cx rfl 21 (zk7_4 hc0) (by decide) (L := 24) rfl dX6_followCables_131 ?_
        refine zr_letS (fun g4 => ?_)
        refine zr_iinc (pc' := 135) cx rfl (lv' := [(4, .int (i32 (a4 + 1))), (6, .int (i32 v2)), (5, .int (i32 x1)), (0, .ref (zad Y c0)), (1, .ref (zad Y c1)), (2, .int (i32 a2))]) 5 dX6_followCables_132 rfl (by decide) rfl ?_
        refine zr_goto cx (tgt := 63) dX6_followCables_135 rfl ?_
        refine zr_sub [3, 4, 5, 0] rfl ?_
        exact ih g4 c0 c1 a2 (a4 + 1) hc0 hc1
      · refine zr_aload_n (pc' := 117) cx rfl 2 dX6_followCables_116 rfl rfl ?_
        refine zg_X6_22 (pc' := 120) cx rfl (c2 := (c0 + 4)) hc0 rfl dX6_followCables_117 ?_
        refine zr_iload (pc' := 122) cx rfl 0 dX6_followCables_120 rfl ?_
        refine zr_bald (pc' := 123) cx rfl 21 (zk7_4 hc0) (by decide) (L := 24) rfl dX6_followCables_122 ?_
        refine zr_if_eq (pc' := 126) cx rfl (tgt := 130) dX6_followCables_123 rfl ?_ ?_
        · refine zr_iconst (pc' := 131) cx rfl dX6_followCables_130 ?_
          refine zr_bast (pc' := 132) cx rfl 21 (zk7_4 hc0) (by decide) (L := 24) rfl dX6_followCables_131 ?_
          refine zr_letS (fun g5 => ?_)
          refine zr_iinc (pc' := 135) cx rfl (lv' := [(4, .int (i32 (a4 + 1))), (6, .int (i32 v2)), (5, .int (i32 x1)), (0, .ref (zad Y c0)), (1, .ref (zad Y c1)), (2, .int (i32 a2))]) 5 dX6_followCables_132 rfl (by decide) rfl ?_
          refine zr_goto cx (tgt := 63) dX6_followCables_135 rfl ?_
          refine zr_sub [3, 4, 5, 0] rfl ?_
          exact ih g5 c0 c1 a2 (a4 + 1) hc0 hc1
        · refine zr_iconst (pc' := 127) cx rfl dX6_followCables_126 ?_
          refine zr_gotoS cx (tgt := 131) dX6_followCables_127 rfl ?_
          refine zr_bast (pc' := 132) cx rfl 21 (zk7_4 hc0) (by decide) (L := 24) rfl dX6_followCables_131 ?_
          refine zr_letS (fun g6 => ?_)
          refine zr_iinc (pc' := 135) cx rfl (lv' := [(4, .int (i32 (a4 + 1))), (6, .int (i32 v2)), (5, .int (i32 x1)), (0, .ref (zad Y c0)), (1, .ref (zad Y c1)), (2, .int (i32 a2))]) 5 dX6_followCables_132 rfl (by decide) rfl ?_
          refine zr_goto cx (tgt := 63) dX6_followCables_135 rfl ?_
          refine zr_sub [3, 4, 5, 0] rfl ?_
          exact ih g6 c0 c1 a2 (a4 + 1) hc0 hc1
theorem wX6_followCables_p151 (cx : zCx Y p s m args meth c RX6 cX6_followCables 7 none)   : ∀ (fu : Nat) (g : zSt) (c0 : Nat) (c1 : Nat) (a2 : Int) (hc0 : zV Y c0 = 7) (hc1 : zV Y c1 = 1), zWo Y p l e (zrm 1) s m args below meth c 7 0 0 (fun g9 : zSt => MQ below (zQv Y g9) args s 0 0 (zA Y)) g [(0, .ref (zad Y c0)), (1, .ref (zad Y c1)), (2, .int (i32 a2))] ([]) 151 (fX6_followCables_p151 fu g c0 c1 a2) := by
  intro fu
  induction fu with
  | zero => intro g c0 c1 a2 hc0 hc1; exact zr_none
  | succ fu ih =>
    intro g c0 c1 a2 hc0 hc1
    rw [fX6_followCables_p151]
    refine zr_iload_n (pc' := 152) cx rfl 2 dX6_followCables_151 rfl rfl ?_
    refine zr_if_le (pc' := 155) cx rfl (tgt := 183) dX6_followCables_152 rfl ?_ ?_
    · exact zr_vretE cx dX6_followCables_183
    · refine zr_aload_n (pc' := 156) cx rfl 0 dX6_followCables_155 rfl rfl ?_
      refine zg_X6_15 (pc' := 159) cx rfl (c2 := (c0 + 2)) hc0 rfl dX6_followCables_156 ?_
      refine zr_aload_n (pc' := 160) cx rfl 1 dX6_followCables_159 rfl rfl ?_
      refine zg_X6_115 (pc' := 163) cx rfl (c2 := (c1 + 1)) hc1 rfl dX6_followCables_160 ?_
      refine zr_iload_n (pc' := 164) cx rfl 2 dX6_followCables_163 rfl rfl ?_
      refine zr_iald (pc' := 165) cx rfl 10 (zk1_1 hc1) (by decide) (L := 12) rfl dX6_followCables_164 ?_
      refine zr_leti (fun x7 => ?_)
      refine zr_dup2 (pc' := 166) cx rfl dX6_followCables_165 rfl rfl ?_
      refine zr_iald (pc' := 167) cx rfl 10 (zk7_2 hc0) (by decide) (L := 12) rfl dX6_followCables_166 ?_
      refine zr_aload_n (pc' := 168) cx rfl 0 dX6_followCables_167 rfl rfl ?_
      refine zg_X6_15 (pc' := 171) cx rfl (c2 := (c0 + 2)) hc0 rfl dX6_followCables_168 ?_
      refine zr_iload_n (pc' := 172) cx rfl 2 dX6_followCables_171 rfl rfl ?_
      refine zr_iald (pc' := 173) cx rfl 10 (zk7_2 hc0) (by decide) (L := 12) rfl dX6_followCables_172 ?_
      refine zr_iconst (pc' := 174) cx rfl dX6_followCables_173 ?_
      refine zr_iadd (pc' := 175) cx rfl dX6_followCables_174 ?_
      refine zr_iadd (pc' := 176) cx rfl dX6_followCables_175 ?_
      refine zr_iast (pc' := 177) cx rfl 10 (zk7_2 hc0) (by decide) (L := 12) rfl dX6_followCables_176 ?_
      refine zr_letS (fun g8 => ?_)
      refine zr_iinc (pc' := 180) cx rfl (lv' := [(2, .int (i32 (a2 + (-1)))), (0, .ref (zad Y c0)), (1, .ref (zad Y c1))]) 2 dX6_followCables_177 rfl (by decide) rfl ?_
      refine zr_goto cx (tgt := 151) dX6_followCables_180 rfl ?_
      refine zr_sub [1, 2, 0] rfl ?_
      exact ih g8 c0 c1 (a2 + (-1)) hc0 hc1
theorem wX6_followCables_p2 (cx : zCx Y p s m args meth c RX6 cX6_followCables 7 none)   : ∀ (fu : Nat) (g : zSt) (c0 : Nat) (c1 : Nat) (a2 : Int) (hc0 : zV Y c0 = 7) (hc1 : zV Y c1 = 1), zWo Y p l e (zrm 1) s m args below meth c 7 0 0 (fun g9 : zSt => MQ below (zQv Y g9) args s 0 0 (zA Y)) g [(0, .ref (zad Y c0)), (1, .ref (zad Y c1)), (2, .int (i32 a2))] ([]) 2 (fX6_followCables_p2 fu g c0 c1 a2) := by
  intro fu
  induction fu with
  | zero => intro g c0 c1 a2 hc0 hc1; exact zr_none
  | succ fu ih =>
    intro g c0 c1 a2 hc0 hc1
    rw [fX6_followCables_p2]
    refine zr_iload_n (pc' := 3) cx rfl 2 dX6_followCables_2 rfl rfl ?_
    refine zr_aload_n (pc' := 4) cx rfl 1 dX6_followCables_3 rfl rfl ?_
    refine zg_X6_56 (pc' := 7) cx rfl hc1 dX6_followCables_4 ?_
    refine zr_icmp_ge (pc' := 10) cx rfl (tgt := 144) dX6_followCables_7 rfl ?_ ?_
    · refine zr_aload_n (pc' := 145) cx rfl 1 dX6_followCables_144 rfl rfl ?_
      refine zg_X6_56 (pc' := 148) cx rfl hc1 dX6_followCables_145 ?_
      refine zr_iconst (pc' := 149) cx rfl dX6_followCables_148 ?_
      refine zr_isub (pc' := 150) cx rfl dX6_followCables_149 ?_
      refine zr_leti (fun x9 => ?_)
      refine zr_istore_n (pc' := 151) cx rfl (lv' := [(2, .int (i32 x9)), (0, .ref (zad Y c0)), (1, .ref (zad Y c1))]) dX6_followCables_150 rfl (by decide) rfl ?_
      refine zr_sub [1, 2, 0] rfl ?_
      exact wX6_followCables_p151 cx zfu g c0 c1 x9 hc0 hc1
    · refine zr_aload_n (pc' := 11) cx rfl 1 dX6_followCables_10 rfl rfl ?_
      refine zg_X6_115 (pc' := 14) cx rfl (c2 := (c1 + 1)) hc1 rfl dX6_followCables_11 ?_
      refine zr_iload_n (pc' := 15) cx rfl 2 dX6_followCables_14 rfl rfl ?_
      refine zr_iald (pc' := 16) cx rfl 10 (zk1_1 hc1) (by decide) (L := 12) rfl dX6_followCables_15 ?_
      refine zr_leti (fun x10 => ?_)
      refine zr_istore_n (pc' := 17) cx rfl (lv' := [(3, .int (i32 x10)), (0, .ref (zad Y c0)), (1, .ref (zad Y c1)), (2, .int (i32 a2))]) dX6_followCables_16 rfl (by decide) rfl ?_
      refine zr_aload_n (pc' := 18) cx rfl 1 dX6_followCables_17 rfl rfl ?_
      refine zg_X6_9 (pc' := 21) cx rfl (c2 := (c0 + 1)) hc0 rfl dX6_followCables_18 ?_
      refine zr_iload_n (pc' := 22) cx rfl 3 dX6_followCables_21 rfl rfl ?_
      refine zr_aload_n (pc' := 23) cx rfl 1 dX6_followCables_22 rfl rfl ?_
      refine zg_X6_9 (pc' := 26) cx rfl (c2 := (c0 + 1)) hc0 rfl dX6_followCables_23 ?_
      refine zr_iload_n (pc' := 27) cx rfl 0 dX6_followCables_26 rfl rfl ?_
      refine zr_iald (pc' := 28) cx rfl 10 (zk7_1 hc0) (by decide) (L := 12) rfl dX6_followCables_27 ?_
      refine zr_iconst (pc' := 29) cx rfl dX6_followCables_28 ?_
      refine zr_iadd (pc' := 30) cx rfl dX6_followCables_29 ?_
      refine zr_iast (pc' := 31) cx rfl 10 (zk7_1 hc0) (by decide) (L := 12) rfl dX6_followCables_30 ?_
      refine zr_letS (fun g11 => ?_)
      refine zr_aload_n (pc' := 32) cx rfl 1 dX6_followCables_31 rfl rfl ?_
      refine zg_X6_18 (pc' := 35) cx rfl (c2 := (c0 + 3)) hc0 rfl dX6_followCables_32 ?_
      refine zr_iload_n (pc' := 36) cx rfl 3 dX6_followCables_35 rfl rfl ?_
      refine zr_aload_n (pc' := 37) cx rfl 2 dX6_followCables_36 rfl rfl ?_
      refine zg_X6_118 (pc' := 40) cx rfl (c2 := (c1 + 3)) hc1 rfl dX6_followCables_37 ?_
      refine zr_iload_n (pc' := 41) cx rfl 3 dX6_followCables_40 rfl rfl ?_
      refine zr_bald (pc' := 42) cx rfl 20 (zk1_3 hc1) (by decide) (L := 12) rfl dX6_followCables_41 ?_
      refine zr_if_eq (pc' := 45) cx rfl (tgt := 54) dX6_followCables_42 rfl ?_ ?_
      · refine zr_iconst (pc' := 55) cx rfl dX6_followCables_54 ?_
        refine zr_gotoS cx (tgt := 59) dX6_followCables_55 rfl ?_
        refine zr_bast (pc' := 60) cx rfl 20 (zk7_3 hc0) (by decide) (L := 12) rfl dX6_followCables_59 ?_
        refine zr_letS (fun g12 => ?_)
        refine zr_iconst (pc' := 61) cx rfl dX6_followCables_60 ?_
        refine zr_istore (pc' := 63) cx rfl (lv' := [(4, .int (i32 0)), (3, .int (i32 x10)), (0, .ref (zad Y c0)), (1, .ref (zad Y c1)), (2, .int (i32 a2))]) dX6_followCables_61 (by decide) rfl ?_
        refine zr_sub [2, 3, 4, 0] rfl ?_
        exact wX6_followCables_p63 cx ih zfu g12 c0 c1 a2 0 hc0 hc1
      · refine zr_aload_n (pc' := 46) cx rfl 1 dX6_followCables_45 rfl rfl ?_
        refine zg_X6_18 (pc' := 49) cx rfl (c2 := (c0 + 3)) hc0 rfl dX6_followCables_46 ?_
        refine zr_iload_n (pc' := 50) cx rfl 0 dX6_followCables_49 rfl rfl ?_
        refine zr_bald (pc' := 51) cx rfl 20 (zk7_3 hc0) (by decide) (L := 12) rfl dX6_followCables_50 ?_
        refine zr_if_eq (pc' := 54) cx rfl (tgt := 58) dX6_followCables_51 rfl ?_ ?_
        · refine zr_iconst (pc' := 59) cx rfl dX6_followCables_58 ?_
          refine zr_bast (pc' := 60) cx rfl 20 (zk7_3 hc0) (by decide) (L := 12) rfl dX6_followCables_59 ?_
          refine zr_letS (fun g13 => ?_)
          refine zr_iconst (pc' := 61) cx rfl dX6_followCables_60 ?_
          refine zr_istore (pc' := 63) cx rfl (lv' := [(4, .int (i32 0)), (3, .int (i32 x10)), (0, .ref (zad Y c0)), (1, .ref (zad Y c1)), (2, .int (i32 a2))]) dX6_followCables_61 (by decide) rfl ?_
          refine zr_sub [2, 3, 4, 0] rfl ?_
          exact wX6_followCables_p63 cx ih zfu g13 c0 c1 a2 0 hc0 hc1
        · refine zr_iconst (pc' := 55) cx rfl dX6_followCables_54 ?_
          refine zr_gotoS cx (tgt := 59) dX6_followCables_55 rfl ?_
          refine zr_bast (pc' := 60) cx rfl 20 (zk7_3 hc0) (by decide) (L := 12) rfl dX6_followCables_59 ?_
          refine zr_letS (fun g14 => ?_)
          refine zr_iconst (pc' := 61) cx rfl dX6_followCables_60 ?_
          refine zr_istore (pc' := 63) cx rfl (lv' := [(4, .int (i32 0)), (3, .int (i32 x10)), (0, .ref (zad Y c0)), (1, .ref (zad Y c1)), (2, .int (i32 a2))]) dX6_followCables_61 (by decide) rfl ?_
          refine zr_sub [2, 3, 4, 0] rfl ?_
          exact wX6_followCables_p63 cx ih zfu g14 c0 c1 a2 0 hc0 hc1
theorem wX6_followCables (cx : zCx Y p s m args meth c RX6 cX6_followCables 7 none) (g : zSt) (c0 : Nat) (c1 : Nat) (hc0 : zV Y c0 = 7) (hc1 : zV Y c1 = 1) : zWo Y p l e (zrm 1) s m args below meth c 7 0 0 (fun g9 : zSt => MQ below (zQv Y g9) args s 0 0 (zA Y)) g [(0, .ref (zad Y c0)), (1, .ref (zad Y c1))] ([]) 0 (fX6_followCables g c0 c1) := by
  unfold fX6_followCables
  refine zr_iconst (pc' := 1) cx rfl dX6_followCables_0 ?_
  refine zr_istore_n (pc' := 2) cx rfl (lv' := [(2, .int (i32 1)), (0, .ref (zad Y c0)), (1, .ref (zad Y c1))]) dX6_followCables_1 rfl (by decide) rfl ?_
  refine zr_sub [1, 2, 0] rfl ?_
  exact wX6_followCables_p2 cx zfu g c0 c1 1 hc0 hc1
theorem mX6_followCables (l : Launch) (Y : zLy) (g : zSt) (c0 : Nat) (c1 : Nat) (hc0 : zV Y c0 = 7) (hc1 : zV Y c1 = 1) : ∀ g2, fX6_followCables g c0 c1 = some g2 → zMt l yX6_followCables cX6_followCables 7 none 1 [.ref (zad Y c0), .ref (zad Y c1)] Y g (zQv Y g2) := by
  intro g2 hv
  refine zmet_of RX6 rfl (by decide +kernel) (Nat.le_of_ble_eq_true rfl) ?_
  intro p e s m below meth c cx H locs ls hH hS hl
  exact wX6_followCables cx g c0 c1 hc0 hc1 g2 hv H locs ls hH hS hl
theorem zc_X6_65 (cx : zCx Y p s m args meth c RX6 cc nl ret) (hpc : pc + 3 = pc') {g : zSt} {c0 : Nat} {c1 : Nat} (hc0 : zV Y c0 = 7) (hc1 : zV Y c1 = 1) {fk : zSt → Option ρ} (hR : 1 + 1 ≤ R.frames ∧ 8 + (7 + 11) + 40 * 1 ≤ R.locals) (hkn : k ≤ R.cells ∧ n ≤ R.slots) (hrest : (rest.map fun v => v.category).sum ≤ 8) (hdg : decode cc pc = .ok (.invokevirtual 65, 3)) (kk : ∀ g2 : zSt, zWo Y p l e R s m args below meth c nl k n kq g2 lv (rest) pc' (fk g2)) : zWo Y p l e R s m args below meth c nl k n kq g lv (.ref (zad Y c1) :: .ref (zad Y c0) :: rest) pc (zbd (fX6_followCables g c0 c1) fk) := zr_callVvE cx (an := 1) (As := [.ref (zad Y c1)]) 7 hc0 (by decide) rfl (mX6_followCables l Y g c0 c1 hc0 hc1) (zG_V zw_556 zw_558 zw_14 zw_31 zw_559) (by decide +kernel) hR hkn rfl rfl hrest hdg hpc kk
def fX6_lampOf (g : zSt) (c0 : Nat) (a1 : Int) : Option Int :=
    zck ((0 : Int) ≤ a1 ∧ a1 < 24) (
    some (g.1 (c0 + 10) (Int.toNat a1)))
theorem wX6_lampOf (cx : zCx Y p s m args meth c RX6 cX6_lampOf 2 (some .int)) (g : zSt) (c0 : Nat) (a1 : Int) (hc0 : zV Y c0 = 7) : zWo Y p l e (zrm 0) s m args below meth c 2 0 0 (fun v : Int => MQ below (zQi Y v g) args s 0 0 (zA Y)) g [(0, .ref (zad Y c0)), (1, .int (i32 a1))] ([]) 0 (fX6_lampOf g c0 a1) := by
  unfold fX6_lampOf
  refine zr_aload_n (pc' := 1) cx rfl 0 dX6_lampOf_0 rfl rfl ?_
  refine zg_X6_47 (pc' := 4) cx rfl (c2 := (c0 + 10)) hc0 rfl dX6_lampOf_1 ?_
  refine zr_iload_n (pc' := 5) cx rfl 1 dX6_lampOf_4 rfl rfl ?_
  refine zr_iald (pc' := 6) cx rfl 11 (zk7_10 hc0) (by decide) (L := 24) rfl dX6_lampOf_5 ?_
  exact zr_iretP cx dX6_lampOf_6
theorem mX6_lampOf (l : Launch) (Y : zLy) (g : zSt) (c0 : Nat) (a1 : Int) (hc0 : zV Y c0 = 7) : ∀ v, fX6_lampOf g c0 a1 = some v → zMt l yX6_lampOf cX6_lampOf 2 (some .int) 0 [.ref (zad Y c0), .int (i32 a1)] Y g (zQi Y v g) := by
  intro v hv
  refine zmet_of RX6 rfl (by decide +kernel) (Nat.le_of_ble_eq_true rfl) ?_
  intro p e s m below meth c cx H locs ls hH hS hl
  exact wX6_lampOf cx g c0 a1 hc0 v hv H locs ls hH hS hl
theorem zc_X7_275 (cx : zCx Y p s m args meth c RX7 cc nl ret) (hpc : pc + 3 = pc') {g : zSt} {c0 : Nat} {a1 : Int} (hc0 : zV Y c0 = 7) {fk : Int → Option ρ} (hR : 0 + 1 ≤ R.frames ∧ 8 + (2 + 11) + 40 * 0 ≤ R.locals) (hkn : k ≤ R.cells ∧ n ≤ R.slots) (hrest : (rest.map fun v => v.category).sum ≤ 8) (hdg : decode cc pc = .ok (.invokevirtual 275, 3)) (kk : ∀ v : Int, zWo Y p l e R s m args below meth c nl k n kq g lv (.int (i32 v) :: rest) pc' (fk v)) : zWo Y p l e R s m args below meth c nl k n kq g lv (.int (i32 a1) :: .ref (zad Y c0) :: rest) pc (zbd (fX6_lampOf g c0 a1) fk) := zr_callViP cx (an := 1) (As := [.int (i32 a1)]) 7 hc0 (by decide) rfl (mX6_lampOf l Y g c0 a1 hc0) (zG_V zw_490 zw_491 zw_492 zw_31 zw_493) (by decide +kernel) hR hkn rfl rfl hrest hdg hpc kk
theorem zc_X6_88 (cx : zCx Y p s m args meth c RX6 cc nl ret) (hpc : pc + 3 = pc') {g : zSt} {c0 : Nat} {a1 : Int} (hc0 : zV Y c0 = 7) {fk : Int → Option ρ} (hR : 0 + 1 ≤ R.frames ∧ 8 + (2 + 11) + 40 * 0 ≤ R.locals) (hkn : k ≤ R.cells ∧ n ≤ R.slots) (hrest : (rest.map fun v => v.category).sum ≤ 8) (hdg : decode cc pc = .ok (.invokevirtual 88, 3)) (kk : ∀ v : Int, zWo Y p l e R s m args below meth c nl k n kq g lv (.int (i32 v) :: rest) pc' (fk v)) : zWo Y p l e R s m args below meth c nl k n kq g lv (.int (i32 a1) :: .ref (zad Y c0) :: rest) pc (zbd (fX6_lampOf g c0 a1) fk) := zr_callViP cx (an := 1) (As := [.int (i32 a1)]) 7 hc0 (by decide) rfl (mX6_lampOf l Y g c0 a1 hc0) (zG_V zw_576 zw_491 zw_492 zw_31 zw_493) (by decide +kernel) hR hkn rfl rfl hrest hdg hpc kk
def fX6_shareLeak_p77 (k8 : zSt → Nat → Nat → Int → Int → Int → Option zSt) (g : zSt) (yc0 : Nat) (y1 : Int) (y2 : Int) (c0 : Nat) (c1 : Nat) (a2 : Int) (a3 : Int) (a4 : Int) : Option zSt :=
    zck ((0 : Int) ≤ y1 ∧ y1 < 9) (zlet (zwr g yc0 (Int.toNat y1) y2) (fun g1 =>
    zck ((0 : Int) ≤ a4 ∧ a4 < 9) (
    zlet (a3 - (g1.1 (c0 + 7) (Int.toNat a4))) (fun x2 =>
    zck ((0 : Int) ≤ a4 ∧ a4 < 9) (
    zlet ((2 * (g1.1 (c1 + 1) (Int.toNat a4))) + a2) (fun x3 =>
    zck ((0 : Int) ≤ x3 ∧ x3 < 24) (
    zck ((0 : Int) ≤ a4 ∧ a4 < 9) (
    zck ((0 : Int) ≤ x3 ∧ x3 < 24) (zlet (zwr g1 (c0 + 9) (Int.toNat x3) ((g1.1 (c0 + 9) (Int.toNat x3)) + (g1.1 (c0 + 7) (Int.toNat a4)))) (fun g4 =>
    k8 g4 c0 c1 a2 x2 (a4 + 1)))))))))))
def fX6_shareLeak_p8  : Nat → zSt → Nat → Nat → Int → Int → Int → Option zSt
  | 0, _, _, _, _, _, _ => none
  | fu + 1, g, c0, c1, a2, a3, a4 =>
    (if i32 a4 < i32 (g.1 c1 0) then
    zck ((0 : Int) ≤ a4 ∧ a4 < 9) (
    zck ((0 : Int) ≤ a4 ∧ a4 < 9) (
    zlet ((2 * (g.1 (c1 + 1) (Int.toNat a4))) + (g.1 (c1 + 2) (Int.toNat a4))) (fun x5 =>
    zck ((0 : Int) ≤ x5 ∧ x5 < 24) (
    (if i32 (g.1 (c0 + 5) (Int.toNat x5)) = i32 a2 then
    zbd (fX6_isAlive g c0 x5) (fun v6 =>
    (if i32 v6 = i32 0 then
    fX6_shareLeak_p77 (fX6_shareLeak_p8 fu) g (c0 + 7) a4 0 c0 c1 a2 a3 a4
    else
    zck ((0 : Int) ≤ a4 ∧ a4 < 9) (
    fX6_shareLeak_p77 (fX6_shareLeak_p8 fu) g (c0 + 7) a4 (zmn (g.1 (c1 + 3) (Int.toNat a4)) a3) c0 c1 a2 a3 a4)))
    else
    fX6_shareLeak_p8 fu g c0 c1 a2 a3 (a4 + 1))))))
    else
    some g)
def fX6_shareLeak (g : zSt) (c0 : Nat) (c1 : Nat) (a2 : Int) : Option zSt :=
    zlet (g.1 c0 7) (fun x7 =>
    fX6_shareLeak_p8 zfu g c0 c1 a2 x7 0)
theorem wX6_shareLeak_p77 (cx : zCx Y p s m args meth c RX6 cX6_shareLeak 6 none) {k8 : zSt → Nat → Nat → Int → Int → Int → Option zSt} (hk8 : ∀ (g : zSt) (c0 : Nat) (c1 : Nat) (a2 : Int) (a3 : Int) (a4 : Int) (hc0 : zV Y c0 = 7) (hc1 : zV Y c1 = 2), zWo Y p l e (zrm 1) s m args below meth c 6 0 0 (fun g9 : zSt => MQ below (zQv Y g9) args s 0 0 (zA Y)) g [(0, .ref (zad Y c0)), (1, .ref (zad Y c1)), (2, .int (i32 a2)), (3, .int (i32 a3)), (4, .int (i32 a4))] ([]) 8 (k8 g c0 c1 a2 a3 a4)) : ∀ (g : zSt) (yc0 : Nat) (y1 : Int) (y2 : Int) (c0 : Nat) (c1 : Nat) (a2 : Int) (a3 : Int) (a4 : Int) (hyc0 : zV Y yc0 = 13) (hc0 : zV Y c0 = 7) (hc1 : zV Y c1 = 2), zWo Y p l e (zrm 1) s m args below meth c 6 0 0 (fun g9 : zSt => MQ below (zQv Y g9) args s 0 0 (zA Y)) g [(0, .ref (zad Y c0)), (1, .ref (zad Y c1)), (2, .int (i32 a2)), (3, .int (i32 a3)), (4, .int (i32 a4))] (.int (i32 y2) :: .int (i32 y1) :: .ref (zad Y yc0) :: []) 77 (fX6_shareLeak_p77 k8 g yc0 y1 y2 c0 c1 a2 a3 a4) := by
  intro g yc0 y1 y2 c0 c1 a2 a3 a4 hyc0 hc0 hc1
  unfold fX6_shareLeak_p77
  refine zr_iast (pc' := 78) cx rfl 13 hyc0 (by decide) (L := 9) rfl dX6_shareLeak_77 ?_
  refine zr_letS (fun g1 => ?_)
  refine zr_iload_n (pc' := 79) cx rfl 3 dX6_shareLeak_78 rfl rfl ?_
  refine zr_aload_n (pc' := 80) cx rfl 0 dX6_shareLeak_79 rfl rfl ?_
  refine zg_X6_38 (pc' := 83) cx rfl (c2 := (c0 + 7)) hc0 rfl dX6_shareLeak_80 ?_
  refine zr_iload (pc' := 85) cx rfl 4 dX6_shareLeak_83 rfl ?_
  refine zr_iald (pc' := 86) cx rfl 13 (zk7_7 hc0) (by decide) (L := 9) rfl dX6_shareLeak_85 ?_
  refine zr_isub (pc' := 87) cx rfl dX6_shareLeak_86 ?_
  refine zr_leti (fun x2 => ?_)
  refine zr_istore_n (pc' := 88) cx rfl (lv' := [(3, .int (i32 x2)), (0, .ref (zad Y c0)), (1, .ref (zad Y c1)), (2, .int (i32 a2)), (4, .int (i32 a4))]) dX6_shareLeak_87 rfl (by decide) rfl ?_
  refine zr_aload_n (pc' := 89) cx rfl 1 dX6_shareLeak_88 rfl rfl ?_
  refine zg_X6_44 (pc' := 92) cx rfl (c2 := (c0 + 9)) hc0 rfl dX6_shareLeak_89 ?_
  refine zr_iconst (pc' := 93) cx rfl dX6_shareLeak_92 ?_
  refine zr_aload_n (pc' := 94) cx rfl 2 dX6_shareLeak_93 rfl rfl ?_
  refine zg_X6_144 (pc' := 97) cx rfl (c2 := (c1 + 1)) hc1 rfl dX6_shareLeak_94 ?_
  refine zr_iload (pc' := 99) cx rfl 4 dX6_shareLeak_97 rfl ?_
  refine zr_iald (pc' := 100) cx rfl 13 (zk2_1 hc1) (by decide) (L := 9) rfl dX6_shareLeak_99 ?_
  refine zr_imul (pc' := 101) cx rfl dX6_shareLeak_100 ?_
  refine zr_iload_n (pc' := 102) cx rfl 3 dX6_shareLeak_101 rfl rfl ?_
  refine zr_iadd (pc' := 103) cx rfl dX6_shareLeak_102 ?_
  refine zr_leti (fun x3 => ?_)
  refine zr_dup2 (pc' := 104) cx rfl dX6_shareLeak_103 rfl rfl ?_
  refine zr_iald (pc' := 105) cx rfl 11 (zk7_9 hc0) (by decide) (L := 24) rfl dX6_shareLeak_104 ?_
  refine zr_aload_n (pc' := 106) cx rfl 1 dX6_shareLeak_105 rfl rfl ?_
  refine zg_X6_38 (pc' := 109) cx rfl (c2 := (c0 + 7)) hc0 rfl dX6_shareLeak_106 ?_
  refine zr_iload (pc' := 111) cx rfl 4 dX6_shareLeak_109 rfl ?_
  refine zr_iald (pc' := 112) cx rfl 13 (zk7_7 hc0) (by decide) (L := 9) rfl dX6_shareLeak_111 ?_
  refine zr_iadd (pc' := 113) cx rfl dX6_shareLeak_112 ?_
  refine zr_iast (pc' := 114) cx rfl 11 (zk7_9 hc0) (by decide) (L := 24) rfl dX6_shareLeak_113 ?_
  refine zr_letS (fun g4 => ?_)
  refine zr_iinc (pc' := 117) cx rfl (lv' := [(4, .int (i32 (a4 + 1))), (3, .int (i32 x2)), (0, .ref (zad Y c0)), (1, .ref (zad Y c1)), (2, .int (i32 a2))]) 4 dX6_shareLeak_114 rfl (by decide) rfl ?_
  refine zr_goto cx (tgt := 8) dX6_shareLeak_117 rfl ?_
  refine zr_sub [2, 3, 4, 1, 0] rfl ?_
  exact hk8 g4 c0 c1 a2 x2 (a4 + 1) hc0 hc1
theorem wX6_shareLeak_p8 (cx : zCx Y p s m args meth c RX6 cX6_shareLeak 6 none)   : ∀ (fu : Nat) (g : zSt) (c0 : Nat) (c1 : Nat) (a2 : Int) (a3 : Int) (a4 : Int) (hc0 : zV Y c0 = 7) (hc1 : zV Y c1 = 2), zWo Y p l e (zrm 1) s m args below meth c 6 0 0 (fun g9 : zSt => MQ below (zQv Y g9) args s 0 0 (zA Y)) g [(0, .ref (zad Y c0)), (1, .ref (zad Y c1)), (2, .int (i32 a2)), (3, .int (i32 a3)), (4, .int (i32 a4))] ([]) 8 (fX6_shareLeak_p8 fu g c0 c1 a2 a3 a4) := by
  intro fu
  induction fu with
  | zero => intro g c0 c1 a2 a3 a4 hc0 hc1; exact zr_none
  | succ fu ih =>
    intro g c0 c1 a2 a3 a4 hc0 hc1
    rw [fX6_shareLeak_p8]
    refine zr_iload (pc' := 10) cx rfl 4 dX6_shareLeak_8 rfl ?_
    refine zr_aload_n (pc' := 11) cx rfl 1 dX6_shareLeak_10 rfl rfl ?_
    refine zg_X6_141 (pc' := 14) cx rfl hc1 dX6_shareLeak_11 ?_
    refine zr_icmp_ge (pc' := 17) cx rfl (tgt := 120) dX6_shareLeak_14 rfl ?_ ?_
    · exact zr_vretE cx dX6_shareLeak_120
    · refine zr_iconst (pc' := 18) cx rfl dX6_shareLeak_17 ?_
      refine zr_aload_n (pc' := 19) cx rfl 1 dX6_shareLeak_18 rfl rfl ?_
      refine zg_X6_144 (pc' := 22) cx rfl (c2 := (c1 + 1)) hc1 rfl dX6_shareLeak_19 ?_
      refine zr_iload (pc' := 24) cx rfl 4 dX6_shareLeak_22 rfl ?_
      refine zr_iald (pc' := 25) cx rfl 13 (zk2_1 hc1) (by decide) (L := 9) rfl dX6_shareLeak_24 ?_
      refine zr_imul (pc' := 26) cx rfl dX6_shareLeak_25 ?_
      refine zr_aload_n (pc' := 27) cx rfl 1 dX6_shareLeak_26 rfl rfl ?_
      refine zg_X6_145 (pc' := 30) cx rfl (c2 := (c1 + 2)) hc1 rfl dX6_shareLeak_27 ?_
      refine zr_iload (pc' := 32) cx rfl 4 dX6_shareLeak_30 rfl ?_
      refine zr_iald (pc' := 33) cx rfl 13 (zk2_2 hc1) (by decide) (L := 9) rfl dX6_shareLeak_32 ?_
      refine zr_iadd (pc' := 34) cx rfl dX6_shareLeak_33 ?_
      refine zr_leti (fun x5 => ?_)
      refine zr_istore (pc' := 36) cx rfl (lv' := [(5, .int (i32 x5)), (0, .ref (zad Y c0)), (1, .ref (zad Y c1)), (2, .int (i32 a2)), (3, .int (i32 a3)), (4, .int (i32 a4))]) dX6_shareLeak_34 (by decide) rfl ?_
      refine zr_aload_n (pc' := 37) cx rfl 1 dX6_shareLeak_36 rfl rfl ?_
      refine zg_X6_25 (pc' := 40) cx rfl (c2 := (c0 + 5)) hc0 rfl dX6_shareLeak_37 ?_
      refine zr_iload (pc' := 42) cx rfl 0 dX6_shareLeak_40 rfl ?_
      refine zr_iald (pc' := 43) cx rfl 11 (zk7_5 hc0) (by decide) (L := 24) rfl dX6_shareLeak_42 ?_
      refine zr_iload_n (pc' := 44) cx rfl 3 dX6_shareLeak_43 rfl rfl ?_
      refine zr_icmp_ne (pc' := 47) cx rfl (tgt := 114) dX6_shareLeak_44 rfl ?_ ?_
      · refine zr_iinc (pc' := 117) cx rfl (lv' := [(4, .int (i32 (a4 + 1))), (5, .int (i32 x5)), (0, .ref (zad Y c0)), (1, .ref (zad Y c1)), (2, .int (i32 a2)), (3, .int (i32 a3))]) 5 dX6_shareLeak_114 rfl (by decide) rfl ?_
        refine zr_goto cx (tgt := 8) dX6_shareLeak_117 rfl ?_
        refine zr_sub [2, 3, 4, 5, 0] rfl ?_
        exact ih g c0 c1 a2 a3 (a4 + 1) hc0 hc1
      · refine zr_aload_n (pc' := 48) cx rfl 1 dX6_shareLeak_47 rfl rfl ?_
        refine zg_X6_38 (pc' := 51) cx rfl (c2 := (c0 + 7)) hc0 rfl dX6_shareLeak_48 ?_
        refine zr_iload (pc' := 53) cx rfl 5 dX6_shareLeak_51 rfl ?_
        refine zr_aload_n (pc' := 54) cx rfl 1 dX6_shareLeak_53 rfl rfl ?_
        refine zr_iload (pc' := 56) cx rfl 0 dX6_shareLeak_54 rfl ?_
        refine zc_X6_105 (pc' := 59) cx rfl hc0 ⟨Nat.le_of_ble_eq_true rfl, Nat.le_of_ble_eq_true rfl⟩ ⟨Nat.zero_le _, Nat.zero_le _⟩ (Nat.le_of_ble_eq_true rfl) dX6_shareLeak_56 (fun v6 => ?_)
        refine zr_if_eq (pc' := 62) cx rfl (tgt := 76) dX6_shareLeak_59 rfl ?_ ?_
        · refine zr_iconst (pc' := 77) cx rfl dX6_shareLeak_76 ?_
          refine zr_sub [1, 2, 3, 4, 5] rfl ?_
          exact wX6_shareLeak_p77 cx ih g (c0 + 7) a4 0 c0 c1 a2 a3 a4 (zk7_7 hc0) hc0 hc1
        · refine zr_aload_n (pc' := 63) cx rfl 2 dX6_shareLeak_62 rfl rfl ?_
          refine zg_X6_148 (pc' := 66) cx rfl (c2 := (c1 + 3)) hc1 rfl dX6_shareLeak_63 ?_
          refine zr_iload (pc' := 68) cx rfl 5 dX6_shareLeak_66 rfl ?_
          refine zr_iald (pc' := 69) cx rfl 13 (zk2_3 hc1) (by decide) (L := 9) rfl dX6_shareLeak_68 ?_
          refine zr_iload_n (pc' := 70) cx rfl 4 dX6_shareLeak_69 rfl rfl ?_
          refine zr_mmin (pc' := 73) cx rfl (Nat.le_of_ble_eq_true rfl) (Nat.le_of_ble_eq_true rfl) ⟨Nat.zero_le _, Nat.zero_le _⟩ dX6_shareLeak_70 ?_
          refine zr_gotoS cx (tgt := 77) dX6_shareLeak_73 rfl ?_
          refine zr_sub [1, 2, 3, 4, 5] rfl ?_
          exact wX6_shareLeak_p77 cx ih g (c0 + 7) a4 (zmn (g.1 (c1 + 3) (Int.toNat a4)) a3) c0 c1 a2 a3 a4 (zk7_7 hc0) hc0 hc1
theorem wX6_shareLeak (cx : zCx Y p s m args meth c RX6 cX6_shareLeak 6 none) (g : zSt) (c0 : Nat) (c1 : Nat) (a2 : Int) (hc0 : zV Y c0 = 7) (hc1 : zV Y c1 = 2) : zWo Y p l e (zrm 1) s m args below meth c 6 0 0 (fun g9 : zSt => MQ below (zQv Y g9) args s 0 0 (zA Y)) g [(0, .ref (zad Y c0)), (1, .ref (zad Y c1)), (2, .int (i32 a2))] ([]) 0 (fX6_shareLeak g c0 c1 a2) := by
  unfold fX6_shareLeak
  refine zr_aload_n (pc' := 1) cx rfl 0 dX6_shareLeak_0 rfl rfl ?_
  refine zg_X6_35 (pc' := 4) cx rfl hc0 dX6_shareLeak_1 ?_
  refine zr_leti (fun x7 => ?_)
  refine zr_istore_n (pc' := 5) cx rfl (lv' := [(3, .int (i32 x7)), (0, .ref (zad Y c0)), (1, .ref (zad Y c1)), (2, .int (i32 a2))]) dX6_shareLeak_4 rfl (by decide) rfl ?_
  refine zr_iconst (pc' := 6) cx rfl dX6_shareLeak_5 ?_
  refine zr_istore (pc' := 8) cx rfl (lv' := [(4, .int (i32 0)), (3, .int (i32 x7)), (0, .ref (zad Y c0)), (1, .ref (zad Y c1)), (2, .int (i32 a2))]) dX6_shareLeak_6 (by decide) rfl ?_
  refine zr_sub [2, 3, 4, 1, 0] rfl ?_
  exact wX6_shareLeak_p8 cx zfu g c0 c1 a2 x7 0 hc0 hc1
theorem mX6_shareLeak (l : Launch) (Y : zLy) (g : zSt) (c0 : Nat) (c1 : Nat) (a2 : Int) (hc0 : zV Y c0 = 7) (hc1 : zV Y c1 = 2) : ∀ g2, fX6_shareLeak g c0 c1 a2 = some g2 → zMt l yX6_shareLeak cX6_shareLeak 6 none 1 [.ref (zad Y c0), .ref (zad Y c1), .int (i32 a2)] Y g (zQv Y g2) := by
  intro g2 hv
  refine zmet_of RX6 rfl (by decide +kernel) (Nat.le_of_ble_eq_true rfl) ?_
  intro p e s m below meth c cx H locs ls hH hS hl
  exact wX6_shareLeak cx g c0 c1 a2 hc0 hc1 g2 hv H locs ls hH hS hl
theorem zc_X6_98 (cx : zCx Y p s m args meth c RX6 cc nl ret) (hpc : pc + 3 = pc') {g : zSt} {c0 : Nat} {c1 : Nat} {a2 : Int} (hc0 : zV Y c0 = 7) (hc1 : zV Y c1 = 2) {fk : zSt → Option ρ} (hR : 1 + 1 ≤ R.frames ∧ 8 + (6 + 11) + 40 * 1 ≤ R.locals) (hkn : k ≤ R.cells ∧ n ≤ R.slots) (hrest : (rest.map fun v => v.category).sum ≤ 8) (hdg : decode cc pc = .ok (.invokevirtual 98, 3)) (kk : ∀ g2 : zSt, zWo Y p l e R s m args below meth c nl k n kq g2 lv (rest) pc' (fk g2)) : zWo Y p l e R s m args below meth c nl k n kq g lv (.int (i32 a2) :: .ref (zad Y c1) :: .ref (zad Y c0) :: rest) pc (zbd (fX6_shareLeak g c0 c1 a2) fk) := zr_callVvE cx (an := 2) (As := [.ref (zad Y c1), .int (i32 a2)]) 7 hc0 (by decide) rfl (mX6_shareLeak l Y g c0 c1 a2 hc0 hc1) (zG_V zw_580 zw_582 zw_18 zw_31 zw_583) (by decide +kernel) hR hkn rfl rfl hrest hdg hpc kk
def fX6_sumUpCurrents_p36 (k7 : zSt → Nat → Nat → Int → Option zSt) : Nat → zSt → Nat → Nat → Int → Int → Int → Option zSt
  | 0, _, _, _, _, _, _ => none
  | fu + 1, g, c0, c1, a2, a3, a4 =>
    (if i32 a4 < i32 2 then
    zlet ((2 * a3) + a4) (fun x1 =>
    zck ((0 : Int) ≤ x1 ∧ x1 < 24) (
    zck ((0 : Int) ≤ ((2 * a2) + a4) ∧ ((2 * a2) + a4) < 24) (
    zck ((0 : Int) ≤ x1 ∧ x1 < 24) (zlet (zwr g (c0 + 9) (Int.toNat x1) ((g.1 (c0 + 9) (Int.toNat x1)) + (g.1 (c0 + 9) (Int.toNat ((2 * a2) + a4))))) (fun g2 =>
    fX6_sumUpCurrents_p36 k7 fu g2 c0 c1 a2 a3 (a4 + 1))))))
    else
    k7 g c0 c1 (a2 + (-1)))
def fX6_sumUpCurrents_p7  : Nat → zSt → Nat → Nat → Int → Option zSt
  | 0, _, _, _, _ => none
  | fu + 1, g, c0, c1, a2 =>
    (if i32 0 < i32 a2 then
    zck ((0 : Int) ≤ a2 ∧ a2 < 12) (
    zlet (g.1 (c1 + 1) (Int.toNat a2)) (fun x3 =>
    zck ((0 : Int) ≤ x3 ∧ x3 < 12) (
    zck ((0 : Int) ≤ a2 ∧ a2 < 12) (
    zck ((0 : Int) ≤ x3 ∧ x3 < 12) (zlet (zwr g (c0 + 8) (Int.toNat x3) ((g.1 (c0 + 8) (Int.toNat x3)) + (g.1 (c0 + 8) (Int.toNat a2)))) (fun g4 =>
    fX6_sumUpCurrents_p36 (fX6_sumUpCurrents_p7 fu) zfu g4 c0 c1 a2 x3 0))))))
    else
    some g)
def fX6_sumUpCurrents (g : zSt) (c0 : Nat) (c1 : Nat) : Option zSt :=
    zlet ((g.1 c1 0) - 1) (fun x5 =>
    fX6_sumUpCurrents_p7 zfu g c0 c1 x5)
theorem wX6_sumUpCurrents_p36 (cx : zCx Y p s m args meth c RX6 cX6_sumUpCurrents 5 none) {k7 : zSt → Nat → Nat → Int → Option zSt} (hk7 : ∀ (g : zSt) (c0 : Nat) (c1 : Nat) (a2 : Int) (hc0 : zV Y c0 = 7) (hc1 : zV Y c1 = 1), zWo Y p l e (zrm 0) s m args below meth c 5 0 0 (fun g9 : zSt => MQ below (zQv Y g9) args s 0 0 (zA Y)) g [(0, .ref (zad Y c0)), (1, .ref (zad Y c1)), (2, .int (i32 a2))] ([]) 7 (k7 g c0 c1 a2)) : ∀ (fu : Nat) (g : zSt) (c0 : Nat) (c1 : Nat) (a2 : Int) (a3 : Int) (a4 : Int) (hc0 : zV Y c0 = 7) (hc1 : zV Y c1 = 1), zWo Y p l e (zrm 0) s m args below meth c 5 0 0 (fun g9 : zSt => MQ below (zQv Y g9) args s 0 0 (zA Y)) g [(0, .ref (zad Y c0)), (1, .ref (zad Y c1)), (2, .int (i32 a2)), (3, .int (i32 a3)), (4, .int (i32 a4))] ([]) 36 (fX6_sumUpCurrents_p36 k7 fu g c0 c1 a2 a3 a4) := by
  intro fu
  induction fu with
  | zero => intro g c0 c1 a2 a3 a4 hc0 hc1; exact zr_none
  | succ fu ih =>
    intro g c0 c1 a2 a3 a4 hc0 hc1
    rw [fX6_sumUpCurrents_p36]
    refine zr_iload (pc' := 38) cx rfl 4 dX6_sumUpCurrents_36 rfl ?_
    refine zr_iconst (pc' := 39) cx rfl dX6_sumUpCurrents_38 ?_
    refine zr_icmp_ge (pc' := 42) cx rfl (tgt := 73) dX6_sumUpCurrents_39 rfl ?_ ?_
    · refine zr_iinc (pc' := 76) cx rfl (lv' := [(2, .int (i32 (a2 + (-1)))), (0, .ref (zad Y c0)), (1, .ref (zad Y c1)), (3, .int (i32 a3)), (4, .int (i32 a4))]) 2 dX6_sumUpCurrents_73 rfl (by decide) rfl ?_
      refine zr_goto cx (tgt := 7) dX6_sumUpCurrents_76 rfl ?_
      refine zr_sub [1, 2, 0] rfl ?_
      exact hk7 g c0 c1 (a2 + (-1)) hc0 hc1
    · refine zr_aload_n (pc' := 43) cx rfl 0 dX6_sumUpCurrents_42 rfl rfl ?_
      refine zg_X6_44 (pc' := 46) cx rfl (c2 := (c0 + 9)) hc0 rfl dX6_sumUpCurrents_43 ?_
      refine zr_iconst (pc' := 47) cx rfl dX6_sumUpCurrents_46 ?_
      refine zr_iload_n (pc' := 48) cx rfl 3 dX6_sumUpCurrents_47 rfl rfl ?_
      refine zr_imul (pc' := 49) cx rfl dX6_sumUpCurrents_48 ?_
      refine zr_iload (pc' := 51) cx rfl 4 dX6_sumUpCurrents_49 rfl ?_
      refine zr_iadd (pc' := 52) cx rfl dX6_sumUpCurrents_51 ?_
      refine zr_leti (fun x1 => ?_)
      refine zr_dup2 (pc' := 53) cx rfl dX6_sumUpCurrents_52 rfl rfl ?_
      refine zr_iald (pc' := 54) cx rfl 11 (zk7_9 hc0) (by decide) (L := 24) rfl dX6_sumUpCurrents_53 ?_
      refine zr_aload_n (pc' := 55) cx rfl 0 dX6_sumUpCurrents_54 rfl rfl ?_
      refine zg_X6_44 (pc' := 58) cx rfl (c2 := (c0 + 9)) hc0 rfl dX6_sumUpCurrents_55 ?_
      refine zr_iconst (pc' := 59) cx rfl dX6_sumUpCurrents_58 ?_
      refine zr_iload_n (pc' := 60) cx rfl 2 dX6_sumUpCurrents_59 rfl rfl ?_
      refine zr_imul (pc' := 61) cx rfl dX6_sumUpCurrents_60 ?_
      refine zr_iload (pc' := 63) cx rfl 4 dX6_sumUpCurrents_61 rfl ?_
      refine zr_iadd (pc' := 64) cx rfl dX6_sumUpCurrents_63 ?_
      refine zr_iald (pc' := 65) cx rfl 11 (zk7_9 hc0) (by decide) (L := 24) rfl dX6_sumUpCurrents_64 ?_
      refine zr_iadd (pc' := 66) cx rfl dX6_sumUpCurrents_65 ?_
      refine zr_iast (pc' := 67) cx rfl 11 (zk7_9 hc0) (by decide) (L := 24) rfl dX6_sumUpCurrents_66 ?_
      refine zr_letS (fun g2 => ?_)
      refine zr_iinc (pc' := 70) cx rfl (lv' := [(4, .int (i32 (a4 + 1))), (0, .ref (zad Y c0)), (1, .ref (zad Y c1)), (2, .int (i32 a2)), (3, .int (i32 a3))]) 4 dX6_sumUpCurrents_67 rfl (by decide) rfl ?_
      refine zr_goto cx (tgt := 36) dX6_sumUpCurrents_70 rfl ?_
      refine zr_sub [1, 2, 3, 4, 0] rfl ?_
      exact ih g2 c0 c1 a2 a3 (a4 + 1) hc0 hc1
theorem wX6_sumUpCurrents_p7 (cx : zCx Y p s m args meth c RX6 cX6_sumUpCurrents 5 none)   : ∀ (fu : Nat) (g : zSt) (c0 : Nat) (c1 : Nat) (a2 : Int) (hc0 : zV Y c0 = 7) (hc1 : zV Y c1 = 1), zWo Y p l e (zrm 0) s m args below meth c 5 0 0 (fun g9 : zSt => MQ below (zQv Y g9) args s 0 0 (zA Y)) g [(0, .ref (zad Y c0)), (1, .ref (zad Y c1)), (2, .int (i32 a2))] ([]) 7 (fX6_sumUpCurrents_p7 fu g c0 c1 a2) := by
  intro fu
  induction fu with
  | zero => intro g c0 c1 a2 hc0 hc1; exact zr_none
  | succ fu ih =>
    intro g c0 c1 a2 hc0 hc1
    rw [fX6_sumUpCurrents_p7]
    refine zr_iload_n (pc' := 8) cx rfl 2 dX6_sumUpCurrents_7 rfl rfl ?_
    refine zr_if_le (pc' := 11) cx rfl (tgt := 79) dX6_sumUpCurrents_8 rfl ?_ ?_
    · exact zr_vretE cx dX6_sumUpCurrents_79
    · refine zr_aload_n (pc' := 12) cx rfl 1 dX6_sumUpCurrents_11 rfl rfl ?_
      refine zg_X6_115 (pc' := 15) cx rfl (c2 := (c1 + 1)) hc1 rfl dX6_sumUpCurrents_12 ?_
      refine zr_iload_n (pc' := 16) cx rfl 2 dX6_sumUpCurrents_15 rfl rfl ?_
      refine zr_iald (pc' := 17) cx rfl 10 (zk1_1 hc1) (by decide) (L := 12) rfl dX6_sumUpCurrents_16 ?_
      refine zr_leti (fun x3 => ?_)
      refine zr_istore_n (pc' := 18) cx rfl (lv' := [(3, .int (i32 x3)), (0, .ref (zad Y c0)), (1, .ref (zad Y c1)), (2, .int (i32 a2))]) dX6_sumUpCurrents_17 rfl (by decide) rfl ?_
      refine zr_aload_n (pc' := 19) cx rfl 1 dX6_sumUpCurrents_18 rfl rfl ?_
      refine zg_X6_41 (pc' := 22) cx rfl (c2 := (c0 + 8)) hc0 rfl dX6_sumUpCurrents_19 ?_
      refine zr_iload_n (pc' := 23) cx rfl 0 dX6_sumUpCurrents_22 rfl rfl ?_
      refine zr_dup2 (pc' := 24) cx rfl dX6_sumUpCurrents_23 rfl rfl ?_
      refine zr_iald (pc' := 25) cx rfl 10 (zk7_8 hc0) (by decide) (L := 12) rfl dX6_sumUpCurrents_24 ?_
      refine zr_aload_n (pc' := 26) cx rfl 1 dX6_sumUpCurrents_25 rfl rfl ?_
      refine zg_X6_41 (pc' := 29) cx rfl (c2 := (c0 + 8)) hc0 rfl dX6_sumUpCurrents_26 ?_
      refine zr_iload_n (pc' := 30) cx rfl 3 dX6_sumUpCurrents_29 rfl rfl ?_
      refine zr_iald (pc' := 31) cx rfl 10 (zk7_8 hc0) (by decide) (L := 12) rfl dX6_sumUpCurrents_30 ?_
      refine zr_iadd (pc' := 32) cx rfl dX6_sumUpCurrents_31 ?_
      refine zr_iast (pc' := 33) cx rfl 10 (zk7_8 hc0) (by decide) (L := 12) rfl dX6_sumUpCurrents_32 ?_
      refine zr_letS (fun g4 => ?_)
      refine zr_iconst (pc' := 34) cx rfl dX6_sumUpCurrents_33 ?_
      refine zr_istore (pc' := 36) cx rfl (lv' := [(4, .int (i32 0)), (3, .int (i32 x3)), (0, .ref (zad Y c0)), (1, .ref (zad Y c1)), (2, .int (i32 a2))]) dX6_sumUpCurrents_34 (by decide) rfl ?_
      refine zr_sub [2, 3, 4, 1, 0] rfl ?_
      exact wX6_sumUpCurrents_p36 cx ih zfu g4 c0 c1 a2 x3 0 hc0 hc1
theorem wX6_sumUpCurrents (cx : zCx Y p s m args meth c RX6 cX6_sumUpCurrents 5 none) (g : zSt) (c0 : Nat) (c1 : Nat) (hc0 : zV Y c0 = 7) (hc1 : zV Y c1 = 1) : zWo Y p l e (zrm 0) s m args below meth c 5 0 0 (fun g9 : zSt => MQ below (zQv Y g9) args s 0 0 (zA Y)) g [(0, .ref (zad Y c0)), (1, .ref (zad Y c1))] ([]) 0 (fX6_sumUpCurrents g c0 c1) := by
  unfold fX6_sumUpCurrents
  refine zr_aload_n (pc' := 1) cx rfl 1 dX6_sumUpCurrents_0 rfl rfl ?_
  refine zg_X6_56 (pc' := 4) cx rfl hc1 dX6_sumUpCurrents_1 ?_
  refine zr_iconst (pc' := 5) cx rfl dX6_sumUpCurrents_4 ?_
  refine zr_isub (pc' := 6) cx rfl dX6_sumUpCurrents_5 ?_
  refine zr_leti (fun x5 => ?_)
  refine zr_istore_n (pc' := 7) cx rfl (lv' := [(2, .int (i32 x5)), (0, .ref (zad Y c0)), (1, .ref (zad Y c1))]) dX6_sumUpCurrents_6 rfl (by decide) rfl ?_
  refine zr_sub [1, 2, 0] rfl ?_
  exact wX6_sumUpCurrents_p7 cx zfu g c0 c1 x5 hc0 hc1
theorem mX6_sumUpCurrents (l : Launch) (Y : zLy) (g : zSt) (c0 : Nat) (c1 : Nat) (hc0 : zV Y c0 = 7) (hc1 : zV Y c1 = 1) : ∀ g2, fX6_sumUpCurrents g c0 c1 = some g2 → zMt l yX6_sumUpCurrents cX6_sumUpCurrents 5 none 0 [.ref (zad Y c0), .ref (zad Y c1)] Y g (zQv Y g2) := by
  intro g2 hv
  refine zmet_of RX6 rfl (by decide +kernel) (Nat.le_of_ble_eq_true rfl) ?_
  intro p e s m below meth c cx H locs ls hH hS hl
  exact wX6_sumUpCurrents cx g c0 c1 hc0 hc1 g2 hv H locs ls hH hS hl
theorem zc_X6_102 (cx : zCx Y p s m args meth c RX6 cc nl ret) (hpc : pc + 3 = pc') {g : zSt} {c0 : Nat} {c1 : Nat} (hc0 : zV Y c0 = 7) (hc1 : zV Y c1 = 1) {fk : zSt → Option ρ} (hR : 0 + 1 ≤ R.frames ∧ 8 + (5 + 11) + 40 * 0 ≤ R.locals) (hkn : k ≤ R.cells ∧ n ≤ R.slots) (hrest : (rest.map fun v => v.category).sum ≤ 8) (hdg : decode cc pc = .ok (.invokevirtual 102, 3)) (kk : ∀ g2 : zSt, zWo Y p l e R s m args below meth c nl k n kq g2 lv (rest) pc' (fk g2)) : zWo Y p l e R s m args below meth c nl k n kq g lv (.ref (zad Y c1) :: .ref (zad Y c0) :: rest) pc (zbd (fX6_sumUpCurrents g c0 c1) fk) := zr_callVvE cx (an := 1) (As := [.ref (zad Y c1)]) 7 hc0 (by decide) rfl (mX6_sumUpCurrents l Y g c0 c1 hc0 hc1) (zG_V zw_584 zw_586 zw_19 zw_31 zw_587) (by decide +kernel) hR hkn rfl rfl hrest hdg hpc kk
def fX6_sumUpStrengths_p13 (k7 : zSt → Nat → Nat → Int → Option zSt) : Nat → zSt → Nat → Nat → Int → Int → Option zSt
  | 0, _, _, _, _, _ => none
  | fu + 1, g, c0, c1, a2, a3 =>
    (if i32 a3 < i32 2 then
    zck ((0 : Int) ≤ a2 ∧ a2 < 12) (
    zlet ((2 * (g.1 (c1 + 1) (Int.toNat a2))) + a3) (fun x1 =>
    zck ((0 : Int) ≤ x1 ∧ x1 < 24) (
    zck ((0 : Int) ≤ ((2 * a2) + a3) ∧ ((2 * a2) + a3) < 24) (
    zck ((0 : Int) ≤ x1 ∧ x1 < 24) (zlet (zwr g (c0 + 10) (Int.toNat x1) ((g.1 (c0 + 10) (Int.toNat x1)) + (g.1 (c0 + 10) (Int.toNat ((2 * a2) + a3))))) (fun g2 =>
    fX6_sumUpStrengths_p13 k7 fu g2 c0 c1 a2 (a3 + 1)))))))
    else
    k7 g c0 c1 (a2 + (-1)))
def fX6_sumUpStrengths_p7  : Nat → zSt → Nat → Nat → Int → Option zSt
  | 0, _, _, _, _ => none
  | fu + 1, g, c0, c1, a2 =>
    (if i32 0 < i32 a2 then
    fX6_sumUpStrengths_p13 (fX6_sumUpStrengths_p7 fu) zfu g c0 c1 a2 0
    else
    some g)
def fX6_sumUpStrengths (g : zSt) (c0 : Nat) (c1 : Nat) : Option zSt :=
    zlet ((g.1 c1 0) - 1) (fun x3 =>
    fX6_sumUpStrengths_p7 zfu g c0 c1 x3)
theorem wX6_sumUpStrengths_p13 (cx : zCx Y p s m args meth c RX6 cX6_sumUpStrengths 4 none) {k7 : zSt → Nat → Nat → Int → Option zSt} (hk7 : ∀ (g : zSt) (c0 : Nat) (c1 : Nat) (a2 : Int) (hc0 : zV Y c0 = 7) (hc1 : zV Y c1 = 1), zWo Y p l e (zrm 0) s m args below meth c 4 0 0 (fun g9 : zSt => MQ below (zQv Y g9) args s 0 0 (zA Y)) g [(0, .ref (zad Y c0)), (1, .ref (zad Y c1)), (2, .int (i32 a2))] ([]) 7 (k7 g c0 c1 a2)) : ∀ (fu : Nat) (g : zSt) (c0 : Nat) (c1 : Nat) (a2 : Int) (a3 : Int) (hc0 : zV Y c0 = 7) (hc1 : zV Y c1 = 1), zWo Y p l e (zrm 0) s m args below meth c 4 0 0 (fun g9 : zSt => MQ below (zQv Y g9) args s 0 0 (zA Y)) g [(0, .ref (zad Y c0)), (1, .ref (zad Y c1)), (2, .int (i32 a2)), (3, .int (i32 a3))] ([]) 13 (fX6_sumUpStrengths_p13 k7 fu g c0 c1 a2 a3) := by
  intro fu
  induction fu with
  | zero => intro g c0 c1 a2 a3 hc0 hc1; exact zr_none
  | succ fu ih =>
    intro g c0 c1 a2 a3 hc0 hc1
    rw [fX6_sumUpStrengths_p13]
    refine zr_iload_n (pc' := 14) cx rfl 3 dX6_sumUpStrengths_13 rfl rfl ?_
    refine zr_iconst (pc' := 15) cx rfl dX6_sumUpStrengths_14 ?_
    refine zr_icmp_ge (pc' := 18) cx rfl (tgt := 52) dX6_sumUpStrengths_15 rfl ?_ ?_
    · refine zr_iinc (pc' := 55) cx rfl (lv' := [(2, .int (i32 (a2 + (-1)))), (0, .ref (zad Y c0)), (1, .ref (zad Y c1)), (3, .int (i32 a3))]) 2 dX6_sumUpStrengths_52 rfl (by decide) rfl ?_
      refine zr_goto cx (tgt := 7) dX6_sumUpStrengths_55 rfl ?_
      refine zr_sub [1, 2, 0] rfl ?_
      exact hk7 g c0 c1 (a2 + (-1)) hc0 hc1
    · refine zr_aload_n (pc' := 19) cx rfl 0 dX6_sumUpStrengths_18 rfl rfl ?_
      refine zg_X6_47 (pc' := 22) cx rfl (c2 := (c0 + 10)) hc0 rfl dX6_sumUpStrengths_19 ?_
      refine zr_iconst (pc' := 23) cx rfl dX6_sumUpStrengths_22 ?_
      refine zr_aload_n (pc' := 24) cx rfl 1 dX6_sumUpStrengths_23 rfl rfl ?_
      refine zg_X6_115 (pc' := 27) cx rfl (c2 := (c1 + 1)) hc1 rfl dX6_sumUpStrengths_24 ?_
      refine zr_iload_n (pc' := 28) cx rfl 2 dX6_sumUpStrengths_27 rfl rfl ?_
      refine zr_iald (pc' := 29) cx rfl 10 (zk1_1 hc1) (by decide) (L := 12) rfl dX6_sumUpStrengths_28 ?_
      refine zr_imul (pc' := 30) cx rfl dX6_sumUpStrengths_29 ?_
      refine zr_iload_n (pc' := 31) cx rfl 3 dX6_sumUpStrengths_30 rfl rfl ?_
      refine zr_iadd (pc' := 32) cx rfl dX6_sumUpStrengths_31 ?_
      refine zr_leti (fun x1 => ?_)
      refine zr_dup2 (pc' := 33) cx rfl dX6_sumUpStrengths_32 rfl rfl ?_
      refine zr_iald (pc' := 34) cx rfl 11 (zk7_10 hc0) (by decide) (L := 24) rfl dX6_sumUpStrengths_33 ?_
      refine zr_aload_n (pc' := 35) cx rfl 0 dX6_sumUpStrengths_34 rfl rfl ?_
      refine zg_X6_47 (pc' := 38) cx rfl (c2 := (c0 + 10)) hc0 rfl dX6_sumUpStrengths_35 ?_
      refine zr_iconst (pc' := 39) cx rfl dX6_sumUpStrengths_38 ?_
      refine zr_iload_n (pc' := 40) cx rfl 2 dX6_sumUpStrengths_39 rfl rfl ?_
      refine zr_imul (pc' := 41) cx rfl dX6_sumUpStrengths_40 ?_
      refine zr_iload_n (pc' := 42) cx rfl 3 dX6_sumUpStrengths_41 rfl rfl ?_
      refine zr_iadd (pc' := 43) cx rfl dX6_sumUpStrengths_42 ?_
      refine zr_iald (pc' := 44) cx rfl 11 (zk7_10 hc0) (by decide) (L := 24) rfl dX6_sumUpStrengths_43 ?_
      refine zr_iadd (pc' := 45) cx rfl dX6_sumUpStrengths_44 ?_
      refine zr_iast (pc' := 46) cx rfl 11 (zk7_10 hc0) (by decide) (L := 24) rfl dX6_sumUpStrengths_45 ?_
      refine zr_letS (fun g2 => ?_)
      refine zr_iinc (pc' := 49) cx rfl (lv' := [(3, .int (i32 (a3 + 1))), (0, .ref (zad Y c0)), (1, .ref (zad Y c1)), (2, .int (i32 a2))]) 3 dX6_sumUpStrengths_46 rfl (by decide) rfl ?_
      refine zr_goto cx (tgt := 13) dX6_sumUpStrengths_49 rfl ?_
      refine zr_sub [1, 2, 3, 0] rfl ?_
      exact ih g2 c0 c1 a2 (a3 + 1) hc0 hc1
theorem wX6_sumUpStrengths_p7 (cx : zCx Y p s m args meth c RX6 cX6_sumUpStrengths 4 none)   : ∀ (fu : Nat) (g : zSt) (c0 : Nat) (c1 : Nat) (a2 : Int) (hc0 : zV Y c0 = 7) (hc1 : zV Y c1 = 1), zWo Y p l e (zrm 0) s m args below meth c 4 0 0 (fun g9 : zSt => MQ below (zQv Y g9) args s 0 0 (zA Y)) g [(0, .ref (zad Y c0)), (1, .ref (zad Y c1)), (2, .int (i32 a2))] ([]) 7 (fX6_sumUpStrengths_p7 fu g c0 c1 a2) := by
  intro fu
  induction fu with
  | zero => intro g c0 c1 a2 hc0 hc1; exact zr_none
  | succ fu ih =>
    intro g c0 c1 a2 hc0 hc1
    rw [fX6_sumUpStrengths_p7]
    refine zr_iload_n (pc' := 8) cx rfl 2 dX6_sumUpStrengths_7 rfl rfl ?_
    refine zr_if_le (pc' := 11) cx rfl (tgt := 58) dX6_sumUpStrengths_8 rfl ?_ ?_
    · exact zr_vretE cx dX6_sumUpStrengths_58
    · refine zr_iconst (pc' := 12) cx rfl dX6_sumUpStrengths_11 ?_
      refine zr_istore_n (pc' := 13) cx rfl (lv' := [(3, .int (i32 0)), (0, .ref (zad Y c0)), (1, .ref (zad Y c1)), (2, .int (i32 a2))]) dX6_sumUpStrengths_12 rfl (by decide) rfl ?_
      refine zr_sub [1, 2, 3, 0] rfl ?_
      exact wX6_sumUpStrengths_p13 cx ih zfu g c0 c1 a2 0 hc0 hc1
theorem wX6_sumUpStrengths (cx : zCx Y p s m args meth c RX6 cX6_sumUpStrengths 4 none) (g : zSt) (c0 : Nat) (c1 : Nat) (hc0 : zV Y c0 = 7) (hc1 : zV Y c1 = 1) : zWo Y p l e (zrm 0) s m args below meth c 4 0 0 (fun g9 : zSt => MQ below (zQv Y g9) args s 0 0 (zA Y)) g [(0, .ref (zad Y c0)), (1, .ref (zad Y c1))] ([]) 0 (fX6_sumUpStrengths g c0 c1) := by
  unfold fX6_sumUpStrengths
  refine zr_aload_n (pc' := 1) cx rfl 1 dX6_sumUpStrengths_0 rfl rfl ?_
  refine zg_X6_56 (pc' := 4) cx rfl hc1 dX6_sumUpStrengths_1 ?_
  refine zr_iconst (pc' := 5) cx rfl dX6_sumUpStrengths_4 ?_
  refine zr_isub (pc' := 6) cx rfl dX6_sumUpStrengths_5 ?_
  refine zr_leti (fun x3 => ?_)
  refine zr_istore_n (pc' := 7) cx rfl (lv' := [(2, .int (i32 x3)), (0, .ref (zad Y c0)), (1, .ref (zad Y c1))]) dX6_sumUpStrengths_6 rfl (by decide) rfl ?_
  refine zr_sub [1, 2, 0] rfl ?_
  exact wX6_sumUpStrengths_p7 cx zfu g c0 c1 x3 hc0 hc1
theorem mX6_sumUpStrengths (l : Launch) (Y : zLy) (g : zSt) (c0 : Nat) (c1 : Nat) (hc0 : zV Y c0 = 7) (hc1 : zV Y c1 = 1) : ∀ g2, fX6_sumUpStrengths g c0 c1 = some g2 → zMt l yX6_sumUpStrengths cX6_sumUpStrengths 4 none 0 [.ref (zad Y c0), .ref (zad Y c1)] Y g (zQv Y g2) := by
  intro g2 hv
  refine zmet_of RX6 rfl (by decide +kernel) (Nat.le_of_ble_eq_true rfl) ?_
  intro p e s m below meth c cx H locs ls hH hS hl
  exact wX6_sumUpStrengths cx g c0 c1 hc0 hc1 g2 hv H locs ls hH hS hl
theorem zc_X6_85 (cx : zCx Y p s m args meth c RX6 cc nl ret) (hpc : pc + 3 = pc') {g : zSt} {c0 : Nat} {c1 : Nat} (hc0 : zV Y c0 = 7) (hc1 : zV Y c1 = 1) {fk : zSt → Option ρ} (hR : 0 + 1 ≤ R.frames ∧ 8 + (4 + 11) + 40 * 0 ≤ R.locals) (hkn : k ≤ R.cells ∧ n ≤ R.slots) (hrest : (rest.map fun v => v.category).sum ≤ 8) (hdg : decode cc pc = .ok (.invokevirtual 85, 3)) (kk : ∀ g2 : zSt, zWo Y p l e R s m args below meth c nl k n kq g2 lv (rest) pc' (fk g2)) : zWo Y p l e R s m args below meth c nl k n kq g lv (.ref (zad Y c1) :: .ref (zad Y c0) :: rest) pc (zbd (fX6_sumUpStrengths g c0 c1) fk) := zr_callVvE cx (an := 1) (As := [.ref (zad Y c1)]) 7 hc0 (by decide) rfl (mX6_sumUpStrengths l Y g c0 c1 hc0 hc1) (zG_V zw_572 zw_574 zw_17 zw_31 zw_575) (by decide +kernel) hR hkn rfl rfl hrest hdg hpc kk
def fX6_take (g : zSt) (c0 : Nat) (c1 : Nat) : Option zSt :=
    zbd (fX6_clearSums g c0 (g.1 (c1 + 1) 0)) (fun g1 =>
    zbd (fX6_followCables g1 c0 (c1 + 1)) (fun g2 =>
    zbd (fX6_findBurning g2 c0 (c1 + 7)) (fun g3 =>
    zbd (fX6_findStrengths g3 c0 (c1 + 11)) (fun g4 =>
    zbd (fX6_sumUpStrengths g4 c0 (c1 + 1)) (fun g5 =>
    zbd (fX6_lampOf g5 c0 0) (fun v6 =>
    zbd (fX6_lampOf g5 c0 1) (fun v7 =>
    zlet (zwr g5 c0 7 (zmn v6 v7)) (fun g8 =>
    zbd (fX6_shareLeak g8 c0 (c1 + 11) 0) (fun g9 =>
    zbd (fX6_shareLeak g9 c0 (c1 + 11) 1) (fun g10 =>
    zbd (fX6_sumUpCurrents g10 c0 (c1 + 1)) (fun g11 =>
    some g11)))))))))))
theorem wX6_take (cx : zCx Y p s m args meth c RX6 cX6_take 2 none) (g : zSt) (c0 : Nat) (c1 : Nat) (hc0 : zV Y c0 = 7) (hc1 : zV Y c1 = 6) : zWo Y p l e (zrm 2) s m args below meth c 2 0 0 (fun g9 : zSt => MQ below (zQv Y g9) args s 0 0 (zA Y)) g [(0, .ref (zad Y c0)), (1, .ref (zad Y c1))] ([]) 0 (fX6_take g c0 c1) := by
  unfold fX6_take
  refine zr_aload_n (pc' := 1) cx rfl 0 dX6_take_0 rfl rfl ?_
  refine zr_aload_n (pc' := 2) cx rfl 1 dX6_take_1 rfl rfl ?_
  refine zg_X6_50 (pc' := 5) cx rfl (c2 := (c1 + 1)) hc1 rfl dX6_take_2 ?_
  refine zg_X6_56 (pc' := 8) cx rfl (zk6_1 hc1) dX6_take_5 ?_
  refine zc_X6_61 (pc' := 11) cx rfl hc0 ⟨Nat.le_of_ble_eq_true rfl, Nat.le_of_ble_eq_true rfl⟩ ⟨Nat.zero_le _, Nat.zero_le _⟩ (Nat.le_of_ble_eq_true rfl) dX6_take_8 (fun g1 => ?_)
  refine zr_aload_n (pc' := 12) cx rfl 0 dX6_take_11 rfl rfl ?_
  refine zr_aload_n (pc' := 13) cx rfl 1 dX6_take_12 rfl rfl ?_
  refine zg_X6_50 (pc' := 16) cx rfl (c2 := (c1 + 1)) hc1 rfl dX6_take_13 ?_
  refine zc_X6_65 (pc' := 19) cx rfl hc0 (zk6_1 hc1) ⟨Nat.le_of_ble_eq_true rfl, Nat.le_of_ble_eq_true rfl⟩ ⟨Nat.zero_le _, Nat.zero_le _⟩ (Nat.le_of_ble_eq_true rfl) dX6_take_16 (fun g2 => ?_)
  refine zr_aload_n (pc' := 20) cx rfl 0 dX6_take_19 rfl rfl ?_
  refine zr_aload_n (pc' := 21) cx rfl 1 dX6_take_20 rfl rfl ?_
  refine zg_X6_69 (pc' := 24) cx rfl (c2 := (c1 + 7)) hc1 rfl dX6_take_21 ?_
  refine zc_X6_73 (pc' := 27) cx rfl hc0 (zk6_7 hc1) ⟨Nat.le_of_ble_eq_true rfl, Nat.le_of_ble_eq_true rfl⟩ ⟨Nat.zero_le _, Nat.zero_le _⟩ (Nat.le_of_ble_eq_true rfl) dX6_take_24 (fun g3 => ?_)
  refine zr_aload_n (pc' := 28) cx rfl 0 dX6_take_27 rfl rfl ?_
  refine zr_aload_n (pc' := 29) cx rfl 1 dX6_take_28 rfl rfl ?_
  refine zg_X6_77 (pc' := 32) cx rfl (c2 := (c1 + 11)) hc1 rfl dX6_take_29 ?_
  refine zc_X6_81 (pc' := 35) cx rfl hc0 (zk6_11 hc1) ⟨Nat.le_of_ble_eq_true rfl, Nat.le_of_ble_eq_true rfl⟩ ⟨Nat.zero_le _, Nat.zero_le _⟩ (Nat.le_of_ble_eq_true rfl) dX6_take_32 (fun g4 => ?_)
  refine zr_aload_n (pc' := 36) cx rfl 0 dX6_take_35 rfl rfl ?_
  refine zr_aload_n (pc' := 37) cx rfl 1 dX6_take_36 rfl rfl ?_
  refine zg_X6_50 (pc' := 40) cx rfl (c2 := (c1 + 1)) hc1 rfl dX6_take_37 ?_
  refine zc_X6_85 (pc' := 43) cx rfl hc0 (zk6_1 hc1) ⟨Nat.le_of_ble_eq_true rfl, Nat.le_of_ble_eq_true rfl⟩ ⟨Nat.zero_le _, Nat.zero_le _⟩ (Nat.le_of_ble_eq_true rfl) dX6_take_40 (fun g5 => ?_)
  refine zr_aload_n (pc' := 44) cx rfl 0 dX6_take_43 rfl rfl ?_
  refine zr_aload_n (pc' := 45) cx rfl 0 dX6_take_44 rfl rfl ?_
  refine zr_iconst (pc' := 46) cx rfl dX6_take_45 ?_
  refine zc_X6_88 (pc' := 49) cx rfl hc0 ⟨Nat.le_of_ble_eq_true rfl, Nat.le_of_ble_eq_true rfl⟩ ⟨Nat.zero_le _, Nat.zero_le _⟩ (Nat.le_of_ble_eq_true rfl) dX6_take_46 (fun v6 => ?_)
  refine zr_aload_n (pc' := 50) cx rfl 0 dX6_take_49 rfl rfl ?_
  refine zr_iconst (pc' := 51) cx rfl dX6_take_50 ?_
  refine zc_X6_88 (pc' := 54) cx rfl hc0 ⟨Nat.le_of_ble_eq_true rfl, Nat.le_of_ble_eq_true rfl⟩ ⟨Nat.zero_le _, Nat.zero_le _⟩ (Nat.le_of_ble_eq_true rfl) dX6_take_51 (fun v7 => ?_)
  refine zr_mmin (pc' := 57) cx rfl (Nat.le_of_ble_eq_true rfl) (Nat.le_of_ble_eq_true rfl) ⟨Nat.zero_le _, Nat.zero_le _⟩ dX6_take_54 ?_
  refine zp_X6_35 (pc' := 60) cx rfl hc0 dX6_take_57 ?_
  refine zr_letS (fun g8 => ?_)
  refine zr_aload_n (pc' := 61) cx rfl 0 dX6_take_60 rfl rfl ?_
  refine zr_aload_n (pc' := 62) cx rfl 1 dX6_take_61 rfl rfl ?_
  refine zg_X6_77 (pc' := 65) cx rfl (c2 := (c1 + 11)) hc1 rfl dX6_take_62 ?_
  refine zr_iconst (pc' := 66) cx rfl dX6_take_65 ?_
  refine zc_X6_98 (pc' := 69) cx rfl hc0 (zk6_11 hc1) ⟨Nat.le_of_ble_eq_true rfl, Nat.le_of_ble_eq_true rfl⟩ ⟨Nat.zero_le _, Nat.zero_le _⟩ (Nat.le_of_ble_eq_true rfl) dX6_take_66 (fun g9 => ?_)
  refine zr_aload_n (pc' := 70) cx rfl 0 dX6_take_69 rfl rfl ?_
  refine zr_aload_n (pc' := 71) cx rfl 1 dX6_take_70 rfl rfl ?_
  refine zg_X6_77 (pc' := 74) cx rfl (c2 := (c1 + 11)) hc1 rfl dX6_take_71 ?_
  refine zr_iconst (pc' := 75) cx rfl dX6_take_74 ?_
  refine zc_X6_98 (pc' := 78) cx rfl hc0 (zk6_11 hc1) ⟨Nat.le_of_ble_eq_true rfl, Nat.le_of_ble_eq_true rfl⟩ ⟨Nat.zero_le _, Nat.zero_le _⟩ (Nat.le_of_ble_eq_true rfl) dX6_take_75 (fun g10 => ?_)
  refine zr_aload_n (pc' := 79) cx rfl 0 dX6_take_78 rfl rfl ?_
  refine zr_aload_n (pc' := 80) cx rfl 1 dX6_take_79 rfl rfl ?_
  refine zg_X6_50 (pc' := 83) cx rfl (c2 := (c1 + 1)) hc1 rfl dX6_take_80 ?_
  refine zc_X6_102 (pc' := 86) cx rfl hc0 (zk6_1 hc1) ⟨Nat.le_of_ble_eq_true rfl, Nat.le_of_ble_eq_true rfl⟩ ⟨Nat.zero_le _, Nat.zero_le _⟩ (Nat.le_of_ble_eq_true rfl) dX6_take_83 (fun g11 => ?_)
  exact zr_vretE cx dX6_take_86
theorem mX6_take (l : Launch) (Y : zLy) (g : zSt) (c0 : Nat) (c1 : Nat) (hc0 : zV Y c0 = 7) (hc1 : zV Y c1 = 6) : ∀ g2, fX6_take g c0 c1 = some g2 → zMt l yX6_take cX6_take 2 none 2 [.ref (zad Y c0), .ref (zad Y c1)] Y g (zQv Y g2) := by
  intro g2 hv
  refine zmet_of RX6 rfl (by decide +kernel) (Nat.le_of_ble_eq_true rfl) ?_
  intro p e s m below meth c cx H locs ls hH hS hl
  exact wX6_take cx g c0 c1 hc0 hc1 g2 hv H locs ls hH hS hl
theorem zc_X7_239 (cx : zCx Y p s m args meth c RX7 cc nl ret) (hpc : pc + 3 = pc') {g : zSt} {c0 : Nat} {c1 : Nat} (hc0 : zV Y c0 = 7) (hc1 : zV Y c1 = 6) {fk : zSt → Option ρ} (hR : 2 + 1 ≤ R.frames ∧ 8 + (2 + 11) + 40 * 2 ≤ R.locals) (hkn : k ≤ R.cells ∧ n ≤ R.slots) (hrest : (rest.map fun v => v.category).sum ≤ 8) (hdg : decode cc pc = .ok (.invokevirtual 239, 3)) (kk : ∀ g2 : zSt, zWo Y p l e R s m args below meth c nl k n kq g2 lv (rest) pc' (fk g2)) : zWo Y p l e R s m args below meth c nl k n kq g lv (.ref (zad Y c1) :: .ref (zad Y c0) :: rest) pc (zbd (fX6_take g c0 c1) fk) := zr_callVvE cx (an := 1) (As := [.ref (zad Y c1)]) 7 hc0 (by decide) rfl (mX6_take l Y g c0 c1 hc0 hc1) (zG_V zw_548 zw_549 zw_550 zw_31 zw_551) (by decide +kernel) hR hkn rfl rfl hrest hdg hpc kk
def fX6_current (g : zSt) (c0 : Nat) (a1 : Int) : Option Int :=
    zlet (zsr a1 1) (fun x1 =>
    zbd (fX6_isAlive g c0 a1) (fun v2 =>
    (if i32 v2 = i32 0 then
    some 0
    else
    zck ((0 : Int) ≤ x1 ∧ x1 < 12) (
    zck ((0 : Int) ≤ a1 ∧ a1 < 24) (
    zck ((0 : Int) ≤ ((2 * x1) + (g.1 (c0 + 5) (Int.toNat a1))) ∧ ((2 * x1) + (g.1 (c0 + 5) (Int.toNat a1))) < 24) (
    some ((g.1 (c0 + 8) (Int.toNat x1)) + (g.1 (c0 + 9) (Int.toNat ((2 * x1) + (g.1 (c0 + 5) (Int.toNat a1))))))))))))
theorem wX6_current (cx : zCx Y p s m args meth c RX6 cX6_current 3 (some .int)) (g : zSt) (c0 : Nat) (a1 : Int) (hc0 : zV Y c0 = 7) : zWo Y p l e (zrm 1) s m args below meth c 3 0 0 (fun v : Int => MQ below (zQi Y v g) args s 0 0 (zA Y)) g [(0, .ref (zad Y c0)), (1, .int (i32 a1))] ([]) 0 (fX6_current g c0 a1) := by
  unfold fX6_current
  refine zr_iload_n (pc' := 1) cx rfl 1 dX6_current_0 rfl rfl ?_
  refine zr_iconst (pc' := 2) cx rfl dX6_current_1 ?_
  refine zr_ishr (pc' := 3) cx rfl dX6_current_2 ?_
  refine zr_leti (fun x1 => ?_)
  refine zr_istore_n (pc' := 4) cx rfl (lv' := [(2, .int (i32 x1)), (0, .ref (zad Y c0)), (1, .int (i32 a1))]) dX6_current_3 rfl (by decide) rfl ?_
  refine zr_aload_n (pc' := 5) cx rfl 1 dX6_current_4 rfl rfl ?_
  refine zr_iload_n (pc' := 6) cx rfl 2 dX6_current_5 rfl rfl ?_
  refine zc_X6_105 (pc' := 9) cx rfl hc0 ⟨Nat.le_of_ble_eq_true rfl, Nat.le_of_ble_eq_true rfl⟩ ⟨Nat.zero_le _, Nat.zero_le _⟩ (Nat.le_of_ble_eq_true rfl) dX6_current_6 (fun v2 => ?_)
  refine zr_if_eq (pc' := 12) cx rfl (tgt := 37) dX6_current_9 rfl ?_ ?_
  · refine zr_iconst (pc' := 38) cx rfl dX6_current_37 ?_
    exact zr_iretP cx dX6_current_38
  · refine zr_aload_n (pc' := 13) cx rfl 1 dX6_current_12 rfl rfl ?_
    refine zg_X6_41 (pc' := 16) cx rfl (c2 := (c0 + 8)) hc0 rfl dX6_current_13 ?_
    refine zr_iload_n (pc' := 17) cx rfl 0 dX6_current_16 rfl rfl ?_
    refine zr_iald (pc' := 18) cx rfl 10 (zk7_8 hc0) (by decide) (L := 12) rfl dX6_current_17 ?_
    refine zr_aload_n (pc' := 19) cx rfl 1 dX6_current_18 rfl rfl ?_
    refine zg_X6_44 (pc' := 22) cx rfl (c2 := (c0 + 9)) hc0 rfl dX6_current_19 ?_
    refine zr_iconst (pc' := 23) cx rfl dX6_current_22 ?_
    refine zr_iload_n (pc' := 24) cx rfl 0 dX6_current_23 rfl rfl ?_
    refine zr_imul (pc' := 25) cx rfl dX6_current_24 ?_
    refine zr_aload_n (pc' := 26) cx rfl 1 dX6_current_25 rfl rfl ?_
    refine zg_X6_25 (pc' := 29) cx rfl (c2 := (c0 + 5)) hc0 rfl dX6_current_26 ?_
    refine zr_iload_n (pc' := 30) cx rfl 2 dX6_current_29 rfl rfl ?_
    refine zr_iald (pc' := 31) cx rfl 11 (zk7_5 hc0) (by decide) (L := 24) rfl dX6_current_30 ?_
    refine zr_iadd (pc' := 32) cx rfl dX6_current_31 ?_
    refine zr_iald (pc' := 33) cx rfl 11 (zk7_9 hc0) (by decide) (L := 24) rfl dX6_current_32 ?_
    refine zr_iadd (pc' := 34) cx rfl dX6_current_33 ?_
    refine zr_gotoS cx (tgt := 38) dX6_current_34 rfl ?_
    exact zr_iretP cx dX6_current_38
theorem mX6_current (l : Launch) (Y : zLy) (g : zSt) (c0 : Nat) (a1 : Int) (hc0 : zV Y c0 = 7) : ∀ v, fX6_current g c0 a1 = some v → zMt l yX6_current cX6_current 3 (some .int) 1 [.ref (zad Y c0), .int (i32 a1)] Y g (zQi Y v g) := by
  intro v hv
  refine zmet_of RX6 rfl (by decide +kernel) (Nat.le_of_ble_eq_true rfl) ?_
  intro p e s m below meth c cx H locs ls hH hS hl
  exact wX6_current cx g c0 a1 hc0 v hv H locs ls hH hS hl
theorem zc_X7_296 (cx : zCx Y p s m args meth c RX7 cc nl ret) (hpc : pc + 3 = pc') {g : zSt} {c0 : Nat} {a1 : Int} (hc0 : zV Y c0 = 7) {fk : Int → Option ρ} (hR : 1 + 1 ≤ R.frames ∧ 8 + (3 + 11) + 40 * 1 ≤ R.locals) (hkn : k ≤ R.cells ∧ n ≤ R.slots) (hrest : (rest.map fun v => v.category).sum ≤ 8) (hdg : decode cc pc = .ok (.invokevirtual 296, 3)) (kk : ∀ v : Int, zWo Y p l e R s m args below meth c nl k n kq g lv (.int (i32 v) :: rest) pc' (fk v)) : zWo Y p l e R s m args below meth c nl k n kq g lv (.int (i32 a1) :: .ref (zad Y c0) :: rest) pc (zbd (fX6_current g c0 a1) fk) := zr_callViP cx (an := 1) (As := [.int (i32 a1)]) 7 hc0 (by decide) rfl (mX6_current l Y g c0 a1 hc0) (zG_V zw_441 zw_442 zw_443 zw_31 zw_444) (by decide +kernel) hR hkn rfl rfl hrest hdg hpc kk
theorem zc_X6_109 (cx : zCx Y p s m args meth c RX6 cc nl ret) (hpc : pc + 3 = pc') {g : zSt} {c0 : Nat} {a1 : Int} (hc0 : zV Y c0 = 7) {fk : Int → Option ρ} (hR : 1 + 1 ≤ R.frames ∧ 8 + (3 + 11) + 40 * 1 ≤ R.locals) (hkn : k ≤ R.cells ∧ n ≤ R.slots) (hrest : (rest.map fun v => v.category).sum ≤ 8) (hdg : decode cc pc = .ok (.invokevirtual 109, 3)) (kk : ∀ v : Int, zWo Y p l e R s m args below meth c nl k n kq g lv (.int (i32 v) :: rest) pc' (fk v)) : zWo Y p l e R s m args below meth c nl k n kq g lv (.int (i32 a1) :: .ref (zad Y c0) :: rest) pc (zbd (fX6_current g c0 a1) fk) := zr_callViP cx (an := 1) (As := [.int (i32 a1)]) 7 hc0 (by decide) rfl (mX6_current l Y g c0 a1 hc0) (zG_V zw_592 zw_442 zw_443 zw_31 zw_444) (by decide +kernel) hR hkn rfl rfl hrest hdg hpc kk
def fX6_fuseToBlow_p7 (g : zSt)  : Nat → Nat → Nat → Int → Int → Int → Option Int
  | 0, _, _, _, _, _ => none
  | fu + 1, c0, c1, a2, a3, a4 =>
    (if i32 a4 < i32 (2 * (g.1 c1 0)) then
    zck ((0 : Int) ≤ (zsr a4 1) ∧ (zsr a4 1) < 12) (
    zlet (g.1 (c0 + 1) (Int.toNat (zsr a4 1))) (fun x1 =>
    (if i32 a3 < i32 x1 then
    zbd (fX6_current g c0 a4) (fun v2 =>
    zck ((0 : Int) ≤ a4 ∧ a4 < 24) (
    (if i32 (g.1 (c1 + 4) (Int.toNat a4)) < i32 v2 then
    fX6_fuseToBlow_p7 g fu c0 c1 a4 x1 (a4 + 1)
    else
    fX6_fuseToBlow_p7 g fu c0 c1 a2 a3 (a4 + 1))))
    else
    fX6_fuseToBlow_p7 g fu c0 c1 a2 a3 (a4 + 1))))
    else
    some a2)
def fX6_fuseToBlow (g : zSt) (c0 : Nat) (c1 : Nat) : Option Int :=
    fX6_fuseToBlow_p7 g zfu c0 c1 (-1) 0 2
theorem wX6_fuseToBlow_p7 (cx : zCx Y p s m args meth c RX6 cX6_fuseToBlow 6 (some .int)) (g : zSt)   : ∀ (fu : Nat) (c0 : Nat) (c1 : Nat) (a2 : Int) (a3 : Int) (a4 : Int) (hc0 : zV Y c0 = 7) (hc1 : zV Y c1 = 1), zWo Y p l e (zrm 2) s m args below meth c 6 0 0 (fun v : Int => MQ below (zQi Y v g) args s 0 0 (zA Y)) g [(0, .ref (zad Y c0)), (1, .ref (zad Y c1)), (2, .int (i32 a2)), (3, .int (i32 a3)), (4, .int (i32 a4))] ([]) 7 (fX6_fuseToBlow_p7 g fu c0 c1 a2 a3 a4) := by
  intro fu
  induction fu with
  | zero => intro c0 c1 a2 a3 a4 hc0 hc1; exact zr_none
  | succ fu ih =>
    intro c0 c1 a2 a3 a4 hc0 hc1
    rw [fX6_fuseToBlow_p7]
    refine zr_iload (pc' := 9) cx rfl 4 dX6_fuseToBlow_7 rfl ?_
    refine zr_iconst (pc' := 10) cx rfl dX6_fuseToBlow_9 ?_
    refine zr_aload_n (pc' := 11) cx rfl 1 dX6_fuseToBlow_10 rfl rfl ?_
    refine zg_X6_56 (pc' := 14) cx rfl hc1 dX6_fuseToBlow_11 ?_
    refine zr_imul (pc' := 15) cx rfl dX6_fuseToBlow_14 ?_
    refine zr_icmp_ge (pc' := 18) cx rfl (tgt := 63) dX6_fuseToBlow_15 rfl ?_ ?_
    · refine zr_iload_n (pc' := 64) cx rfl 2 dX6_fuseToBlow_63 rfl rfl ?_
      exact zr_iretP cx dX6_fuseToBlow_64
    · refine zr_aload_n (pc' := 19) cx rfl 0 dX6_fuseToBlow_18 rfl rfl ?_
      refine zg_X6_9 (pc' := 22) cx rfl (c2 := (c0 + 1)) hc0 rfl dX6_fuseToBlow_19 ?_
      refine zr_iload (pc' := 24) cx rfl 4 dX6_fuseToBlow_22 rfl ?_
      refine zr_iconst (pc' := 25) cx rfl dX6_fuseToBlow_24 ?_
      refine zr_ishr (pc' := 26) cx rfl dX6_fuseToBlow_25 ?_
      refine zr_iald (pc' := 27) cx rfl 10 (zk7_1 hc0) (by decide) (L := 12) rfl dX6_fuseToBlow_26 ?_
      refine zr_leti (fun x1 => ?_)
      refine zr_istore (pc' := 29) cx rfl (lv' := [(5, .int (i32 x1)), (0, .ref (zad Y c0)), (1, .ref (zad Y c1)), (2, .int (i32 a2)), (3, .int (i32 a3)), (4, .int (i32 a4))]) dX6_fuseToBlow_27 (by decide) rfl ?_
      refine zr_iload (pc' := 31) cx rfl 0 dX6_fuseToBlow_29 rfl ?_
      refine zr_iload_n (pc' := 32) cx rfl 4 dX6_fuseToBlow_31 rfl rfl ?_
      refine zr_icmp_le (pc' := 35) cx rfl (tgt := 57) dX6_fuseToBlow_32 rfl ?_ ?_
      · refine zr_iinc (pc' := 60) cx rfl (lv' := [(4, .int (i32 (a4 + 1))), (5, .int (i32 x1)), (0, .ref (zad Y c0)), (1, .ref (zad Y c1)), (2, .int (i32 a2)), (3, .int (i32 a3))]) 5 dX6_fuseToBlow_57 rfl (by decide) rfl ?_
        refine zr_goto cx (tgt := 7) dX6_fuseToBlow_60 rfl ?_
        refine zr_sub [2, 3, 4, 5, 0] rfl ?_
        exact ih c0 c1 a2 a3 (a4 + 1) hc0 hc1
      · refine zr_aload_n (pc' := 36) cx rfl 1 dX6_fuseToBlow_35 rfl rfl ?_
        refine zr_iload (pc' := 38) cx rfl 5 dX6_fuseToBlow_36 rfl ?_
        refine zc_X6_109 (pc' := 41) cx rfl hc0 ⟨Nat.le_of_ble_eq_true rfl, Nat.le_of_ble_eq_true rfl⟩ ⟨Nat.zero_le _, Nat.zero_le _⟩ (Nat.le_of_ble_eq_true rfl) dX6_fuseToBlow_38 (fun v2 => ?_)
        refine zr_aload_n (pc' := 42) cx rfl 2 dX6_fuseToBlow_41 rfl rfl ?_
        refine zg_X6_112 (pc' := 45) cx rfl (c2 := (c1 + 4)) hc1 rfl dX6_fuseToBlow_42 ?_
        refine zr_iload (pc' := 47) cx rfl 5 dX6_fuseToBlow_45 rfl ?_
        refine zr_iald (pc' := 48) cx rfl 11 (zk1_4 hc1) (by decide) (L := 24) rfl dX6_fuseToBlow_47 ?_
        refine zr_icmp_le (pc' := 51) cx rfl (tgt := 57) dX6_fuseToBlow_48 rfl ?_ ?_
        · refine zr_iinc (pc' := 60) cx rfl (lv' := [(4, .int (i32 (a4 + 1))), (5, .int (i32 x1)), (0, .ref (zad Y c0)), (1, .ref (zad Y c1)), (2, .int (i32 a2)), (3, .int (i32 a3))]) 5 dX6_fuseToBlow_57 rfl (by decide) rfl ?_
          refine zr_goto cx (tgt := 7) dX6_fuseToBlow_60 rfl ?_
          refine zr_sub [2, 3, 4, 5, 0] rfl ?_
          exact ih c0 c1 a2 a3 (a4 + 1) hc0 hc1
        · refine zr_iload (pc' := 53) cx rfl 5 dX6_fuseToBlow_51 rfl ?_
          refine zr_istore_n (pc' := 54) cx rfl (lv' := [(2, .int (i32 a4)), (5, .int (i32 x1)), (0, .ref (zad Y c0)), (1, .ref (zad Y c1)), (3, .int (i32 a3)), (4, .int (i32 a4))]) dX6_fuseToBlow_53 rfl (by decide) rfl ?_
          refine zr_iload (pc' := 56) cx rfl 1 dX6_fuseToBlow_54 rfl ?_
          refine zr_istore_n (pc' := 57) cx rfl (lv' := [(3, .int (i32 x1)), (2, .int (i32 a4)), (5, .int (i32 x1)), (0, .ref (zad Y c0)), (1, .ref (zad Y c1)), (4, .int (i32 a4))]) dX6_fuseToBlow_56 rfl (by decide) rfl ?_
          refine zr_iinc (pc' := 60) cx rfl (lv' := [(4, .int (i32 (a4 + 1))), (3, .int (i32 x1)), (2, .int (i32 a4)), (5, .int (i32 x1)), (0, .ref (zad Y c0)), (1, .ref (zad Y c1))]) 5 dX6_fuseToBlow_57 rfl (by decide) rfl ?_
          refine zr_goto cx (tgt := 7) dX6_fuseToBlow_60 rfl ?_
          refine zr_sub [4, 5, 2, 1, 0] rfl ?_
          exact ih c0 c1 a4 x1 (a4 + 1) hc0 hc1
theorem wX6_fuseToBlow (cx : zCx Y p s m args meth c RX6 cX6_fuseToBlow 6 (some .int)) (g : zSt) (c0 : Nat) (c1 : Nat) (hc0 : zV Y c0 = 7) (hc1 : zV Y c1 = 1) : zWo Y p l e (zrm 2) s m args below meth c 6 0 0 (fun v : Int => MQ below (zQi Y v g) args s 0 0 (zA Y)) g [(0, .ref (zad Y c0)), (1, .ref (zad Y c1))] ([]) 0 (fX6_fuseToBlow g c0 c1) := by
  unfold fX6_fuseToBlow
  refine zr_iconst (pc' := 1) cx rfl dX6_fuseToBlow_0 ?_
  refine zr_istore_n (pc' := 2) cx rfl (lv' := [(2, .int (i32 (-1))), (0, .ref (zad Y c0)), (1, .ref (zad Y c1))]) dX6_fuseToBlow_1 rfl (by decide) rfl ?_
  refine zr_iconst (pc' := 3) cx rfl dX6_fuseToBlow_2 ?_
  refine zr_istore_n (pc' := 4) cx rfl (lv' := [(3, .int (i32 0)), (2, .int (i32 (-1))), (0, .ref (zad Y c0)), (1, .ref (zad Y c1))]) dX6_fuseToBlow_3 rfl (by decide) rfl ?_
  refine zr_iconst (pc' := 5) cx rfl dX6_fuseToBlow_4 ?_
  refine zr_istore (pc' := 7) cx rfl (lv' := [(4, .int (i32 2)), (3, .int (i32 0)), (2, .int (i32 (-1))), (0, .ref (zad Y c0)), (1, .ref (zad Y c1))]) dX6_fuseToBlow_5 (by decide) rfl ?_
  refine zr_sub [3, 4, 2, 1, 0] rfl ?_
  exact wX6_fuseToBlow_p7 cx g zfu c0 c1 (-1) 0 2 hc0 hc1
theorem mX6_fuseToBlow (l : Launch) (Y : zLy) (g : zSt) (c0 : Nat) (c1 : Nat) (hc0 : zV Y c0 = 7) (hc1 : zV Y c1 = 1) : ∀ v, fX6_fuseToBlow g c0 c1 = some v → zMt l yX6_fuseToBlow cX6_fuseToBlow 6 (some .int) 2 [.ref (zad Y c0), .ref (zad Y c1)] Y g (zQi Y v g) := by
  intro v hv
  refine zmet_of RX6 rfl (by decide +kernel) (Nat.le_of_ble_eq_true rfl) ?_
  intro p e s m below meth c cx H locs ls hH hS hl
  exact wX6_fuseToBlow cx g c0 c1 hc0 hc1 v hv H locs ls hH hS hl
theorem zc_X7_286 (cx : zCx Y p s m args meth c RX7 cc nl ret) (hpc : pc + 3 = pc') {g : zSt} {c0 : Nat} {c1 : Nat} (hc0 : zV Y c0 = 7) (hc1 : zV Y c1 = 1) {fk : Int → Option ρ} (hR : 2 + 1 ≤ R.frames ∧ 8 + (6 + 11) + 40 * 2 ≤ R.locals) (hkn : k ≤ R.cells ∧ n ≤ R.slots) (hrest : (rest.map fun v => v.category).sum ≤ 8) (hdg : decode cc pc = .ok (.invokevirtual 286, 3)) (kk : ∀ v : Int, zWo Y p l e R s m args below meth c nl k n kq g lv (.int (i32 v) :: rest) pc' (fk v)) : zWo Y p l e R s m args below meth c nl k n kq g lv (.ref (zad Y c1) :: .ref (zad Y c0) :: rest) pc (zbd (fX6_fuseToBlow g c0 c1) fk) := zr_callViP cx (an := 1) (As := [.ref (zad Y c1)]) 7 hc0 (by decide) rfl (mX6_fuseToBlow l Y g c0 c1 hc0 hc1) (zG_V zw_588 zw_589 zw_590 zw_31 zw_591) (by decide +kernel) hR hkn rfl rfl hrest hdg hpc kk
end ZmS
