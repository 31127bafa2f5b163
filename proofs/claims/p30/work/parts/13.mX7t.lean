section ZmX7t
variable {ρ : Type} {Y : zLy} {p : Program} {l : Launch} {e : Env} {R : Room} {s : State} {m : MethodId} {args : Array Value} {below : List Frame} {meth : Method} {c : Code} {nl k n : Nat} {kq : ρ → State → Prop} {lv : List (Nat × Value)} {rest : List Value} {pc pc' : Nat} {cc : ByteArray} {ret : Option FieldType}
def fX7_addBox (g : zSt) (a1 : Int) (a2 : Int) (a3 : Int) (a4 : Int) : Option (Int × zSt) :=
    zbd (fX7_isBox g a1) (fun v1 =>
    (if i32 v1 = i32 0 then
    none
    else
    zbd (fX7_isRating g a2) (fun v2 =>
    (if i32 v2 = i32 0 then
    none
    else
    zbd (fX7_isRating g a3) (fun v3 =>
    (if i32 v3 = i32 0 then
    none
    else
    (if i32 (g.1 11 0) < i32 12 then
    zbd (fX2_save g 10) (fun g4 =>
    zbd (fX0_add g4 11 a1 a2 a3 a4) (fun g5 =>
    zbe (fX7_settle g5 10 200) (fun v6 g7 =>
    some (((g7.1 11 0) - 1), g7))))
    else
    none)))))))
theorem wX7_addBox (cx : zCx Y p s m args meth c RX7 cX7_addBox 5 (some .int)) (g : zSt) (a1 : Int) (a2 : Int) (a3 : Int) (a4 : Int)  : zWo Y p l e (zrm 4) s m args below meth c 5 0 0 (fun q : Int × zSt => MQ below (zQi Y q.1 q.2) args s 0 0 (zA Y)) g [(0, .ref (zad Y 0)), (1, .int (i32 a1)), (2, .int (i32 a2)), (3, .int (i32 a3)), (4, .int (i32 a4))] ([]) 0 (fX7_addBox g a1 a2 a3 a4) := by
  unfold fX7_addBox
  refine zr_aload_n (pc' := 1) cx rfl 0 dX7_addBox_0 rfl rfl ?_
  refine zr_iload_n (pc' := 2) cx rfl 1 dX7_addBox_1 rfl rfl ?_
  refine zc_X7_54 (pc' := 5) cx rfl  ⟨Nat.le_of_ble_eq_true rfl, Nat.le_of_ble_eq_true rfl⟩ ⟨Nat.zero_le _, Nat.zero_le _⟩ (Nat.le_of_ble_eq_true rfl) dX7_addBox_2 (fun v1 => ?_)
  refine zr_if_ne (pc' := 8) cx rfl (tgt := 18) dX7_addBox_5 rfl ?_ ?_
  · refine zr_iload_n (pc' := 19) cx rfl 2 dX7_addBox_18 rfl rfl ?_
    refine zc_X7_65 (pc' := 22) cx rfl  ⟨Nat.le_of_ble_eq_true rfl, Nat.le_of_ble_eq_true rfl⟩ ⟨Nat.zero_le _, Nat.zero_le _⟩ (Nat.le_of_ble_eq_true rfl) dX7_addBox_19 (fun v2 => ?_)
    refine zr_if_eq (pc' := 25) cx rfl (tgt := 32) dX7_addBox_22 rfl ?_ ?_
    · exact zr_none
    · refine zr_iload_n (pc' := 26) cx rfl 3 dX7_addBox_25 rfl rfl ?_
      refine zc_X7_65 (pc' := 29) cx rfl  ⟨Nat.le_of_ble_eq_true rfl, Nat.le_of_ble_eq_true rfl⟩ ⟨Nat.zero_le _, Nat.zero_le _⟩ (Nat.le_of_ble_eq_true rfl) dX7_addBox_26 (fun v3 => ?_)
      refine zr_if_ne (pc' := 32) cx rfl (tgt := 42) dX7_addBox_29 rfl ?_ ?_
      · refine zr_aload_n (pc' := 43) cx rfl 0 dX7_addBox_42 rfl rfl ?_
        refine zg_X7_12 (pc' := 46) cx rfl zkc_0 dX7_addBox_43 ?_
        refine zg_X7_73 (pc' := 49) cx rfl (c2 := 11) zkc_10 rfl dX7_addBox_46 ?_
        refine zg_X7_77 (pc' := 52) cx rfl zkc_11 dX7_addBox_49 ?_
        refine zr_bipush (pc' := 54) cx rfl dX7_addBox_52 (by decide +kernel) ?_
        refine zr_icmp_lt (pc' := 57) cx rfl (tgt := 67) dX7_addBox_54 rfl ?_ ?_
        · refine zr_aload_n (pc' := 68) cx rfl 0 dX7_addBox_67 rfl rfl ?_
          refine zg_X7_35 (pc' := 71) cx rfl zkc_0 dX7_addBox_68 ?_
          refine zr_aload_n (pc' := 72) cx rfl 0 dX7_addBox_71 rfl rfl ?_
          refine zg_X7_12 (pc' := 75) cx rfl zkc_0 dX7_addBox_72 ?_
          refine zc_X7_87 (pc' := 78) cx rfl zkc_10 ⟨Nat.le_of_ble_eq_true rfl, Nat.le_of_ble_eq_true rfl⟩ ⟨Nat.zero_le _, Nat.zero_le _⟩ (Nat.le_of_ble_eq_true rfl) dX7_addBox_75 (fun g4 => ?_)
          refine zr_aload_n (pc' := 79) cx rfl 0 dX7_addBox_78 rfl rfl ?_
          refine zg_X7_12 (pc' := 82) cx rfl zkc_0 dX7_addBox_79 ?_
          refine zg_X7_73 (pc' := 85) cx rfl (c2 := 11) zkc_10 rfl dX7_addBox_82 ?_
          refine zr_iload_n (pc' := 86) cx rfl 1 dX7_addBox_85 rfl rfl ?_
          refine zr_iload_n (pc' := 87) cx rfl 2 dX7_addBox_86 rfl rfl ?_
          refine zr_iload_n (pc' := 88) cx rfl 3 dX7_addBox_87 rfl rfl ?_
          refine zr_iload (pc' := 90) cx rfl 4 dX7_addBox_88 rfl ?_
          refine zc_X7_91 (pc' := 93) cx rfl zkc_11 ⟨Nat.le_of_ble_eq_true rfl, Nat.le_of_ble_eq_true rfl⟩ ⟨Nat.zero_le _, Nat.zero_le _⟩ (Nat.le_of_ble_eq_true rfl) dX7_addBox_90 (fun g5 => ?_)
          refine zr_aload_n (pc' := 94) cx rfl 0 dX7_addBox_93 rfl rfl ?_
          refine zg_X7_12 (pc' := 97) cx rfl zkc_0 dX7_addBox_94 ?_
          refine zr_aload_n (pc' := 98) cx rfl 0 dX7_addBox_97 rfl rfl ?_
          refine zg_X7_19 (pc' := 101) cx rfl zkc_0 dX7_addBox_98 ?_
          refine zc_X7_95 (pc' := 104) cx rfl zkc_10 zkc_200 ⟨Nat.le_of_ble_eq_true rfl, Nat.le_of_ble_eq_true rfl⟩ ⟨Nat.zero_le _, Nat.zero_le _⟩ (Nat.le_of_ble_eq_true rfl) dX7_addBox_101 (fun v6 g7 => ?_)
          refine zr_pop (pc' := 105) cx rfl dX7_addBox_104 rfl ?_
          refine zr_aload_n (pc' := 106) cx rfl 0 dX7_addBox_105 rfl rfl ?_
          refine zg_X7_12 (pc' := 109) cx rfl zkc_0 dX7_addBox_106 ?_
          refine zg_X7_73 (pc' := 112) cx rfl (c2 := 11) zkc_10 rfl dX7_addBox_109 ?_
          refine zg_X7_77 (pc' := 115) cx rfl zkc_11 dX7_addBox_112 ?_
          refine zr_iconst (pc' := 116) cx rfl dX7_addBox_115 ?_
          refine zr_isub (pc' := 117) cx rfl dX7_addBox_116 ?_
          exact zr_iretE cx dX7_addBox_117
        · exact zr_none
      · exact zr_none
  · exact zr_none
theorem mX7_addBox (l : Launch) (Y : zLy) (g : zSt) (a1 : Int) (a2 : Int) (a3 : Int) (a4 : Int)  : ∀ v g2, fX7_addBox g a1 a2 a3 a4 = some (v, g2) → zMt l yX7_addBox cX7_addBox 5 (some .int) 4 [.ref (zad Y 0), .int (i32 a1), .int (i32 a2), .int (i32 a3), .int (i32 a4)] Y g (zQi Y v g2) := by
  intro v g2 hv
  refine zmet_of RX7 rfl (by decide +kernel) (Nat.le_of_ble_eq_true rfl) ?_
  intro p e s m below meth c cx H locs ls hH hS hl
  exact wX7_addBox cx g a1 a2 a3 a4  (v, g2) hv H locs ls hH hS hl
theorem zc_L_71 (cx : zCx Y p s m args meth c RL cc nl ret) (hpc : pc + 3 = pc') {g : zSt} {a1 : Int} {a2 : Int} {a3 : Int} {a4 : Int}  {fk : Int → zSt → Option ρ} (hR : 4 + 1 ≤ R.frames ∧ 8 + (5 + 11) + 40 * 4 ≤ R.locals) (hkn : k ≤ R.cells ∧ n ≤ R.slots) (hrest : (rest.map fun v => v.category).sum ≤ 8) (hdg : decode cc pc = .ok (.invokevirtual 71, 3)) (kk : ∀ (v : Int) (g2 : zSt), zWo Y p l e R s m args below meth c nl k n kq g2 lv (.int (i32 v) :: rest) pc' (fk v g2)) : zWo Y p l e R s m args below meth c nl k n kq g lv (.int (i32 a4) :: .int (i32 a3) :: .int (i32 a2) :: .int (i32 a1) :: .ref (zad Y 0) :: rest) pc (zbe (fX7_addBox g a1 a2 a3 a4) fk) := zr_callViE cx (an := 4) (As := [.int (i32 a1), .int (i32 a2), .int (i32 a3), .int (i32 a4)]) 8 zkc_0 (by decide) rfl (mX7_addBox l Y g a1 a2 a3 a4) (zG_V zw_629 zw_630 zw_631 zw_26 zw_632) (by decide +kernel) hR hkn rfl rfl hrest hdg hpc kk
def fX7_toggle_p60  (g : zSt) (y1 : Int) (y2 : Int) (a1 : Int) : Option (Int × zSt) :=
    zck ((0 : Int) ≤ y1 ∧ y1 < 12) (zck ((y2 : Int) = 0 ∨ (y2 : Int) = 1) (zlet (zwr g 14 (Int.toNat y1) y2) (fun g1 =>
    zbe (fX7_settle g1 10 200) (fun v2 g3 =>
    zck ((0 : Int) ≤ a1 ∧ a1 < 12) (
    zbd (fX7_oneIf g3 (g3.1 14 (Int.toNat a1))) (fun v4 =>
    some (v4, g3)))))))
def fX7_toggle (g : zSt) (a1 : Int) : Option (Int × zSt) :=
    zbd (fX7_isFedBox g a1) (fun v5 =>
    (if i32 v5 = i32 0 then
    none
    else
    zbd (fX2_save g 10) (fun g6 =>
    zck ((0 : Int) ≤ a1 ∧ a1 < 12) (
    (if i32 (g6.1 14 (Int.toNat a1)) = i32 0 then
    fX7_toggle_p60 g6 a1 1 a1
    else
    fX7_toggle_p60 g6 a1 0 a1)))))
theorem wX7_toggle_p60 (cx : zCx Y p s m args meth c RX7 cX7_toggle 2 (some .int))   : ∀ (g : zSt) (y1 : Int) (y2 : Int) (a1 : Int), zWo Y p l e (zrm 4) s m args below meth c 2 0 0 (fun q : Int × zSt => MQ below (zQi Y q.1 q.2) args s 0 0 (zA Y)) g [(0, .ref (zad Y 0)), (1, .int (i32 a1))] (.int (i32 y2) :: .int (i32 y1) :: .ref (zad Y 14) :: []) 60 (fX7_toggle_p60 g y1 y2 a1) := by
  intro g y1 y2 a1
  unfold fX7_toggle_p60
  refine zr_bast (pc' := 61) cx rfl 20 zkc_14 (by decide) (L := 12) rfl dX7_toggle_60 ?_
  refine zr_letS (fun g1 => ?_)
  refine zr_aload_n (pc' := 62) cx rfl 0 dX7_toggle_61 rfl rfl ?_
  refine zg_X7_12 (pc' := 65) cx rfl zkc_0 dX7_toggle_62 ?_
  refine zr_aload_n (pc' := 66) cx rfl 0 dX7_toggle_65 rfl rfl ?_
  refine zg_X7_19 (pc' := 69) cx rfl zkc_0 dX7_toggle_66 ?_
  refine zc_X7_95 (pc' := 72) cx rfl zkc_10 zkc_200 ⟨Nat.le_of_ble_eq_true rfl, Nat.le_of_ble_eq_true rfl⟩ ⟨Nat.zero_le _, Nat.zero_le _⟩ (Nat.le_of_ble_eq_true rfl) dX7_toggle_69 (fun v2 g3 => ?_)
  refine zr_pop (pc' := 73) cx rfl dX7_toggle_72 rfl ?_
  refine zr_aload_n (pc' := 74) cx rfl 0 dX7_toggle_73 rfl rfl ?_
  refine zg_X7_12 (pc' := 77) cx rfl zkc_0 dX7_toggle_74 ?_
  refine zg_X7_73 (pc' := 80) cx rfl (c2 := 11) zkc_10 rfl dX7_toggle_77 ?_
  refine zg_X7_104 (pc' := 83) cx rfl (c2 := 14) zkc_11 rfl dX7_toggle_80 ?_
  refine zr_iload_n (pc' := 84) cx rfl 1 dX7_toggle_83 rfl rfl ?_
  refine zr_bald (pc' := 85) cx rfl 20 zkc_14 (by decide) (L := 12) rfl dX7_toggle_84 ?_
  refine zc_X7_108 (pc' := 88) cx rfl  ⟨Nat.le_of_ble_eq_true rfl, Nat.le_of_ble_eq_true rfl⟩ ⟨Nat.zero_le _, Nat.zero_le _⟩ (Nat.le_of_ble_eq_true rfl) dX7_toggle_85 (fun v4 => ?_)
  exact zr_iretE cx dX7_toggle_88
theorem wX7_toggle (cx : zCx Y p s m args meth c RX7 cX7_toggle 2 (some .int)) (g : zSt) (a1 : Int)  : zWo Y p l e (zrm 4) s m args below meth c 2 0 0 (fun q : Int × zSt => MQ below (zQi Y q.1 q.2) args s 0 0 (zA Y)) g [(0, .ref (zad Y 0)), (1, .int (i32 a1))] ([]) 0 (fX7_toggle g a1) := by
  unfold fX7_toggle
  refine zr_aload_n (pc' := 1) cx rfl 0 dX7_toggle_0 rfl rfl ?_
  refine zr_iload_n (pc' := 2) cx rfl 1 dX7_toggle_1 rfl rfl ?_
  refine zc_X7_99 (pc' := 5) cx rfl  ⟨Nat.le_of_ble_eq_true rfl, Nat.le_of_ble_eq_true rfl⟩ ⟨Nat.zero_le _, Nat.zero_le _⟩ (Nat.le_of_ble_eq_true rfl) dX7_toggle_2 (fun v5 => ?_)
  refine zr_if_ne (pc' := 8) cx rfl (tgt := 18) dX7_toggle_5 rfl ?_ ?_
  · refine zr_aload_n (pc' := 19) cx rfl 0 dX7_toggle_18 rfl rfl ?_
    refine zg_X7_35 (pc' := 22) cx rfl zkc_0 dX7_toggle_19 ?_
    refine zr_aload_n (pc' := 23) cx rfl 0 dX7_toggle_22 rfl rfl ?_
    refine zg_X7_12 (pc' := 26) cx rfl zkc_0 dX7_toggle_23 ?_
    refine zc_X7_87 (pc' := 29) cx rfl zkc_10 ⟨Nat.le_of_ble_eq_true rfl, Nat.le_of_ble_eq_true rfl⟩ ⟨Nat.zero_le _, Nat.zero_le _⟩ (Nat.le_of_ble_eq_true rfl) dX7_toggle_26 (fun g6 => ?_)
    refine zr_aload_n (pc' := 30) cx rfl 0 dX7_toggle_29 rfl rfl ?_
    refine zg_X7_12 (pc' := 33) cx rfl zkc_0 dX7_toggle_30 ?_
    refine zg_X7_73 (pc' := 36) cx rfl (c2 := 11) zkc_10 rfl dX7_toggle_33 ?_
    refine zg_X7_104 (pc' := 39) cx rfl (c2 := 14) zkc_11 rfl dX7_toggle_36 ?_
    refine zr_iload_n (pc' := 40) cx rfl 1 dX7_toggle_39 rfl rfl ?_
    refine zr_aload_n (pc' := 41) cx rfl 0 dX7_toggle_40 rfl rfl ?_
    refine zg_X7_12 (pc' := 44) cx rfl zkc_0 dX7_toggle_41 ?_
    refine zg_X7_73 (pc' := 47) cx rfl (c2 := 11) zkc_10 rfl dX7_toggle_44 ?_
    refine zg_X7_104 (pc' := 50) cx rfl (c2 := 14) zkc_11 rfl dX7_toggle_47 ?_
    refine zr_iload_n (pc' := 51) cx rfl 1 dX7_toggle_50 rfl rfl ?_
    refine zr_bald (pc' := 52) cx rfl 20 zkc_14 (by decide) (L := 12) rfl dX7_toggle_51 ?_
    refine zr_if_ne (pc' := 55) cx rfl (tgt := 59) dX7_toggle_52 rfl ?_ ?_
    · refine zr_iconst (pc' := 60) cx rfl dX7_toggle_59 ?_
      refine zr_sub [0, 1] rfl ?_
      exact wX7_toggle_p60 cx g6 a1 0 a1
    · refine zr_iconst (pc' := 56) cx rfl dX7_toggle_55 ?_
      refine zr_gotoS cx (tgt := 60) dX7_toggle_56 rfl ?_
      refine zr_sub [0, 1] rfl ?_
      exact wX7_toggle_p60 cx g6 a1 1 a1
  · exact zr_none
theorem mX7_toggle (l : Launch) (Y : zLy) (g : zSt) (a1 : Int)  : ∀ v g2, fX7_toggle g a1 = some (v, g2) → zMt l yX7_toggle cX7_toggle 2 (some .int) 4 [.ref (zad Y 0), .int (i32 a1)] Y g (zQi Y v g2) := by
  intro v g2 hv
  refine zmet_of RX7 rfl (by decide +kernel) (Nat.le_of_ble_eq_true rfl) ?_
  intro p e s m below meth c cx H locs ls hH hS hl
  exact wX7_toggle cx g a1  (v, g2) hv H locs ls hH hS hl
theorem zc_L_90 (cx : zCx Y p s m args meth c RL cc nl ret) (hpc : pc + 3 = pc') {g : zSt} {a1 : Int}  {fk : Int → zSt → Option ρ} (hR : 4 + 1 ≤ R.frames ∧ 8 + (2 + 11) + 40 * 4 ≤ R.locals) (hkn : k ≤ R.cells ∧ n ≤ R.slots) (hrest : (rest.map fun v => v.category).sum ≤ 8) (hdg : decode cc pc = .ok (.invokevirtual 90, 3)) (kk : ∀ (v : Int) (g2 : zSt), zWo Y p l e R s m args below meth c nl k n kq g2 lv (.int (i32 v) :: rest) pc' (fk v g2)) : zWo Y p l e R s m args below meth c nl k n kq g lv (.int (i32 a1) :: .ref (zad Y 0) :: rest) pc (zbe (fX7_toggle g a1) fk) := zr_callViE cx (an := 1) (As := [.int (i32 a1)]) 8 zkc_0 (by decide) rfl (mX7_toggle l Y g a1) (zG_V zw_706 zw_707 zw_708 zw_26 zw_709) (by decide +kernel) hR hkn rfl rfl hrest hdg hpc kk
def fX7_cross_p60  (g : zSt) (y1 : Int) (y2 : Int) : Option (Int × zSt) :=
    zck ((0 : Int) ≤ y1 ∧ y1 < 12) (zck ((y2 : Int) = 0 ∨ (y2 : Int) = 1) (zlet (zwr g 13 (Int.toNat y1) y2) (fun g1 =>
    zbe (fX7_settle g1 10 200) (fun v2 g3 =>
    some ((g3.1 200 6), g3)))))
def fX7_cross (g : zSt) (a1 : Int) : Option (Int × zSt) :=
    zbd (fX7_isFedBox g a1) (fun v4 =>
    (if i32 v4 = i32 0 then
    none
    else
    zbd (fX2_save g 10) (fun g5 =>
    zck ((0 : Int) ≤ a1 ∧ a1 < 12) (
    (if i32 (g5.1 13 (Int.toNat a1)) = i32 0 then
    fX7_cross_p60 g5 a1 1
    else
    fX7_cross_p60 g5 a1 0)))))
theorem wX7_cross_p60 (cx : zCx Y p s m args meth c RX7 cX7_cross 2 (some .int))   : ∀ (g : zSt) (y1 : Int) (y2 : Int), zWo Y p l e (zrm 4) s m args below meth c 2 0 0 (fun q : Int × zSt => MQ below (zQi Y q.1 q.2) args s 0 0 (zA Y)) g [(0, .ref (zad Y 0))] (.int (i32 y2) :: .int (i32 y1) :: .ref (zad Y 13) :: []) 60 (fX7_cross_p60 g y1 y2) := by
  intro g y1 y2
  unfold fX7_cross_p60
  refine zr_bast (pc' := 61) cx rfl 20 zkc_13 (by decide) (L := 12) rfl dX7_cross_60 ?_
  refine zr_letS (fun g1 => ?_)
  refine zr_aload_n (pc' := 62) cx rfl 0 dX7_cross_61 rfl rfl ?_
  refine zg_X7_12 (pc' := 65) cx rfl zkc_0 dX7_cross_62 ?_
  refine zr_aload_n (pc' := 66) cx rfl 0 dX7_cross_65 rfl rfl ?_
  refine zg_X7_19 (pc' := 69) cx rfl zkc_0 dX7_cross_66 ?_
  refine zc_X7_95 (pc' := 72) cx rfl zkc_10 zkc_200 ⟨Nat.le_of_ble_eq_true rfl, Nat.le_of_ble_eq_true rfl⟩ ⟨Nat.zero_le _, Nat.zero_le _⟩ (Nat.le_of_ble_eq_true rfl) dX7_cross_69 (fun v2 g3 => ?_)
  refine zr_pop (pc' := 73) cx rfl dX7_cross_72 rfl ?_
  refine zr_aload_n (pc' := 74) cx rfl 0 dX7_cross_73 rfl rfl ?_
  refine zg_X7_19 (pc' := 77) cx rfl zkc_0 dX7_cross_74 ?_
  refine zg_X7_115 (pc' := 80) cx rfl zkc_200 dX7_cross_77 ?_
  exact zr_iretE cx dX7_cross_80
theorem wX7_cross (cx : zCx Y p s m args meth c RX7 cX7_cross 2 (some .int)) (g : zSt) (a1 : Int)  : zWo Y p l e (zrm 4) s m args below meth c 2 0 0 (fun q : Int × zSt => MQ below (zQi Y q.1 q.2) args s 0 0 (zA Y)) g [(0, .ref (zad Y 0)), (1, .int (i32 a1))] ([]) 0 (fX7_cross g a1) := by
  unfold fX7_cross
  refine zr_aload_n (pc' := 1) cx rfl 0 dX7_cross_0 rfl rfl ?_
  refine zr_iload_n (pc' := 2) cx rfl 1 dX7_cross_1 rfl rfl ?_
  refine zc_X7_99 (pc' := 5) cx rfl  ⟨Nat.le_of_ble_eq_true rfl, Nat.le_of_ble_eq_true rfl⟩ ⟨Nat.zero_le _, Nat.zero_le _⟩ (Nat.le_of_ble_eq_true rfl) dX7_cross_2 (fun v4 => ?_)
  refine zr_if_ne (pc' := 8) cx rfl (tgt := 18) dX7_cross_5 rfl ?_ ?_
  · refine zr_aload_n (pc' := 19) cx rfl 0 dX7_cross_18 rfl rfl ?_
    refine zg_X7_35 (pc' := 22) cx rfl zkc_0 dX7_cross_19 ?_
    refine zr_aload_n (pc' := 23) cx rfl 0 dX7_cross_22 rfl rfl ?_
    refine zg_X7_12 (pc' := 26) cx rfl zkc_0 dX7_cross_23 ?_
    refine zc_X7_87 (pc' := 29) cx rfl zkc_10 ⟨Nat.le_of_ble_eq_true rfl, Nat.le_of_ble_eq_true rfl⟩ ⟨Nat.zero_le _, Nat.zero_le _⟩ (Nat.le_of_ble_eq_true rfl) dX7_cross_26 (fun g5 => ?_)
    refine zr_aload_n (pc' := 30) cx rfl 0 dX7_cross_29 rfl rfl ?_
    refine zg_X7_12 (pc' := 33) cx rfl zkc_0 dX7_cross_30 ?_
    refine zg_X7_73 (pc' := 36) cx rfl (c2 := 11) zkc_10 rfl dX7_cross_33 ?_
    refine zg_X7_112 (pc' := 39) cx rfl (c2 := 13) zkc_11 rfl dX7_cross_36 ?_
    refine zr_iload_n (pc' := 40) cx rfl 1 dX7_cross_39 rfl rfl ?_
    refine zr_aload_n (pc' := 41) cx rfl 0 dX7_cross_40 rfl rfl ?_
    refine zg_X7_12 (pc' := 44) cx rfl zkc_0 dX7_cross_41 ?_
    refine zg_X7_73 (pc' := 47) cx rfl (c2 := 11) zkc_10 rfl dX7_cross_44 ?_
    refine zg_X7_112 (pc' := 50) cx rfl (c2 := 13) zkc_11 rfl dX7_cross_47 ?_
    refine zr_iload_n (pc' := 51) cx rfl 1 dX7_cross_50 rfl rfl ?_
    refine zr_bald (pc' := 52) cx rfl 20 zkc_13 (by decide) (L := 12) rfl dX7_cross_51 ?_
    refine zr_if_ne (pc' := 55) cx rfl (tgt := 59) dX7_cross_52 rfl ?_ ?_
    · refine zr_iconst (pc' := 60) cx rfl dX7_cross_59 ?_
      refine zr_sub [0] rfl ?_
      exact wX7_cross_p60 cx g5 a1 0
    · refine zr_iconst (pc' := 56) cx rfl dX7_cross_55 ?_
      refine zr_gotoS cx (tgt := 60) dX7_cross_56 rfl ?_
      refine zr_sub [0] rfl ?_
      exact wX7_cross_p60 cx g5 a1 1
  · exact zr_none
theorem mX7_cross (l : Launch) (Y : zLy) (g : zSt) (a1 : Int)  : ∀ v g2, fX7_cross g a1 = some (v, g2) → zMt l yX7_cross cX7_cross 2 (some .int) 4 [.ref (zad Y 0), .int (i32 a1)] Y g (zQi Y v g2) := by
  intro v g2 hv
  refine zmet_of RX7 rfl (by decide +kernel) (Nat.le_of_ble_eq_true rfl) ?_
  intro p e s m below meth c cx H locs ls hH hS hl
  exact wX7_cross cx g a1  (v, g2) hv H locs ls hH hS hl
theorem zc_L_93 (cx : zCx Y p s m args meth c RL cc nl ret) (hpc : pc + 3 = pc') {g : zSt} {a1 : Int}  {fk : Int → zSt → Option ρ} (hR : 4 + 1 ≤ R.frames ∧ 8 + (2 + 11) + 40 * 4 ≤ R.locals) (hkn : k ≤ R.cells ∧ n ≤ R.slots) (hrest : (rest.map fun v => v.category).sum ≤ 8) (hdg : decode cc pc = .ok (.invokevirtual 93, 3)) (kk : ∀ (v : Int) (g2 : zSt), zWo Y p l e R s m args below meth c nl k n kq g2 lv (.int (i32 v) :: rest) pc' (fk v g2)) : zWo Y p l e R s m args below meth c nl k n kq g lv (.int (i32 a1) :: .ref (zad Y 0) :: rest) pc (zbe (fX7_cross g a1) fk) := zr_callViE cx (an := 1) (As := [.int (i32 a1)]) 8 zkc_0 (by decide) rfl (mX7_cross l Y g a1) (zG_V zw_710 zw_711 zw_712 zw_26 zw_713) (by decide +kernel) hR hkn rfl rfl hrest hdg hpc kk
def fX7_replace (g : zSt) (a1 : Int) (a2 : Int) (a3 : Int) : Option (Int × zSt) :=
    zbd (fX7_isFedBox g a1) (fun v1 =>
    (if i32 v1 = i32 0 then
    none
    else
    zbd (fX7_isTerminal g a2) (fun v2 =>
    (if i32 v2 = i32 0 then
    none
    else
    zbd (fX7_isRating g a3) (fun v3 =>
    (if i32 v3 = i32 0 then
    none
    else
    (if i32 0 < i32 (g.1 10 3) then
    zbd (fX2_save g 10) (fun g4 =>
    zlet ((2 * a1) + a2) (fun x5 =>
    zlet (zwr g4 10 3 ((g4.1 10 3) - 1)) (fun g6 =>
    zck ((0 : Int) ≤ x5 ∧ x5 < 24) (zlet (zwr g6 15 (Int.toNat x5) a3) (fun g7 =>
    zck ((0 : Int) ≤ x5 ∧ x5 < 24) (zck ((0 : Int) = 0 ∨ (0 : Int) = 1) (zlet (zwr g7 16 (Int.toNat x5) 0) (fun g8 =>
    zbe (fX7_settle g8 10 200) (fun v9 g10 =>
    zck ((0 : Int) ≤ x5 ∧ x5 < 24) (
    (if i32 (g10.1 16 (Int.toNat x5)) = i32 0 then
    zbd (fX7_oneIf g10 1) (fun v12 =>
    some (v12, g10))
    else
    zbd (fX7_oneIf g10 0) (fun v11 =>
    some (v11, g10)))))))))))))
    else
    none)))))))
theorem wX7_replace (cx : zCx Y p s m args meth c RX7 cX7_replace 5 (some .int)) (g : zSt) (a1 : Int) (a2 : Int) (a3 : Int)  : zWo Y p l e (zrm 4) s m args below meth c 5 0 0 (fun q : Int × zSt => MQ below (zQi Y q.1 q.2) args s 0 0 (zA Y)) g [(0, .ref (zad Y 0)), (1, .int (i32 a1)), (2, .int (i32 a2)), (3, .int (i32 a3))] ([]) 0 (fX7_replace g a1 a2 a3) := by
  unfold fX7_replace
  refine zr_aload_n (pc' := 1) cx rfl 0 dX7_replace_0 rfl rfl ?_
  refine zr_iload_n (pc' := 2) cx rfl 1 dX7_replace_1 rfl rfl ?_
  refine zc_X7_99 (pc' := 5) cx rfl  ⟨Nat.le_of_ble_eq_true rfl, Nat.le_of_ble_eq_true rfl⟩ ⟨Nat.zero_le _, Nat.zero_le _⟩ (Nat.le_of_ble_eq_true rfl) dX7_replace_2 (fun v1 => ?_)
  refine zr_if_eq (pc' := 8) cx rfl (tgt := 15) dX7_replace_5 rfl ?_ ?_
  · exact zr_none
  · refine zr_iload_n (pc' := 9) cx rfl 2 dX7_replace_8 rfl rfl ?_
    refine zc_X7_118 (pc' := 12) cx rfl  ⟨Nat.le_of_ble_eq_true rfl, Nat.le_of_ble_eq_true rfl⟩ ⟨Nat.zero_le _, Nat.zero_le _⟩ (Nat.le_of_ble_eq_true rfl) dX7_replace_9 (fun v2 => ?_)
    refine zr_if_ne (pc' := 15) cx rfl (tgt := 25) dX7_replace_12 rfl ?_ ?_
    · refine zr_iload_n (pc' := 26) cx rfl 3 dX7_replace_25 rfl rfl ?_
      refine zc_X7_65 (pc' := 29) cx rfl  ⟨Nat.le_of_ble_eq_true rfl, Nat.le_of_ble_eq_true rfl⟩ ⟨Nat.zero_le _, Nat.zero_le _⟩ (Nat.le_of_ble_eq_true rfl) dX7_replace_26 (fun v3 => ?_)
      refine zr_if_ne (pc' := 32) cx rfl (tgt := 42) dX7_replace_29 rfl ?_ ?_
      · refine zr_aload_n (pc' := 43) cx rfl 0 dX7_replace_42 rfl rfl ?_
        refine zg_X7_12 (pc' := 46) cx rfl zkc_0 dX7_replace_43 ?_
        refine zg_X7_123 (pc' := 49) cx rfl zkc_10 dX7_replace_46 ?_
        refine zr_if_gt (pc' := 52) cx rfl (tgt := 62) dX7_replace_49 rfl ?_ ?_
        · refine zr_aload_n (pc' := 63) cx rfl 0 dX7_replace_62 rfl rfl ?_
          refine zg_X7_35 (pc' := 66) cx rfl zkc_0 dX7_replace_63 ?_
          refine zr_aload_n (pc' := 67) cx rfl 0 dX7_replace_66 rfl rfl ?_
          refine zg_X7_12 (pc' := 70) cx rfl zkc_0 dX7_replace_67 ?_
          refine zc_X7_87 (pc' := 73) cx rfl zkc_10 ⟨Nat.le_of_ble_eq_true rfl, Nat.le_of_ble_eq_true rfl⟩ ⟨Nat.zero_le _, Nat.zero_le _⟩ (Nat.le_of_ble_eq_true rfl) dX7_replace_70 (fun g4 => ?_)
          refine zr_iconst (pc' := 74) cx rfl dX7_replace_73 ?_
          refine zr_iload_n (pc' := 75) cx rfl 1 dX7_replace_74 rfl rfl ?_
          refine zr_imul (pc' := 76) cx rfl dX7_replace_75 ?_
          refine zr_iload_n (pc' := 77) cx rfl 2 dX7_replace_76 rfl rfl ?_
          refine zr_iadd (pc' := 78) cx rfl dX7_replace_77 ?_
          refine zr_leti (fun x5 => ?_)
          refine zr_istore (pc' := 80) cx rfl (lv' := [(4, .int (i32 x5)), (0, .ref (zad Y 0)), (1, .int (i32 a1)), (2, .int (i32 a2)), (3, .int (i32 a3))]) dX7_replace_78 (by decide) rfl ?_
          refine zr_aload_n (pc' := 81) cx rfl 1 dX7_replace_80 rfl rfl ?_
          refine zg_X7_12 (pc' := 84) cx rfl zkc_0 dX7_replace_81 ?_
          refine zr_dup (pc' := 85) cx rfl dX7_replace_84 rfl ?_
          refine zg_X7_123 (pc' := 88) cx rfl zkc_10 dX7_replace_85 ?_
          refine zr_iconst (pc' := 89) cx rfl dX7_replace_88 ?_
          refine zr_isub (pc' := 90) cx rfl dX7_replace_89 ?_
          refine zp_X7_123 (pc' := 93) cx rfl zkc_10 dX7_replace_90 ?_
          refine zr_letS (fun g6 => ?_)
          refine zr_aload_n (pc' := 94) cx rfl 1 dX7_replace_93 rfl rfl ?_
          refine zg_X7_12 (pc' := 97) cx rfl zkc_0 dX7_replace_94 ?_
          refine zg_X7_73 (pc' := 100) cx rfl (c2 := 11) zkc_10 rfl dX7_replace_97 ?_
          refine zg_X7_128 (pc' := 103) cx rfl (c2 := 15) zkc_11 rfl dX7_replace_100 ?_
          refine zr_iload (pc' := 105) cx rfl 0 dX7_replace_103 rfl ?_
          refine zr_iload_n (pc' := 106) cx rfl 4 dX7_replace_105 rfl rfl ?_
          refine zr_iast (pc' := 107) cx rfl 11 zkc_15 (by decide) (L := 24) rfl dX7_replace_106 ?_
          refine zr_letS (fun g7 => ?_)
          refine zr_aload_n (pc' := 108) cx rfl 1 dX7_replace_107 rfl rfl ?_
          refine zg_X7_12 (pc' := 111) cx rfl zkc_0 dX7_replace_108 ?_
          refine zg_X7_73 (pc' := 114) cx rfl (c2 := 11) zkc_10 rfl dX7_replace_111 ?_
          refine zg_X7_131 (pc' := 117) cx rfl (c2 := 16) zkc_11 rfl dX7_replace_114 ?_
          refine zr_iload (pc' := 119) cx rfl 0 dX7_replace_117 rfl ?_
          refine zr_iconst (pc' := 120) cx rfl dX7_replace_119 ?_
          refine zr_bast (pc' := 121) cx rfl 21 zkc_16 (by decide) (L := 24) rfl dX7_replace_120 ?_
          refine zr_letS (fun g8 => ?_)
          refine zr_aload_n (pc' := 122) cx rfl 1 dX7_replace_121 rfl rfl ?_
          refine zg_X7_12 (pc' := 125) cx rfl zkc_0 dX7_replace_122 ?_
          refine zr_aload_n (pc' := 126) cx rfl 1 dX7_replace_125 rfl rfl ?_
          refine zg_X7_19 (pc' := 129) cx rfl zkc_0 dX7_replace_126 ?_
          refine zc_X7_95 (pc' := 132) cx rfl zkc_10 zkc_200 ⟨Nat.le_of_ble_eq_true rfl, Nat.le_of_ble_eq_true rfl⟩ ⟨Nat.zero_le _, Nat.zero_le _⟩ (Nat.le_of_ble_eq_true rfl) dX7_replace_129 (fun v9 g10 => ?_)
          refine zr_pop (pc' := 133) cx rfl dX7_replace_132 rfl ?_
          refine zr_aload_n (pc' := 134) cx rfl 1 dX7_replace_133 rfl rfl ?_
          refine zg_X7_12 (pc' := 137) cx rfl zkc_0 dX7_replace_134 ?_
          refine zg_X7_73 (pc' := 140) cx rfl (c2 := 11) zkc_10 rfl dX7_replace_137 ?_
          refine zg_X7_131 (pc' := 143) cx rfl (c2 := 16) zkc_11 rfl dX7_replace_140 ?_
          refine zr_iload (pc' := 145) cx rfl 0 dX7_replace_143 rfl ?_
          refine zr_bald (pc' := 146) cx rfl 21 zkc_16 (by decide) (L := 24) rfl dX7_replace_145 ?_
          refine zr_if_ne (pc' := 149) cx rfl (tgt := 153) dX7_replace_146 rfl ?_ ?_
          · refine zr_iconst (pc' := 154) cx rfl dX7_replace_153 ?_
            refine zc_X7_108 (pc' := 157) cx rfl  ⟨Nat.le_of_ble_eq_true rfl, Nat.le_of_ble_eq_true rfl⟩ ⟨Nat.zero_le _, Nat.zero_le _⟩ (Nat.le_of_ble_eq_true rfl) dX7_replace_154 (fun v11 => ?_)
            exact zr_iretE cx dX7_replace_157
          · refine zr_iconst (pc' := 150) cx rfl dX7_replace_149 ?_
            refine zr_gotoS cx (tgt := 154) dX7_replace_150 rfl ?_
            refine zc_X7_108 (pc' := 157) cx rfl  ⟨Nat.le_of_ble_eq_true rfl, Nat.le_of_ble_eq_true rfl⟩ ⟨Nat.zero_le _, Nat.zero_le _⟩ (Nat.le_of_ble_eq_true rfl) dX7_replace_154 (fun v12 => ?_)
            exact zr_iretE cx dX7_replace_157
        · exact zr_none
      · exact zr_none
    · exact zr_none
theorem mX7_replace (l : Launch) (Y : zLy) (g : zSt) (a1 : Int) (a2 : Int) (a3 : Int)  : ∀ v g2, fX7_replace g a1 a2 a3 = some (v, g2) → zMt l yX7_replace cX7_replace 5 (some .int) 4 [.ref (zad Y 0), .int (i32 a1), .int (i32 a2), .int (i32 a3)] Y g (zQi Y v g2) := by
  intro v g2 hv
  refine zmet_of RX7 rfl (by decide +kernel) (Nat.le_of_ble_eq_true rfl) ?_
  intro p e s m below meth c cx H locs ls hH hS hl
  exact wX7_replace cx g a1 a2 a3  (v, g2) hv H locs ls hH hS hl
theorem zc_L_99 (cx : zCx Y p s m args meth c RL cc nl ret) (hpc : pc + 3 = pc') {g : zSt} {a1 : Int} {a2 : Int} {a3 : Int}  {fk : Int → zSt → Option ρ} (hR : 4 + 1 ≤ R.frames ∧ 8 + (5 + 11) + 40 * 4 ≤ R.locals) (hkn : k ≤ R.cells ∧ n ≤ R.slots) (hrest : (rest.map fun v => v.category).sum ≤ 8) (hdg : decode cc pc = .ok (.invokevirtual 99, 3)) (kk : ∀ (v : Int) (g2 : zSt), zWo Y p l e R s m args below meth c nl k n kq g2 lv (.int (i32 v) :: rest) pc' (fk v g2)) : zWo Y p l e R s m args below meth c nl k n kq g lv (.int (i32 a3) :: .int (i32 a2) :: .int (i32 a1) :: .ref (zad Y 0) :: rest) pc (zbe (fX7_replace g a1 a2 a3) fk) := zr_callViE cx (an := 3) (As := [.int (i32 a1), .int (i32 a2), .int (i32 a3)]) 8 zkc_0 (by decide) rfl (mX7_replace l Y g a1 a2 a3) (zG_V zw_720 zw_721 zw_722 zw_26 zw_723) (by decide +kernel) hR hkn rfl rfl hrest hdg hpc kk
def fX7_buyFuses (g : zSt) (a1 : Int) : Option (Int × zSt) :=
    (if i32 a1 < i32 1 then
    none
    else
    (if i32 20 < i32 a1 then
    none
    else
    (if i32 50 < i32 ((g.1 10 3) + a1) then
    none
    else
    zbd (fX2_save g 10) (fun g1 =>
    zlet (zwr g1 10 3 ((g1.1 10 3) + a1)) (fun g2 =>
    some ((g2.1 10 3), g2))))))
theorem wX7_buyFuses (cx : zCx Y p s m args meth c RX7 cX7_buyFuses 2 (some .int)) (g : zSt) (a1 : Int)  : zWo Y p l e (zrm 3) s m args below meth c 2 0 0 (fun q : Int × zSt => MQ below (zQi Y q.1 q.2) args s 0 0 (zA Y)) g [(0, .ref (zad Y 0)), (1, .int (i32 a1))] ([]) 0 (fX7_buyFuses g a1) := by
  unfold fX7_buyFuses
  refine zr_iload_n (pc' := 1) cx rfl 1 dX7_buyFuses_0 rfl rfl ?_
  refine zr_iconst (pc' := 2) cx rfl dX7_buyFuses_1 ?_
  refine zr_icmp_lt (pc' := 5) cx rfl (tgt := 11) dX7_buyFuses_2 rfl ?_ ?_
  · exact zr_none
  · refine zr_iload_n (pc' := 6) cx rfl 1 dX7_buyFuses_5 rfl rfl ?_
    refine zr_bipush (pc' := 8) cx rfl dX7_buyFuses_6 (by decide +kernel) ?_
    refine zr_icmp_le (pc' := 11) cx rfl (tgt := 21) dX7_buyFuses_8 rfl ?_ ?_
    · refine zr_aload_n (pc' := 22) cx rfl 0 dX7_buyFuses_21 rfl rfl ?_
      refine zg_X7_12 (pc' := 25) cx rfl zkc_0 dX7_buyFuses_22 ?_
      refine zg_X7_123 (pc' := 28) cx rfl zkc_10 dX7_buyFuses_25 ?_
      refine zr_iload_n (pc' := 29) cx rfl 1 dX7_buyFuses_28 rfl rfl ?_
      refine zr_iadd (pc' := 30) cx rfl dX7_buyFuses_29 ?_
      refine zr_bipush (pc' := 32) cx rfl dX7_buyFuses_30 (by decide +kernel) ?_
      refine zr_icmp_le (pc' := 35) cx rfl (tgt := 45) dX7_buyFuses_32 rfl ?_ ?_
      · refine zr_aload_n (pc' := 46) cx rfl 0 dX7_buyFuses_45 rfl rfl ?_
        refine zg_X7_35 (pc' := 49) cx rfl zkc_0 dX7_buyFuses_46 ?_
        refine zr_aload_n (pc' := 50) cx rfl 0 dX7_buyFuses_49 rfl rfl ?_
        refine zg_X7_12 (pc' := 53) cx rfl zkc_0 dX7_buyFuses_50 ?_
        refine zc_X7_87 (pc' := 56) cx rfl zkc_10 ⟨Nat.le_of_ble_eq_true rfl, Nat.le_of_ble_eq_true rfl⟩ ⟨Nat.zero_le _, Nat.zero_le _⟩ (Nat.le_of_ble_eq_true rfl) dX7_buyFuses_53 (fun g1 => ?_)
        refine zr_aload_n (pc' := 57) cx rfl 0 dX7_buyFuses_56 rfl rfl ?_
        refine zg_X7_12 (pc' := 60) cx rfl zkc_0 dX7_buyFuses_57 ?_
        refine zr_dup (pc' := 61) cx rfl dX7_buyFuses_60 rfl ?_
        refine zg_X7_123 (pc' := 64) cx rfl zkc_10 dX7_buyFuses_61 ?_
        refine zr_iload_n (pc' := 65) cx rfl 1 dX7_buyFuses_64 rfl rfl ?_
        refine zr_iadd (pc' := 66) cx rfl dX7_buyFuses_65 ?_
        refine zp_X7_123 (pc' := 69) cx rfl zkc_10 dX7_buyFuses_66 ?_
        refine zr_letS (fun g2 => ?_)
        refine zr_aload_n (pc' := 70) cx rfl 0 dX7_buyFuses_69 rfl rfl ?_
        refine zg_X7_12 (pc' := 73) cx rfl zkc_0 dX7_buyFuses_70 ?_
        refine zg_X7_123 (pc' := 76) cx rfl zkc_10 dX7_buyFuses_73 ?_
        exact zr_iretE cx dX7_buyFuses_76
      · exact zr_none
    · exact zr_none
theorem mX7_buyFuses (l : Launch) (Y : zLy) (g : zSt) (a1 : Int)  : ∀ v g2, fX7_buyFuses g a1 = some (v, g2) → zMt l yX7_buyFuses cX7_buyFuses 2 (some .int) 3 [.ref (zad Y 0), .int (i32 a1)] Y g (zQi Y v g2) := by
  intro v g2 hv
  refine zmet_of RX7 rfl (by decide +kernel) (Nat.le_of_ble_eq_true rfl) ?_
  intro p e s m below meth c cx H locs ls hH hS hl
  exact wX7_buyFuses cx g a1  (v, g2) hv H locs ls hH hS hl
theorem zc_L_96 (cx : zCx Y p s m args meth c RL cc nl ret) (hpc : pc + 3 = pc') {g : zSt} {a1 : Int}  {fk : Int → zSt → Option ρ} (hR : 3 + 1 ≤ R.frames ∧ 8 + (2 + 11) + 40 * 3 ≤ R.locals) (hkn : k ≤ R.cells ∧ n ≤ R.slots) (hrest : (rest.map fun v => v.category).sum ≤ 8) (hdg : decode cc pc = .ok (.invokevirtual 96, 3)) (kk : ∀ (v : Int) (g2 : zSt), zWo Y p l e R s m args below meth c nl k n kq g2 lv (.int (i32 v) :: rest) pc' (fk v g2)) : zWo Y p l e R s m args below meth c nl k n kq g lv (.int (i32 a1) :: .ref (zad Y 0) :: rest) pc (zbe (fX7_buyFuses g a1) fk) := zr_callViE cx (an := 1) (As := [.int (i32 a1)]) 8 zkc_0 (by decide) rfl (mX7_buyFuses l Y g a1) (zG_V zw_714 zw_715 zw_716 zw_26 zw_717) (by decide +kernel) hR hkn rfl rfl hrest hdg hpc kk
def fX7_hang (g : zSt) (a1 : Int) (a2 : Int) (a3 : Int) : Option (Int × zSt) :=
    zbd (fX7_isBox g a1) (fun v1 =>
    (if i32 v1 = i32 0 then
    none
    else
    (if i32 a2 < i32 1 then
    none
    else
    (if i32 9 < i32 a2 then
    none
    else
    (if i32 (g.1 17 0) < i32 16 then
    zbd (fX2_save g 10) (fun g2 =>
    zbd (fX3_add g2 17 a1 a2 a3) (fun g3 =>
    zbe (fX7_settle g3 10 200) (fun v4 g5 =>
    some (((g5.1 17 0) - 1), g5))))
    else
    none)))))
theorem wX7_hang (cx : zCx Y p s m args meth c RX7 cX7_hang 4 (some .int)) (g : zSt) (a1 : Int) (a2 : Int) (a3 : Int)  : zWo Y p l e (zrm 4) s m args below meth c 4 0 0 (fun q : Int × zSt => MQ below (zQi Y q.1 q.2) args s 0 0 (zA Y)) g [(0, .ref (zad Y 0)), (1, .int (i32 a1)), (2, .int (i32 a2)), (3, .int (i32 a3))] ([]) 0 (fX7_hang g a1 a2 a3) := by
  unfold fX7_hang
  refine zr_aload_n (pc' := 1) cx rfl 0 dX7_hang_0 rfl rfl ?_
  refine zr_iload_n (pc' := 2) cx rfl 1 dX7_hang_1 rfl rfl ?_
  refine zc_X7_54 (pc' := 5) cx rfl  ⟨Nat.le_of_ble_eq_true rfl, Nat.le_of_ble_eq_true rfl⟩ ⟨Nat.zero_le _, Nat.zero_le _⟩ (Nat.le_of_ble_eq_true rfl) dX7_hang_2 (fun v1 => ?_)
  refine zr_if_ne (pc' := 8) cx rfl (tgt := 18) dX7_hang_5 rfl ?_ ?_
  · refine zr_iload_n (pc' := 19) cx rfl 2 dX7_hang_18 rfl rfl ?_
    refine zr_iconst (pc' := 20) cx rfl dX7_hang_19 ?_
    refine zr_icmp_lt (pc' := 23) cx rfl (tgt := 29) dX7_hang_20 rfl ?_ ?_
    · exact zr_none
    · refine zr_iload_n (pc' := 24) cx rfl 2 dX7_hang_23 rfl rfl ?_
      refine zr_bipush (pc' := 26) cx rfl dX7_hang_24 (by decide +kernel) ?_
      refine zr_icmp_le (pc' := 29) cx rfl (tgt := 39) dX7_hang_26 rfl ?_ ?_
      · refine zr_aload_n (pc' := 40) cx rfl 0 dX7_hang_39 rfl rfl ?_
        refine zg_X7_12 (pc' := 43) cx rfl zkc_0 dX7_hang_40 ?_
        refine zg_X7_142 (pc' := 46) cx rfl (c2 := 17) zkc_10 rfl dX7_hang_43 ?_
        refine zg_X7_146 (pc' := 49) cx rfl zkc_17 dX7_hang_46 ?_
        refine zr_bipush (pc' := 51) cx rfl dX7_hang_49 (by decide +kernel) ?_
        refine zr_icmp_lt (pc' := 54) cx rfl (tgt := 64) dX7_hang_51 rfl ?_ ?_
        · refine zr_aload_n (pc' := 65) cx rfl 0 dX7_hang_64 rfl rfl ?_
          refine zg_X7_35 (pc' := 68) cx rfl zkc_0 dX7_hang_65 ?_
          refine zr_aload_n (pc' := 69) cx rfl 0 dX7_hang_68 rfl rfl ?_
          refine zg_X7_12 (pc' := 72) cx rfl zkc_0 dX7_hang_69 ?_
          refine zc_X7_87 (pc' := 75) cx rfl zkc_10 ⟨Nat.le_of_ble_eq_true rfl, Nat.le_of_ble_eq_true rfl⟩ ⟨Nat.zero_le _, Nat.zero_le _⟩ (Nat.le_of_ble_eq_true rfl) dX7_hang_72 (fun g2 => ?_)
          refine zr_aload_n (pc' := 76) cx rfl 0 dX7_hang_75 rfl rfl ?_
          refine zg_X7_12 (pc' := 79) cx rfl zkc_0 dX7_hang_76 ?_
          refine zg_X7_142 (pc' := 82) cx rfl (c2 := 17) zkc_10 rfl dX7_hang_79 ?_
          refine zr_iload_n (pc' := 83) cx rfl 1 dX7_hang_82 rfl rfl ?_
          refine zr_iload_n (pc' := 84) cx rfl 2 dX7_hang_83 rfl rfl ?_
          refine zr_iload_n (pc' := 85) cx rfl 3 dX7_hang_84 rfl rfl ?_
          refine zc_X7_153 (pc' := 88) cx rfl zkc_17 ⟨Nat.le_of_ble_eq_true rfl, Nat.le_of_ble_eq_true rfl⟩ ⟨Nat.zero_le _, Nat.zero_le _⟩ (Nat.le_of_ble_eq_true rfl) dX7_hang_85 (fun g3 => ?_)
          refine zr_aload_n (pc' := 89) cx rfl 0 dX7_hang_88 rfl rfl ?_
          refine zg_X7_12 (pc' := 92) cx rfl zkc_0 dX7_hang_89 ?_
          refine zr_aload_n (pc' := 93) cx rfl 0 dX7_hang_92 rfl rfl ?_
          refine zg_X7_19 (pc' := 96) cx rfl zkc_0 dX7_hang_93 ?_
          refine zc_X7_95 (pc' := 99) cx rfl zkc_10 zkc_200 ⟨Nat.le_of_ble_eq_true rfl, Nat.le_of_ble_eq_true rfl⟩ ⟨Nat.zero_le _, Nat.zero_le _⟩ (Nat.le_of_ble_eq_true rfl) dX7_hang_96 (fun v4 g5 => ?_)
          refine zr_pop (pc' := 100) cx rfl dX7_hang_99 rfl ?_
          refine zr_aload_n (pc' := 101) cx rfl 0 dX7_hang_100 rfl rfl ?_
          refine zg_X7_12 (pc' := 104) cx rfl zkc_0 dX7_hang_101 ?_
          refine zg_X7_142 (pc' := 107) cx rfl (c2 := 17) zkc_10 rfl dX7_hang_104 ?_
          refine zg_X7_146 (pc' := 110) cx rfl zkc_17 dX7_hang_107 ?_
          refine zr_iconst (pc' := 111) cx rfl dX7_hang_110 ?_
          refine zr_isub (pc' := 112) cx rfl dX7_hang_111 ?_
          exact zr_iretE cx dX7_hang_112
        · exact zr_none
      · exact zr_none
  · exact zr_none
theorem mX7_hang (l : Launch) (Y : zLy) (g : zSt) (a1 : Int) (a2 : Int) (a3 : Int)  : ∀ v g2, fX7_hang g a1 a2 a3 = some (v, g2) → zMt l yX7_hang cX7_hang 4 (some .int) 4 [.ref (zad Y 0), .int (i32 a1), .int (i32 a2), .int (i32 a3)] Y g (zQi Y v g2) := by
  intro v g2 hv
  refine zmet_of RX7 rfl (by decide +kernel) (Nat.le_of_ble_eq_true rfl) ?_
  intro p e s m below meth c cx H locs ls hH hS hl
  exact wX7_hang cx g a1 a2 a3  (v, g2) hv H locs ls hH hS hl
theorem zc_L_75 (cx : zCx Y p s m args meth c RL cc nl ret) (hpc : pc + 3 = pc') {g : zSt} {a1 : Int} {a2 : Int} {a3 : Int}  {fk : Int → zSt → Option ρ} (hR : 4 + 1 ≤ R.frames ∧ 8 + (4 + 11) + 40 * 4 ≤ R.locals) (hkn : k ≤ R.cells ∧ n ≤ R.slots) (hrest : (rest.map fun v => v.category).sum ≤ 8) (hdg : decode cc pc = .ok (.invokevirtual 75, 3)) (kk : ∀ (v : Int) (g2 : zSt), zWo Y p l e R s m args below meth c nl k n kq g2 lv (.int (i32 v) :: rest) pc' (fk v g2)) : zWo Y p l e R s m args below meth c nl k n kq g lv (.int (i32 a3) :: .int (i32 a2) :: .int (i32 a1) :: .ref (zad Y 0) :: rest) pc (zbe (fX7_hang g a1 a2 a3) fk) := zr_callViE cx (an := 3) (As := [.int (i32 a1), .int (i32 a2), .int (i32 a3)]) 8 zkc_0 (by decide) rfl (mX7_hang l Y g a1 a2 a3) (zG_V zw_667 zw_668 zw_669 zw_26 zw_670) (by decide +kernel) hR hkn rfl rfl hrest hdg hpc kk
def fX7_takeDown (g : zSt) (a1 : Int) : Option (Int × zSt) :=
    zbd (fX7_isLantern g a1) (fun v1 =>
    (if i32 v1 = i32 0 then
    none
    else
    zbd (fX2_save g 10) (fun g2 =>
    zck ((0 : Int) ≤ a1 ∧ a1 < 16) (
    zbd (fX7_oneIf g2 (g2.1 206 (Int.toNat a1))) (fun v3 =>
    zbd (fX3_remove g2 17 a1) (fun g4 =>
    zbe (fX7_settle g4 10 200) (fun v5 g6 =>
    some (v3, g6))))))))
theorem wX7_takeDown (cx : zCx Y p s m args meth c RX7 cX7_takeDown 3 (some .int)) (g : zSt) (a1 : Int)  : zWo Y p l e (zrm 4) s m args below meth c 3 0 0 (fun q : Int × zSt => MQ below (zQi Y q.1 q.2) args s 0 0 (zA Y)) g [(0, .ref (zad Y 0)), (1, .int (i32 a1))] ([]) 0 (fX7_takeDown g a1) := by
  unfold fX7_takeDown
  refine zr_aload_n (pc' := 1) cx rfl 0 dX7_takeDown_0 rfl rfl ?_
  refine zr_iload_n (pc' := 2) cx rfl 1 dX7_takeDown_1 rfl rfl ?_
  refine zc_X7_156 (pc' := 5) cx rfl  ⟨Nat.le_of_ble_eq_true rfl, Nat.le_of_ble_eq_true rfl⟩ ⟨Nat.zero_le _, Nat.zero_le _⟩ (Nat.le_of_ble_eq_true rfl) dX7_takeDown_2 (fun v1 => ?_)
  refine zr_if_ne (pc' := 8) cx rfl (tgt := 18) dX7_takeDown_5 rfl ?_ ?_
  · refine zr_aload_n (pc' := 19) cx rfl 0 dX7_takeDown_18 rfl rfl ?_
    refine zg_X7_35 (pc' := 22) cx rfl zkc_0 dX7_takeDown_19 ?_
    refine zr_aload_n (pc' := 23) cx rfl 0 dX7_takeDown_22 rfl rfl ?_
    refine zg_X7_12 (pc' := 26) cx rfl zkc_0 dX7_takeDown_23 ?_
    refine zc_X7_87 (pc' := 29) cx rfl zkc_10 ⟨Nat.le_of_ble_eq_true rfl, Nat.le_of_ble_eq_true rfl⟩ ⟨Nat.zero_le _, Nat.zero_le _⟩ (Nat.le_of_ble_eq_true rfl) dX7_takeDown_26 (fun g2 => ?_)
    refine zr_aload_n (pc' := 30) cx rfl 0 dX7_takeDown_29 rfl rfl ?_
    refine zg_X7_19 (pc' := 33) cx rfl zkc_0 dX7_takeDown_30 ?_
    refine zg_X7_161 (pc' := 36) cx rfl (c2 := 206) zkc_200 rfl dX7_takeDown_33 ?_
    refine zr_iload_n (pc' := 37) cx rfl 1 dX7_takeDown_36 rfl rfl ?_
    refine zr_bald (pc' := 38) cx rfl 22 zkc_206 (by decide) (L := 16) rfl dX7_takeDown_37 ?_
    refine zc_X7_108 (pc' := 41) cx rfl  ⟨Nat.le_of_ble_eq_true rfl, Nat.le_of_ble_eq_true rfl⟩ ⟨Nat.zero_le _, Nat.zero_le _⟩ (Nat.le_of_ble_eq_true rfl) dX7_takeDown_38 (fun v3 => ?_)
    refine zr_istore_n (pc' := 42) cx rfl (lv' := [(2, .int (i32 v3)), (0, .ref (zad Y 0)), (1, .int (i32 a1))]) dX7_takeDown_41 rfl (by decide) rfl ?_
    refine zr_aload_n (pc' := 43) cx rfl 1 dX7_takeDown_42 rfl rfl ?_
    refine zg_X7_12 (pc' := 46) cx rfl zkc_0 dX7_takeDown_43 ?_
    refine zg_X7_142 (pc' := 49) cx rfl (c2 := 17) zkc_10 rfl dX7_takeDown_46 ?_
    refine zr_iload_n (pc' := 50) cx rfl 2 dX7_takeDown_49 rfl rfl ?_
    refine zc_X7_164 (pc' := 53) cx rfl zkc_17 ⟨Nat.le_of_ble_eq_true rfl, Nat.le_of_ble_eq_true rfl⟩ ⟨Nat.zero_le _, Nat.zero_le _⟩ (Nat.le_of_ble_eq_true rfl) dX7_takeDown_50 (fun g4 => ?_)
    refine zr_aload_n (pc' := 54) cx rfl 1 dX7_takeDown_53 rfl rfl ?_
    refine zg_X7_12 (pc' := 57) cx rfl zkc_0 dX7_takeDown_54 ?_
    refine zr_aload_n (pc' := 58) cx rfl 1 dX7_takeDown_57 rfl rfl ?_
    refine zg_X7_19 (pc' := 61) cx rfl zkc_0 dX7_takeDown_58 ?_
    refine zc_X7_95 (pc' := 64) cx rfl zkc_10 zkc_200 ⟨Nat.le_of_ble_eq_true rfl, Nat.le_of_ble_eq_true rfl⟩ ⟨Nat.zero_le _, Nat.zero_le _⟩ (Nat.le_of_ble_eq_true rfl) dX7_takeDown_61 (fun v5 g6 => ?_)
    refine zr_pop (pc' := 65) cx rfl dX7_takeDown_64 rfl ?_
    refine zr_iload_n (pc' := 66) cx rfl 0 dX7_takeDown_65 rfl rfl ?_
    exact zr_iretE cx dX7_takeDown_66
  · exact zr_none
theorem mX7_takeDown (l : Launch) (Y : zLy) (g : zSt) (a1 : Int)  : ∀ v g2, fX7_takeDown g a1 = some (v, g2) → zMt l yX7_takeDown cX7_takeDown 3 (some .int) 4 [.ref (zad Y 0), .int (i32 a1)] Y g (zQi Y v g2) := by
  intro v g2 hv
  refine zmet_of RX7 rfl (by decide +kernel) (Nat.le_of_ble_eq_true rfl) ?_
  intro p e s m below meth c cx H locs ls hH hS hl
  exact wX7_takeDown cx g a1  (v, g2) hv H locs ls hH hS hl
theorem zc_L_85 (cx : zCx Y p s m args meth c RL cc nl ret) (hpc : pc + 3 = pc') {g : zSt} {a1 : Int}  {fk : Int → zSt → Option ρ} (hR : 4 + 1 ≤ R.frames ∧ 8 + (3 + 11) + 40 * 4 ≤ R.locals) (hkn : k ≤ R.cells ∧ n ≤ R.slots) (hrest : (rest.map fun v => v.category).sum ≤ 8) (hdg : decode cc pc = .ok (.invokevirtual 85, 3)) (kk : ∀ (v : Int) (g2 : zSt), zWo Y p l e R s m args below meth c nl k n kq g2 lv (.int (i32 v) :: rest) pc' (fk v g2)) : zWo Y p l e R s m args below meth c nl k n kq g lv (.int (i32 a1) :: .ref (zad Y 0) :: rest) pc (zbe (fX7_takeDown g a1) fk) := zr_callViE cx (an := 1) (As := [.int (i32 a1)]) 8 zkc_0 (by decide) rfl (mX7_takeDown l Y g a1) (zG_V zw_691 zw_692 zw_693 zw_26 zw_694) (by decide +kernel) hR hkn rfl rfl hrest hdg hpc kk
def fX7_fault (g : zSt) (a1 : Int) (a2 : Int) (a3 : Int) : Option (Int × zSt) :=
    zbd (fX7_isBox g a1) (fun v1 =>
    (if i32 v1 = i32 0 then
    none
    else
    zbd (fX7_isTerminal g a2) (fun v2 =>
    (if i32 v2 = i32 0 then
    none
    else
    zbd (fX7_isStrength g a3) (fun v3 =>
    (if i32 v3 = i32 0 then
    none
    else
    (if i32 (g.1 21 0) < i32 8 then
    zbd (fX2_save g 10) (fun g4 =>
    zbd (fX1_add g4 21 a1 a2 a3) (fun g5 =>
    zbe (fX7_settle g5 10 200) (fun v6 g7 =>
    some (v6, g7))))
    else
    none)))))))
theorem wX7_fault (cx : zCx Y p s m args meth c RX7 cX7_fault 4 (some .int)) (g : zSt) (a1 : Int) (a2 : Int) (a3 : Int)  : zWo Y p l e (zrm 4) s m args below meth c 4 0 0 (fun q : Int × zSt => MQ below (zQi Y q.1 q.2) args s 0 0 (zA Y)) g [(0, .ref (zad Y 0)), (1, .int (i32 a1)), (2, .int (i32 a2)), (3, .int (i32 a3))] ([]) 0 (fX7_fault g a1 a2 a3) := by
  unfold fX7_fault
  refine zr_aload_n (pc' := 1) cx rfl 0 dX7_fault_0 rfl rfl ?_
  refine zr_iload_n (pc' := 2) cx rfl 1 dX7_fault_1 rfl rfl ?_
  refine zc_X7_54 (pc' := 5) cx rfl  ⟨Nat.le_of_ble_eq_true rfl, Nat.le_of_ble_eq_true rfl⟩ ⟨Nat.zero_le _, Nat.zero_le _⟩ (Nat.le_of_ble_eq_true rfl) dX7_fault_2 (fun v1 => ?_)
  refine zr_if_eq (pc' := 8) cx rfl (tgt := 15) dX7_fault_5 rfl ?_ ?_
  · exact zr_none
  · refine zr_iload_n (pc' := 9) cx rfl 2 dX7_fault_8 rfl rfl ?_
    refine zc_X7_118 (pc' := 12) cx rfl  ⟨Nat.le_of_ble_eq_true rfl, Nat.le_of_ble_eq_true rfl⟩ ⟨Nat.zero_le _, Nat.zero_le _⟩ (Nat.le_of_ble_eq_true rfl) dX7_fault_9 (fun v2 => ?_)
    refine zr_if_ne (pc' := 15) cx rfl (tgt := 25) dX7_fault_12 rfl ?_ ?_
    · refine zr_iload_n (pc' := 26) cx rfl 3 dX7_fault_25 rfl rfl ?_
      refine zc_X7_170 (pc' := 29) cx rfl  ⟨Nat.le_of_ble_eq_true rfl, Nat.le_of_ble_eq_true rfl⟩ ⟨Nat.zero_le _, Nat.zero_le _⟩ (Nat.le_of_ble_eq_true rfl) dX7_fault_26 (fun v3 => ?_)
      refine zr_if_ne (pc' := 32) cx rfl (tgt := 42) dX7_fault_29 rfl ?_ ?_
      · refine zr_aload_n (pc' := 43) cx rfl 0 dX7_fault_42 rfl rfl ?_
        refine zg_X7_12 (pc' := 46) cx rfl zkc_0 dX7_fault_43 ?_
        refine zg_X7_175 (pc' := 49) cx rfl (c2 := 21) zkc_10 rfl dX7_fault_46 ?_
        refine zg_X7_179 (pc' := 52) cx rfl zkc_21 dX7_fault_49 ?_
        refine zr_bipush (pc' := 54) cx rfl dX7_fault_52 (by decide +kernel) ?_
        refine zr_icmp_lt (pc' := 57) cx rfl (tgt := 67) dX7_fault_54 rfl ?_ ?_
        · refine zr_aload_n (pc' := 68) cx rfl 0 dX7_fault_67 rfl rfl ?_
          refine zg_X7_35 (pc' := 71) cx rfl zkc_0 dX7_fault_68 ?_
          refine zr_aload_n (pc' := 72) cx rfl 0 dX7_fault_71 rfl rfl ?_
          refine zg_X7_12 (pc' := 75) cx rfl zkc_0 dX7_fault_72 ?_
          refine zc_X7_87 (pc' := 78) cx rfl zkc_10 ⟨Nat.le_of_ble_eq_true rfl, Nat.le_of_ble_eq_true rfl⟩ ⟨Nat.zero_le _, Nat.zero_le _⟩ (Nat.le_of_ble_eq_true rfl) dX7_fault_75 (fun g4 => ?_)
          refine zr_aload_n (pc' := 79) cx rfl 0 dX7_fault_78 rfl rfl ?_
          refine zg_X7_12 (pc' := 82) cx rfl zkc_0 dX7_fault_79 ?_
          refine zg_X7_175 (pc' := 85) cx rfl (c2 := 21) zkc_10 rfl dX7_fault_82 ?_
          refine zr_iload_n (pc' := 86) cx rfl 1 dX7_fault_85 rfl rfl ?_
          refine zr_iload_n (pc' := 87) cx rfl 2 dX7_fault_86 rfl rfl ?_
          refine zr_iload_n (pc' := 88) cx rfl 3 dX7_fault_87 rfl rfl ?_
          refine zc_X7_184 (pc' := 91) cx rfl zkc_21 ⟨Nat.le_of_ble_eq_true rfl, Nat.le_of_ble_eq_true rfl⟩ ⟨Nat.zero_le _, Nat.zero_le _⟩ (Nat.le_of_ble_eq_true rfl) dX7_fault_88 (fun g5 => ?_)
          refine zr_aload_n (pc' := 92) cx rfl 0 dX7_fault_91 rfl rfl ?_
          refine zg_X7_12 (pc' := 95) cx rfl zkc_0 dX7_fault_92 ?_
          refine zr_aload_n (pc' := 96) cx rfl 0 dX7_fault_95 rfl rfl ?_
          refine zg_X7_19 (pc' := 99) cx rfl zkc_0 dX7_fault_96 ?_
          refine zc_X7_95 (pc' := 102) cx rfl zkc_10 zkc_200 ⟨Nat.le_of_ble_eq_true rfl, Nat.le_of_ble_eq_true rfl⟩ ⟨Nat.zero_le _, Nat.zero_le _⟩ (Nat.le_of_ble_eq_true rfl) dX7_fault_99 (fun v6 g7 => ?_)
          exact zr_iretE cx dX7_fault_102
        · exact zr_none
      · exact zr_none
    · exact zr_none
theorem mX7_fault (l : Launch) (Y : zLy) (g : zSt) (a1 : Int) (a2 : Int) (a3 : Int)  : ∀ v g2, fX7_fault g a1 a2 a3 = some (v, g2) → zMt l yX7_fault cX7_fault 4 (some .int) 4 [.ref (zad Y 0), .int (i32 a1), .int (i32 a2), .int (i32 a3)] Y g (zQi Y v g2) := by
  intro v g2 hv
  refine zmet_of RX7 rfl (by decide +kernel) (Nat.le_of_ble_eq_true rfl) ?_
  intro p e s m below meth c cx H locs ls hH hS hl
  exact wX7_fault cx g a1 a2 a3  (v, g2) hv H locs ls hH hS hl
theorem zc_L_79 (cx : zCx Y p s m args meth c RL cc nl ret) (hpc : pc + 3 = pc') {g : zSt} {a1 : Int} {a2 : Int} {a3 : Int}  {fk : Int → zSt → Option ρ} (hR : 4 + 1 ≤ R.frames ∧ 8 + (4 + 11) + 40 * 4 ≤ R.locals) (hkn : k ≤ R.cells ∧ n ≤ R.slots) (hrest : (rest.map fun v => v.category).sum ≤ 8) (hdg : decode cc pc = .ok (.invokevirtual 79, 3)) (kk : ∀ (v : Int) (g2 : zSt), zWo Y p l e R s m args below meth c nl k n kq g2 lv (.int (i32 v) :: rest) pc' (fk v g2)) : zWo Y p l e R s m args below meth c nl k n kq g lv (.int (i32 a3) :: .int (i32 a2) :: .int (i32 a1) :: .ref (zad Y 0) :: rest) pc (zbe (fX7_fault g a1 a2 a3) fk) := zr_callViE cx (an := 3) (As := [.int (i32 a1), .int (i32 a2), .int (i32 a3)]) 8 zkc_0 (by decide) rfl (mX7_fault l Y g a1 a2 a3) (zG_V zw_677 zw_678 zw_679 zw_26 zw_680) (by decide +kernel) hR hkn rfl rfl hrest hdg hpc kk
def fX7_mend (g : zSt) (a1 : Int) : Option (Int × zSt) :=
    zbd (fX7_isFault g a1) (fun v1 =>
    (if i32 v1 = i32 0 then
    none
    else
    zbd (fX2_save g 10) (fun g2 =>
    zck ((0 : Int) ≤ a1 ∧ a1 < 9) (
    zlet (g2.1 24 (Int.toNat a1)) (fun x3 =>
    zbd (fX1_remove g2 21 a1) (fun g4 =>
    zbe (fX7_settle g4 10 200) (fun v5 g6 =>
    some (x3, g6))))))))
theorem wX7_mend (cx : zCx Y p s m args meth c RX7 cX7_mend 3 (some .int)) (g : zSt) (a1 : Int)  : zWo Y p l e (zrm 4) s m args below meth c 3 0 0 (fun q : Int × zSt => MQ below (zQi Y q.1 q.2) args s 0 0 (zA Y)) g [(0, .ref (zad Y 0)), (1, .int (i32 a1))] ([]) 0 (fX7_mend g a1) := by
  unfold fX7_mend
  refine zr_aload_n (pc' := 1) cx rfl 0 dX7_mend_0 rfl rfl ?_
  refine zr_iload_n (pc' := 2) cx rfl 1 dX7_mend_1 rfl rfl ?_
  refine zc_X7_187 (pc' := 5) cx rfl  ⟨Nat.le_of_ble_eq_true rfl, Nat.le_of_ble_eq_true rfl⟩ ⟨Nat.zero_le _, Nat.zero_le _⟩ (Nat.le_of_ble_eq_true rfl) dX7_mend_2 (fun v1 => ?_)
  refine zr_if_ne (pc' := 8) cx rfl (tgt := 18) dX7_mend_5 rfl ?_ ?_
  · refine zr_aload_n (pc' := 19) cx rfl 0 dX7_mend_18 rfl rfl ?_
    refine zg_X7_35 (pc' := 22) cx rfl zkc_0 dX7_mend_19 ?_
    refine zr_aload_n (pc' := 23) cx rfl 0 dX7_mend_22 rfl rfl ?_
    refine zg_X7_12 (pc' := 26) cx rfl zkc_0 dX7_mend_23 ?_
    refine zc_X7_87 (pc' := 29) cx rfl zkc_10 ⟨Nat.le_of_ble_eq_true rfl, Nat.le_of_ble_eq_true rfl⟩ ⟨Nat.zero_le _, Nat.zero_le _⟩ (Nat.le_of_ble_eq_true rfl) dX7_mend_26 (fun g2 => ?_)
    refine zr_aload_n (pc' := 30) cx rfl 0 dX7_mend_29 rfl rfl ?_
    refine zg_X7_12 (pc' := 33) cx rfl zkc_0 dX7_mend_30 ?_
    refine zg_X7_175 (pc' := 36) cx rfl (c2 := 21) zkc_10 rfl dX7_mend_33 ?_
    refine zg_X7_192 (pc' := 39) cx rfl (c2 := 24) zkc_21 rfl dX7_mend_36 ?_
    refine zr_iload_n (pc' := 40) cx rfl 1 dX7_mend_39 rfl rfl ?_
    refine zr_iald (pc' := 41) cx rfl 13 zkc_24 (by decide) (L := 9) rfl dX7_mend_40 ?_
    refine zr_leti (fun x3 => ?_)
    refine zr_istore_n (pc' := 42) cx rfl (lv' := [(2, .int (i32 x3)), (0, .ref (zad Y 0)), (1, .int (i32 a1))]) dX7_mend_41 rfl (by decide) rfl ?_
    refine zr_aload_n (pc' := 43) cx rfl 1 dX7_mend_42 rfl rfl ?_
    refine zg_X7_12 (pc' := 46) cx rfl zkc_0 dX7_mend_43 ?_
    refine zg_X7_175 (pc' := 49) cx rfl (c2 := 21) zkc_10 rfl dX7_mend_46 ?_
    refine zr_iload_n (pc' := 50) cx rfl 2 dX7_mend_49 rfl rfl ?_
    refine zc_X7_195 (pc' := 53) cx rfl zkc_21 ⟨Nat.le_of_ble_eq_true rfl, Nat.le_of_ble_eq_true rfl⟩ ⟨Nat.zero_le _, Nat.zero_le _⟩ (Nat.le_of_ble_eq_true rfl) dX7_mend_50 (fun g4 => ?_)
    refine zr_aload_n (pc' := 54) cx rfl 1 dX7_mend_53 rfl rfl ?_
    refine zg_X7_12 (pc' := 57) cx rfl zkc_0 dX7_mend_54 ?_
    refine zr_aload_n (pc' := 58) cx rfl 1 dX7_mend_57 rfl rfl ?_
    refine zg_X7_19 (pc' := 61) cx rfl zkc_0 dX7_mend_58 ?_
    refine zc_X7_95 (pc' := 64) cx rfl zkc_10 zkc_200 ⟨Nat.le_of_ble_eq_true rfl, Nat.le_of_ble_eq_true rfl⟩ ⟨Nat.zero_le _, Nat.zero_le _⟩ (Nat.le_of_ble_eq_true rfl) dX7_mend_61 (fun v5 g6 => ?_)
    refine zr_pop (pc' := 65) cx rfl dX7_mend_64 rfl ?_
    refine zr_iload_n (pc' := 66) cx rfl 0 dX7_mend_65 rfl rfl ?_
    exact zr_iretE cx dX7_mend_66
  · exact zr_none
theorem mX7_mend (l : Launch) (Y : zLy) (g : zSt) (a1 : Int)  : ∀ v g2, fX7_mend g a1 = some (v, g2) → zMt l yX7_mend cX7_mend 3 (some .int) 4 [.ref (zad Y 0), .int (i32 a1)] Y g (zQi Y v g2) := by
  intro v g2 hv
  refine zmet_of RX7 rfl (by decide +kernel) (Nat.le_of_ble_eq_true rfl) ?_
  intro p e s m below meth c cx H locs ls hH hS hl
  exact wX7_mend cx g a1  (v, g2) hv H locs ls hH hS hl
theorem zc_L_82 (cx : zCx Y p s m args meth c RL cc nl ret) (hpc : pc + 3 = pc') {g : zSt} {a1 : Int}  {fk : Int → zSt → Option ρ} (hR : 4 + 1 ≤ R.frames ∧ 8 + (3 + 11) + 40 * 4 ≤ R.locals) (hkn : k ≤ R.cells ∧ n ≤ R.slots) (hrest : (rest.map fun v => v.category).sum ≤ 8) (hdg : decode cc pc = .ok (.invokevirtual 82, 3)) (kk : ∀ (v : Int) (g2 : zSt), zWo Y p l e R s m args below meth c nl k n kq g2 lv (.int (i32 v) :: rest) pc' (fk v g2)) : zWo Y p l e R s m args below meth c nl k n kq g lv (.int (i32 a1) :: .ref (zad Y 0) :: rest) pc (zbe (fX7_mend g a1) fk) := zr_callViE cx (an := 1) (As := [.int (i32 a1)]) 8 zkc_0 (by decide) rfl (mX7_mend l Y g a1) (zG_V zw_683 zw_684 zw_685 zw_26 zw_686) (by decide +kernel) hR hkn rfl rfl hrest hdg hpc kk
def fX7_burn (g : zSt) (a1 : Int) : Option (Int × zSt) :=
    (if i32 a1 < i32 1 then
    none
    else
    (if i32 1000 < i32 a1 then
    none
    else
    (if i32 100000 < i32 ((g.1 10 5) + a1) then
    none
    else
    zbd (fX2_save g 10) (fun g1 =>
    zck ((0 : Int) ≤ 0 ∧ 0 < 12) (
    zlet ((g1.1 208 (Int.toNat 0)) * a1) (fun x2 =>
    zlet (zwr g1 10 5 ((g1.1 10 5) + a1)) (fun g3 =>
    zlet (zwr g3 10 6 ((g3.1 10 6) + x2)) (fun g4 =>
    zlet (zwr g4 10 7 ((g4.1 10 7) + ((g4.1 200 7) * a1))) (fun g5 =>
    some (x2, g5))))))))))
theorem wX7_burn (cx : zCx Y p s m args meth c RX7 cX7_burn 3 (some .int)) (g : zSt) (a1 : Int)  : zWo Y p l e (zrm 3) s m args below meth c 3 0 0 (fun q : Int × zSt => MQ below (zQi Y q.1 q.2) args s 0 0 (zA Y)) g [(0, .ref (zad Y 0)), (1, .int (i32 a1))] ([]) 0 (fX7_burn g a1) := by
  unfold fX7_burn
  refine zr_iload_n (pc' := 1) cx rfl 1 dX7_burn_0 rfl rfl ?_
  refine zr_iconst (pc' := 2) cx rfl dX7_burn_1 ?_
  refine zr_icmp_lt (pc' := 5) cx rfl (tgt := 12) dX7_burn_2 rfl ?_ ?_
  · exact zr_none
  · refine zr_iload_n (pc' := 6) cx rfl 1 dX7_burn_5 rfl rfl ?_
    refine zr_sipush (pc' := 9) cx rfl dX7_burn_6 (by decide +kernel) ?_
    refine zr_icmp_le (pc' := 12) cx rfl (tgt := 22) dX7_burn_9 rfl ?_ ?_
    · refine zr_aload_n (pc' := 23) cx rfl 0 dX7_burn_22 rfl rfl ?_
      refine zg_X7_12 (pc' := 26) cx rfl zkc_0 dX7_burn_23 ?_
      refine zg_X7_198 (pc' := 29) cx rfl zkc_10 dX7_burn_26 ?_
      refine zr_iload_n (pc' := 30) cx rfl 1 dX7_burn_29 rfl rfl ?_
      refine zr_iadd (pc' := 31) cx rfl dX7_burn_30 ?_
      refine zr_ldc (pc' := 33) cx rfl (v := 100000) dX7_burn_31 zw_704 (by decide +kernel) ?_
      refine zr_icmp_le (pc' := 36) cx rfl (tgt := 46) dX7_burn_33 rfl ?_ ?_
      · refine zr_aload_n (pc' := 47) cx rfl 0 dX7_burn_46 rfl rfl ?_
        refine zg_X7_35 (pc' := 50) cx rfl zkc_0 dX7_burn_47 ?_
        refine zr_aload_n (pc' := 51) cx rfl 0 dX7_burn_50 rfl rfl ?_
        refine zg_X7_12 (pc' := 54) cx rfl zkc_0 dX7_burn_51 ?_
        refine zc_X7_87 (pc' := 57) cx rfl zkc_10 ⟨Nat.le_of_ble_eq_true rfl, Nat.le_of_ble_eq_true rfl⟩ ⟨Nat.zero_le _, Nat.zero_le _⟩ (Nat.le_of_ble_eq_true rfl) dX7_burn_54 (fun g1 => ?_)
        refine zr_aload_n (pc' := 58) cx rfl 0 dX7_burn_57 rfl rfl ?_
        refine zg_X7_19 (pc' := 61) cx rfl zkc_0 dX7_burn_58 ?_
        refine zg_X7_204 (pc' := 64) cx rfl (c2 := 208) zkc_200 rfl dX7_burn_61 ?_
        refine zr_iconst (pc' := 65) cx rfl dX7_burn_64 ?_
        refine zr_iald (pc' := 66) cx rfl 10 zkc_208 (by decide) (L := 12) rfl dX7_burn_65 ?_
        refine zr_iload_n (pc' := 67) cx rfl 1 dX7_burn_66 rfl rfl ?_
        refine zr_imul (pc' := 68) cx rfl dX7_burn_67 ?_
        refine zr_leti (fun x2 => ?_)
        refine zr_istore_n (pc' := 69) cx rfl (lv' := [(2, .int (i32 x2)), (0, .ref (zad Y 0)), (1, .int (i32 a1))]) dX7_burn_68 rfl (by decide) rfl ?_
        refine zr_aload_n (pc' := 70) cx rfl 1 dX7_burn_69 rfl rfl ?_
        refine zg_X7_12 (pc' := 73) cx rfl zkc_0 dX7_burn_70 ?_
        refine zr_dup (pc' := 74) cx rfl dX7_burn_73 rfl ?_
        refine zg_X7_198 (pc' := 77) cx rfl zkc_10 dX7_burn_74 ?_
        refine zr_iload_n (pc' := 78) cx rfl 2 dX7_burn_77 rfl rfl ?_
        refine zr_iadd (pc' := 79) cx rfl dX7_burn_78 ?_
        refine zp_X7_198 (pc' := 82) cx rfl zkc_10 dX7_burn_79 ?_
        refine zr_letS (fun g3 => ?_)
        refine zr_aload_n (pc' := 83) cx rfl 1 dX7_burn_82 rfl rfl ?_
        refine zg_X7_12 (pc' := 86) cx rfl zkc_0 dX7_burn_83 ?_
        refine zr_dup (pc' := 87) cx rfl dX7_burn_86 rfl ?_
        refine zg_X7_207 (pc' := 90) cx rfl zkc_10 dX7_burn_87 ?_
        refine zr_iload_n (pc' := 91) cx rfl 0 dX7_burn_90 rfl rfl ?_
        refine zr_iadd (pc' := 92) cx rfl dX7_burn_91 ?_
        refine zp_X7_207 (pc' := 95) cx rfl zkc_10 dX7_burn_92 ?_
        refine zr_letS (fun g4 => ?_)
        refine zr_aload_n (pc' := 96) cx rfl 1 dX7_burn_95 rfl rfl ?_
        refine zg_X7_12 (pc' := 99) cx rfl zkc_0 dX7_burn_96 ?_
        refine zr_dup (pc' := 100) cx rfl dX7_burn_99 rfl ?_
        refine zg_X7_210 (pc' := 103) cx rfl zkc_10 dX7_burn_100 ?_
        refine zr_aload_n (pc' := 104) cx rfl 1 dX7_burn_103 rfl rfl ?_
        refine zg_X7_19 (pc' := 107) cx rfl zkc_0 dX7_burn_104 ?_
        refine zg_X7_213 (pc' := 110) cx rfl zkc_200 dX7_burn_107 ?_
        refine zr_iload_n (pc' := 111) cx rfl 2 dX7_burn_110 rfl rfl ?_
        refine zr_imul (pc' := 112) cx rfl dX7_burn_111 ?_
        refine zr_iadd (pc' := 113) cx rfl dX7_burn_112 ?_
        refine zp_X7_210 (pc' := 116) cx rfl zkc_10 dX7_burn_113 ?_
        refine zr_letS (fun g5 => ?_)
        refine zr_iload_n (pc' := 117) cx rfl 0 dX7_burn_116 rfl rfl ?_
        exact zr_iretE cx dX7_burn_117
      · exact zr_none
    · exact zr_none
theorem mX7_burn (l : Launch) (Y : zLy) (g : zSt) (a1 : Int)  : ∀ v g2, fX7_burn g a1 = some (v, g2) → zMt l yX7_burn cX7_burn 3 (some .int) 3 [.ref (zad Y 0), .int (i32 a1)] Y g (zQi Y v g2) := by
  intro v g2 hv
  refine zmet_of RX7 rfl (by decide +kernel) (Nat.le_of_ble_eq_true rfl) ?_
  intro p e s m below meth c cx H locs ls hH hS hl
  exact wX7_burn cx g a1  (v, g2) hv H locs ls hH hS hl
theorem zc_L_88 (cx : zCx Y p s m args meth c RL cc nl ret) (hpc : pc + 3 = pc') {g : zSt} {a1 : Int}  {fk : Int → zSt → Option ρ} (hR : 3 + 1 ≤ R.frames ∧ 8 + (3 + 11) + 40 * 3 ≤ R.locals) (hkn : k ≤ R.cells ∧ n ≤ R.slots) (hrest : (rest.map fun v => v.category).sum ≤ 8) (hdg : decode cc pc = .ok (.invokevirtual 88, 3)) (kk : ∀ (v : Int) (g2 : zSt), zWo Y p l e R s m args below meth c nl k n kq g2 lv (.int (i32 v) :: rest) pc' (fk v g2)) : zWo Y p l e R s m args below meth c nl k n kq g lv (.int (i32 a1) :: .ref (zad Y 0) :: rest) pc (zbe (fX7_burn g a1) fk) := zr_callViE cx (an := 1) (As := [.int (i32 a1)]) 8 zkc_0 (by decide) rfl (mX7_burn l Y g a1) (zG_V zw_699 zw_700 zw_701 zw_26 zw_702) (by decide +kernel) hR hkn rfl rfl hrest hdg hpc kk
def fX7_box (g : zSt) (a1 : Int) (a2 : Int) : Option Int :=
    zbd (fX7_isBox g a1) (fun v1 =>
    (if i32 v1 = i32 0 then
    none
    else
    (if i32 a2 < i32 0 then
    none
    else
    (if i32 a2 < i32 7 then
    zbd (fX7_boxProperty g a1 a2) (fun v2 =>
    some v2)
    else
    none))))
theorem wX7_box (cx : zCx Y p s m args meth c RX7 cX7_box 3 (some .int)) (g : zSt) (a1 : Int) (a2 : Int)  : zWo Y p l e (zrm 2) s m args below meth c 3 0 0 (fun v : Int => MQ below (zQi Y v g) args s 0 0 (zA Y)) g [(0, .ref (zad Y 0)), (1, .int (i32 a1)), (2, .int (i32 a2))] ([]) 0 (fX7_box g a1 a2) := by
  unfold fX7_box
  refine zr_aload_n (pc' := 1) cx rfl 0 dX7_box_0 rfl rfl ?_
  refine zr_iload_n (pc' := 2) cx rfl 1 dX7_box_1 rfl rfl ?_
  refine zc_X7_54 (pc' := 5) cx rfl  ⟨Nat.le_of_ble_eq_true rfl, Nat.le_of_ble_eq_true rfl⟩ ⟨Nat.zero_le _, Nat.zero_le _⟩ (Nat.le_of_ble_eq_true rfl) dX7_box_2 (fun v1 => ?_)
  refine zr_if_ne (pc' := 8) cx rfl (tgt := 18) dX7_box_5 rfl ?_ ?_
  · refine zr_iload_n (pc' := 19) cx rfl 2 dX7_box_18 rfl rfl ?_
    refine zr_if_lt (pc' := 22) cx rfl (tgt := 28) dX7_box_19 rfl ?_ ?_
    · exact zr_none
    · refine zr_iload_n (pc' := 23) cx rfl 2 dX7_box_22 rfl rfl ?_
      refine zr_bipush (pc' := 25) cx rfl dX7_box_23 (by decide +kernel) ?_
      refine zr_icmp_lt (pc' := 28) cx rfl (tgt := 38) dX7_box_25 rfl ?_ ?_
      · refine zr_aload_n (pc' := 39) cx rfl 0 dX7_box_38 rfl rfl ?_
        refine zr_iload_n (pc' := 40) cx rfl 1 dX7_box_39 rfl rfl ?_
        refine zr_iload_n (pc' := 41) cx rfl 2 dX7_box_40 rfl rfl ?_
        refine zc_X7_244 (pc' := 44) cx rfl  ⟨Nat.le_of_ble_eq_true rfl, Nat.le_of_ble_eq_true rfl⟩ ⟨Nat.zero_le _, Nat.zero_le _⟩ (Nat.le_of_ble_eq_true rfl) dX7_box_41 (fun v2 => ?_)
        exact zr_iretP cx dX7_box_44
      · exact zr_none
  · exact zr_none
theorem mX7_box (l : Launch) (Y : zLy) (g : zSt) (a1 : Int) (a2 : Int)  : ∀ v, fX7_box g a1 a2 = some v → zMt l yX7_box cX7_box 3 (some .int) 2 [.ref (zad Y 0), .int (i32 a1), .int (i32 a2)] Y g (zQi Y v g) := by
  intro v hv
  refine zmet_of RX7 rfl (by decide +kernel) (Nat.le_of_ble_eq_true rfl) ?_
  intro p e s m below meth c cx H locs ls hH hS hl
  exact wX7_box cx g a1 a2  v hv H locs ls hH hS hl
theorem zc_L_21 (cx : zCx Y p s m args meth c RL cc nl ret) (hpc : pc + 3 = pc') {g : zSt} {a1 : Int} {a2 : Int}  {fk : Int → Option ρ} (hR : 2 + 1 ≤ R.frames ∧ 8 + (3 + 11) + 40 * 2 ≤ R.locals) (hkn : k ≤ R.cells ∧ n ≤ R.slots) (hrest : (rest.map fun v => v.category).sum ≤ 8) (hdg : decode cc pc = .ok (.invokevirtual 21, 3)) (kk : ∀ v : Int, zWo Y p l e R s m args below meth c nl k n kq g lv (.int (i32 v) :: rest) pc' (fk v)) : zWo Y p l e R s m args below meth c nl k n kq g lv (.int (i32 a2) :: .int (i32 a1) :: .ref (zad Y 0) :: rest) pc (zbd (fX7_box g a1 a2) fk) := zr_callViP cx (an := 2) (As := [.int (i32 a1), .int (i32 a2)]) 8 zkc_0 (by decide) rfl (mX7_box l Y g a1 a2) (zG_V zw_317 zw_318 zw_319 zw_26 zw_320) (by decide +kernel) hR hkn rfl rfl hrest hdg hpc kk
def fX7_terminal (g : zSt) (a1 : Int) (a2 : Int) (a3 : Int) : Option Int :=
    zbd (fX7_isBox g a1) (fun v1 =>
    (if i32 v1 = i32 0 then
    none
    else
    zbd (fX7_isTerminal g a2) (fun v2 =>
    (if i32 v2 = i32 0 then
    none
    else
    (if i32 a3 < i32 0 then
    none
    else
    (if i32 a3 < i32 6 then
    zbd (fX7_terminalProperty g a1 a2 a3) (fun v3 =>
    some v3)
    else
    none))))))
theorem wX7_terminal (cx : zCx Y p s m args meth c RX7 cX7_terminal 4 (some .int)) (g : zSt) (a1 : Int) (a2 : Int) (a3 : Int)  : zWo Y p l e (zrm 3) s m args below meth c 4 0 0 (fun v : Int => MQ below (zQi Y v g) args s 0 0 (zA Y)) g [(0, .ref (zad Y 0)), (1, .int (i32 a1)), (2, .int (i32 a2)), (3, .int (i32 a3))] ([]) 0 (fX7_terminal g a1 a2 a3) := by
  unfold fX7_terminal
  refine zr_aload_n (pc' := 1) cx rfl 0 dX7_terminal_0 rfl rfl ?_
  refine zr_iload_n (pc' := 2) cx rfl 1 dX7_terminal_1 rfl rfl ?_
  refine zc_X7_54 (pc' := 5) cx rfl  ⟨Nat.le_of_ble_eq_true rfl, Nat.le_of_ble_eq_true rfl⟩ ⟨Nat.zero_le _, Nat.zero_le _⟩ (Nat.le_of_ble_eq_true rfl) dX7_terminal_2 (fun v1 => ?_)
  refine zr_if_eq (pc' := 8) cx rfl (tgt := 15) dX7_terminal_5 rfl ?_ ?_
  · exact zr_none
  · refine zr_iload_n (pc' := 9) cx rfl 2 dX7_terminal_8 rfl rfl ?_
    refine zc_X7_118 (pc' := 12) cx rfl  ⟨Nat.le_of_ble_eq_true rfl, Nat.le_of_ble_eq_true rfl⟩ ⟨Nat.zero_le _, Nat.zero_le _⟩ (Nat.le_of_ble_eq_true rfl) dX7_terminal_9 (fun v2 => ?_)
    refine zr_if_ne (pc' := 15) cx rfl (tgt := 25) dX7_terminal_12 rfl ?_ ?_
    · refine zr_iload_n (pc' := 26) cx rfl 3 dX7_terminal_25 rfl rfl ?_
      refine zr_if_lt (pc' := 29) cx rfl (tgt := 35) dX7_terminal_26 rfl ?_ ?_
      · exact zr_none
      · refine zr_iload_n (pc' := 30) cx rfl 3 dX7_terminal_29 rfl rfl ?_
        refine zr_bipush (pc' := 32) cx rfl dX7_terminal_30 (by decide +kernel) ?_
        refine zr_icmp_lt (pc' := 35) cx rfl (tgt := 45) dX7_terminal_32 rfl ?_ ?_
        · refine zr_aload_n (pc' := 46) cx rfl 0 dX7_terminal_45 rfl rfl ?_
          refine zr_iload_n (pc' := 47) cx rfl 1 dX7_terminal_46 rfl rfl ?_
          refine zr_iload_n (pc' := 48) cx rfl 2 dX7_terminal_47 rfl rfl ?_
          refine zr_iload_n (pc' := 49) cx rfl 3 dX7_terminal_48 rfl rfl ?_
          refine zc_X7_250 (pc' := 52) cx rfl  ⟨Nat.le_of_ble_eq_true rfl, Nat.le_of_ble_eq_true rfl⟩ ⟨Nat.zero_le _, Nat.zero_le _⟩ (Nat.le_of_ble_eq_true rfl) dX7_terminal_49 (fun v3 => ?_)
          exact zr_iretP cx dX7_terminal_52
        · exact zr_none
    · exact zr_none
theorem mX7_terminal (l : Launch) (Y : zLy) (g : zSt) (a1 : Int) (a2 : Int) (a3 : Int)  : ∀ v, fX7_terminal g a1 a2 a3 = some v → zMt l yX7_terminal cX7_terminal 4 (some .int) 3 [.ref (zad Y 0), .int (i32 a1), .int (i32 a2), .int (i32 a3)] Y g (zQi Y v g) := by
  intro v hv
  refine zmet_of RX7 rfl (by decide +kernel) (Nat.le_of_ble_eq_true rfl) ?_
  intro p e s m below meth c cx H locs ls hH hS hl
  exact wX7_terminal cx g a1 a2 a3  v hv H locs ls hH hS hl
theorem zc_L_27 (cx : zCx Y p s m args meth c RL cc nl ret) (hpc : pc + 3 = pc') {g : zSt} {a1 : Int} {a2 : Int} {a3 : Int}  {fk : Int → Option ρ} (hR : 3 + 1 ≤ R.frames ∧ 8 + (4 + 11) + 40 * 3 ≤ R.locals) (hkn : k ≤ R.cells ∧ n ≤ R.slots) (hrest : (rest.map fun v => v.category).sum ≤ 8) (hdg : decode cc pc = .ok (.invokevirtual 27, 3)) (kk : ∀ v : Int, zWo Y p l e R s m args below meth c nl k n kq g lv (.int (i32 v) :: rest) pc' (fk v)) : zWo Y p l e R s m args below meth c nl k n kq g lv (.int (i32 a3) :: .int (i32 a2) :: .int (i32 a1) :: .ref (zad Y 0) :: rest) pc (zbd (fX7_terminal g a1 a2 a3) fk) := zr_callViP cx (an := 3) (As := [.int (i32 a1), .int (i32 a2), .int (i32 a3)]) 8 zkc_0 (by decide) rfl (mX7_terminal l Y g a1 a2 a3) (zG_V zw_424 zw_425 zw_426 zw_26 zw_427) (by decide +kernel) hR hkn rfl rfl hrest hdg hpc kk
def fX7_lantern (g : zSt) (a1 : Int) (a2 : Int) : Option Int :=
    zbd (fX7_isLantern g a1) (fun v1 =>
    (if i32 v1 = i32 0 then
    none
    else
    (if i32 a2 < i32 0 then
    none
    else
    (if i32 a2 < i32 4 then
    zbd (fX7_lanternProperty g a1 a2) (fun v2 =>
    some v2)
    else
    none))))
theorem wX7_lantern (cx : zCx Y p s m args meth c RX7 cX7_lantern 3 (some .int)) (g : zSt) (a1 : Int) (a2 : Int)  : zWo Y p l e (zrm 2) s m args below meth c 3 0 0 (fun v : Int => MQ below (zQi Y v g) args s 0 0 (zA Y)) g [(0, .ref (zad Y 0)), (1, .int (i32 a1)), (2, .int (i32 a2))] ([]) 0 (fX7_lantern g a1 a2) := by
  unfold fX7_lantern
  refine zr_aload_n (pc' := 1) cx rfl 0 dX7_lantern_0 rfl rfl ?_
  refine zr_iload_n (pc' := 2) cx rfl 1 dX7_lantern_1 rfl rfl ?_
  refine zc_X7_156 (pc' := 5) cx rfl  ⟨Nat.le_of_ble_eq_true rfl, Nat.le_of_ble_eq_true rfl⟩ ⟨Nat.zero_le _, Nat.zero_le _⟩ (Nat.le_of_ble_eq_true rfl) dX7_lantern_2 (fun v1 => ?_)
  refine zr_if_ne (pc' := 8) cx rfl (tgt := 18) dX7_lantern_5 rfl ?_ ?_
  · refine zr_iload_n (pc' := 19) cx rfl 2 dX7_lantern_18 rfl rfl ?_
    refine zr_if_lt (pc' := 22) cx rfl (tgt := 27) dX7_lantern_19 rfl ?_ ?_
    · exact zr_none
    · refine zr_iload_n (pc' := 23) cx rfl 2 dX7_lantern_22 rfl rfl ?_
      refine zr_iconst (pc' := 24) cx rfl dX7_lantern_23 ?_
      refine zr_icmp_lt (pc' := 27) cx rfl (tgt := 37) dX7_lantern_24 rfl ?_ ?_
      · refine zr_aload_n (pc' := 38) cx rfl 0 dX7_lantern_37 rfl rfl ?_
        refine zr_iload_n (pc' := 39) cx rfl 1 dX7_lantern_38 rfl rfl ?_
        refine zr_iload_n (pc' := 40) cx rfl 2 dX7_lantern_39 rfl rfl ?_
        refine zc_X7_256 (pc' := 43) cx rfl  ⟨Nat.le_of_ble_eq_true rfl, Nat.le_of_ble_eq_true rfl⟩ ⟨Nat.zero_le _, Nat.zero_le _⟩ (Nat.le_of_ble_eq_true rfl) dX7_lantern_40 (fun v2 => ?_)
        exact zr_iretP cx dX7_lantern_43
      · exact zr_none
  · exact zr_none
theorem mX7_lantern (l : Launch) (Y : zLy) (g : zSt) (a1 : Int) (a2 : Int)  : ∀ v, fX7_lantern g a1 a2 = some v → zMt l yX7_lantern cX7_lantern 3 (some .int) 2 [.ref (zad Y 0), .int (i32 a1), .int (i32 a2)] Y g (zQi Y v g) := by
  intro v hv
  refine zmet_of RX7 rfl (by decide +kernel) (Nat.le_of_ble_eq_true rfl) ?_
  intro p e s m below meth c cx H locs ls hH hS hl
  exact wX7_lantern cx g a1 a2  v hv H locs ls hH hS hl
theorem zc_L_31 (cx : zCx Y p s m args meth c RL cc nl ret) (hpc : pc + 3 = pc') {g : zSt} {a1 : Int} {a2 : Int}  {fk : Int → Option ρ} (hR : 2 + 1 ≤ R.frames ∧ 8 + (3 + 11) + 40 * 2 ≤ R.locals) (hkn : k ≤ R.cells ∧ n ≤ R.slots) (hrest : (rest.map fun v => v.category).sum ≤ 8) (hdg : decode cc pc = .ok (.invokevirtual 31, 3)) (kk : ∀ v : Int, zWo Y p l e R s m args below meth c nl k n kq g lv (.int (i32 v) :: rest) pc' (fk v)) : zWo Y p l e R s m args below meth c nl k n kq g lv (.int (i32 a2) :: .int (i32 a1) :: .ref (zad Y 0) :: rest) pc (zbd (fX7_lantern g a1 a2) fk) := zr_callViP cx (an := 2) (As := [.int (i32 a1), .int (i32 a2)]) 8 zkc_0 (by decide) rfl (mX7_lantern l Y g a1 a2) (zG_V zw_450 zw_451 zw_452 zw_26 zw_453) (by decide +kernel) hR hkn rfl rfl hrest hdg hpc kk
def fX7_faultAt (g : zSt) (a1 : Int) (a2 : Int) : Option Int :=
    zbd (fX7_isFault g a1) (fun v1 =>
    (if i32 v1 = i32 0 then
    none
    else
    (if i32 a2 < i32 0 then
    none
    else
    (if i32 a2 < i32 5 then
    zbd (fX7_faultProperty g a1 a2) (fun v2 =>
    some v2)
    else
    none))))
theorem wX7_faultAt (cx : zCx Y p s m args meth c RX7 cX7_faultAt 3 (some .int)) (g : zSt) (a1 : Int) (a2 : Int)  : zWo Y p l e (zrm 1) s m args below meth c 3 0 0 (fun v : Int => MQ below (zQi Y v g) args s 0 0 (zA Y)) g [(0, .ref (zad Y 0)), (1, .int (i32 a1)), (2, .int (i32 a2))] ([]) 0 (fX7_faultAt g a1 a2) := by
  unfold fX7_faultAt
  refine zr_aload_n (pc' := 1) cx rfl 0 dX7_faultAt_0 rfl rfl ?_
  refine zr_iload_n (pc' := 2) cx rfl 1 dX7_faultAt_1 rfl rfl ?_
  refine zc_X7_187 (pc' := 5) cx rfl  ⟨Nat.le_of_ble_eq_true rfl, Nat.le_of_ble_eq_true rfl⟩ ⟨Nat.zero_le _, Nat.zero_le _⟩ (Nat.le_of_ble_eq_true rfl) dX7_faultAt_2 (fun v1 => ?_)
  refine zr_if_ne (pc' := 8) cx rfl (tgt := 18) dX7_faultAt_5 rfl ?_ ?_
  · refine zr_iload_n (pc' := 19) cx rfl 2 dX7_faultAt_18 rfl rfl ?_
    refine zr_if_lt (pc' := 22) cx rfl (tgt := 27) dX7_faultAt_19 rfl ?_ ?_
    · exact zr_none
    · refine zr_iload_n (pc' := 23) cx rfl 2 dX7_faultAt_22 rfl rfl ?_
      refine zr_iconst (pc' := 24) cx rfl dX7_faultAt_23 ?_
      refine zr_icmp_lt (pc' := 27) cx rfl (tgt := 38) dX7_faultAt_24 rfl ?_ ?_
      · refine zr_aload_n (pc' := 39) cx rfl 0 dX7_faultAt_38 rfl rfl ?_
        refine zr_iload_n (pc' := 40) cx rfl 1 dX7_faultAt_39 rfl rfl ?_
        refine zr_iload_n (pc' := 41) cx rfl 2 dX7_faultAt_40 rfl rfl ?_
        refine zc_X7_261 (pc' := 44) cx rfl  ⟨Nat.le_of_ble_eq_true rfl, Nat.le_of_ble_eq_true rfl⟩ ⟨Nat.zero_le _, Nat.zero_le _⟩ (Nat.le_of_ble_eq_true rfl) dX7_faultAt_41 (fun v2 => ?_)
        exact zr_iretP cx dX7_faultAt_44
      · exact zr_none
  · exact zr_none
theorem mX7_faultAt (l : Launch) (Y : zLy) (g : zSt) (a1 : Int) (a2 : Int)  : ∀ v, fX7_faultAt g a1 a2 = some v → zMt l yX7_faultAt cX7_faultAt 3 (some .int) 1 [.ref (zad Y 0), .int (i32 a1), .int (i32 a2)] Y g (zQi Y v g) := by
  intro v hv
  refine zmet_of RX7 rfl (by decide +kernel) (Nat.le_of_ble_eq_true rfl) ?_
  intro p e s m below meth c cx H locs ls hH hS hl
  exact wX7_faultAt cx g a1 a2  v hv H locs ls hH hS hl
theorem zc_L_34 (cx : zCx Y p s m args meth c RL cc nl ret) (hpc : pc + 3 = pc') {g : zSt} {a1 : Int} {a2 : Int}  {fk : Int → Option ρ} (hR : 1 + 1 ≤ R.frames ∧ 8 + (3 + 11) + 40 * 1 ≤ R.locals) (hkn : k ≤ R.cells ∧ n ≤ R.slots) (hrest : (rest.map fun v => v.category).sum ≤ 8) (hdg : decode cc pc = .ok (.invokevirtual 34, 3)) (kk : ∀ v : Int, zWo Y p l e R s m args below meth c nl k n kq g lv (.int (i32 v) :: rest) pc' (fk v)) : zWo Y p l e R s m args below meth c nl k n kq g lv (.int (i32 a2) :: .int (i32 a1) :: .ref (zad Y 0) :: rest) pc (zbd (fX7_faultAt g a1 a2) fk) := zr_callViP cx (an := 2) (As := [.int (i32 a1), .int (i32 a2)]) 8 zkc_0 (by decide) rfl (mX7_faultAt l Y g a1 a2) (zG_V zw_468 zw_469 zw_470 zw_26 zw_471) (by decide +kernel) hR hkn rfl rfl hrest hdg hpc kk
def fX7_count (g : zSt) (a1 : Int) : Option Int :=
    (if i32 a1 < i32 0 then
    none
    else
    (if i32 a1 < i32 12 then
    zbd (fX7_countOf g a1) (fun v1 =>
    some v1)
    else
    none))
theorem wX7_count (cx : zCx Y p s m args meth c RX7 cX7_count 2 (some .int)) (g : zSt) (a1 : Int)  : zWo Y p l e (zrm 2) s m args below meth c 2 0 0 (fun v : Int => MQ below (zQi Y v g) args s 0 0 (zA Y)) g [(0, .ref (zad Y 0)), (1, .int (i32 a1))] ([]) 0 (fX7_count g a1) := by
  unfold fX7_count
  refine zr_iload_n (pc' := 1) cx rfl 1 dX7_count_0 rfl rfl ?_
  refine zr_if_lt (pc' := 4) cx rfl (tgt := 10) dX7_count_1 rfl ?_ ?_
  · exact zr_none
  · refine zr_iload_n (pc' := 5) cx rfl 1 dX7_count_4 rfl rfl ?_
    refine zr_bipush (pc' := 7) cx rfl dX7_count_5 (by decide +kernel) ?_
    refine zr_icmp_lt (pc' := 10) cx rfl (tgt := 21) dX7_count_7 rfl ?_ ?_
    · refine zr_aload_n (pc' := 22) cx rfl 0 dX7_count_21 rfl rfl ?_
      refine zr_iload_n (pc' := 23) cx rfl 1 dX7_count_22 rfl rfl ?_
      refine zc_X7_266 (pc' := 26) cx rfl  ⟨Nat.le_of_ble_eq_true rfl, Nat.le_of_ble_eq_true rfl⟩ ⟨Nat.zero_le _, Nat.zero_le _⟩ (Nat.le_of_ble_eq_true rfl) dX7_count_23 (fun v1 => ?_)
      exact zr_iretP cx dX7_count_26
    · exact zr_none
theorem mX7_count (l : Launch) (Y : zLy) (g : zSt) (a1 : Int)  : ∀ v, fX7_count g a1 = some v → zMt l yX7_count cX7_count 2 (some .int) 2 [.ref (zad Y 0), .int (i32 a1)] Y g (zQi Y v g) := by
  intro v hv
  refine zmet_of RX7 rfl (by decide +kernel) (Nat.le_of_ble_eq_true rfl) ?_
  intro p e s m below meth c cx H locs ls hH hS hl
  exact wX7_count cx g a1  v hv H locs ls hH hS hl
theorem zc_L_44 (cx : zCx Y p s m args meth c RL cc nl ret) (hpc : pc + 3 = pc') {g : zSt} {a1 : Int}  {fk : Int → Option ρ} (hR : 2 + 1 ≤ R.frames ∧ 8 + (2 + 11) + 40 * 2 ≤ R.locals) (hkn : k ≤ R.cells ∧ n ≤ R.slots) (hrest : (rest.map fun v => v.category).sum ≤ 8) (hdg : decode cc pc = .ok (.invokevirtual 44, 3)) (kk : ∀ v : Int, zWo Y p l e R s m args below meth c nl k n kq g lv (.int (i32 v) :: rest) pc' (fk v)) : zWo Y p l e R s m args below meth c nl k n kq g lv (.int (i32 a1) :: .ref (zad Y 0) :: rest) pc (zbd (fX7_count g a1) fk) := zr_callViP cx (an := 1) (As := [.int (i32 a1)]) 8 zkc_0 (by decide) rfl (mX7_count l Y g a1) (zG_V zw_498 zw_499 zw_500 zw_26 zw_501) (by decide +kernel) hR hkn rfl rfl hrest hdg hpc kk
def fX7_lamp (g : zSt) (a1 : Int) : Option Int :=
    zbd (fX7_isPole g a1) (fun v1 =>
    (if i32 v1 = i32 0 then
    none
    else
    zbd (fX6_lampOf g 200 a1) (fun v2 =>
    some v2)))
theorem wX7_lamp (cx : zCx Y p s m args meth c RX7 cX7_lamp 2 (some .int)) (g : zSt) (a1 : Int)  : zWo Y p l e (zrm 1) s m args below meth c 2 0 0 (fun v : Int => MQ below (zQi Y v g) args s 0 0 (zA Y)) g [(0, .ref (zad Y 0)), (1, .int (i32 a1))] ([]) 0 (fX7_lamp g a1) := by
  unfold fX7_lamp
  refine zr_iload_n (pc' := 1) cx rfl 1 dX7_lamp_0 rfl rfl ?_
  refine zc_X7_270 (pc' := 4) cx rfl  ⟨Nat.le_of_ble_eq_true rfl, Nat.le_of_ble_eq_true rfl⟩ ⟨Nat.zero_le _, Nat.zero_le _⟩ (Nat.le_of_ble_eq_true rfl) dX7_lamp_1 (fun v1 => ?_)
  refine zr_if_ne (pc' := 7) cx rfl (tgt := 18) dX7_lamp_4 rfl ?_ ?_
  · refine zr_aload_n (pc' := 19) cx rfl 0 dX7_lamp_18 rfl rfl ?_
    refine zg_X7_19 (pc' := 22) cx rfl zkc_0 dX7_lamp_19 ?_
    refine zr_iload_n (pc' := 23) cx rfl 1 dX7_lamp_22 rfl rfl ?_
    refine zc_X7_275 (pc' := 26) cx rfl zkc_200 ⟨Nat.le_of_ble_eq_true rfl, Nat.le_of_ble_eq_true rfl⟩ ⟨Nat.zero_le _, Nat.zero_le _⟩ (Nat.le_of_ble_eq_true rfl) dX7_lamp_23 (fun v2 => ?_)
    exact zr_iretP cx dX7_lamp_26
  · exact zr_none
theorem mX7_lamp (l : Launch) (Y : zLy) (g : zSt) (a1 : Int)  : ∀ v, fX7_lamp g a1 = some v → zMt l yX7_lamp cX7_lamp 2 (some .int) 1 [.ref (zad Y 0), .int (i32 a1)] Y g (zQi Y v g) := by
  intro v hv
  refine zmet_of RX7 rfl (by decide +kernel) (Nat.le_of_ble_eq_true rfl) ?_
  intro p e s m below meth c cx H locs ls hH hS hl
  exact wX7_lamp cx g a1  v hv H locs ls hH hS hl
theorem zc_L_37 (cx : zCx Y p s m args meth c RL cc nl ret) (hpc : pc + 3 = pc') {g : zSt} {a1 : Int}  {fk : Int → Option ρ} (hR : 1 + 1 ≤ R.frames ∧ 8 + (2 + 11) + 40 * 1 ≤ R.locals) (hkn : k ≤ R.cells ∧ n ≤ R.slots) (hrest : (rest.map fun v => v.category).sum ≤ 8) (hdg : decode cc pc = .ok (.invokevirtual 37, 3)) (kk : ∀ v : Int, zWo Y p l e R s m args below meth c nl k n kq g lv (.int (i32 v) :: rest) pc' (fk v)) : zWo Y p l e R s m args below meth c nl k n kq g lv (.int (i32 a1) :: .ref (zad Y 0) :: rest) pc (zbd (fX7_lamp g a1) fk) := zr_callViP cx (an := 1) (As := [.int (i32 a1)]) 8 zkc_0 (by decide) rfl (mX7_lamp l Y g a1) (zG_V zw_482 zw_483 zw_484 zw_26 zw_485) (by decide +kernel) hR hkn rfl rfl hrest hdg hpc kk
def fX7_locate (g : zSt) (a1 : Int) : Option Int :=
    zbd (fX7_isPole g a1) (fun v1 =>
    (if i32 v1 = i32 0 then
    none
    else
    zbd (fX7_boxesChangingLamp g a1) (fun v2 =>
    some v2)))
theorem wX7_locate (cx : zCx Y p s m args meth c RX7 cX7_locate 2 (some .int)) (g : zSt) (a1 : Int)  : zWo Y p l e (zrm 1) s m args below meth c 2 0 0 (fun v : Int => MQ below (zQi Y v g) args s 0 0 (zA Y)) g [(0, .ref (zad Y 0)), (1, .int (i32 a1))] ([]) 0 (fX7_locate g a1) := by
  unfold fX7_locate
  refine zr_iload_n (pc' := 1) cx rfl 1 dX7_locate_0 rfl rfl ?_
  refine zc_X7_270 (pc' := 4) cx rfl  ⟨Nat.le_of_ble_eq_true rfl, Nat.le_of_ble_eq_true rfl⟩ ⟨Nat.zero_le _, Nat.zero_le _⟩ (Nat.le_of_ble_eq_true rfl) dX7_locate_1 (fun v1 => ?_)
  refine zr_if_ne (pc' := 7) cx rfl (tgt := 18) dX7_locate_4 rfl ?_ ?_
  · refine zr_aload_n (pc' := 19) cx rfl 0 dX7_locate_18 rfl rfl ?_
    refine zr_iload_n (pc' := 20) cx rfl 1 dX7_locate_19 rfl rfl ?_
    refine zc_X7_278 (pc' := 23) cx rfl  ⟨Nat.le_of_ble_eq_true rfl, Nat.le_of_ble_eq_true rfl⟩ ⟨Nat.zero_le _, Nat.zero_le _⟩ (Nat.le_of_ble_eq_true rfl) dX7_locate_20 (fun v2 => ?_)
    exact zr_iretP cx dX7_locate_23
  · exact zr_none
theorem mX7_locate (l : Launch) (Y : zLy) (g : zSt) (a1 : Int)  : ∀ v, fX7_locate g a1 = some v → zMt l yX7_locate cX7_locate 2 (some .int) 1 [.ref (zad Y 0), .int (i32 a1)] Y g (zQi Y v g) := by
  intro v hv
  refine zmet_of RX7 rfl (by decide +kernel) (Nat.le_of_ble_eq_true rfl) ?_
  intro p e s m below meth c cx H locs ls hH hS hl
  exact wX7_locate cx g a1  v hv H locs ls hH hS hl
theorem zc_L_68 (cx : zCx Y p s m args meth c RL cc nl ret) (hpc : pc + 3 = pc') {g : zSt} {a1 : Int}  {fk : Int → Option ρ} (hR : 1 + 1 ≤ R.frames ∧ 8 + (2 + 11) + 40 * 1 ≤ R.locals) (hkn : k ≤ R.cells ∧ n ≤ R.slots) (hrest : (rest.map fun v => v.category).sum ≤ 8) (hdg : decode cc pc = .ok (.invokevirtual 68, 3)) (kk : ∀ v : Int, zWo Y p l e R s m args below meth c nl k n kq g lv (.int (i32 v) :: rest) pc' (fk v)) : zWo Y p l e R s m args below meth c nl k n kq g lv (.int (i32 a1) :: .ref (zad Y 0) :: rest) pc (zbd (fX7_locate g a1) fk) := zr_callViP cx (an := 1) (As := [.int (i32 a1)]) 8 zkc_0 (by decide) rfl (mX7_locate l Y g a1) (zG_V zw_618 zw_619 zw_620 zw_26 zw_621) (by decide +kernel) hR hkn rfl rfl hrest hdg hpc kk
def fX7_ifFault (g : zSt) (a1 : Int) (a2 : Int) (a3 : Int) (a4 : Int) : Option (Int × zSt) :=
    zbd (fX7_isBox g a1) (fun v1 =>
    (if i32 v1 = i32 0 then
    none
    else
    zbd (fX7_isTerminal g a2) (fun v2 =>
    (if i32 v2 = i32 0 then
    none
    else
    zbd (fX7_isStrength g a3) (fun v3 =>
    (if i32 v3 = i32 0 then
    none
    else
    (if i32 a4 < i32 0 then
    none
    else
    (if i32 a4 < i32 4 then
    zbd (fX5_copy g 30 10) (fun g4 =>
    zbd (fX1_add g4 41 a1 a2 a3) (fun g5 =>
    zbd (fX6_take g5 220 30) (fun g6 =>
    zbd (fX6_fuseToBlow g6 220 31) (fun v7 =>
    zbe (fX7_settle g6 30 220) (fun v8 g9 =>
    (if i32 a4 = i32 0 then
    some (v8, g9)
    else
    (if i32 a4 = i32 1 then
    some ((g9.1 220 6), g9)
    else
    (if i32 a4 = i32 2 then
    some ((g9.1 220 7), g9)
    else
    (if i32 v7 = i32 (-1) then
    some ((-1), g9)
    else
    some (((100 * (zsr v7 1)) + (10 * (zan v7 1))), g9))))))))))
    else
    none))))))))
theorem wX7_ifFault (cx : zCx Y p s m args meth c RX7 cX7_ifFault 7 (some .int)) (g : zSt) (a1 : Int) (a2 : Int) (a3 : Int) (a4 : Int)  : zWo Y p l e (zrm 4) s m args below meth c 7 0 0 (fun q : Int × zSt => MQ below (zQi Y q.1 q.2) args s 0 0 (zA Y)) g [(0, .ref (zad Y 0)), (1, .int (i32 a1)), (2, .int (i32 a2)), (3, .int (i32 a3)), (4, .int (i32 a4))] ([]) 0 (fX7_ifFault g a1 a2 a3 a4) := by
  unfold fX7_ifFault
  refine zr_aload_n (pc' := 1) cx rfl 0 dX7_ifFault_0 rfl rfl ?_
  refine zr_iload_n (pc' := 2) cx rfl 1 dX7_ifFault_1 rfl rfl ?_
  refine zc_X7_54 (pc' := 5) cx rfl  ⟨Nat.le_of_ble_eq_true rfl, Nat.le_of_ble_eq_true rfl⟩ ⟨Nat.zero_le _, Nat.zero_le _⟩ (Nat.le_of_ble_eq_true rfl) dX7_ifFault_2 (fun v1 => ?_)
  refine zr_if_eq (pc' := 8) cx rfl (tgt := 15) dX7_ifFault_5 rfl ?_ ?_
  · exact zr_none
  · refine zr_iload_n (pc' := 9) cx rfl 2 dX7_ifFault_8 rfl rfl ?_
    refine zc_X7_118 (pc' := 12) cx rfl  ⟨Nat.le_of_ble_eq_true rfl, Nat.le_of_ble_eq_true rfl⟩ ⟨Nat.zero_le _, Nat.zero_le _⟩ (Nat.le_of_ble_eq_true rfl) dX7_ifFault_9 (fun v2 => ?_)
    refine zr_if_ne (pc' := 15) cx rfl (tgt := 25) dX7_ifFault_12 rfl ?_ ?_
    · refine zr_iload_n (pc' := 26) cx rfl 3 dX7_ifFault_25 rfl rfl ?_
      refine zc_X7_170 (pc' := 29) cx rfl  ⟨Nat.le_of_ble_eq_true rfl, Nat.le_of_ble_eq_true rfl⟩ ⟨Nat.zero_le _, Nat.zero_le _⟩ (Nat.le_of_ble_eq_true rfl) dX7_ifFault_26 (fun v3 => ?_)
      refine zr_if_eq (pc' := 32) cx rfl (tgt := 43) dX7_ifFault_29 rfl ?_ ?_
      · exact zr_none
      · refine zr_iload (pc' := 34) cx rfl 4 dX7_ifFault_32 rfl ?_
        refine zr_if_lt (pc' := 37) cx rfl (tgt := 43) dX7_ifFault_34 rfl ?_ ?_
        · exact zr_none
        · refine zr_iload (pc' := 39) cx rfl 4 dX7_ifFault_37 rfl ?_
          refine zr_iconst (pc' := 40) cx rfl dX7_ifFault_39 ?_
          refine zr_icmp_lt (pc' := 43) cx rfl (tgt := 54) dX7_ifFault_40 rfl ?_ ?_
          · refine zr_aload_n (pc' := 55) cx rfl 0 dX7_ifFault_54 rfl rfl ?_
            refine zg_X7_23 (pc' := 58) cx rfl zkc_0 dX7_ifFault_55 ?_
            refine zr_aload_n (pc' := 59) cx rfl 0 dX7_ifFault_58 rfl rfl ?_
            refine zg_X7_12 (pc' := 62) cx rfl zkc_0 dX7_ifFault_59 ?_
            refine zc_X7_283 (pc' := 65) cx rfl zkc_30 zkc_10 ⟨Nat.le_of_ble_eq_true rfl, Nat.le_of_ble_eq_true rfl⟩ ⟨Nat.zero_le _, Nat.zero_le _⟩ (Nat.le_of_ble_eq_true rfl) dX7_ifFault_62 (fun g4 => ?_)
            refine zr_aload_n (pc' := 66) cx rfl 0 dX7_ifFault_65 rfl rfl ?_
            refine zg_X7_23 (pc' := 69) cx rfl zkc_0 dX7_ifFault_66 ?_
            refine zg_X7_175 (pc' := 72) cx rfl (c2 := 41) zkc_30 rfl dX7_ifFault_69 ?_
            refine zr_iload_n (pc' := 73) cx rfl 1 dX7_ifFault_72 rfl rfl ?_
            refine zr_iload_n (pc' := 74) cx rfl 2 dX7_ifFault_73 rfl rfl ?_
            refine zr_iload_n (pc' := 75) cx rfl 3 dX7_ifFault_74 rfl rfl ?_
            refine zc_X7_184 (pc' := 78) cx rfl zkc_41 ⟨Nat.le_of_ble_eq_true rfl, Nat.le_of_ble_eq_true rfl⟩ ⟨Nat.zero_le _, Nat.zero_le _⟩ (Nat.le_of_ble_eq_true rfl) dX7_ifFault_75 (fun g5 => ?_)
            refine zr_aload_n (pc' := 79) cx rfl 0 dX7_ifFault_78 rfl rfl ?_
            refine zg_X7_26 (pc' := 82) cx rfl zkc_0 dX7_ifFault_79 ?_
            refine zr_aload_n (pc' := 83) cx rfl 0 dX7_ifFault_82 rfl rfl ?_
            refine zg_X7_23 (pc' := 86) cx rfl zkc_0 dX7_ifFault_83 ?_
            refine zc_X7_239 (pc' := 89) cx rfl zkc_220 zkc_30 ⟨Nat.le_of_ble_eq_true rfl, Nat.le_of_ble_eq_true rfl⟩ ⟨Nat.zero_le _, Nat.zero_le _⟩ (Nat.le_of_ble_eq_true rfl) dX7_ifFault_86 (fun g6 => ?_)
            refine zr_aload_n (pc' := 90) cx rfl 0 dX7_ifFault_89 rfl rfl ?_
            refine zg_X7_26 (pc' := 93) cx rfl zkc_0 dX7_ifFault_90 ?_
            refine zr_aload_n (pc' := 94) cx rfl 0 dX7_ifFault_93 rfl rfl ?_
            refine zg_X7_23 (pc' := 97) cx rfl zkc_0 dX7_ifFault_94 ?_
            refine zg_X7_73 (pc' := 100) cx rfl (c2 := 31) zkc_30 rfl dX7_ifFault_97 ?_
            refine zc_X7_286 (pc' := 103) cx rfl zkc_220 zkc_31 ⟨Nat.le_of_ble_eq_true rfl, Nat.le_of_ble_eq_true rfl⟩ ⟨Nat.zero_le _, Nat.zero_le _⟩ (Nat.le_of_ble_eq_true rfl) dX7_ifFault_100 (fun v7 => ?_)
            refine zr_istore (pc' := 105) cx rfl (lv' := [(5, .int (i32 v7)), (0, .ref (zad Y 0)), (1, .int (i32 a1)), (2, .int (i32 a2)), (3, .int (i32 a3)), (4, .int (i32 a4))]) dX7_ifFault_103 (by decide) rfl ?_
            refine zr_aload_n (pc' := 106) cx rfl 1 dX7_ifFault_105 rfl rfl ?_
            refine zg_X7_23 (pc' := 109) cx rfl zkc_0 dX7_ifFault_106 ?_
            refine zr_aload_n (pc' := 110) cx rfl 1 dX7_ifFault_109 rfl rfl ?_
            refine zg_X7_26 (pc' := 113) cx rfl zkc_0 dX7_ifFault_110 ?_
            refine zc_X7_95 (pc' := 116) cx rfl zkc_30 zkc_220 ⟨Nat.le_of_ble_eq_true rfl, Nat.le_of_ble_eq_true rfl⟩ ⟨Nat.zero_le _, Nat.zero_le _⟩ (Nat.le_of_ble_eq_true rfl) dX7_ifFault_113 (fun v8 g9 => ?_)
            refine zr_istore (pc' := 118) cx rfl (lv' := [(6, .int (i32 v8)), (5, .int (i32 v7)), (0, .ref (zad Y 0)), (1, .int (i32 a1)), (2, .int (i32 a2)), (3, .int (i32 a3)), (4, .int (i32 a4))]) dX7_ifFault_116 (by decide) rfl ?_
            refine zr_iload (pc' := 120) cx rfl 6 dX7_ifFault_118 rfl ?_
            refine zr_case (fun h => ?_) (fun n0 => ?_)
            · refine zr_tabIn cx (off := 28) (tgt := 148) dX7_ifFault_120 (v := 0) (by rw [h]; decide +kernel) (by decide) rfl rfl ?_
              refine zr_iload (pc' := 150) cx rfl 0 dX7_ifFault_148 rfl ?_
              exact zr_iretE cx dX7_ifFault_150
            · refine zr_case (fun h => ?_) (fun n1 => ?_)
              · refine zr_tabIn cx (off := 31) (tgt := 151) dX7_ifFault_120 (v := 1) (by rw [h]; decide +kernel) (by decide) rfl rfl ?_
                refine zr_aload_n (pc' := 152) cx rfl 2 dX7_ifFault_151 rfl rfl ?_
                refine zg_X7_26 (pc' := 155) cx rfl zkc_0 dX7_ifFault_152 ?_
                refine zg_X7_115 (pc' := 158) cx rfl zkc_220 dX7_ifFault_155 ?_
                exact zr_iretE cx dX7_ifFault_158
              · refine zr_case (fun h => ?_) (fun n2 => ?_)
                · refine zr_tabIn cx (off := 39) (tgt := 159) dX7_ifFault_120 (v := 2) (by rw [h]; decide +kernel) (by decide) rfl rfl ?_
                  refine zr_aload_n (pc' := 160) cx rfl 2 dX7_ifFault_159 rfl rfl ?_
                  refine zg_X7_26 (pc' := 163) cx rfl zkc_0 dX7_ifFault_160 ?_
                  refine zg_X7_213 (pc' := 166) cx rfl zkc_220 dX7_ifFault_163 ?_
                  exact zr_iretE cx dX7_ifFault_166
                · refine zr_tabOut cx (tgt := 167) dX7_ifFault_120 (by have := zne n0 (k := 0) (by decide +kernel); have := zne n1 (k := 1) (by decide +kernel); have := zne n2 (k := 2) (by decide +kernel); omega) rfl ?_
                  refine zr_iload (pc' := 169) cx rfl 1 dX7_ifFault_167 rfl ?_
                  refine zr_iconst (pc' := 170) cx rfl dX7_ifFault_169 ?_
                  refine zr_icmp_ne (pc' := 173) cx rfl (tgt := 177) dX7_ifFault_170 rfl ?_ ?_
                  · refine zr_bipush (pc' := 179) cx rfl dX7_ifFault_177 (by decide +kernel) ?_
                    refine zr_iload (pc' := 181) cx rfl 1 dX7_ifFault_179 rfl ?_
                    refine zr_iconst (pc' := 182) cx rfl dX7_ifFault_181 ?_
                    refine zr_ishr (pc' := 183) cx rfl dX7_ifFault_182 ?_
                    refine zr_imul (pc' := 184) cx rfl dX7_ifFault_183 ?_
                    refine zr_bipush (pc' := 186) cx rfl dX7_ifFault_184 (by decide +kernel) ?_
                    refine zr_iload (pc' := 188) cx rfl 1 dX7_ifFault_186 rfl ?_
                    refine zr_iconst (pc' := 189) cx rfl dX7_ifFault_188 ?_
                    refine zr_iand (pc' := 190) cx rfl dX7_ifFault_189 ?_
                    refine zr_imul (pc' := 191) cx rfl dX7_ifFault_190 ?_
                    refine zr_iadd (pc' := 192) cx rfl dX7_ifFault_191 ?_
                    exact zr_iretE cx dX7_ifFault_192
                  · refine zr_iconst (pc' := 174) cx rfl dX7_ifFault_173 ?_
                    refine zr_gotoS cx (tgt := 192) dX7_ifFault_174 rfl ?_
                    exact zr_iretE cx dX7_ifFault_192
          · exact zr_none
    · exact zr_none
theorem mX7_ifFault (l : Launch) (Y : zLy) (g : zSt) (a1 : Int) (a2 : Int) (a3 : Int) (a4 : Int)  : ∀ v g2, fX7_ifFault g a1 a2 a3 a4 = some (v, g2) → zMt l yX7_ifFault cX7_ifFault 7 (some .int) 4 [.ref (zad Y 0), .int (i32 a1), .int (i32 a2), .int (i32 a3), .int (i32 a4)] Y g (zQi Y v g2) := by
  intro v g2 hv
  refine zmet_of RX7 rfl (by decide +kernel) (Nat.le_of_ble_eq_true rfl) ?_
  intro p e s m below meth c cx H locs ls hH hS hl
  exact wX7_ifFault cx g a1 a2 a3 a4  (v, g2) hv H locs ls hH hS hl
theorem zc_L_58 (cx : zCx Y p s m args meth c RL cc nl ret) (hpc : pc + 3 = pc') {g : zSt} {a1 : Int} {a2 : Int} {a3 : Int} {a4 : Int}  {fk : Int → zSt → Option ρ} (hR : 4 + 1 ≤ R.frames ∧ 8 + (7 + 11) + 40 * 4 ≤ R.locals) (hkn : k ≤ R.cells ∧ n ≤ R.slots) (hrest : (rest.map fun v => v.category).sum ≤ 8) (hdg : decode cc pc = .ok (.invokevirtual 58, 3)) (kk : ∀ (v : Int) (g2 : zSt), zWo Y p l e R s m args below meth c nl k n kq g2 lv (.int (i32 v) :: rest) pc' (fk v g2)) : zWo Y p l e R s m args below meth c nl k n kq g lv (.int (i32 a4) :: .int (i32 a3) :: .int (i32 a2) :: .int (i32 a1) :: .ref (zad Y 0) :: rest) pc (zbe (fX7_ifFault g a1 a2 a3 a4) fk) := zr_callViE cx (an := 4) (As := [.int (i32 a1), .int (i32 a2), .int (i32 a3), .int (i32 a4)]) 8 zkc_0 (by decide) rfl (mX7_ifFault l Y g a1 a2 a3 a4) (zG_V zw_520 zw_521 zw_522 zw_26 zw_523) (by decide +kernel) hR hkn rfl rfl hrest hdg hpc kk
def fX7_ifToggled (g : zSt) (a1 : Int) : Option (Int × zSt) :=
    zbd (fX7_isFedBox g a1) (fun v1 =>
    (if i32 v1 = i32 0 then
    none
    else
    zbe (fX7_burningIfToggled g a1) (fun v2 g3 =>
    some (v2, g3))))
theorem wX7_ifToggled (cx : zCx Y p s m args meth c RX7 cX7_ifToggled 2 (some .int)) (g : zSt) (a1 : Int)  : zWo Y p l e (zrm 5) s m args below meth c 2 0 0 (fun q : Int × zSt => MQ below (zQi Y q.1 q.2) args s 0 0 (zA Y)) g [(0, .ref (zad Y 0)), (1, .int (i32 a1))] ([]) 0 (fX7_ifToggled g a1) := by
  unfold fX7_ifToggled
  refine zr_aload_n (pc' := 1) cx rfl 0 dX7_ifToggled_0 rfl rfl ?_
  refine zr_iload_n (pc' := 2) cx rfl 1 dX7_ifToggled_1 rfl rfl ?_
  refine zc_X7_99 (pc' := 5) cx rfl  ⟨Nat.le_of_ble_eq_true rfl, Nat.le_of_ble_eq_true rfl⟩ ⟨Nat.zero_le _, Nat.zero_le _⟩ (Nat.le_of_ble_eq_true rfl) dX7_ifToggled_2 (fun v1 => ?_)
  refine zr_if_ne (pc' := 8) cx rfl (tgt := 18) dX7_ifToggled_5 rfl ?_ ?_
  · refine zr_aload_n (pc' := 19) cx rfl 0 dX7_ifToggled_18 rfl rfl ?_
    refine zr_iload_n (pc' := 20) cx rfl 1 dX7_ifToggled_19 rfl rfl ?_
    refine zc_X7_290 (pc' := 23) cx rfl  ⟨Nat.le_of_ble_eq_true rfl, Nat.le_of_ble_eq_true rfl⟩ ⟨Nat.zero_le _, Nat.zero_le _⟩ (Nat.le_of_ble_eq_true rfl) dX7_ifToggled_20 (fun v2 g3 => ?_)
    exact zr_iretE cx dX7_ifToggled_23
  · exact zr_none
theorem mX7_ifToggled (l : Launch) (Y : zLy) (g : zSt) (a1 : Int)  : ∀ v g2, fX7_ifToggled g a1 = some (v, g2) → zMt l yX7_ifToggled cX7_ifToggled 2 (some .int) 5 [.ref (zad Y 0), .int (i32 a1)] Y g (zQi Y v g2) := by
  intro v g2 hv
  refine zmet_of RX7 rfl (by decide +kernel) (Nat.le_of_ble_eq_true rfl) ?_
  intro p e s m below meth c cx H locs ls hH hS hl
  exact wX7_ifToggled cx g a1  (v, g2) hv H locs ls hH hS hl
theorem zc_L_62 (cx : zCx Y p s m args meth c RL cc nl ret) (hpc : pc + 3 = pc') {g : zSt} {a1 : Int}  {fk : Int → zSt → Option ρ} (hR : 5 + 1 ≤ R.frames ∧ 8 + (2 + 11) + 40 * 5 ≤ R.locals) (hkn : k ≤ R.cells ∧ n ≤ R.slots) (hrest : (rest.map fun v => v.category).sum ≤ 8) (hdg : decode cc pc = .ok (.invokevirtual 62, 3)) (kk : ∀ (v : Int) (g2 : zSt), zWo Y p l e R s m args below meth c nl k n kq g2 lv (.int (i32 v) :: rest) pc' (fk v g2)) : zWo Y p l e R s m args below meth c nl k n kq g lv (.int (i32 a1) :: .ref (zad Y 0) :: rest) pc (zbe (fX7_ifToggled g a1) fk) := zr_callViE cx (an := 1) (As := [.int (i32 a1)]) 8 zkc_0 (by decide) rfl (mX7_ifToggled l Y g a1) (zG_V zw_596 zw_597 zw_598 zw_26 zw_599) (by decide +kernel) hR hkn rfl rfl hrest hdg hpc kk
def fX7_neededRating (g : zSt) (a1 : Int) (a2 : Int) : Option (Int × zSt) :=
    zbd (fX7_isFedBox g a1) (fun v1 =>
    (if i32 v1 = i32 0 then
    none
    else
    zbd (fX7_isTerminal g a2) (fun v2 =>
    (if i32 v2 = i32 0 then
    none
    else
    zbd (fX7_surveyWithWholeFuses g) (fun g3 =>
    zbd (fX6_current g3 240 ((2 * a1) + a2)) (fun v4 =>
    some (v4, g3)))))))
theorem wX7_neededRating (cx : zCx Y p s m args meth c RX7 cX7_neededRating 3 (some .int)) (g : zSt) (a1 : Int) (a2 : Int)  : zWo Y p l e (zrm 4) s m args below meth c 3 0 0 (fun q : Int × zSt => MQ below (zQi Y q.1 q.2) args s 0 0 (zA Y)) g [(0, .ref (zad Y 0)), (1, .int (i32 a1)), (2, .int (i32 a2))] ([]) 0 (fX7_neededRating g a1 a2) := by
  unfold fX7_neededRating
  refine zr_aload_n (pc' := 1) cx rfl 0 dX7_neededRating_0 rfl rfl ?_
  refine zr_iload_n (pc' := 2) cx rfl 1 dX7_neededRating_1 rfl rfl ?_
  refine zc_X7_99 (pc' := 5) cx rfl  ⟨Nat.le_of_ble_eq_true rfl, Nat.le_of_ble_eq_true rfl⟩ ⟨Nat.zero_le _, Nat.zero_le _⟩ (Nat.le_of_ble_eq_true rfl) dX7_neededRating_2 (fun v1 => ?_)
  refine zr_if_eq (pc' := 8) cx rfl (tgt := 15) dX7_neededRating_5 rfl ?_ ?_
  · exact zr_none
  · refine zr_iload_n (pc' := 9) cx rfl 2 dX7_neededRating_8 rfl rfl ?_
    refine zc_X7_118 (pc' := 12) cx rfl  ⟨Nat.le_of_ble_eq_true rfl, Nat.le_of_ble_eq_true rfl⟩ ⟨Nat.zero_le _, Nat.zero_le _⟩ (Nat.le_of_ble_eq_true rfl) dX7_neededRating_9 (fun v2 => ?_)
    refine zr_if_ne (pc' := 15) cx rfl (tgt := 25) dX7_neededRating_12 rfl ?_ ?_
    · refine zr_aload_n (pc' := 26) cx rfl 0 dX7_neededRating_25 rfl rfl ?_
      refine zc_X7_293 (pc' := 29) cx rfl  ⟨Nat.le_of_ble_eq_true rfl, Nat.le_of_ble_eq_true rfl⟩ ⟨Nat.zero_le _, Nat.zero_le _⟩ (Nat.le_of_ble_eq_true rfl) dX7_neededRating_26 (fun g3 => ?_)
      refine zr_aload_n (pc' := 30) cx rfl 0 dX7_neededRating_29 rfl rfl ?_
      refine zg_X7_29 (pc' := 33) cx rfl zkc_0 dX7_neededRating_30 ?_
      refine zr_iconst (pc' := 34) cx rfl dX7_neededRating_33 ?_
      refine zr_iload_n (pc' := 35) cx rfl 1 dX7_neededRating_34 rfl rfl ?_
      refine zr_imul (pc' := 36) cx rfl dX7_neededRating_35 ?_
      refine zr_iload_n (pc' := 37) cx rfl 2 dX7_neededRating_36 rfl rfl ?_
      refine zr_iadd (pc' := 38) cx rfl dX7_neededRating_37 ?_
      refine zc_X7_296 (pc' := 41) cx rfl zkc_240 ⟨Nat.le_of_ble_eq_true rfl, Nat.le_of_ble_eq_true rfl⟩ ⟨Nat.zero_le _, Nat.zero_le _⟩ (Nat.le_of_ble_eq_true rfl) dX7_neededRating_38 (fun v4 => ?_)
      exact zr_iretE cx dX7_neededRating_41
    · exact zr_none
theorem mX7_neededRating (l : Launch) (Y : zLy) (g : zSt) (a1 : Int) (a2 : Int)  : ∀ v g2, fX7_neededRating g a1 a2 = some (v, g2) → zMt l yX7_neededRating cX7_neededRating 3 (some .int) 4 [.ref (zad Y 0), .int (i32 a1), .int (i32 a2)] Y g (zQi Y v g2) := by
  intro v g2 hv
  refine zmet_of RX7 rfl (by decide +kernel) (Nat.le_of_ble_eq_true rfl) ?_
  intro p e s m below meth c cx H locs ls hH hS hl
  exact wX7_neededRating cx g a1 a2  (v, g2) hv H locs ls hH hS hl
theorem zc_L_65 (cx : zCx Y p s m args meth c RL cc nl ret) (hpc : pc + 3 = pc') {g : zSt} {a1 : Int} {a2 : Int}  {fk : Int → zSt → Option ρ} (hR : 4 + 1 ≤ R.frames ∧ 8 + (3 + 11) + 40 * 4 ≤ R.locals) (hkn : k ≤ R.cells ∧ n ≤ R.slots) (hrest : (rest.map fun v => v.category).sum ≤ 8) (hdg : decode cc pc = .ok (.invokevirtual 65, 3)) (kk : ∀ (v : Int) (g2 : zSt), zWo Y p l e R s m args below meth c nl k n kq g2 lv (.int (i32 v) :: rest) pc' (fk v g2)) : zWo Y p l e R s m args below meth c nl k n kq g lv (.int (i32 a2) :: .int (i32 a1) :: .ref (zad Y 0) :: rest) pc (zbe (fX7_neededRating g a1 a2) fk) := zr_callViE cx (an := 2) (As := [.int (i32 a1), .int (i32 a2)]) 8 zkc_0 (by decide) rfl (mX7_neededRating l Y g a1 a2) (zG_V zw_609 zw_610 zw_611 zw_26 zw_612) (by decide +kernel) hR hkn rfl rfl hrest hdg hpc kk
end ZmX7t
