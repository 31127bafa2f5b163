section ZmX8a
variable {ρ : Type} {Y : zLy} {p : Program} {l : Launch} {e : Env} {R : Room} {s : State} {m : MethodId} {args : Array Value} {below : List Frame} {meth : Method} {c : Code} {nl k n : Nat} {kq : ρ → State → Prop} {lv : List (Nat × Value)} {rest : List Value} {pc pc' : Nat} {cc : ByteArray} {ret : Option FieldType}
def fX8_thrown (g : zSt) : Option Int :=
    some (g.1 400 0)
theorem wX8_thrown (cx : zCx Y p s m args meth c RX8 cX8_thrown 1 (some .int)) (g : zSt)  : zWo Y p l e (zrm 0) s m args below meth c 1 0 0 (fun v : Int => MQ below (zQi Y v g) args s 0 0 (zA Y)) g [(0, .ref (zad Y 400))] ([]) 0 (fX8_thrown g) := by
  unfold fX8_thrown
  refine zr_aload_n (pc' := 1) cx rfl 0 dX8_thrown_0 rfl rfl ?_
  refine zg_X8_25 (pc' := 4) cx rfl zkc_400 dX8_thrown_1 ?_
  exact zr_iretP cx dX8_thrown_4
theorem mX8_thrown (l : Launch) (Y : zLy) (g : zSt)  : ∀ v, fX8_thrown g = some v → zMt l yX8_thrown cX8_thrown 1 (some .int) 0 [.ref (zad Y 400)] Y g (zQi Y v g) := by
  intro v hv
  refine zmet_of RX8 rfl (by decide +kernel) (Nat.le_of_ble_eq_true rfl) ?_
  intro p e s m below meth c cx H locs ls hH hS hl
  exact wX8_thrown cx g   v hv H locs ls hH hS hl
def fX8_within (g : zSt) (a0 : Int) (a1 : Int) (a2 : Int) : Option Int :=
    (if i32 a0 < i32 a1 then
    zck ((0 : Int) = 0 ∨ (0 : Int) = 1) (some 0)
    else
    (if i32 a2 < i32 a0 then
    zck ((0 : Int) = 0 ∨ (0 : Int) = 1) (some 0)
    else
    zck ((1 : Int) = 0 ∨ (1 : Int) = 1) (some 1)))
theorem wX8_within (cx : zCx Y p s m args meth c RX8 cX8_within 3 (some .boolean)) (g : zSt) (a0 : Int) (a1 : Int) (a2 : Int)  : zWo Y p l e (zrm 0) s m args below meth c 3 0 0 (fun v : Int => MQ below (zQi Y v g) args s 0 0 (zA Y)) g [(0, .int (i32 a0)), (1, .int (i32 a1)), (2, .int (i32 a2))] ([]) 0 (fX8_within g a0 a1 a2) := by
  unfold fX8_within
  refine zr_iload_n (pc' := 1) cx rfl 0 dX8_within_0 rfl rfl ?_
  refine zr_iload_n (pc' := 2) cx rfl 1 dX8_within_1 rfl rfl ?_
  refine zr_icmp_lt (pc' := 5) cx rfl (tgt := 14) dX8_within_2 rfl ?_ ?_
  · refine zr_iconst (pc' := 15) cx rfl dX8_within_14 ?_
    exact zr_zretP cx dX8_within_15
  · refine zr_iload_n (pc' := 6) cx rfl 0 dX8_within_5 rfl rfl ?_
    refine zr_iload_n (pc' := 7) cx rfl 2 dX8_within_6 rfl rfl ?_
    refine zr_icmp_gt (pc' := 10) cx rfl (tgt := 14) dX8_within_7 rfl ?_ ?_
    · refine zr_iconst (pc' := 15) cx rfl dX8_within_14 ?_
      exact zr_zretP cx dX8_within_15
    · refine zr_iconst (pc' := 11) cx rfl dX8_within_10 ?_
      refine zr_gotoS cx (tgt := 15) dX8_within_11 rfl ?_
      exact zr_zretP cx dX8_within_15
theorem mX8_within (l : Launch) (Y : zLy) (g : zSt) (a0 : Int) (a1 : Int) (a2 : Int)  : ∀ v, fX8_within g a0 a1 a2 = some v → zMt l yX8_within cX8_within 3 (some .boolean) 0 [.int (i32 a0), .int (i32 a1), .int (i32 a2)] Y g (zQi Y v g) := by
  intro v hv
  refine zmet_of RX8 rfl (by decide +kernel) (Nat.le_of_ble_eq_true rfl) ?_
  intro p e s m below meth c cx H locs ls hH hS hl
  exact wX8_within cx g a0 a1 a2  v hv H locs ls hH hS hl
theorem zc_X8_29 (cx : zCx Y p s m args meth c RX8 cc nl ret) (hpc : pc + 3 = pc') {g : zSt} {a0 : Int} {a1 : Int} {a2 : Int}  {fk : Int → Option ρ} (hR : 0 + 1 ≤ R.frames ∧ 8 + (3 + 11) + 40 * 0 ≤ R.locals) (hkn : k ≤ R.cells ∧ n ≤ R.slots) (hrest : (rest.map fun v => v.category).sum ≤ 8) (hdg : decode cc pc = .ok (.invokestatic 29, 3)) (kk : ∀ v : Int, zWo Y p l e R s m args below meth c nl k n kq g lv (.int (i32 v) :: rest) pc' (fk v)) : zWo Y p l e R s m args below meth c nl k n kq g lv (.int (i32 a2) :: .int (i32 a1) :: .int (i32 a0) :: rest) pc (zbd (fX8_within g a0 a1 a2) fk) := zr_callSiP cx (an := 3) (As := [.int (i32 a0), .int (i32 a1), .int (i32 a2)])  (mX8_within l Y g a0 a1 a2) (zG_S zw_1032 zw_1033 zw_109 zw_1034) (by decide +kernel) hR hkn rfl rfl hrest hdg hpc kk
def fX8_ofBox (g : zSt) (a1 : Int) (a2 : Int) : Option Int :=
    zck ((0 : Int) ≤ ((1 + (7 * a1)) + a2) ∧ ((1 + (7 * a1)) + a2) < 168) (
    some (g.1 401 (Int.toNat ((1 + (7 * a1)) + a2))))
theorem wX8_ofBox (cx : zCx Y p s m args meth c RX8 cX8_ofBox 3 (some .int)) (g : zSt) (a1 : Int) (a2 : Int)  : zWo Y p l e (zrm 0) s m args below meth c 3 0 0 (fun v : Int => MQ below (zQi Y v g) args s 0 0 (zA Y)) g [(0, .ref (zad Y 400)), (1, .int (i32 a1)), (2, .int (i32 a2))] ([]) 0 (fX8_ofBox g a1 a2) := by
  unfold fX8_ofBox
  refine zr_aload_n (pc' := 1) cx rfl 0 dX8_ofBox_0 rfl rfl ?_
  refine zg_X8_7 (pc' := 4) cx rfl zkc_400 dX8_ofBox_1 ?_
  refine zr_iconst (pc' := 5) cx rfl dX8_ofBox_4 ?_
  refine zr_bipush (pc' := 7) cx rfl dX8_ofBox_5 (by decide +kernel) ?_
  refine zr_iload_n (pc' := 8) cx rfl 1 dX8_ofBox_7 rfl rfl ?_
  refine zr_imul (pc' := 9) cx rfl dX8_ofBox_8 ?_
  refine zr_iadd (pc' := 10) cx rfl dX8_ofBox_9 ?_
  refine zr_iload_n (pc' := 11) cx rfl 2 dX8_ofBox_10 rfl rfl ?_
  refine zr_iadd (pc' := 12) cx rfl dX8_ofBox_11 ?_
  refine zr_iald (pc' := 13) cx rfl 16 zkc_401 (by decide) (L := 168) rfl dX8_ofBox_12 ?_
  exact zr_iretP cx dX8_ofBox_13
theorem mX8_ofBox (l : Launch) (Y : zLy) (g : zSt) (a1 : Int) (a2 : Int)  : ∀ v, fX8_ofBox g a1 a2 = some v → zMt l yX8_ofBox cX8_ofBox 3 (some .int) 0 [.ref (zad Y 400), .int (i32 a1), .int (i32 a2)] Y g (zQi Y v g) := by
  intro v hv
  refine zmet_of RX8 rfl (by decide +kernel) (Nat.le_of_ble_eq_true rfl) ?_
  intro p e s m below meth c cx H locs ls hH hS hl
  exact wX8_ofBox cx g a1 a2  v hv H locs ls hH hS hl
theorem zc_X8_33 (cx : zCx Y p s m args meth c RX8 cc nl ret) (hpc : pc + 3 = pc') {g : zSt} {a1 : Int} {a2 : Int}  {fk : Int → Option ρ} (hR : 0 + 1 ≤ R.frames ∧ 8 + (3 + 11) + 40 * 0 ≤ R.locals) (hkn : k ≤ R.cells ∧ n ≤ R.slots) (hrest : (rest.map fun v => v.category).sum ≤ 8) (hdg : decode cc pc = .ok (.invokevirtual 33, 3)) (kk : ∀ v : Int, zWo Y p l e R s m args below meth c nl k n kq g lv (.int (i32 v) :: rest) pc' (fk v)) : zWo Y p l e R s m args below meth c nl k n kq g lv (.int (i32 a2) :: .int (i32 a1) :: .ref (zad Y 400) :: rest) pc (zbd (fX8_ofBox g a1 a2) fk) := zr_callViP cx (an := 2) (As := [.int (i32 a1), .int (i32 a2)]) 9 zkc_400 (by decide) rfl (mX8_ofBox l Y g a1 a2) (zG_V zw_1066 zw_1068 zw_47 zw_109 zw_1069) (by decide +kernel) hR hkn rfl rfl hrest hdg hpc kk
def fX8_ofLantern (g : zSt) (a1 : Int) (a2 : Int) : Option Int :=
    zck ((0 : Int) ≤ ((86 + (3 * a1)) + a2) ∧ ((86 + (3 * a1)) + a2) < 168) (
    some (g.1 401 (Int.toNat ((86 + (3 * a1)) + a2))))
theorem wX8_ofLantern (cx : zCx Y p s m args meth c RX8 cX8_ofLantern 3 (some .int)) (g : zSt) (a1 : Int) (a2 : Int)  : zWo Y p l e (zrm 0) s m args below meth c 3 0 0 (fun v : Int => MQ below (zQi Y v g) args s 0 0 (zA Y)) g [(0, .ref (zad Y 400)), (1, .int (i32 a1)), (2, .int (i32 a2))] ([]) 0 (fX8_ofLantern g a1 a2) := by
  unfold fX8_ofLantern
  refine zr_aload_n (pc' := 1) cx rfl 0 dX8_ofLantern_0 rfl rfl ?_
  refine zg_X8_7 (pc' := 4) cx rfl zkc_400 dX8_ofLantern_1 ?_
  refine zr_bipush (pc' := 6) cx rfl dX8_ofLantern_4 (by decide +kernel) ?_
  refine zr_iconst (pc' := 7) cx rfl dX8_ofLantern_6 ?_
  refine zr_iload_n (pc' := 8) cx rfl 1 dX8_ofLantern_7 rfl rfl ?_
  refine zr_imul (pc' := 9) cx rfl dX8_ofLantern_8 ?_
  refine zr_iadd (pc' := 10) cx rfl dX8_ofLantern_9 ?_
  refine zr_iload_n (pc' := 11) cx rfl 2 dX8_ofLantern_10 rfl rfl ?_
  refine zr_iadd (pc' := 12) cx rfl dX8_ofLantern_11 ?_
  refine zr_iald (pc' := 13) cx rfl 16 zkc_401 (by decide) (L := 168) rfl dX8_ofLantern_12 ?_
  exact zr_iretP cx dX8_ofLantern_13
theorem mX8_ofLantern (l : Launch) (Y : zLy) (g : zSt) (a1 : Int) (a2 : Int)  : ∀ v, fX8_ofLantern g a1 a2 = some v → zMt l yX8_ofLantern cX8_ofLantern 3 (some .int) 0 [.ref (zad Y 400), .int (i32 a1), .int (i32 a2)] Y g (zQi Y v g) := by
  intro v hv
  refine zmet_of RX8 rfl (by decide +kernel) (Nat.le_of_ble_eq_true rfl) ?_
  intro p e s m below meth c cx H locs ls hH hS hl
  exact wX8_ofLantern cx g a1 a2  v hv H locs ls hH hS hl
theorem zc_X8_48 (cx : zCx Y p s m args meth c RX8 cc nl ret) (hpc : pc + 3 = pc') {g : zSt} {a1 : Int} {a2 : Int}  {fk : Int → Option ρ} (hR : 0 + 1 ≤ R.frames ∧ 8 + (3 + 11) + 40 * 0 ≤ R.locals) (hkn : k ≤ R.cells ∧ n ≤ R.slots) (hrest : (rest.map fun v => v.category).sum ≤ 8) (hdg : decode cc pc = .ok (.invokevirtual 48, 3)) (kk : ∀ v : Int, zWo Y p l e R s m args below meth c nl k n kq g lv (.int (i32 v) :: rest) pc' (fk v)) : zWo Y p l e R s m args below meth c nl k n kq g lv (.int (i32 a2) :: .int (i32 a1) :: .ref (zad Y 400) :: rest) pc (zbd (fX8_ofLantern g a1 a2) fk) := zr_callViP cx (an := 2) (As := [.int (i32 a1), .int (i32 a2)]) 9 zkc_400 (by decide) rfl (mX8_ofLantern l Y g a1 a2) (zG_V zw_1082 zw_1084 zw_51 zw_109 zw_1085) (by decide +kernel) hR hkn rfl rfl hrest hdg hpc kk
def fX8_ofFault (g : zSt) (a1 : Int) (a2 : Int) : Option Int :=
    zck ((0 : Int) ≤ ((135 + (3 * a1)) + a2) ∧ ((135 + (3 * a1)) + a2) < 168) (
    some (g.1 401 (Int.toNat ((135 + (3 * a1)) + a2))))
theorem wX8_ofFault (cx : zCx Y p s m args meth c RX8 cX8_ofFault 3 (some .int)) (g : zSt) (a1 : Int) (a2 : Int)  : zWo Y p l e (zrm 0) s m args below meth c 3 0 0 (fun v : Int => MQ below (zQi Y v g) args s 0 0 (zA Y)) g [(0, .ref (zad Y 400)), (1, .int (i32 a1)), (2, .int (i32 a2))] ([]) 0 (fX8_ofFault g a1 a2) := by
  unfold fX8_ofFault
  refine zr_aload_n (pc' := 1) cx rfl 0 dX8_ofFault_0 rfl rfl ?_
  refine zg_X8_7 (pc' := 4) cx rfl zkc_400 dX8_ofFault_1 ?_
  refine zr_sipush (pc' := 7) cx rfl dX8_ofFault_4 (by decide +kernel) ?_
  refine zr_iconst (pc' := 8) cx rfl dX8_ofFault_7 ?_
  refine zr_iload_n (pc' := 9) cx rfl 1 dX8_ofFault_8 rfl rfl ?_
  refine zr_imul (pc' := 10) cx rfl dX8_ofFault_9 ?_
  refine zr_iadd (pc' := 11) cx rfl dX8_ofFault_10 ?_
  refine zr_iload_n (pc' := 12) cx rfl 2 dX8_ofFault_11 rfl rfl ?_
  refine zr_iadd (pc' := 13) cx rfl dX8_ofFault_12 ?_
  refine zr_iald (pc' := 14) cx rfl 16 zkc_401 (by decide) (L := 168) rfl dX8_ofFault_13 ?_
  exact zr_iretP cx dX8_ofFault_14
theorem mX8_ofFault (l : Launch) (Y : zLy) (g : zSt) (a1 : Int) (a2 : Int)  : ∀ v, fX8_ofFault g a1 a2 = some v → zMt l yX8_ofFault cX8_ofFault 3 (some .int) 0 [.ref (zad Y 400), .int (i32 a1), .int (i32 a2)] Y g (zQi Y v g) := by
  intro v hv
  refine zmet_of RX8 rfl (by decide +kernel) (Nat.le_of_ble_eq_true rfl) ?_
  intro p e s m below meth c cx H locs ls hH hS hl
  exact wX8_ofFault cx g a1 a2  v hv H locs ls hH hS hl
theorem zc_X8_58 (cx : zCx Y p s m args meth c RX8 cc nl ret) (hpc : pc + 3 = pc') {g : zSt} {a1 : Int} {a2 : Int}  {fk : Int → Option ρ} (hR : 0 + 1 ≤ R.frames ∧ 8 + (3 + 11) + 40 * 0 ≤ R.locals) (hkn : k ≤ R.cells ∧ n ≤ R.slots) (hrest : (rest.map fun v => v.category).sum ≤ 8) (hdg : decode cc pc = .ok (.invokevirtual 58, 3)) (kk : ∀ v : Int, zWo Y p l e R s m args below meth c nl k n kq g lv (.int (i32 v) :: rest) pc' (fk v)) : zWo Y p l e R s m args below meth c nl k n kq g lv (.int (i32 a2) :: .int (i32 a1) :: .ref (zad Y 400) :: rest) pc (zbd (fX8_ofFault g a1 a2) fk) := zr_callViP cx (an := 2) (As := [.int (i32 a1), .int (i32 a2)]) 9 zkc_400 (by decide) rfl (mX8_ofFault l Y g a1 a2) (zG_V zw_1094 zw_1096 zw_54 zw_109 zw_1097) (by decide +kernel) hR hkn rfl rfl hrest hdg hpc kk
def fX8_isBox (g : zSt) (a1 : Int) : Option Int :=
    zck ((0 : Int) ≤ 0 ∧ 0 < 168) (
    zbd (fX8_within g a1 0 ((g.1 401 (Int.toNat 0)) - 1)) (fun v1 =>
    zck ((v1 : Int) = 0 ∨ (v1 : Int) = 1) (some v1)))
theorem wX8_isBox (cx : zCx Y p s m args meth c RX8 cX8_isBox 2 (some .boolean)) (g : zSt) (a1 : Int)  : zWo Y p l e (zrm 1) s m args below meth c 2 0 0 (fun v : Int => MQ below (zQi Y v g) args s 0 0 (zA Y)) g [(0, .ref (zad Y 400)), (1, .int (i32 a1))] ([]) 0 (fX8_isBox g a1) := by
  unfold fX8_isBox
  refine zr_iload_n (pc' := 1) cx rfl 1 dX8_isBox_0 rfl rfl ?_
  refine zr_iconst (pc' := 2) cx rfl dX8_isBox_1 ?_
  refine zr_aload_n (pc' := 3) cx rfl 0 dX8_isBox_2 rfl rfl ?_
  refine zg_X8_7 (pc' := 6) cx rfl zkc_400 dX8_isBox_3 ?_
  refine zr_iconst (pc' := 7) cx rfl dX8_isBox_6 ?_
  refine zr_iald (pc' := 8) cx rfl 16 zkc_401 (by decide) (L := 168) rfl dX8_isBox_7 ?_
  refine zr_iconst (pc' := 9) cx rfl dX8_isBox_8 ?_
  refine zr_isub (pc' := 10) cx rfl dX8_isBox_9 ?_
  refine zc_X8_29 (pc' := 13) cx rfl  ⟨Nat.le_of_ble_eq_true rfl, Nat.le_of_ble_eq_true rfl⟩ ⟨Nat.zero_le _, Nat.zero_le _⟩ (Nat.le_of_ble_eq_true rfl) dX8_isBox_10 (fun v1 => ?_)
  exact zr_zretP cx dX8_isBox_13
theorem mX8_isBox (l : Launch) (Y : zLy) (g : zSt) (a1 : Int)  : ∀ v, fX8_isBox g a1 = some v → zMt l yX8_isBox cX8_isBox 2 (some .boolean) 1 [.ref (zad Y 400), .int (i32 a1)] Y g (zQi Y v g) := by
  intro v hv
  refine zmet_of RX8 rfl (by decide +kernel) (Nat.le_of_ble_eq_true rfl) ?_
  intro p e s m below meth c cx H locs ls hH hS hl
  exact wX8_isBox cx g a1  v hv H locs ls hH hS hl
theorem zc_X8_105 (cx : zCx Y p s m args meth c RX8 cc nl ret) (hpc : pc + 3 = pc') {g : zSt} {a1 : Int}  {fk : Int → Option ρ} (hR : 1 + 1 ≤ R.frames ∧ 8 + (2 + 11) + 40 * 1 ≤ R.locals) (hkn : k ≤ R.cells ∧ n ≤ R.slots) (hrest : (rest.map fun v => v.category).sum ≤ 8) (hdg : decode cc pc = .ok (.invokevirtual 105, 3)) (kk : ∀ v : Int, zWo Y p l e R s m args below meth c nl k n kq g lv (.int (i32 v) :: rest) pc' (fk v)) : zWo Y p l e R s m args below meth c nl k n kq g lv (.int (i32 a1) :: .ref (zad Y 400) :: rest) pc (zbd (fX8_isBox g a1) fk) := zr_callViP cx (an := 1) (As := [.int (i32 a1)]) 9 zkc_400 (by decide) rfl (mX8_isBox l Y g a1) (zG_V zw_1028 zw_1030 zw_39 zw_109 zw_1031) (by decide +kernel) hR hkn rfl rfl hrest hdg hpc kk
def fX8_isFed (g : zSt) (a1 : Int) : Option Int :=
    zck ((0 : Int) ≤ 0 ∧ 0 < 168) (
    zbd (fX8_within g a1 1 ((g.1 401 (Int.toNat 0)) - 1)) (fun v1 =>
    zck ((v1 : Int) = 0 ∨ (v1 : Int) = 1) (some v1)))
theorem wX8_isFed (cx : zCx Y p s m args meth c RX8 cX8_isFed 2 (some .boolean)) (g : zSt) (a1 : Int)  : zWo Y p l e (zrm 1) s m args below meth c 2 0 0 (fun v : Int => MQ below (zQi Y v g) args s 0 0 (zA Y)) g [(0, .ref (zad Y 400)), (1, .int (i32 a1))] ([]) 0 (fX8_isFed g a1) := by
  unfold fX8_isFed
  refine zr_iload_n (pc' := 1) cx rfl 1 dX8_isFed_0 rfl rfl ?_
  refine zr_iconst (pc' := 2) cx rfl dX8_isFed_1 ?_
  refine zr_aload_n (pc' := 3) cx rfl 0 dX8_isFed_2 rfl rfl ?_
  refine zg_X8_7 (pc' := 6) cx rfl zkc_400 dX8_isFed_3 ?_
  refine zr_iconst (pc' := 7) cx rfl dX8_isFed_6 ?_
  refine zr_iald (pc' := 8) cx rfl 16 zkc_401 (by decide) (L := 168) rfl dX8_isFed_7 ?_
  refine zr_iconst (pc' := 9) cx rfl dX8_isFed_8 ?_
  refine zr_isub (pc' := 10) cx rfl dX8_isFed_9 ?_
  refine zc_X8_29 (pc' := 13) cx rfl  ⟨Nat.le_of_ble_eq_true rfl, Nat.le_of_ble_eq_true rfl⟩ ⟨Nat.zero_le _, Nat.zero_le _⟩ (Nat.le_of_ble_eq_true rfl) dX8_isFed_10 (fun v1 => ?_)
  exact zr_zretP cx dX8_isFed_13
theorem mX8_isFed (l : Launch) (Y : zLy) (g : zSt) (a1 : Int)  : ∀ v, fX8_isFed g a1 = some v → zMt l yX8_isFed cX8_isFed 2 (some .boolean) 1 [.ref (zad Y 400), .int (i32 a1)] Y g (zQi Y v g) := by
  intro v hv
  refine zmet_of RX8 rfl (by decide +kernel) (Nat.le_of_ble_eq_true rfl) ?_
  intro p e s m below meth c cx H locs ls hH hS hl
  exact wX8_isFed cx g a1  v hv H locs ls hH hS hl
theorem zc_X8_125 (cx : zCx Y p s m args meth c RX8 cc nl ret) (hpc : pc + 3 = pc') {g : zSt} {a1 : Int}  {fk : Int → Option ρ} (hR : 1 + 1 ≤ R.frames ∧ 8 + (2 + 11) + 40 * 1 ≤ R.locals) (hkn : k ≤ R.cells ∧ n ≤ R.slots) (hrest : (rest.map fun v => v.category).sum ≤ 8) (hdg : decode cc pc = .ok (.invokevirtual 125, 3)) (kk : ∀ v : Int, zWo Y p l e R s m args below meth c nl k n kq g lv (.int (i32 v) :: rest) pc' (fk v)) : zWo Y p l e R s m args below meth c nl k n kq g lv (.int (i32 a1) :: .ref (zad Y 400) :: rest) pc (zbd (fX8_isFed g a1) fk) := zr_callViP cx (an := 1) (As := [.int (i32 a1)]) 9 zkc_400 (by decide) rfl (mX8_isFed l Y g a1) (zG_V zw_1130 zw_1132 zw_62 zw_109 zw_1133) (by decide +kernel) hR hkn rfl rfl hrest hdg hpc kk
def fX8_isTerminal (g : zSt) (a0 : Int) : Option Int :=
    zbd (fX8_within g a0 0 1) (fun v1 =>
    zck ((v1 : Int) = 0 ∨ (v1 : Int) = 1) (some v1))
theorem wX8_isTerminal (cx : zCx Y p s m args meth c RX8 cX8_isTerminal 1 (some .boolean)) (g : zSt) (a0 : Int)  : zWo Y p l e (zrm 1) s m args below meth c 1 0 0 (fun v : Int => MQ below (zQi Y v g) args s 0 0 (zA Y)) g [(0, .int (i32 a0))] ([]) 0 (fX8_isTerminal g a0) := by
  unfold fX8_isTerminal
  refine zr_iload_n (pc' := 1) cx rfl 0 dX8_isTerminal_0 rfl rfl ?_
  refine zr_iconst (pc' := 2) cx rfl dX8_isTerminal_1 ?_
  refine zr_iconst (pc' := 3) cx rfl dX8_isTerminal_2 ?_
  refine zc_X8_29 (pc' := 6) cx rfl  ⟨Nat.le_of_ble_eq_true rfl, Nat.le_of_ble_eq_true rfl⟩ ⟨Nat.zero_le _, Nat.zero_le _⟩ (Nat.le_of_ble_eq_true rfl) dX8_isTerminal_3 (fun v1 => ?_)
  exact zr_zretP cx dX8_isTerminal_6
theorem mX8_isTerminal (l : Launch) (Y : zLy) (g : zSt) (a0 : Int)  : ∀ v, fX8_isTerminal g a0 = some v → zMt l yX8_isTerminal cX8_isTerminal 1 (some .boolean) 1 [.int (i32 a0)] Y g (zQi Y v g) := by
  intro v hv
  refine zmet_of RX8 rfl (by decide +kernel) (Nat.le_of_ble_eq_true rfl) ?_
  intro p e s m below meth c cx H locs ls hH hS hl
  exact wX8_isTerminal cx g a0  v hv H locs ls hH hS hl
theorem zc_X8_135 (cx : zCx Y p s m args meth c RX8 cc nl ret) (hpc : pc + 3 = pc') {g : zSt} {a0 : Int}  {fk : Int → Option ρ} (hR : 1 + 1 ≤ R.frames ∧ 8 + (1 + 11) + 40 * 1 ≤ R.locals) (hkn : k ≤ R.cells ∧ n ≤ R.slots) (hrest : (rest.map fun v => v.category).sum ≤ 8) (hdg : decode cc pc = .ok (.invokestatic 135, 3)) (kk : ∀ v : Int, zWo Y p l e R s m args below meth c nl k n kq g lv (.int (i32 v) :: rest) pc' (fk v)) : zWo Y p l e R s m args below meth c nl k n kq g lv (.int (i32 a0) :: rest) pc (zbd (fX8_isTerminal g a0) fk) := zr_callSiP cx (an := 1) (As := [.int (i32 a0)])  (mX8_isTerminal l Y g a0) (zG_S zw_1150 zw_1151 zw_109 zw_1152) (by decide +kernel) hR hkn rfl rfl hrest hdg hpc kk
def fX8_above (g : zSt) (a1 : Int) (a2 : Int) : Option Int :=
    zbd (fX8_ofBox g a1 1) (fun v1 =>
    (if i32 v1 = i32 1 then
    some (1 - a2)
    else
    some a2))
theorem wX8_above (cx : zCx Y p s m args meth c RX8 cX8_above 3 (some .int)) (g : zSt) (a1 : Int) (a2 : Int)  : zWo Y p l e (zrm 1) s m args below meth c 3 0 0 (fun v : Int => MQ below (zQi Y v g) args s 0 0 (zA Y)) g [(0, .ref (zad Y 400)), (1, .int (i32 a1)), (2, .int (i32 a2))] ([]) 0 (fX8_above g a1 a2) := by
  unfold fX8_above
  refine zr_aload_n (pc' := 1) cx rfl 0 dX8_above_0 rfl rfl ?_
  refine zr_iload_n (pc' := 2) cx rfl 1 dX8_above_1 rfl rfl ?_
  refine zr_iconst (pc' := 3) cx rfl dX8_above_2 ?_
  refine zc_X8_33 (pc' := 6) cx rfl  ⟨Nat.le_of_ble_eq_true rfl, Nat.le_of_ble_eq_true rfl⟩ ⟨Nat.zero_le _, Nat.zero_le _⟩ (Nat.le_of_ble_eq_true rfl) dX8_above_3 (fun v1 => ?_)
  refine zr_iconst (pc' := 7) cx rfl dX8_above_6 ?_
  refine zr_icmp_ne (pc' := 10) cx rfl (tgt := 16) dX8_above_7 rfl ?_ ?_
  · refine zr_iload_n (pc' := 17) cx rfl 2 dX8_above_16 rfl rfl ?_
    exact zr_iretP cx dX8_above_17
  · refine zr_iconst (pc' := 11) cx rfl dX8_above_10 ?_
    refine zr_iload_n (pc' := 12) cx rfl 2 dX8_above_11 rfl rfl ?_
    refine zr_isub (pc' := 13) cx rfl dX8_above_12 ?_
    refine zr_gotoS cx (tgt := 17) dX8_above_13 rfl ?_
    exact zr_iretP cx dX8_above_17
theorem mX8_above (l : Launch) (Y : zLy) (g : zSt) (a1 : Int) (a2 : Int)  : ∀ v, fX8_above g a1 a2 = some v → zMt l yX8_above cX8_above 3 (some .int) 1 [.ref (zad Y 400), .int (i32 a1), .int (i32 a2)] Y g (zQi Y v g) := by
  intro v hv
  refine zmet_of RX8 rfl (by decide +kernel) (Nat.le_of_ble_eq_true rfl) ?_
  intro p e s m below meth c cx H locs ls hH hS hl
  exact wX8_above cx g a1 a2  v hv H locs ls hH hS hl
theorem zc_X8_37 (cx : zCx Y p s m args meth c RX8 cc nl ret) (hpc : pc + 3 = pc') {g : zSt} {a1 : Int} {a2 : Int}  {fk : Int → Option ρ} (hR : 1 + 1 ≤ R.frames ∧ 8 + (3 + 11) + 40 * 1 ≤ R.locals) (hkn : k ≤ R.cells ∧ n ≤ R.slots) (hrest : (rest.map fun v => v.category).sum ≤ 8) (hdg : decode cc pc = .ok (.invokevirtual 37, 3)) (kk : ∀ v : Int, zWo Y p l e R s m args below meth c nl k n kq g lv (.int (i32 v) :: rest) pc' (fk v)) : zWo Y p l e R s m args below meth c nl k n kq g lv (.int (i32 a2) :: .int (i32 a1) :: .ref (zad Y 400) :: rest) pc (zbd (fX8_above g a1 a2) fk) := zr_callViP cx (an := 2) (As := [.int (i32 a1), .int (i32 a2)]) 9 zkc_400 (by decide) rfl (mX8_above l Y g a1 a2) (zG_V zw_1074 zw_1076 zw_49 zw_109 zw_1077) (by decide +kernel) hR hkn rfl rfl hrest hdg hpc kk
def fX8_pole_p5 (g : zSt)  : Nat → Int → Int → Option Int
  | 0, _, _ => none
  | fu + 1, a3, a4 =>
    (if i32 0 < i32 a4 then
    zbd (fX8_above g a4 a3) (fun v1 =>
    zbd (fX8_ofBox g a4 0) (fun v2 =>
    fX8_pole_p5 g fu v1 v2))
    else
    some a3)
def fX8_pole (g : zSt) (a1 : Int) (a2 : Int) : Option Int :=
    fX8_pole_p5 g zfu a2 a1
theorem wX8_pole_p5 (cx : zCx Y p s m args meth c RX8 cX8_pole 5 (some .int)) (g : zSt)   : ∀ (fu : Nat) (a3 : Int) (a4 : Int), zWo Y p l e (zrm 2) s m args below meth c 5 0 0 (fun v : Int => MQ below (zQi Y v g) args s 0 0 (zA Y)) g [(0, .ref (zad Y 400)), (3, .int (i32 a3)), (4, .int (i32 a4))] ([]) 5 (fX8_pole_p5 g fu a3 a4) := by
  intro fu
  induction fu with
  | zero => intro a3 a4; exact zr_none
  | succ fu ih =>
    intro a3 a4
    rw [fX8_pole_p5]
    refine zr_iload (pc' := 7) cx rfl 2 dX8_pole_5 rfl ?_
    refine zr_if_le (pc' := 10) cx rfl (tgt := 30) dX8_pole_7 rfl ?_ ?_
    · refine zr_iload_n (pc' := 31) cx rfl 1 dX8_pole_30 rfl rfl ?_
      exact zr_iretP cx dX8_pole_31
    · refine zr_aload_n (pc' := 11) cx rfl 0 dX8_pole_10 rfl rfl ?_
      refine zr_iload (pc' := 13) cx rfl 2 dX8_pole_11 rfl ?_
      refine zr_iload_n (pc' := 14) cx rfl 1 dX8_pole_13 rfl rfl ?_
      refine zc_X8_37 (pc' := 17) cx rfl  ⟨Nat.le_of_ble_eq_true rfl, Nat.le_of_ble_eq_true rfl⟩ ⟨Nat.zero_le _, Nat.zero_le _⟩ (Nat.le_of_ble_eq_true rfl) dX8_pole_14 (fun v1 => ?_)
      refine zr_istore_n (pc' := 18) cx rfl (lv' := [(3, .int (i32 v1)), (0, .ref (zad Y 400)), (4, .int (i32 a4))]) dX8_pole_17 rfl (by decide) rfl ?_
      refine zr_aload_n (pc' := 19) cx rfl 1 dX8_pole_18 rfl rfl ?_
      refine zr_iload (pc' := 21) cx rfl 2 dX8_pole_19 rfl ?_
      refine zr_iconst (pc' := 22) cx rfl dX8_pole_21 ?_
      refine zc_X8_33 (pc' := 25) cx rfl  ⟨Nat.le_of_ble_eq_true rfl, Nat.le_of_ble_eq_true rfl⟩ ⟨Nat.zero_le _, Nat.zero_le _⟩ (Nat.le_of_ble_eq_true rfl) dX8_pole_22 (fun v2 => ?_)
      refine zr_istore (pc' := 27) cx rfl (lv' := [(4, .int (i32 v2)), (3, .int (i32 v1)), (0, .ref (zad Y 400))]) dX8_pole_25 (by decide) rfl ?_
      refine zr_goto cx (tgt := 5) dX8_pole_27 rfl ?_
      refine zr_sub [2, 1, 0] rfl ?_
      exact ih v1 v2
theorem wX8_pole (cx : zCx Y p s m args meth c RX8 cX8_pole 5 (some .int)) (g : zSt) (a1 : Int) (a2 : Int)  : zWo Y p l e (zrm 2) s m args below meth c 5 0 0 (fun v : Int => MQ below (zQi Y v g) args s 0 0 (zA Y)) g [(0, .ref (zad Y 400)), (1, .int (i32 a1)), (2, .int (i32 a2))] ([]) 0 (fX8_pole g a1 a2) := by
  unfold fX8_pole
  refine zr_iload_n (pc' := 1) cx rfl 2 dX8_pole_0 rfl rfl ?_
  refine zr_istore_n (pc' := 2) cx rfl (lv' := [(3, .int (i32 a2)), (0, .ref (zad Y 400)), (1, .int (i32 a1)), (2, .int (i32 a2))]) dX8_pole_1 rfl (by decide) rfl ?_
  refine zr_iload_n (pc' := 3) cx rfl 2 dX8_pole_2 rfl rfl ?_
  refine zr_istore (pc' := 5) cx rfl (lv' := [(4, .int (i32 a1)), (3, .int (i32 a2)), (0, .ref (zad Y 400)), (1, .int (i32 a1)), (2, .int (i32 a2))]) dX8_pole_3 (by decide) rfl ?_
  refine zr_sub [2, 1, 0] rfl ?_
  exact wX8_pole_p5 cx g zfu a2 a1
theorem mX8_pole (l : Launch) (Y : zLy) (g : zSt) (a1 : Int) (a2 : Int)  : ∀ v, fX8_pole g a1 a2 = some v → zMt l yX8_pole cX8_pole 5 (some .int) 2 [.ref (zad Y 400), .int (i32 a1), .int (i32 a2)] Y g (zQi Y v g) := by
  intro v hv
  refine zmet_of RX8 rfl (by decide +kernel) (Nat.le_of_ble_eq_true rfl) ?_
  intro p e s m below meth c cx H locs ls hH hS hl
  exact wX8_pole cx g a1 a2  v hv H locs ls hH hS hl
theorem zc_X8_51 (cx : zCx Y p s m args meth c RX8 cc nl ret) (hpc : pc + 3 = pc') {g : zSt} {a1 : Int} {a2 : Int}  {fk : Int → Option ρ} (hR : 2 + 1 ≤ R.frames ∧ 8 + (5 + 11) + 40 * 2 ≤ R.locals) (hkn : k ≤ R.cells ∧ n ≤ R.slots) (hrest : (rest.map fun v => v.category).sum ≤ 8) (hdg : decode cc pc = .ok (.invokevirtual 51, 3)) (kk : ∀ v : Int, zWo Y p l e R s m args below meth c nl k n kq g lv (.int (i32 v) :: rest) pc' (fk v)) : zWo Y p l e R s m args below meth c nl k n kq g lv (.int (i32 a2) :: .int (i32 a1) :: .ref (zad Y 400) :: rest) pc (zbd (fX8_pole g a1 a2) fk) := zr_callViP cx (an := 2) (As := [.int (i32 a1), .int (i32 a2)]) 9 zkc_400 (by decide) rfl (mX8_pole l Y g a1 a2) (zG_V zw_1086 zw_1088 zw_52 zw_109 zw_1089) (by decide +kernel) hR hkn rfl rfl hrest hdg hpc kk
def fX8_depth_p4 (g : zSt)  : Nat → Int → Int → Option Int
  | 0, _, _ => none
  | fu + 1, a2, a3 =>
    (if i32 0 < i32 a3 then
    zbd (fX8_ofBox g a3 0) (fun v1 =>
    fX8_depth_p4 g fu (a2 + 1) v1)
    else
    some a2)
def fX8_depth (g : zSt) (a1 : Int) : Option Int :=
    fX8_depth_p4 g zfu 0 a1
theorem wX8_depth_p4 (cx : zCx Y p s m args meth c RX8 cX8_depth 4 (some .int)) (g : zSt)   : ∀ (fu : Nat) (a2 : Int) (a3 : Int), zWo Y p l e (zrm 1) s m args below meth c 4 0 0 (fun v : Int => MQ below (zQi Y v g) args s 0 0 (zA Y)) g [(0, .ref (zad Y 400)), (2, .int (i32 a2)), (3, .int (i32 a3))] ([]) 4 (fX8_depth_p4 g fu a2 a3) := by
  intro fu
  induction fu with
  | zero => intro a2 a3; exact zr_none
  | succ fu ih =>
    intro a2 a3
    rw [fX8_depth_p4]
    refine zr_iload_n (pc' := 5) cx rfl 2 dX8_depth_4 rfl rfl ?_
    refine zr_if_le (pc' := 8) cx rfl (tgt := 21) dX8_depth_5 rfl ?_ ?_
    · refine zr_iload_n (pc' := 22) cx rfl 1 dX8_depth_21 rfl rfl ?_
      exact zr_iretP cx dX8_depth_22
    · refine zr_iinc (pc' := 11) cx rfl (lv' := [(2, .int (i32 (a2 + 1))), (0, .ref (zad Y 400)), (3, .int (i32 a3))]) 1 dX8_depth_8 rfl (by decide) rfl ?_
      refine zr_aload_n (pc' := 12) cx rfl 1 dX8_depth_11 rfl rfl ?_
      refine zr_iload_n (pc' := 13) cx rfl 2 dX8_depth_12 rfl rfl ?_
      refine zr_iconst (pc' := 14) cx rfl dX8_depth_13 ?_
      refine zc_X8_33 (pc' := 17) cx rfl  ⟨Nat.le_of_ble_eq_true rfl, Nat.le_of_ble_eq_true rfl⟩ ⟨Nat.zero_le _, Nat.zero_le _⟩ (Nat.le_of_ble_eq_true rfl) dX8_depth_14 (fun v1 => ?_)
      refine zr_istore_n (pc' := 18) cx rfl (lv' := [(3, .int (i32 v1)), (2, .int (i32 (a2 + 1))), (0, .ref (zad Y 400))]) dX8_depth_17 rfl (by decide) rfl ?_
      refine zr_goto cx (tgt := 4) dX8_depth_18 rfl ?_
      refine zr_sub [2, 1, 0] rfl ?_
      exact ih (a2 + 1) v1
theorem wX8_depth (cx : zCx Y p s m args meth c RX8 cX8_depth 4 (some .int)) (g : zSt) (a1 : Int)  : zWo Y p l e (zrm 1) s m args below meth c 4 0 0 (fun v : Int => MQ below (zQi Y v g) args s 0 0 (zA Y)) g [(0, .ref (zad Y 400)), (1, .int (i32 a1))] ([]) 0 (fX8_depth g a1) := by
  unfold fX8_depth
  refine zr_iconst (pc' := 1) cx rfl dX8_depth_0 ?_
  refine zr_istore_n (pc' := 2) cx rfl (lv' := [(2, .int (i32 0)), (0, .ref (zad Y 400)), (1, .int (i32 a1))]) dX8_depth_1 rfl (by decide) rfl ?_
  refine zr_iload_n (pc' := 3) cx rfl 2 dX8_depth_2 rfl rfl ?_
  refine zr_istore_n (pc' := 4) cx rfl (lv' := [(3, .int (i32 a1)), (2, .int (i32 0)), (0, .ref (zad Y 400)), (1, .int (i32 a1))]) dX8_depth_3 rfl (by decide) rfl ?_
  refine zr_sub [2, 1, 0] rfl ?_
  exact wX8_depth_p4 cx g zfu 0 a1
theorem mX8_depth (l : Launch) (Y : zLy) (g : zSt) (a1 : Int)  : ∀ v, fX8_depth g a1 = some v → zMt l yX8_depth cX8_depth 4 (some .int) 1 [.ref (zad Y 400), .int (i32 a1)] Y g (zQi Y v g) := by
  intro v hv
  refine zmet_of RX8 rfl (by decide +kernel) (Nat.le_of_ble_eq_true rfl) ?_
  intro p e s m below meth c cx H locs ls hH hS hl
  exact wX8_depth cx g a1  v hv H locs ls hH hS hl
theorem zc_X8_90 (cx : zCx Y p s m args meth c RX8 cc nl ret) (hpc : pc + 3 = pc') {g : zSt} {a1 : Int}  {fk : Int → Option ρ} (hR : 1 + 1 ≤ R.frames ∧ 8 + (4 + 11) + 40 * 1 ≤ R.locals) (hkn : k ≤ R.cells ∧ n ≤ R.slots) (hrest : (rest.map fun v => v.category).sum ≤ 8) (hdg : decode cc pc = .ok (.invokevirtual 90, 3)) (kk : ∀ v : Int, zWo Y p l e R s m args below meth c nl k n kq g lv (.int (i32 v) :: rest) pc' (fk v)) : zWo Y p l e R s m args below meth c nl k n kq g lv (.int (i32 a1) :: .ref (zad Y 400) :: rest) pc (zbd (fX8_depth g a1) fk) := zr_callViP cx (an := 1) (As := [.int (i32 a1)]) 9 zkc_400 (by decide) rfl (mX8_depth l Y g a1) (zG_V zw_1122 zw_1124 zw_61 zw_109 zw_1125) (by decide +kernel) hR hkn rfl rfl hrest hdg hpc kk
def fX8_isSwitched_p4 (g : zSt)  : Nat → Int → Int → Option Int
  | 0, _, _ => none
  | fu + 1, a2, a3 =>
    (if i32 0 < i32 a3 then
    (if i32 a2 = i32 0 then
    zbd (fX8_ofBox g a3 0) (fun v1 =>
    fX8_isSwitched_p4 g fu 0 v1)
    else
    zbd (fX8_ofBox g a3 2) (fun v2 =>
    (if i32 v2 = i32 1 then
    zbd (fX8_ofBox g a3 0) (fun v4 =>
    fX8_isSwitched_p4 g fu 1 v4)
    else
    zbd (fX8_ofBox g a3 0) (fun v3 =>
    fX8_isSwitched_p4 g fu 0 v3))))
    else
    zck ((a2 : Int) = 0 ∨ (a2 : Int) = 1) (some a2))
def fX8_isSwitched (g : zSt) (a1 : Int) : Option Int :=
    fX8_isSwitched_p4 g zfu 1 a1
theorem wX8_isSwitched_p4 (cx : zCx Y p s m args meth c RX8 cX8_isSwitched 4 (some .boolean)) (g : zSt)   : ∀ (fu : Nat) (a2 : Int) (a3 : Int), zWo Y p l e (zrm 1) s m args below meth c 4 0 0 (fun v : Int => MQ below (zQi Y v g) args s 0 0 (zA Y)) g [(0, .ref (zad Y 400)), (2, .int (i32 a2)), (3, .int (i32 a3))] ([]) 4 (fX8_isSwitched_p4 g fu a2 a3) := by
  intro fu
  induction fu with
  | zero => intro a2 a3; exact zr_none
  | succ fu ih =>
    intro a2 a3
    rw [fX8_isSwitched_p4]
    refine zr_iload_n (pc' := 5) cx rfl 2 dX8_isSwitched_4 rfl rfl ?_
    refine zr_if_le (pc' := 8) cx rfl (tgt := 38) dX8_isSwitched_5 rfl ?_ ?_
    · refine zr_iload_n (pc' := 39) cx rfl 1 dX8_isSwitched_38 rfl rfl ?_
      exact zr_zretP cx dX8_isSwitched_39
    · refine zr_iload_n (pc' := 9) cx rfl 1 dX8_isSwitched_8 rfl rfl ?_
      refine zr_if_eq (pc' := 12) cx rfl (tgt := 26) dX8_isSwitched_9 rfl ?_ ?_
      · refine zr_iconst (pc' := 27) cx rfl dX8_isSwitched_26 ?_
        refine zr_istore_n (pc' := 28) cx rfl (lv' := [(2, .int (i32 0)), (0, .ref (zad Y 400)), (3, .int (i32 a3))]) dX8_isSwitched_27 rfl (by decide) rfl ?_
        refine zr_aload_n (pc' := 29) cx rfl 1 dX8_isSwitched_28 rfl rfl ?_
        refine zr_iload_n (pc' := 30) cx rfl 2 dX8_isSwitched_29 rfl rfl ?_
        refine zr_iconst (pc' := 31) cx rfl dX8_isSwitched_30 ?_
        refine zc_X8_33 (pc' := 34) cx rfl  ⟨Nat.le_of_ble_eq_true rfl, Nat.le_of_ble_eq_true rfl⟩ ⟨Nat.zero_le _, Nat.zero_le _⟩ (Nat.le_of_ble_eq_true rfl) dX8_isSwitched_31 (fun v1 => ?_)
        refine zr_istore_n (pc' := 35) cx rfl (lv' := [(3, .int (i32 v1)), (2, .int (i32 0)), (0, .ref (zad Y 400))]) dX8_isSwitched_34 rfl (by decide) rfl ?_
        refine zr_goto cx (tgt := 4) dX8_isSwitched_35 rfl ?_
        refine zr_sub [2, 1, 0] rfl ?_
        exact ih 0 v1
      · refine zr_aload_n (pc' := 13) cx rfl 0 dX8_isSwitched_12 rfl rfl ?_
        refine zr_iload_n (pc' := 14) cx rfl 2 dX8_isSwitched_13 rfl rfl ?_
        refine zr_iconst (pc' := 15) cx rfl dX8_isSwitched_14 ?_
        refine zc_X8_33 (pc' := 18) cx rfl  ⟨Nat.le_of_ble_eq_true rfl, Nat.le_of_ble_eq_true rfl⟩ ⟨Nat.zero_le _, Nat.zero_le _⟩ (Nat.le_of_ble_eq_true rfl) dX8_isSwitched_15 (fun v2 => ?_)
        refine zr_iconst (pc' := 19) cx rfl dX8_isSwitched_18 ?_
        refine zr_icmp_ne (pc' := 22) cx rfl (tgt := 26) dX8_isSwitched_19 rfl ?_ ?_
        · refine zr_iconst (pc' := 27) cx rfl dX8_isSwitched_26 ?_
          refine zr_istore_n (pc' := 28) cx rfl (lv' := [(2, .int (i32 0)), (0, .ref (zad Y 400)), (3, .int (i32 a3))]) dX8_isSwitched_27 rfl (by decide) rfl ?_
          refine zr_aload_n (pc' := 29) cx rfl 1 dX8_isSwitched_28 rfl rfl ?_
          refine zr_iload_n (pc' := 30) cx rfl 2 dX8_isSwitched_29 rfl rfl ?_
          refine zr_iconst (pc' := 31) cx rfl dX8_isSwitched_30 ?_
          refine zc_X8_33 (pc' := 34) cx rfl  ⟨Nat.le_of_ble_eq_true rfl, Nat.le_of_ble_eq_true rfl⟩ ⟨Nat.zero_le _, Nat.zero_le _⟩ (Nat.le_of_ble_eq_true rfl) dX8_isSwitched_31 (fun v3 => ?_)
          refine zr_istore_n (pc' := 35) cx rfl (lv' := [(3, .int (i32 v3)), (2, .int (i32 0)), (0, .ref (zad Y 400))]) dX8_isSwitched_34 rfl (by decide) rfl ?_
          refine zr_goto cx (tgt := 4) dX8_isSwitched_35 rfl ?_
          refine zr_sub [2, 1, 0] rfl ?_
          exact ih 0 v3
        · refine zr_iconst (pc' := 23) cx rfl dX8_isSwitched_22 ?_
          refine zr_gotoS cx (tgt := 27) dX8_isSwitched_23 rfl ?_
          refine zr_istore_n (pc' := 28) cx rfl (lv' := [(2, .int (i32 1)), (0, .ref (zad Y 400)), (3, .int (i32 a3))]) dX8_isSwitched_27 rfl (by decide) rfl ?_
          refine zr_aload_n (pc' := 29) cx rfl 1 dX8_isSwitched_28 rfl rfl ?_
          refine zr_iload_n (pc' := 30) cx rfl 2 dX8_isSwitched_29 rfl rfl ?_
          refine zr_iconst (pc' := 31) cx rfl dX8_isSwitched_30 ?_
          refine zc_X8_33 (pc' := 34) cx rfl  ⟨Nat.le_of_ble_eq_true rfl, Nat.le_of_ble_eq_true rfl⟩ ⟨Nat.zero_le _, Nat.zero_le _⟩ (Nat.le_of_ble_eq_true rfl) dX8_isSwitched_31 (fun v4 => ?_)
          refine zr_istore_n (pc' := 35) cx rfl (lv' := [(3, .int (i32 v4)), (2, .int (i32 1)), (0, .ref (zad Y 400))]) dX8_isSwitched_34 rfl (by decide) rfl ?_
          refine zr_goto cx (tgt := 4) dX8_isSwitched_35 rfl ?_
          refine zr_sub [2, 1, 0] rfl ?_
          exact ih 1 v4
theorem wX8_isSwitched (cx : zCx Y p s m args meth c RX8 cX8_isSwitched 4 (some .boolean)) (g : zSt) (a1 : Int)  : zWo Y p l e (zrm 1) s m args below meth c 4 0 0 (fun v : Int => MQ below (zQi Y v g) args s 0 0 (zA Y)) g [(0, .ref (zad Y 400)), (1, .int (i32 a1))] ([]) 0 (fX8_isSwitched g a1) := by
  unfold fX8_isSwitched
  refine zr_iconst (pc' := 1) cx rfl dX8_isSwitched_0 ?_
  refine zr_istore_n (pc' := 2) cx rfl (lv' := [(2, .int (i32 1)), (0, .ref (zad Y 400)), (1, .int (i32 a1))]) dX8_isSwitched_1 rfl (by decide) rfl ?_
  refine zr_iload_n (pc' := 3) cx rfl 2 dX8_isSwitched_2 rfl rfl ?_
  refine zr_istore_n (pc' := 4) cx rfl (lv' := [(3, .int (i32 a1)), (2, .int (i32 1)), (0, .ref (zad Y 400)), (1, .int (i32 a1))]) dX8_isSwitched_3 rfl (by decide) rfl ?_
  refine zr_sub [2, 1, 0] rfl ?_
  exact wX8_isSwitched_p4 cx g zfu 1 a1
theorem mX8_isSwitched (l : Launch) (Y : zLy) (g : zSt) (a1 : Int)  : ∀ v, fX8_isSwitched g a1 = some v → zMt l yX8_isSwitched cX8_isSwitched 4 (some .boolean) 1 [.ref (zad Y 400), .int (i32 a1)] Y g (zQi Y v g) := by
  intro v hv
  refine zmet_of RX8 rfl (by decide +kernel) (Nat.le_of_ble_eq_true rfl) ?_
  intro p e s m below meth c cx H locs ls hH hS hl
  exact wX8_isSwitched cx g a1  v hv H locs ls hH hS hl
theorem zc_X8_40 (cx : zCx Y p s m args meth c RX8 cc nl ret) (hpc : pc + 3 = pc') {g : zSt} {a1 : Int}  {fk : Int → Option ρ} (hR : 1 + 1 ≤ R.frames ∧ 8 + (4 + 11) + 40 * 1 ≤ R.locals) (hkn : k ≤ R.cells ∧ n ≤ R.slots) (hrest : (rest.map fun v => v.category).sum ≤ 8) (hdg : decode cc pc = .ok (.invokevirtual 40, 3)) (kk : ∀ v : Int, zWo Y p l e R s m args below meth c nl k n kq g lv (.int (i32 v) :: rest) pc' (fk v)) : zWo Y p l e R s m args below meth c nl k n kq g lv (.int (i32 a1) :: .ref (zad Y 400) :: rest) pc (zbd (fX8_isSwitched g a1) fk) := zr_callViP cx (an := 1) (As := [.int (i32 a1)]) 9 zkc_400 (by decide) rfl (mX8_isSwitched l Y g a1) (zG_V zw_1062 zw_1064 zw_46 zw_109 zw_1065) (by decide +kernel) hR hkn rfl rfl hrest hdg hpc kk
def fX8_isWhole_p35 (g : zSt) (k8 : Int → Int → Int → Option Int) (y0 : Int) (a4 : Int) (a5 : Int) : Option Int :=
    zbd (fX8_above g a5 a4) (fun v1 =>
    zbd (fX8_ofBox g a5 0) (fun v2 =>
    k8 y0 v1 v2))
def fX8_isWhole_p8 (g : zSt)  : Nat → Int → Int → Int → Option Int
  | 0, _, _, _ => none
  | fu + 1, a3, a4, a5 =>
    (if i32 0 < i32 a5 then
    (if i32 a3 = i32 0 then
    fX8_isWhole_p35 g (fX8_isWhole_p8 g fu) 0 a4 a5
    else
    zbd (fX8_ofBox g a5 (5 + a4)) (fun v3 =>
    (if i32 v3 = i32 0 then
    fX8_isWhole_p35 g (fX8_isWhole_p8 g fu) 1 a4 a5
    else
    fX8_isWhole_p35 g (fX8_isWhole_p8 g fu) 0 a4 a5)))
    else
    zck ((a3 : Int) = 0 ∨ (a3 : Int) = 1) (some a3))
def fX8_isWhole (g : zSt) (a1 : Int) (a2 : Int) : Option Int :=
    fX8_isWhole_p8 g zfu 1 a2 a1
theorem wX8_isWhole_p35 (cx : zCx Y p s m args meth c RX8 cX8_isWhole 6 (some .boolean)) (g : zSt) {k8 : Int → Int → Int → Option Int} (hk8 : ∀ (a3 : Int) (a4 : Int) (a5 : Int), zWo Y p l e (zrm 2) s m args below meth c 6 0 0 (fun v : Int => MQ below (zQi Y v g) args s 0 0 (zA Y)) g [(0, .ref (zad Y 400)), (3, .int (i32 a3)), (4, .int (i32 a4)), (5, .int (i32 a5))] ([]) 8 (k8 a3 a4 a5)) : ∀ (y0 : Int) (a4 : Int) (a5 : Int), zWo Y p l e (zrm 2) s m args below meth c 6 0 0 (fun v : Int => MQ below (zQi Y v g) args s 0 0 (zA Y)) g [(0, .ref (zad Y 400)), (4, .int (i32 a4)), (5, .int (i32 a5))] (.int (i32 y0) :: []) 35 (fX8_isWhole_p35 g k8 y0 a4 a5) := by
  intro y0 a4 a5
  unfold fX8_isWhole_p35
  refine zr_istore_n (pc' := 36) cx rfl (lv' := [(3, .int (i32 y0)), (0, .ref (zad Y 400)), (4, .int (i32 a4)), (5, .int (i32 a5))]) dX8_isWhole_35 rfl (by decide) rfl ?_
  refine zr_aload_n (pc' := 37) cx rfl 1 dX8_isWhole_36 rfl rfl ?_
  refine zr_iload (pc' := 39) cx rfl 3 dX8_isWhole_37 rfl ?_
  refine zr_iload (pc' := 41) cx rfl 2 dX8_isWhole_39 rfl ?_
  refine zc_X8_37 (pc' := 44) cx rfl  ⟨Nat.le_of_ble_eq_true rfl, Nat.le_of_ble_eq_true rfl⟩ ⟨Nat.zero_le _, Nat.zero_le _⟩ (Nat.le_of_ble_eq_true rfl) dX8_isWhole_41 (fun v1 => ?_)
  refine zr_istore (pc' := 46) cx rfl (lv' := [(4, .int (i32 v1)), (3, .int (i32 y0)), (0, .ref (zad Y 400)), (5, .int (i32 a5))]) dX8_isWhole_44 (by decide) rfl ?_
  refine zr_aload_n (pc' := 47) cx rfl 2 dX8_isWhole_46 rfl rfl ?_
  refine zr_iload (pc' := 49) cx rfl 3 dX8_isWhole_47 rfl ?_
  refine zr_iconst (pc' := 50) cx rfl dX8_isWhole_49 ?_
  refine zc_X8_33 (pc' := 53) cx rfl  ⟨Nat.le_of_ble_eq_true rfl, Nat.le_of_ble_eq_true rfl⟩ ⟨Nat.zero_le _, Nat.zero_le _⟩ (Nat.le_of_ble_eq_true rfl) dX8_isWhole_50 (fun v2 => ?_)
  refine zr_istore (pc' := 55) cx rfl (lv' := [(5, .int (i32 v2)), (4, .int (i32 v1)), (3, .int (i32 y0)), (0, .ref (zad Y 400))]) dX8_isWhole_53 (by decide) rfl ?_
  refine zr_goto cx (tgt := 8) dX8_isWhole_55 rfl ?_
  refine zr_sub [3, 2, 1, 0] rfl ?_
  exact hk8 y0 v1 v2
theorem wX8_isWhole_p8 (cx : zCx Y p s m args meth c RX8 cX8_isWhole 6 (some .boolean)) (g : zSt)   : ∀ (fu : Nat) (a3 : Int) (a4 : Int) (a5 : Int), zWo Y p l e (zrm 2) s m args below meth c 6 0 0 (fun v : Int => MQ below (zQi Y v g) args s 0 0 (zA Y)) g [(0, .ref (zad Y 400)), (3, .int (i32 a3)), (4, .int (i32 a4)), (5, .int (i32 a5))] ([]) 8 (fX8_isWhole_p8 g fu a3 a4 a5) := by
  intro fu
  induction fu with
  | zero => intro a3 a4 a5; exact zr_none
  | succ fu ih =>
    intro a3 a4 a5
    rw [fX8_isWhole_p8]
    refine zr_iload (pc' := 10) cx rfl 3 dX8_isWhole_8 rfl ?_
    refine zr_if_le (pc' := 13) cx rfl (tgt := 58) dX8_isWhole_10 rfl ?_ ?_
    · refine zr_iload_n (pc' := 59) cx rfl 1 dX8_isWhole_58 rfl rfl ?_
      exact zr_zretP cx dX8_isWhole_59
    · refine zr_iload_n (pc' := 14) cx rfl 1 dX8_isWhole_13 rfl rfl ?_
      refine zr_if_eq (pc' := 17) cx rfl (tgt := 34) dX8_isWhole_14 rfl ?_ ?_
      · refine zr_iconst (pc' := 35) cx rfl dX8_isWhole_34 ?_
        refine zr_sub [0, 2, 3] rfl ?_
        exact wX8_isWhole_p35 cx g ih 0 a4 a5
      · refine zr_aload_n (pc' := 18) cx rfl 0 dX8_isWhole_17 rfl rfl ?_
        refine zr_iload (pc' := 20) cx rfl 3 dX8_isWhole_18 rfl ?_
        refine zr_iconst (pc' := 21) cx rfl dX8_isWhole_20 ?_
        refine zr_iload (pc' := 23) cx rfl 2 dX8_isWhole_21 rfl ?_
        refine zr_iadd (pc' := 24) cx rfl dX8_isWhole_23 ?_
        refine zc_X8_33 (pc' := 27) cx rfl  ⟨Nat.le_of_ble_eq_true rfl, Nat.le_of_ble_eq_true rfl⟩ ⟨Nat.zero_le _, Nat.zero_le _⟩ (Nat.le_of_ble_eq_true rfl) dX8_isWhole_24 (fun v3 => ?_)
        refine zr_if_ne (pc' := 30) cx rfl (tgt := 34) dX8_isWhole_27 rfl ?_ ?_
        · refine zr_iconst (pc' := 35) cx rfl dX8_isWhole_34 ?_
          refine zr_sub [0, 2, 3] rfl ?_
          exact wX8_isWhole_p35 cx g ih 0 a4 a5
        · refine zr_iconst (pc' := 31) cx rfl dX8_isWhole_30 ?_
          refine zr_gotoS cx (tgt := 35) dX8_isWhole_31 rfl ?_
          refine zr_sub [0, 2, 3] rfl ?_
          exact wX8_isWhole_p35 cx g ih 1 a4 a5
theorem wX8_isWhole (cx : zCx Y p s m args meth c RX8 cX8_isWhole 6 (some .boolean)) (g : zSt) (a1 : Int) (a2 : Int)  : zWo Y p l e (zrm 2) s m args below meth c 6 0 0 (fun v : Int => MQ below (zQi Y v g) args s 0 0 (zA Y)) g [(0, .ref (zad Y 400)), (1, .int (i32 a1)), (2, .int (i32 a2))] ([]) 0 (fX8_isWhole g a1 a2) := by
  unfold fX8_isWhole
  refine zr_iconst (pc' := 1) cx rfl dX8_isWhole_0 ?_
  refine zr_istore_n (pc' := 2) cx rfl (lv' := [(3, .int (i32 1)), (0, .ref (zad Y 400)), (1, .int (i32 a1)), (2, .int (i32 a2))]) dX8_isWhole_1 rfl (by decide) rfl ?_
  refine zr_iload_n (pc' := 3) cx rfl 3 dX8_isWhole_2 rfl rfl ?_
  refine zr_istore (pc' := 5) cx rfl (lv' := [(4, .int (i32 a2)), (3, .int (i32 1)), (0, .ref (zad Y 400)), (1, .int (i32 a1)), (2, .int (i32 a2))]) dX8_isWhole_3 (by decide) rfl ?_
  refine zr_iload_n (pc' := 6) cx rfl 3 dX8_isWhole_5 rfl rfl ?_
  refine zr_istore (pc' := 8) cx rfl (lv' := [(5, .int (i32 a1)), (4, .int (i32 a2)), (3, .int (i32 1)), (0, .ref (zad Y 400)), (1, .int (i32 a1)), (2, .int (i32 a2))]) dX8_isWhole_6 (by decide) rfl ?_
  refine zr_sub [3, 2, 1, 0] rfl ?_
  exact wX8_isWhole_p8 cx g zfu 1 a2 a1
theorem mX8_isWhole (l : Launch) (Y : zLy) (g : zSt) (a1 : Int) (a2 : Int)  : ∀ v, fX8_isWhole g a1 a2 = some v → zMt l yX8_isWhole cX8_isWhole 6 (some .boolean) 2 [.ref (zad Y 400), .int (i32 a1), .int (i32 a2)] Y g (zQi Y v g) := by
  intro v hv
  refine zmet_of RX8 rfl (by decide +kernel) (Nat.le_of_ble_eq_true rfl) ?_
  intro p e s m below meth c cx H locs ls hH hS hl
  exact wX8_isWhole cx g a1 a2  v hv H locs ls hH hS hl
theorem zc_X8_44 (cx : zCx Y p s m args meth c RX8 cc nl ret) (hpc : pc + 3 = pc') {g : zSt} {a1 : Int} {a2 : Int}  {fk : Int → Option ρ} (hR : 2 + 1 ≤ R.frames ∧ 8 + (6 + 11) + 40 * 2 ≤ R.locals) (hkn : k ≤ R.cells ∧ n ≤ R.slots) (hrest : (rest.map fun v => v.category).sum ≤ 8) (hdg : decode cc pc = .ok (.invokevirtual 44, 3)) (kk : ∀ v : Int, zWo Y p l e R s m args below meth c nl k n kq g lv (.int (i32 v) :: rest) pc' (fk v)) : zWo Y p l e R s m args below meth c nl k n kq g lv (.int (i32 a2) :: .int (i32 a1) :: .ref (zad Y 400) :: rest) pc (zbd (fX8_isWhole g a1 a2) fk) := zr_callViP cx (an := 2) (As := [.int (i32 a1), .int (i32 a2)]) 9 zkc_400 (by decide) rfl (mX8_isWhole l Y g a1 a2) (zG_V zw_1070 zw_1072 zw_48 zw_109 zw_1073) (by decide +kernel) hR hkn rfl rfl hrest hdg hpc kk
def fX8_isAlive (g : zSt) (a1 : Int) (a2 : Int) : Option Int :=
    zbd (fX8_isSwitched g a1) (fun v1 =>
    (if i32 v1 = i32 0 then
    zck ((0 : Int) = 0 ∨ (0 : Int) = 1) (some 0)
    else
    zbd (fX8_isWhole g a1 a2) (fun v2 =>
    (if i32 v2 = i32 0 then
    zck ((0 : Int) = 0 ∨ (0 : Int) = 1) (some 0)
    else
    zck ((1 : Int) = 0 ∨ (1 : Int) = 1) (some 1)))))
theorem wX8_isAlive (cx : zCx Y p s m args meth c RX8 cX8_isAlive 3 (some .boolean)) (g : zSt) (a1 : Int) (a2 : Int)  : zWo Y p l e (zrm 3) s m args below meth c 3 0 0 (fun v : Int => MQ below (zQi Y v g) args s 0 0 (zA Y)) g [(0, .ref (zad Y 400)), (1, .int (i32 a1)), (2, .int (i32 a2))] ([]) 0 (fX8_isAlive g a1 a2) := by
  unfold fX8_isAlive
  refine zr_aload_n (pc' := 1) cx rfl 0 dX8_isAlive_0 rfl rfl ?_
  refine zr_iload_n (pc' := 2) cx rfl 1 dX8_isAlive_1 rfl rfl ?_
  refine zc_X8_40 (pc' := 5) cx rfl  ⟨Nat.le_of_ble_eq_true rfl, Nat.le_of_ble_eq_true rfl⟩ ⟨Nat.zero_le _, Nat.zero_le _⟩ (Nat.le_of_ble_eq_true rfl) dX8_isAlive_2 (fun v1 => ?_)
  refine zr_if_eq (pc' := 8) cx rfl (tgt := 21) dX8_isAlive_5 rfl ?_ ?_
  · refine zr_iconst (pc' := 22) cx rfl dX8_isAlive_21 ?_
    exact zr_zretP cx dX8_isAlive_22
  · refine zr_aload_n (pc' := 9) cx rfl 0 dX8_isAlive_8 rfl rfl ?_
    refine zr_iload_n (pc' := 10) cx rfl 1 dX8_isAlive_9 rfl rfl ?_
    refine zr_iload_n (pc' := 11) cx rfl 2 dX8_isAlive_10 rfl rfl ?_
    refine zc_X8_44 (pc' := 14) cx rfl  ⟨Nat.le_of_ble_eq_true rfl, Nat.le_of_ble_eq_true rfl⟩ ⟨Nat.zero_le _, Nat.zero_le _⟩ (Nat.le_of_ble_eq_true rfl) dX8_isAlive_11 (fun v2 => ?_)
    refine zr_if_eq (pc' := 17) cx rfl (tgt := 21) dX8_isAlive_14 rfl ?_ ?_
    · refine zr_iconst (pc' := 22) cx rfl dX8_isAlive_21 ?_
      exact zr_zretP cx dX8_isAlive_22
    · refine zr_iconst (pc' := 18) cx rfl dX8_isAlive_17 ?_
      refine zr_gotoS cx (tgt := 22) dX8_isAlive_18 rfl ?_
      exact zr_zretP cx dX8_isAlive_22
theorem mX8_isAlive (l : Launch) (Y : zLy) (g : zSt) (a1 : Int) (a2 : Int)  : ∀ v, fX8_isAlive g a1 a2 = some v → zMt l yX8_isAlive cX8_isAlive 3 (some .boolean) 3 [.ref (zad Y 400), .int (i32 a1), .int (i32 a2)] Y g (zQi Y v g) := by
  intro v hv
  refine zmet_of RX8 rfl (by decide +kernel) (Nat.le_of_ble_eq_true rfl) ?_
  intro p e s m below meth c cx H locs ls hH hS hl
  exact wX8_isAlive cx g a1 a2  v hv H locs ls hH hS hl
theorem zc_X8_61 (cx : zCx Y p s m args meth c RX8 cc nl ret) (hpc : pc + 3 = pc') {g : zSt} {a1 : Int} {a2 : Int}  {fk : Int → Option ρ} (hR : 3 + 1 ≤ R.frames ∧ 8 + (3 + 11) + 40 * 3 ≤ R.locals) (hkn : k ≤ R.cells ∧ n ≤ R.slots) (hrest : (rest.map fun v => v.category).sum ≤ 8) (hdg : decode cc pc = .ok (.invokevirtual 61, 3)) (kk : ∀ v : Int, zWo Y p l e R s m args below meth c nl k n kq g lv (.int (i32 v) :: rest) pc' (fk v)) : zWo Y p l e R s m args below meth c nl k n kq g lv (.int (i32 a2) :: .int (i32 a1) :: .ref (zad Y 400) :: rest) pc (zbd (fX8_isAlive g a1 a2) fk) := zr_callViP cx (an := 2) (As := [.int (i32 a1), .int (i32 a2)]) 9 zkc_400 (by decide) rfl (mX8_isAlive l Y g a1 a2) (zG_V zw_1058 zw_1060 zw_45 zw_109 zw_1061) (by decide +kernel) hR hkn rfl rfl hrest hdg hpc kk
def fX8_comesBy_p6 (g : zSt)  : Nat → Int → Int → Int → Int → Option Int
  | 0, _, _, _, _ => none
  | fu + 1, a3, a4, a5, a6 =>
    (if i32 a3 < i32 a5 then
    zbd (fX8_above g a5 a6) (fun v1 =>
    zbd (fX8_ofBox g a5 0) (fun v2 =>
    fX8_comesBy_p6 g fu a3 a4 v2 v1))
    else
    (if i32 a5 = i32 a3 then
    (if i32 a6 = i32 a4 then
    zck ((1 : Int) = 0 ∨ (1 : Int) = 1) (some 1)
    else
    zck ((0 : Int) = 0 ∨ (0 : Int) = 1) (some 0))
    else
    zck ((0 : Int) = 0 ∨ (0 : Int) = 1) (some 0)))
def fX8_comesBy (g : zSt) (a1 : Int) (a2 : Int) (a3 : Int) (a4 : Int) : Option Int :=
    fX8_comesBy_p6 g zfu a3 a4 a1 a2
theorem wX8_comesBy_p6 (cx : zCx Y p s m args meth c RX8 cX8_comesBy 7 (some .boolean)) (g : zSt)   : ∀ (fu : Nat) (a3 : Int) (a4 : Int) (a5 : Int) (a6 : Int), zWo Y p l e (zrm 2) s m args below meth c 7 0 0 (fun v : Int => MQ below (zQi Y v g) args s 0 0 (zA Y)) g [(0, .ref (zad Y 400)), (3, .int (i32 a3)), (4, .int (i32 a4)), (5, .int (i32 a5)), (6, .int (i32 a6))] ([]) 6 (fX8_comesBy_p6 g fu a3 a4 a5 a6) := by
  intro fu
  induction fu with
  | zero => intro a3 a4 a5 a6; exact zr_none
  | succ fu ih =>
    intro a3 a4 a5 a6
    rw [fX8_comesBy_p6]
    refine zr_iload (pc' := 8) cx rfl 3 dX8_comesBy_6 rfl ?_
    refine zr_iload_n (pc' := 9) cx rfl 1 dX8_comesBy_8 rfl rfl ?_
    refine zr_icmp_le (pc' := 12) cx rfl (tgt := 34) dX8_comesBy_9 rfl ?_ ?_
    · refine zr_iload (pc' := 36) cx rfl 3 dX8_comesBy_34 rfl ?_
      refine zr_iload_n (pc' := 37) cx rfl 1 dX8_comesBy_36 rfl rfl ?_
      refine zr_icmp_ne (pc' := 40) cx rfl (tgt := 51) dX8_comesBy_37 rfl ?_ ?_
      · refine zr_iconst (pc' := 52) cx rfl dX8_comesBy_51 ?_
        exact zr_zretP cx dX8_comesBy_52
      · refine zr_iload (pc' := 42) cx rfl 4 dX8_comesBy_40 rfl ?_
        refine zr_iload (pc' := 44) cx rfl 2 dX8_comesBy_42 rfl ?_
        refine zr_icmp_ne (pc' := 47) cx rfl (tgt := 51) dX8_comesBy_44 rfl ?_ ?_
        · refine zr_iconst (pc' := 52) cx rfl dX8_comesBy_51 ?_
          exact zr_zretP cx dX8_comesBy_52
        · refine zr_iconst (pc' := 48) cx rfl dX8_comesBy_47 ?_
          refine zr_gotoS cx (tgt := 52) dX8_comesBy_48 rfl ?_
          exact zr_zretP cx dX8_comesBy_52
    · refine zr_aload_n (pc' := 13) cx rfl 0 dX8_comesBy_12 rfl rfl ?_
      refine zr_iload (pc' := 15) cx rfl 3 dX8_comesBy_13 rfl ?_
      refine zr_iload (pc' := 17) cx rfl 4 dX8_comesBy_15 rfl ?_
      refine zc_X8_37 (pc' := 20) cx rfl  ⟨Nat.le_of_ble_eq_true rfl, Nat.le_of_ble_eq_true rfl⟩ ⟨Nat.zero_le _, Nat.zero_le _⟩ (Nat.le_of_ble_eq_true rfl) dX8_comesBy_17 (fun v1 => ?_)
      refine zr_istore (pc' := 22) cx rfl (lv' := [(6, .int (i32 v1)), (0, .ref (zad Y 400)), (3, .int (i32 a3)), (4, .int (i32 a4)), (5, .int (i32 a5))]) dX8_comesBy_20 (by decide) rfl ?_
      refine zr_aload_n (pc' := 23) cx rfl 1 dX8_comesBy_22 rfl rfl ?_
      refine zr_iload (pc' := 25) cx rfl 4 dX8_comesBy_23 rfl ?_
      refine zr_iconst (pc' := 26) cx rfl dX8_comesBy_25 ?_
      refine zc_X8_33 (pc' := 29) cx rfl  ⟨Nat.le_of_ble_eq_true rfl, Nat.le_of_ble_eq_true rfl⟩ ⟨Nat.zero_le _, Nat.zero_le _⟩ (Nat.le_of_ble_eq_true rfl) dX8_comesBy_26 (fun v2 => ?_)
      refine zr_istore (pc' := 31) cx rfl (lv' := [(5, .int (i32 v2)), (6, .int (i32 v1)), (0, .ref (zad Y 400)), (3, .int (i32 a3)), (4, .int (i32 a4))]) dX8_comesBy_29 (by decide) rfl ?_
      refine zr_goto cx (tgt := 6) dX8_comesBy_31 rfl ?_
      refine zr_sub [2, 3, 4, 0, 1] rfl ?_
      exact ih a3 a4 v2 v1
theorem wX8_comesBy (cx : zCx Y p s m args meth c RX8 cX8_comesBy 7 (some .boolean)) (g : zSt) (a1 : Int) (a2 : Int) (a3 : Int) (a4 : Int)  : zWo Y p l e (zrm 2) s m args below meth c 7 0 0 (fun v : Int => MQ below (zQi Y v g) args s 0 0 (zA Y)) g [(0, .ref (zad Y 400)), (1, .int (i32 a1)), (2, .int (i32 a2)), (3, .int (i32 a3)), (4, .int (i32 a4))] ([]) 0 (fX8_comesBy g a1 a2 a3 a4) := by
  unfold fX8_comesBy
  refine zr_iload_n (pc' := 1) cx rfl 1 dX8_comesBy_0 rfl rfl ?_
  refine zr_istore (pc' := 3) cx rfl (lv' := [(5, .int (i32 a1)), (0, .ref (zad Y 400)), (1, .int (i32 a1)), (2, .int (i32 a2)), (3, .int (i32 a3)), (4, .int (i32 a4))]) dX8_comesBy_1 (by decide) rfl ?_
  refine zr_iload_n (pc' := 4) cx rfl 3 dX8_comesBy_3 rfl rfl ?_
  refine zr_istore (pc' := 6) cx rfl (lv' := [(6, .int (i32 a2)), (5, .int (i32 a1)), (0, .ref (zad Y 400)), (1, .int (i32 a1)), (2, .int (i32 a2)), (3, .int (i32 a3)), (4, .int (i32 a4))]) dX8_comesBy_4 (by decide) rfl ?_
  refine zr_sub [2, 5, 6, 1, 0] rfl ?_
  exact wX8_comesBy_p6 cx g zfu a3 a4 a1 a2
theorem mX8_comesBy (l : Launch) (Y : zLy) (g : zSt) (a1 : Int) (a2 : Int) (a3 : Int) (a4 : Int)  : ∀ v, fX8_comesBy g a1 a2 a3 a4 = some v → zMt l yX8_comesBy cX8_comesBy 7 (some .boolean) 2 [.ref (zad Y 400), .int (i32 a1), .int (i32 a2), .int (i32 a3), .int (i32 a4)] Y g (zQi Y v g) := by
  intro v hv
  refine zmet_of RX8 rfl (by decide +kernel) (Nat.le_of_ble_eq_true rfl) ?_
  intro p e s m below meth c cx H locs ls hH hS hl
  exact wX8_comesBy cx g a1 a2 a3 a4  v hv H locs ls hH hS hl
theorem zc_X8_80 (cx : zCx Y p s m args meth c RX8 cc nl ret) (hpc : pc + 3 = pc') {g : zSt} {a1 : Int} {a2 : Int} {a3 : Int} {a4 : Int}  {fk : Int → Option ρ} (hR : 2 + 1 ≤ R.frames ∧ 8 + (7 + 11) + 40 * 2 ≤ R.locals) (hkn : k ≤ R.cells ∧ n ≤ R.slots) (hrest : (rest.map fun v => v.category).sum ≤ 8) (hdg : decode cc pc = .ok (.invokevirtual 80, 3)) (kk : ∀ v : Int, zWo Y p l e R s m args below meth c nl k n kq g lv (.int (i32 v) :: rest) pc' (fk v)) : zWo Y p l e R s m args below meth c nl k n kq g lv (.int (i32 a4) :: .int (i32 a3) :: .int (i32 a2) :: .int (i32 a1) :: .ref (zad Y 400) :: rest) pc (zbd (fX8_comesBy g a1 a2 a3 a4) fk) := zr_callViP cx (an := 4) (As := [.int (i32 a1), .int (i32 a2), .int (i32 a3), .int (i32 a4)]) 9 zkc_400 (by decide) rfl (mX8_comesBy l Y g a1 a2 a3 a4) (zG_V zw_1098 zw_1100 zw_55 zw_109 zw_1101) (by decide +kernel) hR hkn rfl rfl hrest hdg hpc kk
def fX8_isBehind_p2 (g : zSt)  : Nat → Int → Int → Option Int
  | 0, _, _ => none
  | fu + 1, a2, a3 =>
    (if i32 a2 < i32 a3 then
    zbd (fX8_ofBox g a3 0) (fun v1 =>
    fX8_isBehind_p2 g fu a2 v1)
    else
    (if i32 a3 = i32 a2 then
    zck ((1 : Int) = 0 ∨ (1 : Int) = 1) (some 1)
    else
    zck ((0 : Int) = 0 ∨ (0 : Int) = 1) (some 0)))
def fX8_isBehind (g : zSt) (a1 : Int) (a2 : Int) : Option Int :=
    fX8_isBehind_p2 g zfu a2 a1
theorem wX8_isBehind_p2 (cx : zCx Y p s m args meth c RX8 cX8_isBehind 4 (some .boolean)) (g : zSt)   : ∀ (fu : Nat) (a2 : Int) (a3 : Int), zWo Y p l e (zrm 1) s m args below meth c 4 0 0 (fun v : Int => MQ below (zQi Y v g) args s 0 0 (zA Y)) g [(0, .ref (zad Y 400)), (2, .int (i32 a2)), (3, .int (i32 a3))] ([]) 2 (fX8_isBehind_p2 g fu a2 a3) := by
  intro fu
  induction fu with
  | zero => intro a2 a3; exact zr_none
  | succ fu ih =>
    intro a2 a3
    rw [fX8_isBehind_p2]
    refine zr_iload_n (pc' := 3) cx rfl 2 dX8_isBehind_2 rfl rfl ?_
    refine zr_iload_n (pc' := 4) cx rfl 1 dX8_isBehind_3 rfl rfl ?_
    refine zr_icmp_le (pc' := 7) cx rfl (tgt := 17) dX8_isBehind_4 rfl ?_ ?_
    · refine zr_iload_n (pc' := 18) cx rfl 2 dX8_isBehind_17 rfl rfl ?_
      refine zr_iload_n (pc' := 19) cx rfl 1 dX8_isBehind_18 rfl rfl ?_
      refine zr_icmp_ne (pc' := 22) cx rfl (tgt := 26) dX8_isBehind_19 rfl ?_ ?_
      · refine zr_iconst (pc' := 27) cx rfl dX8_isBehind_26 ?_
        exact zr_zretP cx dX8_isBehind_27
      · refine zr_iconst (pc' := 23) cx rfl dX8_isBehind_22 ?_
        refine zr_gotoS cx (tgt := 27) dX8_isBehind_23 rfl ?_
        exact zr_zretP cx dX8_isBehind_27
    · refine zr_aload_n (pc' := 8) cx rfl 0 dX8_isBehind_7 rfl rfl ?_
      refine zr_iload_n (pc' := 9) cx rfl 2 dX8_isBehind_8 rfl rfl ?_
      refine zr_iconst (pc' := 10) cx rfl dX8_isBehind_9 ?_
      refine zc_X8_33 (pc' := 13) cx rfl  ⟨Nat.le_of_ble_eq_true rfl, Nat.le_of_ble_eq_true rfl⟩ ⟨Nat.zero_le _, Nat.zero_le _⟩ (Nat.le_of_ble_eq_true rfl) dX8_isBehind_10 (fun v1 => ?_)
      refine zr_istore_n (pc' := 14) cx rfl (lv' := [(3, .int (i32 v1)), (0, .ref (zad Y 400)), (2, .int (i32 a2))]) dX8_isBehind_13 rfl (by decide) rfl ?_
      refine zr_goto cx (tgt := 2) dX8_isBehind_14 rfl ?_
      refine zr_sub [1, 2, 0] rfl ?_
      exact ih a2 v1
theorem wX8_isBehind (cx : zCx Y p s m args meth c RX8 cX8_isBehind 4 (some .boolean)) (g : zSt) (a1 : Int) (a2 : Int)  : zWo Y p l e (zrm 1) s m args below meth c 4 0 0 (fun v : Int => MQ below (zQi Y v g) args s 0 0 (zA Y)) g [(0, .ref (zad Y 400)), (1, .int (i32 a1)), (2, .int (i32 a2))] ([]) 0 (fX8_isBehind g a1 a2) := by
  unfold fX8_isBehind
  refine zr_iload_n (pc' := 1) cx rfl 1 dX8_isBehind_0 rfl rfl ?_
  refine zr_istore_n (pc' := 2) cx rfl (lv' := [(3, .int (i32 a1)), (0, .ref (zad Y 400)), (1, .int (i32 a1)), (2, .int (i32 a2))]) dX8_isBehind_1 rfl (by decide) rfl ?_
  refine zr_sub [1, 3, 0] rfl ?_
  exact wX8_isBehind_p2 cx g zfu a2 a1
theorem mX8_isBehind (l : Launch) (Y : zLy) (g : zSt) (a1 : Int) (a2 : Int)  : ∀ v, fX8_isBehind g a1 a2 = some v → zMt l yX8_isBehind cX8_isBehind 4 (some .boolean) 1 [.ref (zad Y 400), .int (i32 a1), .int (i32 a2)] Y g (zQi Y v g) := by
  intro v hv
  refine zmet_of RX8 rfl (by decide +kernel) (Nat.le_of_ble_eq_true rfl) ?_
  intro p e s m below meth c cx H locs ls hH hS hl
  exact wX8_isBehind cx g a1 a2  v hv H locs ls hH hS hl
theorem zc_X8_77 (cx : zCx Y p s m args meth c RX8 cc nl ret) (hpc : pc + 3 = pc') {g : zSt} {a1 : Int} {a2 : Int}  {fk : Int → Option ρ} (hR : 1 + 1 ≤ R.frames ∧ 8 + (4 + 11) + 40 * 1 ≤ R.locals) (hkn : k ≤ R.cells ∧ n ≤ R.slots) (hrest : (rest.map fun v => v.category).sum ≤ 8) (hdg : decode cc pc = .ok (.invokevirtual 77, 3)) (kk : ∀ v : Int, zWo Y p l e R s m args below meth c nl k n kq g lv (.int (i32 v) :: rest) pc' (fk v)) : zWo Y p l e R s m args below meth c nl k n kq g lv (.int (i32 a2) :: .int (i32 a1) :: .ref (zad Y 400) :: rest) pc (zbd (fX8_isBehind g a1 a2) fk) := zr_callViP cx (an := 2) (As := [.int (i32 a1), .int (i32 a2)]) 9 zkc_400 (by decide) rfl (mX8_isBehind l Y g a1 a2) (zG_V zw_1090 zw_1092 zw_53 zw_109 zw_1093) (by decide +kernel) hR hkn rfl rfl hrest hdg hpc kk
def fX8_dark (g : zSt) (a1 : Int) : Option Int :=
    zbd (fX8_ofLantern g a1 0) (fun v1 =>
    zbd (fX8_isSwitched g v1) (fun v2 =>
    (if i32 v2 = i32 0 then
    some 1
    else
    zbd (fX8_isWhole g v1 0) (fun v3 =>
    (if i32 v3 = i32 0 then
    some 2
    else
    zbd (fX8_isWhole g v1 1) (fun v4 =>
    (if i32 v4 = i32 0 then
    some 3
    else
    zbd (fX8_ofLantern g a1 2) (fun v5 =>
    (if i32 v5 = i32 1 then
    zbd (fX8_pole g v1 0) (fun v6 =>
    (if i32 v6 = i32 1 then
    some 4
    else
    some 0))
    else
    some 0)))))))))
theorem wX8_dark (cx : zCx Y p s m args meth c RX8 cX8_dark 3 (some .int)) (g : zSt) (a1 : Int)  : zWo Y p l e (zrm 3) s m args below meth c 3 0 0 (fun v : Int => MQ below (zQi Y v g) args s 0 0 (zA Y)) g [(0, .ref (zad Y 400)), (1, .int (i32 a1))] ([]) 0 (fX8_dark g a1) := by
  unfold fX8_dark
  refine zr_aload_n (pc' := 1) cx rfl 0 dX8_dark_0 rfl rfl ?_
  refine zr_iload_n (pc' := 2) cx rfl 1 dX8_dark_1 rfl rfl ?_
  refine zr_iconst (pc' := 3) cx rfl dX8_dark_2 ?_
  refine zc_X8_48 (pc' := 6) cx rfl  ⟨Nat.le_of_ble_eq_true rfl, Nat.le_of_ble_eq_true rfl⟩ ⟨Nat.zero_le _, Nat.zero_le _⟩ (Nat.le_of_ble_eq_true rfl) dX8_dark_3 (fun v1 => ?_)
  refine zr_istore_n (pc' := 7) cx rfl (lv' := [(2, .int (i32 v1)), (0, .ref (zad Y 400)), (1, .int (i32 a1))]) dX8_dark_6 rfl (by decide) rfl ?_
  refine zr_aload_n (pc' := 8) cx rfl 1 dX8_dark_7 rfl rfl ?_
  refine zr_iload_n (pc' := 9) cx rfl 0 dX8_dark_8 rfl rfl ?_
  refine zc_X8_40 (pc' := 12) cx rfl  ⟨Nat.le_of_ble_eq_true rfl, Nat.le_of_ble_eq_true rfl⟩ ⟨Nat.zero_le _, Nat.zero_le _⟩ (Nat.le_of_ble_eq_true rfl) dX8_dark_9 (fun v2 => ?_)
  refine zr_if_ne (pc' := 15) cx rfl (tgt := 17) dX8_dark_12 rfl ?_ ?_
  · refine zr_aload_n (pc' := 18) cx rfl 1 dX8_dark_17 rfl rfl ?_
    refine zr_iload_n (pc' := 19) cx rfl 0 dX8_dark_18 rfl rfl ?_
    refine zr_iconst (pc' := 20) cx rfl dX8_dark_19 ?_
    refine zc_X8_44 (pc' := 23) cx rfl  ⟨Nat.le_of_ble_eq_true rfl, Nat.le_of_ble_eq_true rfl⟩ ⟨Nat.zero_le _, Nat.zero_le _⟩ (Nat.le_of_ble_eq_true rfl) dX8_dark_20 (fun v3 => ?_)
    refine zr_if_ne (pc' := 26) cx rfl (tgt := 30) dX8_dark_23 rfl ?_ ?_
    · refine zr_aload_n (pc' := 31) cx rfl 1 dX8_dark_30 rfl rfl ?_
      refine zr_iload_n (pc' := 32) cx rfl 0 dX8_dark_31 rfl rfl ?_
      refine zr_iconst (pc' := 33) cx rfl dX8_dark_32 ?_
      refine zc_X8_44 (pc' := 36) cx rfl  ⟨Nat.le_of_ble_eq_true rfl, Nat.le_of_ble_eq_true rfl⟩ ⟨Nat.zero_le _, Nat.zero_le _⟩ (Nat.le_of_ble_eq_true rfl) dX8_dark_33 (fun v4 => ?_)
      refine zr_if_ne (pc' := 39) cx rfl (tgt := 43) dX8_dark_36 rfl ?_ ?_
      · refine zr_aload_n (pc' := 44) cx rfl 1 dX8_dark_43 rfl rfl ?_
        refine zr_iload_n (pc' := 45) cx rfl 2 dX8_dark_44 rfl rfl ?_
        refine zr_iconst (pc' := 46) cx rfl dX8_dark_45 ?_
        refine zc_X8_48 (pc' := 49) cx rfl  ⟨Nat.le_of_ble_eq_true rfl, Nat.le_of_ble_eq_true rfl⟩ ⟨Nat.zero_le _, Nat.zero_le _⟩ (Nat.le_of_ble_eq_true rfl) dX8_dark_46 (fun v5 => ?_)
        refine zr_iconst (pc' := 50) cx rfl dX8_dark_49 ?_
        refine zr_icmp_ne (pc' := 53) cx rfl (tgt := 67) dX8_dark_50 rfl ?_ ?_
        · refine zr_iconst (pc' := 68) cx rfl dX8_dark_67 ?_
          exact zr_iretP cx dX8_dark_68
        · refine zr_aload_n (pc' := 54) cx rfl 1 dX8_dark_53 rfl rfl ?_
          refine zr_iload_n (pc' := 55) cx rfl 0 dX8_dark_54 rfl rfl ?_
          refine zr_iconst (pc' := 56) cx rfl dX8_dark_55 ?_
          refine zc_X8_51 (pc' := 59) cx rfl  ⟨Nat.le_of_ble_eq_true rfl, Nat.le_of_ble_eq_true rfl⟩ ⟨Nat.zero_le _, Nat.zero_le _⟩ (Nat.le_of_ble_eq_true rfl) dX8_dark_56 (fun v6 => ?_)
          refine zr_iconst (pc' := 60) cx rfl dX8_dark_59 ?_
          refine zr_icmp_ne (pc' := 63) cx rfl (tgt := 67) dX8_dark_60 rfl ?_ ?_
          · refine zr_iconst (pc' := 68) cx rfl dX8_dark_67 ?_
            exact zr_iretP cx dX8_dark_68
          · refine zr_iconst (pc' := 64) cx rfl dX8_dark_63 ?_
            refine zr_gotoS cx (tgt := 68) dX8_dark_64 rfl ?_
            exact zr_iretP cx dX8_dark_68
      · refine zr_iconst (pc' := 40) cx rfl dX8_dark_39 ?_
        refine zr_gotoS cx (tgt := 68) dX8_dark_40 rfl ?_
        exact zr_iretP cx dX8_dark_68
    · refine zr_iconst (pc' := 27) cx rfl dX8_dark_26 ?_
      refine zr_gotoS cx (tgt := 68) dX8_dark_27 rfl ?_
      exact zr_iretP cx dX8_dark_68
  · refine zr_iconst (pc' := 16) cx rfl dX8_dark_15 ?_
    exact zr_iretP cx dX8_dark_16
theorem mX8_dark (l : Launch) (Y : zLy) (g : zSt) (a1 : Int)  : ∀ v, fX8_dark g a1 = some v → zMt l yX8_dark cX8_dark 3 (some .int) 3 [.ref (zad Y 400), .int (i32 a1)] Y g (zQi Y v g) := by
  intro v hv
  refine zmet_of RX8 rfl (by decide +kernel) (Nat.le_of_ble_eq_true rfl) ?_
  intro p e s m below meth c cx H locs ls hH hS hl
  exact wX8_dark cx g a1  v hv H locs ls hH hS hl
theorem zc_X8_54 (cx : zCx Y p s m args meth c RX8 cc nl ret) (hpc : pc + 3 = pc') {g : zSt} {a1 : Int}  {fk : Int → Option ρ} (hR : 3 + 1 ≤ R.frames ∧ 8 + (3 + 11) + 40 * 3 ≤ R.locals) (hkn : k ≤ R.cells ∧ n ≤ R.slots) (hrest : (rest.map fun v => v.category).sum ≤ 8) (hdg : decode cc pc = .ok (.invokevirtual 54, 3)) (kk : ∀ v : Int, zWo Y p l e R s m args below meth c nl k n kq g lv (.int (i32 v) :: rest) pc' (fk v)) : zWo Y p l e R s m args below meth c nl k n kq g lv (.int (i32 a1) :: .ref (zad Y 400) :: rest) pc (zbd (fX8_dark g a1) fk) := zr_callViP cx (an := 1) (As := [.int (i32 a1)]) 9 zkc_400 (by decide) rfl (mX8_dark l Y g a1) (zG_V zw_1078 zw_1080 zw_50 zw_109 zw_1081) (by decide +kernel) hR hkn rfl rfl hrest hdg hpc kk
def fX8_burning_p4 (g : zSt)  : Nat → Int → Int → Option Int
  | 0, _, _ => none
  | fu + 1, a1, a2 =>
    zck ((0 : Int) ≤ 85 ∧ 85 < 168) (
    (if i32 a2 < i32 (g.1 401 (Int.toNat 85)) then
    zbd (fX8_dark g a2) (fun v1 =>
    (if i32 v1 = i32 0 then
    zlet (a1 + 1) (fun x3 =>
    fX8_burning_p4 g fu x3 (a2 + 1))
    else
    zlet (a1 + 0) (fun x2 =>
    fX8_burning_p4 g fu x2 (a2 + 1))))
    else
    some a1))
def fX8_burning (g : zSt) : Option Int :=
    fX8_burning_p4 g zfu 0 0
theorem wX8_burning_p4 (cx : zCx Y p s m args meth c RX8 cX8_burning 3 (some .int)) (g : zSt)   : ∀ (fu : Nat) (a1 : Int) (a2 : Int), zWo Y p l e (zrm 4) s m args below meth c 3 0 0 (fun v : Int => MQ below (zQi Y v g) args s 0 0 (zA Y)) g [(0, .ref (zad Y 400)), (1, .int (i32 a1)), (2, .int (i32 a2))] ([]) 4 (fX8_burning_p4 g fu a1 a2) := by
  intro fu
  induction fu with
  | zero => intro a1 a2; exact zr_none
  | succ fu ih =>
    intro a1 a2
    rw [fX8_burning_p4]
    refine zr_iload_n (pc' := 5) cx rfl 2 dX8_burning_4 rfl rfl ?_
    refine zr_aload_n (pc' := 6) cx rfl 0 dX8_burning_5 rfl rfl ?_
    refine zg_X8_7 (pc' := 9) cx rfl zkc_400 dX8_burning_6 ?_
    refine zr_bipush (pc' := 11) cx rfl dX8_burning_9 (by decide +kernel) ?_
    refine zr_iald (pc' := 12) cx rfl 16 zkc_401 (by decide) (L := 168) rfl dX8_burning_11 ?_
    refine zr_icmp_ge (pc' := 15) cx rfl (tgt := 37) dX8_burning_12 rfl ?_ ?_
    · refine zr_iload_n (pc' := 38) cx rfl 1 dX8_burning_37 rfl rfl ?_
      exact zr_iretP cx dX8_burning_38
    · refine zr_iload_n (pc' := 16) cx rfl 1 dX8_burning_15 rfl rfl ?_
      refine zr_aload_n (pc' := 17) cx rfl 0 dX8_burning_16 rfl rfl ?_
      refine zr_iload_n (pc' := 18) cx rfl 2 dX8_burning_17 rfl rfl ?_
      refine zc_X8_54 (pc' := 21) cx rfl  ⟨Nat.le_of_ble_eq_true rfl, Nat.le_of_ble_eq_true rfl⟩ ⟨Nat.zero_le _, Nat.zero_le _⟩ (Nat.le_of_ble_eq_true rfl) dX8_burning_18 (fun v1 => ?_)
      refine zr_if_ne (pc' := 24) cx rfl (tgt := 28) dX8_burning_21 rfl ?_ ?_
      · refine zr_iconst (pc' := 29) cx rfl dX8_burning_28 ?_
        refine zr_iadd (pc' := 30) cx rfl dX8_burning_29 ?_
        refine zr_leti (fun x2 => ?_)
        refine zr_istore_n (pc' := 31) cx rfl (lv' := [(1, .int (i32 x2)), (0, .ref (zad Y 400)), (2, .int (i32 a2))]) dX8_burning_30 rfl (by decide) rfl ?_
        refine zr_iinc (pc' := 34) cx rfl (lv' := [(2, .int (i32 (a2 + 1))), (1, .int (i32 x2)), (0, .ref (zad Y 400))]) 2 dX8_burning_31 rfl (by decide) rfl ?_
        refine zr_goto cx (tgt := 4) dX8_burning_34 rfl ?_
        refine zr_sub [2, 1, 0] rfl ?_
        exact ih x2 (a2 + 1)
      · refine zr_iconst (pc' := 25) cx rfl dX8_burning_24 ?_
        refine zr_gotoS cx (tgt := 29) dX8_burning_25 rfl ?_
        refine zr_iadd (pc' := 30) cx rfl dX8_burning_29 ?_
        refine zr_leti (fun x3 => ?_)
        refine zr_istore_n (pc' := 31) cx rfl (lv' := [(1, .int (i32 x3)), (0, .ref (zad Y 400)), (2, .int (i32 a2))]) dX8_burning_30 rfl (by decide) rfl ?_
        refine zr_iinc (pc' := 34) cx rfl (lv' := [(2, .int (i32 (a2 + 1))), (1, .int (i32 x3)), (0, .ref (zad Y 400))]) 2 dX8_burning_31 rfl (by decide) rfl ?_
        refine zr_goto cx (tgt := 4) dX8_burning_34 rfl ?_
        refine zr_sub [2, 1, 0] rfl ?_
        exact ih x3 (a2 + 1)
theorem wX8_burning (cx : zCx Y p s m args meth c RX8 cX8_burning 3 (some .int)) (g : zSt)  : zWo Y p l e (zrm 4) s m args below meth c 3 0 0 (fun v : Int => MQ below (zQi Y v g) args s 0 0 (zA Y)) g [(0, .ref (zad Y 400))] ([]) 0 (fX8_burning g) := by
  unfold fX8_burning
  refine zr_iconst (pc' := 1) cx rfl dX8_burning_0 ?_
  refine zr_istore_n (pc' := 2) cx rfl (lv' := [(1, .int (i32 0)), (0, .ref (zad Y 400))]) dX8_burning_1 rfl (by decide) rfl ?_
  refine zr_iconst (pc' := 3) cx rfl dX8_burning_2 ?_
  refine zr_istore_n (pc' := 4) cx rfl (lv' := [(2, .int (i32 0)), (1, .int (i32 0)), (0, .ref (zad Y 400))]) dX8_burning_3 rfl (by decide) rfl ?_
  refine zr_sub [2, 1, 0] rfl ?_
  exact wX8_burning_p4 cx g zfu 0 0
theorem mX8_burning (l : Launch) (Y : zLy) (g : zSt)  : ∀ v, fX8_burning g = some v → zMt l yX8_burning cX8_burning 3 (some .int) 4 [.ref (zad Y 400)] Y g (zQi Y v g) := by
  intro v hv
  refine zmet_of RX8 rfl (by decide +kernel) (Nat.le_of_ble_eq_true rfl) ?_
  intro p e s m below meth c cx H locs ls hH hS hl
  exact wX8_burning cx g   v hv H locs ls hH hS hl
theorem zc_X8_132 (cx : zCx Y p s m args meth c RX8 cc nl ret) (hpc : pc + 3 = pc') {g : zSt}   {fk : Int → Option ρ} (hR : 4 + 1 ≤ R.frames ∧ 8 + (3 + 11) + 40 * 4 ≤ R.locals) (hkn : k ≤ R.cells ∧ n ≤ R.slots) (hrest : (rest.map fun v => v.category).sum ≤ 8) (hdg : decode cc pc = .ok (.invokevirtual 132, 3)) (kk : ∀ v : Int, zWo Y p l e R s m args below meth c nl k n kq g lv (.int (i32 v) :: rest) pc' (fk v)) : zWo Y p l e R s m args below meth c nl k n kq g lv (.ref (zad Y 400) :: rest) pc (zbd (fX8_burning g) fk) := zr_callViP cx (an := 0) (As := []) 9 zkc_400 (by decide) rfl (mX8_burning l Y g) (zG_V zw_1142 zw_1144 zw_64 zw_109 zw_1145) (by decide +kernel) hR hkn rfl rfl hrest hdg hpc kk
def fX8_drawn_p4 (g : zSt)  : Nat → Int → Int → Option Int
  | 0, _, _ => none
  | fu + 1, a1, a2 =>
    zck ((0 : Int) ≤ 85 ∧ 85 < 168) (
    (if i32 a2 < i32 (g.1 401 (Int.toNat 85)) then
    zbd (fX8_dark g a2) (fun v1 =>
    (if i32 v1 = i32 0 then
    zbd (fX8_ofLantern g a2 1) (fun v3 =>
    zlet (a1 + v3) (fun x4 =>
    fX8_drawn_p4 g fu x4 (a2 + 1)))
    else
    zlet (a1 + 0) (fun x2 =>
    fX8_drawn_p4 g fu x2 (a2 + 1))))
    else
    some a1))
def fX8_drawn (g : zSt) : Option Int :=
    fX8_drawn_p4 g zfu 0 0
theorem wX8_drawn_p4 (cx : zCx Y p s m args meth c RX8 cX8_drawn 3 (some .int)) (g : zSt)   : ∀ (fu : Nat) (a1 : Int) (a2 : Int), zWo Y p l e (zrm 4) s m args below meth c 3 0 0 (fun v : Int => MQ below (zQi Y v g) args s 0 0 (zA Y)) g [(0, .ref (zad Y 400)), (1, .int (i32 a1)), (2, .int (i32 a2))] ([]) 4 (fX8_drawn_p4 g fu a1 a2) := by
  intro fu
  induction fu with
  | zero => intro a1 a2; exact zr_none
  | succ fu ih =>
    intro a1 a2
    rw [fX8_drawn_p4]
    refine zr_iload_n (pc' := 5) cx rfl 2 dX8_drawn_4 rfl rfl ?_
    refine zr_aload_n (pc' := 6) cx rfl 0 dX8_drawn_5 rfl rfl ?_
    refine zg_X8_7 (pc' := 9) cx rfl zkc_400 dX8_drawn_6 ?_
    refine zr_bipush (pc' := 11) cx rfl dX8_drawn_9 (by decide +kernel) ?_
    refine zr_iald (pc' := 12) cx rfl 16 zkc_401 (by decide) (L := 168) rfl dX8_drawn_11 ?_
    refine zr_icmp_ge (pc' := 15) cx rfl (tgt := 42) dX8_drawn_12 rfl ?_ ?_
    · refine zr_iload_n (pc' := 43) cx rfl 1 dX8_drawn_42 rfl rfl ?_
      exact zr_iretP cx dX8_drawn_43
    · refine zr_iload_n (pc' := 16) cx rfl 1 dX8_drawn_15 rfl rfl ?_
      refine zr_aload_n (pc' := 17) cx rfl 0 dX8_drawn_16 rfl rfl ?_
      refine zr_iload_n (pc' := 18) cx rfl 2 dX8_drawn_17 rfl rfl ?_
      refine zc_X8_54 (pc' := 21) cx rfl  ⟨Nat.le_of_ble_eq_true rfl, Nat.le_of_ble_eq_true rfl⟩ ⟨Nat.zero_le _, Nat.zero_le _⟩ (Nat.le_of_ble_eq_true rfl) dX8_drawn_18 (fun v1 => ?_)
      refine zr_if_ne (pc' := 24) cx rfl (tgt := 33) dX8_drawn_21 rfl ?_ ?_
      · refine zr_iconst (pc' := 34) cx rfl dX8_drawn_33 ?_
        refine zr_iadd (pc' := 35) cx rfl dX8_drawn_34 ?_
        refine zr_leti (fun x2 => ?_)
        refine zr_istore_n (pc' := 36) cx rfl (lv' := [(1, .int (i32 x2)), (0, .ref (zad Y 400)), (2, .int (i32 a2))]) dX8_drawn_35 rfl (by decide) rfl ?_
        refine zr_iinc (pc' := 39) cx rfl (lv' := [(2, .int (i32 (a2 + 1))), (1, .int (i32 x2)), (0, .ref (zad Y 400))]) 2 dX8_drawn_36 rfl (by decide) rfl ?_
        refine zr_goto cx (tgt := 4) dX8_drawn_39 rfl ?_
        refine zr_sub [2, 1, 0] rfl ?_
        exact ih x2 (a2 + 1)
      · refine zr_aload_n (pc' := 25) cx rfl 0 dX8_drawn_24 rfl rfl ?_
        refine zr_iload_n (pc' := 26) cx rfl 2 dX8_drawn_25 rfl rfl ?_
        refine zr_iconst (pc' := 27) cx rfl dX8_drawn_26 ?_
        refine zc_X8_48 (pc' := 30) cx rfl  ⟨Nat.le_of_ble_eq_true rfl, Nat.le_of_ble_eq_true rfl⟩ ⟨Nat.zero_le _, Nat.zero_le _⟩ (Nat.le_of_ble_eq_true rfl) dX8_drawn_27 (fun v3 => ?_)
        refine zr_gotoS cx (tgt := 34) dX8_drawn_30 rfl ?_
        refine zr_iadd (pc' := 35) cx rfl dX8_drawn_34 ?_
        refine zr_leti (fun x4 => ?_)
        refine zr_istore_n (pc' := 36) cx rfl (lv' := [(1, .int (i32 x4)), (0, .ref (zad Y 400)), (2, .int (i32 a2))]) dX8_drawn_35 rfl (by decide) rfl ?_
        refine zr_iinc (pc' := 39) cx rfl (lv' := [(2, .int (i32 (a2 + 1))), (1, .int (i32 x4)), (0, .ref (zad Y 400))]) 2 dX8_drawn_36 rfl (by decide) rfl ?_
        refine zr_goto cx (tgt := 4) dX8_drawn_39 rfl ?_
        refine zr_sub [2, 1, 0] rfl ?_
        exact ih x4 (a2 + 1)
theorem wX8_drawn (cx : zCx Y p s m args meth c RX8 cX8_drawn 3 (some .int)) (g : zSt)  : zWo Y p l e (zrm 4) s m args below meth c 3 0 0 (fun v : Int => MQ below (zQi Y v g) args s 0 0 (zA Y)) g [(0, .ref (zad Y 400))] ([]) 0 (fX8_drawn g) := by
  unfold fX8_drawn
  refine zr_iconst (pc' := 1) cx rfl dX8_drawn_0 ?_
  refine zr_istore_n (pc' := 2) cx rfl (lv' := [(1, .int (i32 0)), (0, .ref (zad Y 400))]) dX8_drawn_1 rfl (by decide) rfl ?_
  refine zr_iconst (pc' := 3) cx rfl dX8_drawn_2 ?_
  refine zr_istore_n (pc' := 4) cx rfl (lv' := [(2, .int (i32 0)), (1, .int (i32 0)), (0, .ref (zad Y 400))]) dX8_drawn_3 rfl (by decide) rfl ?_
  refine zr_sub [2, 1, 0] rfl ?_
  exact wX8_drawn_p4 cx g zfu 0 0
theorem mX8_drawn (l : Launch) (Y : zLy) (g : zSt)  : ∀ v, fX8_drawn g = some v → zMt l yX8_drawn cX8_drawn 3 (some .int) 4 [.ref (zad Y 400)] Y g (zQi Y v g) := by
  intro v hv
  refine zmet_of RX8 rfl (by decide +kernel) (Nat.le_of_ble_eq_true rfl) ?_
  intro p e s m below meth c cx H locs ls hH hS hl
  exact wX8_drawn cx g   v hv H locs ls hH hS hl
theorem zc_X8_159 (cx : zCx Y p s m args meth c RX8 cc nl ret) (hpc : pc + 3 = pc') {g : zSt}   {fk : Int → Option ρ} (hR : 4 + 1 ≤ R.frames ∧ 8 + (3 + 11) + 40 * 4 ≤ R.locals) (hkn : k ≤ R.cells ∧ n ≤ R.slots) (hrest : (rest.map fun v => v.category).sum ≤ 8) (hdg : decode cc pc = .ok (.invokevirtual 159, 3)) (kk : ∀ v : Int, zWo Y p l e R s m args below meth c nl k n kq g lv (.int (i32 v) :: rest) pc' (fk v)) : zWo Y p l e R s m args below meth c nl k n kq g lv (.ref (zad Y 400) :: rest) pc (zbd (fX8_drawn g) fk) := zr_callViP cx (an := 0) (As := []) 9 zkc_400 (by decide) rfl (mX8_drawn l Y g) (zG_V zw_1202 zw_1204 zw_71 zw_109 zw_1205) (by decide +kernel) hR hkn rfl rfl hrest hdg hpc kk
def fX8_isLive (g : zSt) (a1 : Int) : Option Int :=
    zbd (fX8_ofFault g a1 0) (fun v1 =>
    zbd (fX8_ofFault g a1 1) (fun v2 =>
    zbd (fX8_isAlive g v1 v2) (fun v3 =>
    zck ((v3 : Int) = 0 ∨ (v3 : Int) = 1) (some v3))))
theorem wX8_isLive (cx : zCx Y p s m args meth c RX8 cX8_isLive 2 (some .boolean)) (g : zSt) (a1 : Int)  : zWo Y p l e (zrm 4) s m args below meth c 2 0 0 (fun v : Int => MQ below (zQi Y v g) args s 0 0 (zA Y)) g [(0, .ref (zad Y 400)), (1, .int (i32 a1))] ([]) 0 (fX8_isLive g a1) := by
  unfold fX8_isLive
  refine zr_aload_n (pc' := 1) cx rfl 0 dX8_isLive_0 rfl rfl ?_
  refine zr_aload_n (pc' := 2) cx rfl 0 dX8_isLive_1 rfl rfl ?_
  refine zr_iload_n (pc' := 3) cx rfl 1 dX8_isLive_2 rfl rfl ?_
  refine zr_iconst (pc' := 4) cx rfl dX8_isLive_3 ?_
  refine zc_X8_58 (pc' := 7) cx rfl  ⟨Nat.le_of_ble_eq_true rfl, Nat.le_of_ble_eq_true rfl⟩ ⟨Nat.zero_le _, Nat.zero_le _⟩ (Nat.le_of_ble_eq_true rfl) dX8_isLive_4 (fun v1 => ?_)
  refine zr_aload_n (pc' := 8) cx rfl 0 dX8_isLive_7 rfl rfl ?_
  refine zr_iload_n (pc' := 9) cx rfl 1 dX8_isLive_8 rfl rfl ?_
  refine zr_iconst (pc' := 10) cx rfl dX8_isLive_9 ?_
  refine zc_X8_58 (pc' := 13) cx rfl  ⟨Nat.le_of_ble_eq_true rfl, Nat.le_of_ble_eq_true rfl⟩ ⟨Nat.zero_le _, Nat.zero_le _⟩ (Nat.le_of_ble_eq_true rfl) dX8_isLive_10 (fun v2 => ?_)
  refine zc_X8_61 (pc' := 16) cx rfl  ⟨Nat.le_of_ble_eq_true rfl, Nat.le_of_ble_eq_true rfl⟩ ⟨Nat.zero_le _, Nat.zero_le _⟩ (Nat.le_of_ble_eq_true rfl) dX8_isLive_13 (fun v3 => ?_)
  exact zr_zretP cx dX8_isLive_16
theorem mX8_isLive (l : Launch) (Y : zLy) (g : zSt) (a1 : Int)  : ∀ v, fX8_isLive g a1 = some v → zMt l yX8_isLive cX8_isLive 2 (some .boolean) 4 [.ref (zad Y 400), .int (i32 a1)] Y g (zQi Y v g) := by
  intro v hv
  refine zmet_of RX8 rfl (by decide +kernel) (Nat.le_of_ble_eq_true rfl) ?_
  intro p e s m below meth c cx H locs ls hH hS hl
  exact wX8_isLive cx g a1  v hv H locs ls hH hS hl
theorem zc_X8_64 (cx : zCx Y p s m args meth c RX8 cc nl ret) (hpc : pc + 3 = pc') {g : zSt} {a1 : Int}  {fk : Int → Option ρ} (hR : 4 + 1 ≤ R.frames ∧ 8 + (2 + 11) + 40 * 4 ≤ R.locals) (hkn : k ≤ R.cells ∧ n ≤ R.slots) (hrest : (rest.map fun v => v.category).sum ≤ 8) (hdg : decode cc pc = .ok (.invokevirtual 64, 3)) (kk : ∀ v : Int, zWo Y p l e R s m args below meth c nl k n kq g lv (.int (i32 v) :: rest) pc' (fk v)) : zWo Y p l e R s m args below meth c nl k n kq g lv (.int (i32 a1) :: .ref (zad Y 400) :: rest) pc (zbd (fX8_isLive g a1) fk) := zr_callViP cx (an := 1) (As := [.int (i32 a1)]) 9 zkc_400 (by decide) rfl (mX8_isLive l Y g a1) (zG_V zw_1106 zw_1108 zw_57 zw_109 zw_1109) (by decide +kernel) hR hkn rfl rfl hrest hdg hpc kk
def fX8_faultPole (g : zSt) (a1 : Int) : Option Int :=
    zbd (fX8_ofFault g a1 0) (fun v1 =>
    zbd (fX8_ofFault g a1 1) (fun v2 =>
    zbd (fX8_pole g v1 v2) (fun v3 =>
    some v3)))
theorem wX8_faultPole (cx : zCx Y p s m args meth c RX8 cX8_faultPole 2 (some .int)) (g : zSt) (a1 : Int)  : zWo Y p l e (zrm 3) s m args below meth c 2 0 0 (fun v : Int => MQ below (zQi Y v g) args s 0 0 (zA Y)) g [(0, .ref (zad Y 400)), (1, .int (i32 a1))] ([]) 0 (fX8_faultPole g a1) := by
  unfold fX8_faultPole
  refine zr_aload_n (pc' := 1) cx rfl 0 dX8_faultPole_0 rfl rfl ?_
  refine zr_aload_n (pc' := 2) cx rfl 0 dX8_faultPole_1 rfl rfl ?_
  refine zr_iload_n (pc' := 3) cx rfl 1 dX8_faultPole_2 rfl rfl ?_
  refine zr_iconst (pc' := 4) cx rfl dX8_faultPole_3 ?_
  refine zc_X8_58 (pc' := 7) cx rfl  ⟨Nat.le_of_ble_eq_true rfl, Nat.le_of_ble_eq_true rfl⟩ ⟨Nat.zero_le _, Nat.zero_le _⟩ (Nat.le_of_ble_eq_true rfl) dX8_faultPole_4 (fun v1 => ?_)
  refine zr_aload_n (pc' := 8) cx rfl 0 dX8_faultPole_7 rfl rfl ?_
  refine zr_iload_n (pc' := 9) cx rfl 1 dX8_faultPole_8 rfl rfl ?_
  refine zr_iconst (pc' := 10) cx rfl dX8_faultPole_9 ?_
  refine zc_X8_58 (pc' := 13) cx rfl  ⟨Nat.le_of_ble_eq_true rfl, Nat.le_of_ble_eq_true rfl⟩ ⟨Nat.zero_le _, Nat.zero_le _⟩ (Nat.le_of_ble_eq_true rfl) dX8_faultPole_10 (fun v2 => ?_)
  refine zc_X8_51 (pc' := 16) cx rfl  ⟨Nat.le_of_ble_eq_true rfl, Nat.le_of_ble_eq_true rfl⟩ ⟨Nat.zero_le _, Nat.zero_le _⟩ (Nat.le_of_ble_eq_true rfl) dX8_faultPole_13 (fun v3 => ?_)
  exact zr_iretP cx dX8_faultPole_16
theorem mX8_faultPole (l : Launch) (Y : zLy) (g : zSt) (a1 : Int)  : ∀ v, fX8_faultPole g a1 = some v → zMt l yX8_faultPole cX8_faultPole 2 (some .int) 3 [.ref (zad Y 400), .int (i32 a1)] Y g (zQi Y v g) := by
  intro v hv
  refine zmet_of RX8 rfl (by decide +kernel) (Nat.le_of_ble_eq_true rfl) ?_
  intro p e s m below meth c cx H locs ls hH hS hl
  exact wX8_faultPole cx g a1  v hv H locs ls hH hS hl
theorem zc_X8_67 (cx : zCx Y p s m args meth c RX8 cc nl ret) (hpc : pc + 3 = pc') {g : zSt} {a1 : Int}  {fk : Int → Option ρ} (hR : 3 + 1 ≤ R.frames ∧ 8 + (2 + 11) + 40 * 3 ≤ R.locals) (hkn : k ≤ R.cells ∧ n ≤ R.slots) (hrest : (rest.map fun v => v.category).sum ≤ 8) (hdg : decode cc pc = .ok (.invokevirtual 67, 3)) (kk : ∀ v : Int, zWo Y p l e R s m args below meth c nl k n kq g lv (.int (i32 v) :: rest) pc' (fk v)) : zWo Y p l e R s m args below meth c nl k n kq g lv (.int (i32 a1) :: .ref (zad Y 400) :: rest) pc (zbd (fX8_faultPole g a1) fk) := zr_callViP cx (an := 1) (As := [.int (i32 a1)]) 9 zkc_400 (by decide) rfl (mX8_faultPole l Y g a1) (zG_V zw_1118 zw_1120 zw_60 zw_109 zw_1121) (by decide +kernel) hR hkn rfl rfl hrest hdg hpc kk
def fX8_lampOf_p4 (g : zSt)  : Nat → Int → Int → Int → Option Int
  | 0, _, _, _ => none
  | fu + 1, a1, a2, a3 =>
    zck ((0 : Int) ≤ 134 ∧ 134 < 168) (
    (if i32 a3 < i32 (g.1 401 (Int.toNat 134)) then
    zbd (fX8_isLive g a3) (fun v1 =>
    (if i32 v1 = i32 0 then
    zlet (a2 + 0) (fun x2 =>
    fX8_lampOf_p4 g fu a1 x2 (a3 + 1))
    else
    zbd (fX8_faultPole g a3) (fun v3 =>
    (if i32 v3 = i32 a1 then
    zbd (fX8_ofFault g a3 2) (fun v5 =>
    zlet (a2 + v5) (fun x6 =>
    fX8_lampOf_p4 g fu a1 x6 (a3 + 1)))
    else
    zlet (a2 + 0) (fun x4 =>
    fX8_lampOf_p4 g fu a1 x4 (a3 + 1))))))
    else
    some a2))
def fX8_lampOf (g : zSt) (a1 : Int) : Option Int :=
    fX8_lampOf_p4 g zfu a1 0 0
theorem wX8_lampOf_p4 (cx : zCx Y p s m args meth c RX8 cX8_lampOf 4 (some .int)) (g : zSt)   : ∀ (fu : Nat) (a1 : Int) (a2 : Int) (a3 : Int), zWo Y p l e (zrm 5) s m args below meth c 4 0 0 (fun v : Int => MQ below (zQi Y v g) args s 0 0 (zA Y)) g [(0, .ref (zad Y 400)), (1, .int (i32 a1)), (2, .int (i32 a2)), (3, .int (i32 a3))] ([]) 4 (fX8_lampOf_p4 g fu a1 a2 a3) := by
  intro fu
  induction fu with
  | zero => intro a1 a2 a3; exact zr_none
  | succ fu ih =>
    intro a1 a2 a3
    rw [fX8_lampOf_p4]
    refine zr_iload_n (pc' := 5) cx rfl 3 dX8_lampOf_4 rfl rfl ?_
    refine zr_aload_n (pc' := 6) cx rfl 0 dX8_lampOf_5 rfl rfl ?_
    refine zg_X8_7 (pc' := 9) cx rfl zkc_400 dX8_lampOf_6 ?_
    refine zr_sipush (pc' := 12) cx rfl dX8_lampOf_9 (by decide +kernel) ?_
    refine zr_iald (pc' := 13) cx rfl 16 zkc_401 (by decide) (L := 168) rfl dX8_lampOf_12 ?_
    refine zr_icmp_ge (pc' := 16) cx rfl (tgt := 52) dX8_lampOf_13 rfl ?_ ?_
    · refine zr_iload_n (pc' := 53) cx rfl 2 dX8_lampOf_52 rfl rfl ?_
      exact zr_iretP cx dX8_lampOf_53
    · refine zr_iload_n (pc' := 17) cx rfl 2 dX8_lampOf_16 rfl rfl ?_
      refine zr_aload_n (pc' := 18) cx rfl 0 dX8_lampOf_17 rfl rfl ?_
      refine zr_iload_n (pc' := 19) cx rfl 3 dX8_lampOf_18 rfl rfl ?_
      refine zc_X8_64 (pc' := 22) cx rfl  ⟨Nat.le_of_ble_eq_true rfl, Nat.le_of_ble_eq_true rfl⟩ ⟨Nat.zero_le _, Nat.zero_le _⟩ (Nat.le_of_ble_eq_true rfl) dX8_lampOf_19 (fun v1 => ?_)
      refine zr_if_eq (pc' := 25) cx rfl (tgt := 43) dX8_lampOf_22 rfl ?_ ?_
      · refine zr_iconst (pc' := 44) cx rfl dX8_lampOf_43 ?_
        refine zr_iadd (pc' := 45) cx rfl dX8_lampOf_44 ?_
        refine zr_leti (fun x2 => ?_)
        refine zr_istore_n (pc' := 46) cx rfl (lv' := [(2, .int (i32 x2)), (0, .ref (zad Y 400)), (1, .int (i32 a1)), (3, .int (i32 a3))]) dX8_lampOf_45 rfl (by decide) rfl ?_
        refine zr_iinc (pc' := 49) cx rfl (lv' := [(3, .int (i32 (a3 + 1))), (2, .int (i32 x2)), (0, .ref (zad Y 400)), (1, .int (i32 a1))]) 3 dX8_lampOf_46 rfl (by decide) rfl ?_
        refine zr_goto cx (tgt := 4) dX8_lampOf_49 rfl ?_
        refine zr_sub [2, 3, 1, 0] rfl ?_
        exact ih a1 x2 (a3 + 1)
      · refine zr_aload_n (pc' := 26) cx rfl 0 dX8_lampOf_25 rfl rfl ?_
        refine zr_iload_n (pc' := 27) cx rfl 3 dX8_lampOf_26 rfl rfl ?_
        refine zc_X8_67 (pc' := 30) cx rfl  ⟨Nat.le_of_ble_eq_true rfl, Nat.le_of_ble_eq_true rfl⟩ ⟨Nat.zero_le _, Nat.zero_le _⟩ (Nat.le_of_ble_eq_true rfl) dX8_lampOf_27 (fun v3 => ?_)
        refine zr_iload_n (pc' := 31) cx rfl 1 dX8_lampOf_30 rfl rfl ?_
        refine zr_icmp_ne (pc' := 34) cx rfl (tgt := 43) dX8_lampOf_31 rfl ?_ ?_
        · refine zr_iconst (pc' := 44) cx rfl dX8_lampOf_43 ?_
          refine zr_iadd (pc' := 45) cx rfl dX8_lampOf_44 ?_
          refine zr_leti (fun x4 => ?_)
          refine zr_istore_n (pc' := 46) cx rfl (lv' := [(2, .int (i32 x4)), (0, .ref (zad Y 400)), (1, .int (i32 a1)), (3, .int (i32 a3))]) dX8_lampOf_45 rfl (by decide) rfl ?_
          refine zr_iinc (pc' := 49) cx rfl (lv' := [(3, .int (i32 (a3 + 1))), (2, .int (i32 x4)), (0, .ref (zad Y 400)), (1, .int (i32 a1))]) 3 dX8_lampOf_46 rfl (by decide) rfl ?_
          refine zr_goto cx (tgt := 4) dX8_lampOf_49 rfl ?_
          refine zr_sub [2, 3, 1, 0] rfl ?_
          exact ih a1 x4 (a3 + 1)
        · refine zr_aload_n (pc' := 35) cx rfl 0 dX8_lampOf_34 rfl rfl ?_
          refine zr_iload_n (pc' := 36) cx rfl 3 dX8_lampOf_35 rfl rfl ?_
          refine zr_iconst (pc' := 37) cx rfl dX8_lampOf_36 ?_
          refine zc_X8_58 (pc' := 40) cx rfl  ⟨Nat.le_of_ble_eq_true rfl, Nat.le_of_ble_eq_true rfl⟩ ⟨Nat.zero_le _, Nat.zero_le _⟩ (Nat.le_of_ble_eq_true rfl) dX8_lampOf_37 (fun v5 => ?_)
          refine zr_gotoS cx (tgt := 44) dX8_lampOf_40 rfl ?_
          refine zr_iadd (pc' := 45) cx rfl dX8_lampOf_44 ?_
          refine zr_leti (fun x6 => ?_)
          refine zr_istore_n (pc' := 46) cx rfl (lv' := [(2, .int (i32 x6)), (0, .ref (zad Y 400)), (1, .int (i32 a1)), (3, .int (i32 a3))]) dX8_lampOf_45 rfl (by decide) rfl ?_
          refine zr_iinc (pc' := 49) cx rfl (lv' := [(3, .int (i32 (a3 + 1))), (2, .int (i32 x6)), (0, .ref (zad Y 400)), (1, .int (i32 a1))]) 3 dX8_lampOf_46 rfl (by decide) rfl ?_
          refine zr_goto cx (tgt := 4) dX8_lampOf_49 rfl ?_
          refine zr_sub [2, 3, 1, 0] rfl ?_
          exact ih a1 x6 (a3 + 1)
theorem wX8_lampOf (cx : zCx Y p s m args meth c RX8 cX8_lampOf 4 (some .int)) (g : zSt) (a1 : Int)  : zWo Y p l e (zrm 5) s m args below meth c 4 0 0 (fun v : Int => MQ below (zQi Y v g) args s 0 0 (zA Y)) g [(0, .ref (zad Y 400)), (1, .int (i32 a1))] ([]) 0 (fX8_lampOf g a1) := by
  unfold fX8_lampOf
  refine zr_iconst (pc' := 1) cx rfl dX8_lampOf_0 ?_
  refine zr_istore_n (pc' := 2) cx rfl (lv' := [(2, .int (i32 0)), (0, .ref (zad Y 400)), (1, .int (i32 a1))]) dX8_lampOf_1 rfl (by decide) rfl ?_
  refine zr_iconst (pc' := 3) cx rfl dX8_lampOf_2 ?_
  refine zr_istore_n (pc' := 4) cx rfl (lv' := [(3, .int (i32 0)), (2, .int (i32 0)), (0, .ref (zad Y 400)), (1, .int (i32 a1))]) dX8_lampOf_3 rfl (by decide) rfl ?_
  refine zr_sub [2, 3, 1, 0] rfl ?_
  exact wX8_lampOf_p4 cx g zfu a1 0 0
theorem mX8_lampOf (l : Launch) (Y : zLy) (g : zSt) (a1 : Int)  : ∀ v, fX8_lampOf g a1 = some v → zMt l yX8_lampOf cX8_lampOf 4 (some .int) 5 [.ref (zad Y 400), .int (i32 a1)] Y g (zQi Y v g) := by
  intro v hv
  refine zmet_of RX8 rfl (by decide +kernel) (Nat.le_of_ble_eq_true rfl) ?_
  intro p e s m below meth c cx H locs ls hH hS hl
  exact wX8_lampOf cx g a1  v hv H locs ls hH hS hl
theorem zc_X8_70 (cx : zCx Y p s m args meth c RX8 cc nl ret) (hpc : pc + 3 = pc') {g : zSt} {a1 : Int}  {fk : Int → Option ρ} (hR : 5 + 1 ≤ R.frames ∧ 8 + (4 + 11) + 40 * 5 ≤ R.locals) (hkn : k ≤ R.cells ∧ n ≤ R.slots) (hrest : (rest.map fun v => v.category).sum ≤ 8) (hdg : decode cc pc = .ok (.invokevirtual 70, 3)) (kk : ∀ v : Int, zWo Y p l e R s m args below meth c nl k n kq g lv (.int (i32 v) :: rest) pc' (fk v)) : zWo Y p l e R s m args below meth c nl k n kq g lv (.int (i32 a1) :: .ref (zad Y 400) :: rest) pc (zbd (fX8_lampOf g a1) fk) := zr_callViP cx (an := 1) (As := [.int (i32 a1)]) 9 zkc_400 (by decide) rfl (mX8_lampOf l Y g a1) (zG_V zw_1114 zw_1116 zw_59 zw_109 zw_1117) (by decide +kernel) hR hkn rfl rfl hrest hdg hpc kk
def fX8_leak (g : zSt) : Option Int :=
    zbd (fX8_lampOf g 0) (fun v1 =>
    zbd (fX8_lampOf g 1) (fun v2 =>
    (if i32 v1 < i32 v2 then
    zbd (fX8_lampOf g 0) (fun v4 =>
    some v4)
    else
    zbd (fX8_lampOf g 1) (fun v3 =>
    some v3))))
theorem wX8_leak (cx : zCx Y p s m args meth c RX8 cX8_leak 1 (some .int)) (g : zSt)  : zWo Y p l e (zrm 6) s m args below meth c 1 0 0 (fun v : Int => MQ below (zQi Y v g) args s 0 0 (zA Y)) g [(0, .ref (zad Y 400))] ([]) 0 (fX8_leak g) := by
  unfold fX8_leak
  refine zr_aload_n (pc' := 1) cx rfl 0 dX8_leak_0 rfl rfl ?_
  refine zr_iconst (pc' := 2) cx rfl dX8_leak_1 ?_
  refine zc_X8_70 (pc' := 5) cx rfl  ⟨Nat.le_of_ble_eq_true rfl, Nat.le_of_ble_eq_true rfl⟩ ⟨Nat.zero_le _, Nat.zero_le _⟩ (Nat.le_of_ble_eq_true rfl) dX8_leak_2 (fun v1 => ?_)
  refine zr_aload_n (pc' := 6) cx rfl 0 dX8_leak_5 rfl rfl ?_
  refine zr_iconst (pc' := 7) cx rfl dX8_leak_6 ?_
  refine zc_X8_70 (pc' := 10) cx rfl  ⟨Nat.le_of_ble_eq_true rfl, Nat.le_of_ble_eq_true rfl⟩ ⟨Nat.zero_le _, Nat.zero_le _⟩ (Nat.le_of_ble_eq_true rfl) dX8_leak_7 (fun v2 => ?_)
  refine zr_icmp_ge (pc' := 13) cx rfl (tgt := 21) dX8_leak_10 rfl ?_ ?_
  · refine zr_aload_n (pc' := 22) cx rfl 0 dX8_leak_21 rfl rfl ?_
    refine zr_iconst (pc' := 23) cx rfl dX8_leak_22 ?_
    refine zc_X8_70 (pc' := 26) cx rfl  ⟨Nat.le_of_ble_eq_true rfl, Nat.le_of_ble_eq_true rfl⟩ ⟨Nat.zero_le _, Nat.zero_le _⟩ (Nat.le_of_ble_eq_true rfl) dX8_leak_23 (fun v3 => ?_)
    exact zr_iretP cx dX8_leak_26
  · refine zr_aload_n (pc' := 14) cx rfl 0 dX8_leak_13 rfl rfl ?_
    refine zr_iconst (pc' := 15) cx rfl dX8_leak_14 ?_
    refine zc_X8_70 (pc' := 18) cx rfl  ⟨Nat.le_of_ble_eq_true rfl, Nat.le_of_ble_eq_true rfl⟩ ⟨Nat.zero_le _, Nat.zero_le _⟩ (Nat.le_of_ble_eq_true rfl) dX8_leak_15 (fun v4 => ?_)
    refine zr_gotoS cx (tgt := 26) dX8_leak_18 rfl ?_
    exact zr_iretP cx dX8_leak_26
theorem mX8_leak (l : Launch) (Y : zLy) (g : zSt)  : ∀ v, fX8_leak g = some v → zMt l yX8_leak cX8_leak 1 (some .int) 6 [.ref (zad Y 400)] Y g (zQi Y v g) := by
  intro v hv
  refine zmet_of RX8 rfl (by decide +kernel) (Nat.le_of_ble_eq_true rfl) ?_
  intro p e s m below meth c cx H locs ls hH hS hl
  exact wX8_leak cx g   v hv H locs ls hH hS hl
theorem zc_X8_73 (cx : zCx Y p s m args meth c RX8 cc nl ret) (hpc : pc + 3 = pc') {g : zSt}   {fk : Int → Option ρ} (hR : 6 + 1 ≤ R.frames ∧ 8 + (1 + 11) + 40 * 6 ≤ R.locals) (hkn : k ≤ R.cells ∧ n ≤ R.slots) (hrest : (rest.map fun v => v.category).sum ≤ 8) (hdg : decode cc pc = .ok (.invokevirtual 73, 3)) (kk : ∀ v : Int, zWo Y p l e R s m args below meth c nl k n kq g lv (.int (i32 v) :: rest) pc' (fk v)) : zWo Y p l e R s m args below meth c nl k n kq g lv (.ref (zad Y 400) :: rest) pc (zbd (fX8_leak g) fk) := zr_callViP cx (an := 0) (As := []) 9 zkc_400 (by decide) rfl (mX8_leak l Y g) (zG_V zw_1110 zw_1112 zw_58 zw_109 zw_1113) (by decide +kernel) hR hkn rfl rfl hrest hdg hpc kk
def fX8_flow_p71 (g : zSt)  (y0 : Int) (a1 : Int) : Option Int :=
    zbd (fX8_ofFault g a1 2) (fun v1 =>
    (if i32 y0 < i32 v1 then
    some y0
    else
    zbd (fX8_ofFault g a1 2) (fun v2 =>
    some v2)))
def fX8_flow_p17 (g : zSt)  : Nat → Int → Int → Int → Option Int
  | 0, _, _, _ => none
  | fu + 1, a1, a2, a3 =>
    (if i32 a3 < i32 a1 then
    zbd (fX8_isLive g a3) (fun v3 =>
    (if i32 v3 = i32 0 then
    zlet (a2 - 0) (fun x4 =>
    fX8_flow_p17 g fu a1 x4 (a3 + 1))
    else
    zbd (fX8_faultPole g a3) (fun v5 =>
    zbd (fX8_faultPole g a1) (fun v6 =>
    (if i32 v5 = i32 v6 then
    zbd (fX8_ofFault g a3 2) (fun v8 =>
    zlet (a2 - v8) (fun x9 =>
    fX8_flow_p17 g fu a1 x9 (a3 + 1)))
    else
    zlet (a2 - 0) (fun x7 =>
    fX8_flow_p17 g fu a1 x7 (a3 + 1)))))))
    else
    (if i32 a2 < i32 0 then
    fX8_flow_p71 g 0 a1
    else
    fX8_flow_p71 g a2 a1))
def fX8_flow (g : zSt) (a1 : Int) : Option Int :=
    zbd (fX8_isLive g a1) (fun v10 =>
    (if i32 v10 = i32 0 then
    some 0
    else
    zbd (fX8_leak g) (fun v11 =>
    fX8_flow_p17 g zfu a1 v11 0)))
theorem wX8_flow_p71 (cx : zCx Y p s m args meth c RX8 cX8_flow 4 (some .int)) (g : zSt)   : ∀ (y0 : Int) (a1 : Int), zWo Y p l e (zrm 7) s m args below meth c 4 0 0 (fun v : Int => MQ below (zQi Y v g) args s 0 0 (zA Y)) g [(0, .ref (zad Y 400)), (1, .int (i32 a1))] (.int (i32 y0) :: []) 71 (fX8_flow_p71 g y0 a1) := by
  intro y0 a1
  unfold fX8_flow_p71
  refine zr_istore_n (pc' := 72) cx rfl (lv' := [(2, .int (i32 y0)), (0, .ref (zad Y 400)), (1, .int (i32 a1))]) dX8_flow_71 rfl (by decide) rfl ?_
  refine zr_iload_n (pc' := 73) cx rfl 0 dX8_flow_72 rfl rfl ?_
  refine zr_aload_n (pc' := 74) cx rfl 1 dX8_flow_73 rfl rfl ?_
  refine zr_iload_n (pc' := 75) cx rfl 2 dX8_flow_74 rfl rfl ?_
  refine zr_iconst (pc' := 76) cx rfl dX8_flow_75 ?_
  refine zc_X8_58 (pc' := 79) cx rfl  ⟨Nat.le_of_ble_eq_true rfl, Nat.le_of_ble_eq_true rfl⟩ ⟨Nat.zero_le _, Nat.zero_le _⟩ (Nat.le_of_ble_eq_true rfl) dX8_flow_76 (fun v1 => ?_)
  refine zr_icmp_ge (pc' := 82) cx rfl (tgt := 86) dX8_flow_79 rfl ?_ ?_
  · refine zr_aload_n (pc' := 87) cx rfl 1 dX8_flow_86 rfl rfl ?_
    refine zr_iload_n (pc' := 88) cx rfl 2 dX8_flow_87 rfl rfl ?_
    refine zr_iconst (pc' := 89) cx rfl dX8_flow_88 ?_
    refine zc_X8_58 (pc' := 92) cx rfl  ⟨Nat.le_of_ble_eq_true rfl, Nat.le_of_ble_eq_true rfl⟩ ⟨Nat.zero_le _, Nat.zero_le _⟩ (Nat.le_of_ble_eq_true rfl) dX8_flow_89 (fun v2 => ?_)
    exact zr_iretP cx dX8_flow_92
  · refine zr_iload_n (pc' := 83) cx rfl 0 dX8_flow_82 rfl rfl ?_
    refine zr_gotoS cx (tgt := 92) dX8_flow_83 rfl ?_
    exact zr_iretP cx dX8_flow_92
theorem wX8_flow_p17 (cx : zCx Y p s m args meth c RX8 cX8_flow 4 (some .int)) (g : zSt)   : ∀ (fu : Nat) (a1 : Int) (a2 : Int) (a3 : Int), zWo Y p l e (zrm 7) s m args below meth c 4 0 0 (fun v : Int => MQ below (zQi Y v g) args s 0 0 (zA Y)) g [(0, .ref (zad Y 400)), (1, .int (i32 a1)), (2, .int (i32 a2)), (3, .int (i32 a3))] ([]) 17 (fX8_flow_p17 g fu a1 a2 a3) := by
  intro fu
  induction fu with
  | zero => intro a1 a2 a3; exact zr_none
  | succ fu ih =>
    intro a1 a2 a3
    rw [fX8_flow_p17]
    refine zr_iload_n (pc' := 18) cx rfl 3 dX8_flow_17 rfl rfl ?_
    refine zr_iload_n (pc' := 19) cx rfl 1 dX8_flow_18 rfl rfl ?_
    refine zr_icmp_ge (pc' := 22) cx rfl (tgt := 62) dX8_flow_19 rfl ?_ ?_
    · refine zr_iload_n (pc' := 63) cx rfl 2 dX8_flow_62 rfl rfl ?_
      refine zr_if_ge (pc' := 66) cx rfl (tgt := 70) dX8_flow_63 rfl ?_ ?_
      · refine zr_iload_n (pc' := 71) cx rfl 2 dX8_flow_70 rfl rfl ?_
        refine zr_sub [0, 1] rfl ?_
        exact wX8_flow_p71 cx g a2 a1
      · refine zr_iconst (pc' := 67) cx rfl dX8_flow_66 ?_
        refine zr_gotoS cx (tgt := 71) dX8_flow_67 rfl ?_
        refine zr_sub [0, 1] rfl ?_
        exact wX8_flow_p71 cx g 0 a1
    · refine zr_iload_n (pc' := 23) cx rfl 2 dX8_flow_22 rfl rfl ?_
      refine zr_aload_n (pc' := 24) cx rfl 0 dX8_flow_23 rfl rfl ?_
      refine zr_iload_n (pc' := 25) cx rfl 3 dX8_flow_24 rfl rfl ?_
      refine zc_X8_64 (pc' := 28) cx rfl  ⟨Nat.le_of_ble_eq_true rfl, Nat.le_of_ble_eq_true rfl⟩ ⟨Nat.zero_le _, Nat.zero_le _⟩ (Nat.le_of_ble_eq_true rfl) dX8_flow_25 (fun v3 => ?_)
      refine zr_if_eq (pc' := 31) cx rfl (tgt := 53) dX8_flow_28 rfl ?_ ?_
      · refine zr_iconst (pc' := 54) cx rfl dX8_flow_53 ?_
        refine zr_isub (pc' := 55) cx rfl dX8_flow_54 ?_
        refine zr_leti (fun x4 => ?_)
        refine zr_istore_n (pc' := 56) cx rfl (lv' := [(2, .int (i32 x4)), (0, .ref (zad Y 400)), (1, .int (i32 a1)), (3, .int (i32 a3))]) dX8_flow_55 rfl (by decide) rfl ?_
        refine zr_iinc (pc' := 59) cx rfl (lv' := [(3, .int (i32 (a3 + 1))), (2, .int (i32 x4)), (0, .ref (zad Y 400)), (1, .int (i32 a1))]) 3 dX8_flow_56 rfl (by decide) rfl ?_
        refine zr_goto cx (tgt := 17) dX8_flow_59 rfl ?_
        refine zr_sub [2, 3, 1, 0] rfl ?_
        exact ih a1 x4 (a3 + 1)
      · refine zr_aload_n (pc' := 32) cx rfl 0 dX8_flow_31 rfl rfl ?_
        refine zr_iload_n (pc' := 33) cx rfl 3 dX8_flow_32 rfl rfl ?_
        refine zc_X8_67 (pc' := 36) cx rfl  ⟨Nat.le_of_ble_eq_true rfl, Nat.le_of_ble_eq_true rfl⟩ ⟨Nat.zero_le _, Nat.zero_le _⟩ (Nat.le_of_ble_eq_true rfl) dX8_flow_33 (fun v5 => ?_)
        refine zr_aload_n (pc' := 37) cx rfl 0 dX8_flow_36 rfl rfl ?_
        refine zr_iload_n (pc' := 38) cx rfl 1 dX8_flow_37 rfl rfl ?_
        refine zc_X8_67 (pc' := 41) cx rfl  ⟨Nat.le_of_ble_eq_true rfl, Nat.le_of_ble_eq_true rfl⟩ ⟨Nat.zero_le _, Nat.zero_le _⟩ (Nat.le_of_ble_eq_true rfl) dX8_flow_38 (fun v6 => ?_)
        refine zr_icmp_ne (pc' := 44) cx rfl (tgt := 53) dX8_flow_41 rfl ?_ ?_
        · refine zr_iconst (pc' := 54) cx rfl dX8_flow_53 ?_
          refine zr_isub (pc' := 55) cx rfl dX8_flow_54 ?_
          refine zr_leti (fun x7 => ?_)
          refine zr_istore_n (pc' := 56) cx rfl (lv' := [(2, .int (i32 x7)), (0, .ref (zad Y 400)), (1, .int (i32 a1)), (3, .int (i32 a3))]) dX8_flow_55 rfl (by decide) rfl ?_
          refine zr_iinc (pc' := 59) cx rfl (lv' := [(3, .int (i32 (a3 + 1))), (2, .int (i32 x7)), (0, .ref (zad Y 400)), (1, .int (i32 a1))]) 3 dX8_flow_56 rfl (by decide) rfl ?_
          refine zr_goto cx (tgt := 17) dX8_flow_59 rfl ?_
          refine zr_sub [2, 3, 1, 0] rfl ?_
          exact ih a1 x7 (a3 + 1)
        · refine zr_aload_n (pc' := 45) cx rfl 0 dX8_flow_44 rfl rfl ?_
          refine zr_iload_n (pc' := 46) cx rfl 3 dX8_flow_45 rfl rfl ?_
          refine zr_iconst (pc' := 47) cx rfl dX8_flow_46 ?_
          refine zc_X8_58 (pc' := 50) cx rfl  ⟨Nat.le_of_ble_eq_true rfl, Nat.le_of_ble_eq_true rfl⟩ ⟨Nat.zero_le _, Nat.zero_le _⟩ (Nat.le_of_ble_eq_true rfl) dX8_flow_47 (fun v8 => ?_)
          refine zr_gotoS cx (tgt := 54) dX8_flow_50 rfl ?_
          refine zr_isub (pc' := 55) cx rfl dX8_flow_54 ?_
          refine zr_leti (fun x9 => ?_)
          refine zr_istore_n (pc' := 56) cx rfl (lv' := [(2, .int (i32 x9)), (0, .ref (zad Y 400)), (1, .int (i32 a1)), (3, .int (i32 a3))]) dX8_flow_55 rfl (by decide) rfl ?_
          refine zr_iinc (pc' := 59) cx rfl (lv' := [(3, .int (i32 (a3 + 1))), (2, .int (i32 x9)), (0, .ref (zad Y 400)), (1, .int (i32 a1))]) 3 dX8_flow_56 rfl (by decide) rfl ?_
          refine zr_goto cx (tgt := 17) dX8_flow_59 rfl ?_
          refine zr_sub [2, 3, 1, 0] rfl ?_
          exact ih a1 x9 (a3 + 1)
theorem wX8_flow (cx : zCx Y p s m args meth c RX8 cX8_flow 4 (some .int)) (g : zSt) (a1 : Int)  : zWo Y p l e (zrm 7) s m args below meth c 4 0 0 (fun v : Int => MQ below (zQi Y v g) args s 0 0 (zA Y)) g [(0, .ref (zad Y 400)), (1, .int (i32 a1))] ([]) 0 (fX8_flow g a1) := by
  unfold fX8_flow
  refine zr_aload_n (pc' := 1) cx rfl 0 dX8_flow_0 rfl rfl ?_
  refine zr_iload_n (pc' := 2) cx rfl 1 dX8_flow_1 rfl rfl ?_
  refine zc_X8_64 (pc' := 5) cx rfl  ⟨Nat.le_of_ble_eq_true rfl, Nat.le_of_ble_eq_true rfl⟩ ⟨Nat.zero_le _, Nat.zero_le _⟩ (Nat.le_of_ble_eq_true rfl) dX8_flow_2 (fun v10 => ?_)
  refine zr_if_ne (pc' := 8) cx rfl (tgt := 10) dX8_flow_5 rfl ?_ ?_
  · refine zr_aload_n (pc' := 11) cx rfl 0 dX8_flow_10 rfl rfl ?_
    refine zc_X8_73 (pc' := 14) cx rfl  ⟨Nat.le_of_ble_eq_true rfl, Nat.le_of_ble_eq_true rfl⟩ ⟨Nat.zero_le _, Nat.zero_le _⟩ (Nat.le_of_ble_eq_true rfl) dX8_flow_11 (fun v11 => ?_)
    refine zr_istore_n (pc' := 15) cx rfl (lv' := [(2, .int (i32 v11)), (0, .ref (zad Y 400)), (1, .int (i32 a1))]) dX8_flow_14 rfl (by decide) rfl ?_
    refine zr_iconst (pc' := 16) cx rfl dX8_flow_15 ?_
    refine zr_istore_n (pc' := 17) cx rfl (lv' := [(3, .int (i32 0)), (2, .int (i32 v11)), (0, .ref (zad Y 400)), (1, .int (i32 a1))]) dX8_flow_16 rfl (by decide) rfl ?_
    refine zr_sub [2, 3, 1, 0] rfl ?_
    exact wX8_flow_p17 cx g zfu a1 v11 0
  · refine zr_iconst (pc' := 9) cx rfl dX8_flow_8 ?_
    exact zr_iretP cx dX8_flow_9
theorem mX8_flow (l : Launch) (Y : zLy) (g : zSt) (a1 : Int)  : ∀ v, fX8_flow g a1 = some v → zMt l yX8_flow cX8_flow 4 (some .int) 7 [.ref (zad Y 400), .int (i32 a1)] Y g (zQi Y v g) := by
  intro v hv
  refine zmet_of RX8 rfl (by decide +kernel) (Nat.le_of_ble_eq_true rfl) ?_
  intro p e s m below meth c cx H locs ls hH hS hl
  exact wX8_flow cx g a1  v hv H locs ls hH hS hl
theorem zc_X8_84 (cx : zCx Y p s m args meth c RX8 cc nl ret) (hpc : pc + 3 = pc') {g : zSt} {a1 : Int}  {fk : Int → Option ρ} (hR : 7 + 1 ≤ R.frames ∧ 8 + (4 + 11) + 40 * 7 ≤ R.locals) (hkn : k ≤ R.cells ∧ n ≤ R.slots) (hrest : (rest.map fun v => v.category).sum ≤ 8) (hdg : decode cc pc = .ok (.invokevirtual 84, 3)) (kk : ∀ v : Int, zWo Y p l e R s m args below meth c nl k n kq g lv (.int (i32 v) :: rest) pc' (fk v)) : zWo Y p l e R s m args below meth c nl k n kq g lv (.int (i32 a1) :: .ref (zad Y 400) :: rest) pc (zbd (fX8_flow g a1) fk) := zr_callViP cx (an := 1) (As := [.int (i32 a1)]) 9 zkc_400 (by decide) rfl (mX8_flow l Y g a1) (zG_V zw_1102 zw_1104 zw_56 zw_109 zw_1105) (by decide +kernel) hR hkn rfl rfl hrest hdg hpc kk
def fX8_current_p75 (g : zSt)  : Nat → Int → Int → Int → Int → Option Int
  | 0, _, _, _, _ => none
  | fu + 1, a1, a2, a3, a4 =>
    zck ((0 : Int) ≤ 134 ∧ 134 < 168) (
    (if i32 a4 < i32 (g.1 401 (Int.toNat 134)) then
    zbd (fX8_ofFault g a4 0) (fun v1 =>
    zbd (fX8_ofFault g a4 1) (fun v2 =>
    zbd (fX8_comesBy g v1 v2 a1 a2) (fun v3 =>
    (if i32 v3 = i32 0 then
    zlet (a3 + 0) (fun x4 =>
    fX8_current_p75 g fu a1 a2 x4 (a4 + 1))
    else
    zbd (fX8_flow g a4) (fun v5 =>
    zlet (a3 + v5) (fun x6 =>
    fX8_current_p75 g fu a1 a2 x6 (a4 + 1)))))))
    else
    some a3))
def fX8_current_p16 (g : zSt)  : Nat → Int → Int → Int → Int → Option Int
  | 0, _, _, _, _ => none
  | fu + 1, a1, a2, a3, a4 =>
    zck ((0 : Int) ≤ 85 ∧ 85 < 168) (
    (if i32 a4 < i32 (g.1 401 (Int.toNat 85)) then
    zbd (fX8_dark g a4) (fun v7 =>
    (if i32 v7 = i32 0 then
    zbd (fX8_ofLantern g a4 0) (fun v9 =>
    zbd (fX8_isBehind g v9 a1) (fun v10 =>
    (if i32 v10 = i32 0 then
    zlet (a3 + 0) (fun x11 =>
    fX8_current_p16 g fu a1 a2 x11 (a4 + 1))
    else
    zbd (fX8_ofLantern g a4 1) (fun v12 =>
    zlet (a3 + v12) (fun x13 =>
    fX8_current_p16 g fu a1 a2 x13 (a4 + 1))))))
    else
    zlet (a3 + 0) (fun x8 =>
    fX8_current_p16 g fu a1 a2 x8 (a4 + 1))))
    else
    fX8_current_p75 g zfu a1 a2 a3 0))
def fX8_current (g : zSt) (a1 : Int) (a2 : Int) : Option Int :=
    zbd (fX8_isAlive g a1 a2) (fun v14 =>
    (if i32 v14 = i32 0 then
    some 0
    else
    fX8_current_p16 g zfu a1 a2 0 0))
theorem wX8_current_p75 (cx : zCx Y p s m args meth c RX8 cX8_current 5 (some .int)) (g : zSt)   : ∀ (fu : Nat) (a1 : Int) (a2 : Int) (a3 : Int) (a4 : Int), zWo Y p l e (zrm 8) s m args below meth c 5 0 0 (fun v : Int => MQ below (zQi Y v g) args s 0 0 (zA Y)) g [(0, .ref (zad Y 400)), (1, .int (i32 a1)), (2, .int (i32 a2)), (3, .int (i32 a3)), (4, .int (i32 a4))] ([]) 75 (fX8_current_p75 g fu a1 a2 a3 a4) := by
  intro fu
  induction fu with
  | zero => intro a1 a2 a3 a4; exact zr_none
  | succ fu ih =>
    intro a1 a2 a3 a4
    rw [fX8_current_p75]
    refine zr_iload (pc' := 77) cx rfl 4 dX8_current_75 rfl ?_
    refine zr_aload_n (pc' := 78) cx rfl 0 dX8_current_77 rfl rfl ?_
    refine zg_X8_7 (pc' := 81) cx rfl zkc_400 dX8_current_78 ?_
    refine zr_sipush (pc' := 84) cx rfl dX8_current_81 (by decide +kernel) ?_
    refine zr_iald (pc' := 85) cx rfl 16 zkc_401 (by decide) (L := 168) rfl dX8_current_84 ?_
    refine zr_icmp_ge (pc' := 88) cx rfl (tgt := 130) dX8_current_85 rfl ?_ ?_
    · refine zr_iload_n (pc' := 131) cx rfl 3 dX8_current_130 rfl rfl ?_
      exact zr_iretP cx dX8_current_131
    · refine zr_iload_n (pc' := 89) cx rfl 3 dX8_current_88 rfl rfl ?_
      refine zr_aload_n (pc' := 90) cx rfl 0 dX8_current_89 rfl rfl ?_
      refine zr_aload_n (pc' := 91) cx rfl 0 dX8_current_90 rfl rfl ?_
      refine zr_iload (pc' := 93) cx rfl 4 dX8_current_91 rfl ?_
      refine zr_iconst (pc' := 94) cx rfl dX8_current_93 ?_
      refine zc_X8_58 (pc' := 97) cx rfl  ⟨Nat.le_of_ble_eq_true rfl, Nat.le_of_ble_eq_true rfl⟩ ⟨Nat.zero_le _, Nat.zero_le _⟩ (Nat.le_of_ble_eq_true rfl) dX8_current_94 (fun v1 => ?_)
      refine zr_aload_n (pc' := 98) cx rfl 0 dX8_current_97 rfl rfl ?_
      refine zr_iload (pc' := 100) cx rfl 4 dX8_current_98 rfl ?_
      refine zr_iconst (pc' := 101) cx rfl dX8_current_100 ?_
      refine zc_X8_58 (pc' := 104) cx rfl  ⟨Nat.le_of_ble_eq_true rfl, Nat.le_of_ble_eq_true rfl⟩ ⟨Nat.zero_le _, Nat.zero_le _⟩ (Nat.le_of_ble_eq_true rfl) dX8_current_101 (fun v2 => ?_)
      refine zr_iload_n (pc' := 105) cx rfl 1 dX8_current_104 rfl rfl ?_
      refine zr_iload_n (pc' := 106) cx rfl 2 dX8_current_105 rfl rfl ?_
      refine zc_X8_80 (pc' := 109) cx rfl  ⟨Nat.le_of_ble_eq_true rfl, Nat.le_of_ble_eq_true rfl⟩ ⟨Nat.zero_le _, Nat.zero_le _⟩ (Nat.le_of_ble_eq_true rfl) dX8_current_106 (fun v3 => ?_)
      refine zr_if_eq (pc' := 112) cx rfl (tgt := 121) dX8_current_109 rfl ?_ ?_
      · refine zr_iconst (pc' := 122) cx rfl dX8_current_121 ?_
        refine zr_iadd (pc' := 123) cx rfl dX8_current_122 ?_
        refine zr_leti (fun x4 => ?_)
        refine zr_istore_n (pc' := 124) cx rfl (lv' := [(3, .int (i32 x4)), (0, .ref (zad Y 400)), (1, .int (i32 a1)), (2, .int (i32 a2)), (4, .int (i32 a4))]) dX8_current_123 rfl (by decide) rfl ?_
        refine zr_iinc (pc' := 127) cx rfl (lv' := [(4, .int (i32 (a4 + 1))), (3, .int (i32 x4)), (0, .ref (zad Y 400)), (1, .int (i32 a1)), (2, .int (i32 a2))]) 4 dX8_current_124 rfl (by decide) rfl ?_
        refine zr_goto cx (tgt := 75) dX8_current_127 rfl ?_
        refine zr_sub [2, 3, 4, 1, 0] rfl ?_
        exact ih a1 a2 x4 (a4 + 1)
      · refine zr_aload_n (pc' := 113) cx rfl 0 dX8_current_112 rfl rfl ?_
        refine zr_iload (pc' := 115) cx rfl 4 dX8_current_113 rfl ?_
        refine zc_X8_84 (pc' := 118) cx rfl  ⟨Nat.le_of_ble_eq_true rfl, Nat.le_of_ble_eq_true rfl⟩ ⟨Nat.zero_le _, Nat.zero_le _⟩ (Nat.le_of_ble_eq_true rfl) dX8_current_115 (fun v5 => ?_)
        refine zr_gotoS cx (tgt := 122) dX8_current_118 rfl ?_
        refine zr_iadd (pc' := 123) cx rfl dX8_current_122 ?_
        refine zr_leti (fun x6 => ?_)
        refine zr_istore_n (pc' := 124) cx rfl (lv' := [(3, .int (i32 x6)), (0, .ref (zad Y 400)), (1, .int (i32 a1)), (2, .int (i32 a2)), (4, .int (i32 a4))]) dX8_current_123 rfl (by decide) rfl ?_
        refine zr_iinc (pc' := 127) cx rfl (lv' := [(4, .int (i32 (a4 + 1))), (3, .int (i32 x6)), (0, .ref (zad Y 400)), (1, .int (i32 a1)), (2, .int (i32 a2))]) 4 dX8_current_124 rfl (by decide) rfl ?_
        refine zr_goto cx (tgt := 75) dX8_current_127 rfl ?_
        refine zr_sub [2, 3, 4, 1, 0] rfl ?_
        exact ih a1 a2 x6 (a4 + 1)
theorem wX8_current_p16 (cx : zCx Y p s m args meth c RX8 cX8_current 5 (some .int)) (g : zSt)   : ∀ (fu : Nat) (a1 : Int) (a2 : Int) (a3 : Int) (a4 : Int), zWo Y p l e (zrm 8) s m args below meth c 5 0 0 (fun v : Int => MQ below (zQi Y v g) args s 0 0 (zA Y)) g [(0, .ref (zad Y 400)), (1, .int (i32 a1)), (2, .int (i32 a2)), (3, .int (i32 a3)), (4, .int (i32 a4))] ([]) 16 (fX8_current_p16 g fu a1 a2 a3 a4) := by
  intro fu
  induction fu with
  | zero => intro a1 a2 a3 a4; exact zr_none
  | succ fu ih =>
    intro a1 a2 a3 a4
    rw [fX8_current_p16]
    refine zr_iload (pc' := 18) cx rfl 4 dX8_current_16 rfl ?_
    refine zr_aload_n (pc' := 19) cx rfl 0 dX8_current_18 rfl rfl ?_
    refine zg_X8_7 (pc' := 22) cx rfl zkc_400 dX8_current_19 ?_
    refine zr_bipush (pc' := 24) cx rfl dX8_current_22 (by decide +kernel) ?_
    refine zr_iald (pc' := 25) cx rfl 16 zkc_401 (by decide) (L := 168) rfl dX8_current_24 ?_
    refine zr_icmp_ge (pc' := 28) cx rfl (tgt := 72) dX8_current_25 rfl ?_ ?_
    · refine zr_iconst (pc' := 73) cx rfl dX8_current_72 ?_
      refine zr_istore (pc' := 75) cx rfl (lv' := [(4, .int (i32 0)), (0, .ref (zad Y 400)), (1, .int (i32 a1)), (2, .int (i32 a2)), (3, .int (i32 a3))]) dX8_current_73 (by decide) rfl ?_
      refine zr_sub [1, 2, 3, 4, 0] rfl ?_
      exact wX8_current_p75 cx g zfu a1 a2 a3 0
    · refine zr_iload_n (pc' := 29) cx rfl 3 dX8_current_28 rfl rfl ?_
      refine zr_aload_n (pc' := 30) cx rfl 0 dX8_current_29 rfl rfl ?_
      refine zr_iload (pc' := 32) cx rfl 4 dX8_current_30 rfl ?_
      refine zc_X8_54 (pc' := 35) cx rfl  ⟨Nat.le_of_ble_eq_true rfl, Nat.le_of_ble_eq_true rfl⟩ ⟨Nat.zero_le _, Nat.zero_le _⟩ (Nat.le_of_ble_eq_true rfl) dX8_current_32 (fun v7 => ?_)
      refine zr_if_ne (pc' := 38) cx rfl (tgt := 63) dX8_current_35 rfl ?_ ?_
      · refine zr_iconst (pc' := 64) cx rfl dX8_current_63 ?_
        refine zr_iadd (pc' := 65) cx rfl dX8_current_64 ?_
        refine zr_leti (fun x8 => ?_)
        refine zr_istore_n (pc' := 66) cx rfl (lv' := [(3, .int (i32 x8)), (0, .ref (zad Y 400)), (1, .int (i32 a1)), (2, .int (i32 a2)), (4, .int (i32 a4))]) dX8_current_65 rfl (by decide) rfl ?_
        refine zr_iinc (pc' := 69) cx rfl (lv' := [(4, .int (i32 (a4 + 1))), (3, .int (i32 x8)), (0, .ref (zad Y 400)), (1, .int (i32 a1)), (2, .int (i32 a2))]) 4 dX8_current_66 rfl (by decide) rfl ?_
        refine zr_goto cx (tgt := 16) dX8_current_69 rfl ?_
        refine zr_sub [2, 3, 4, 1, 0] rfl ?_
        exact ih a1 a2 x8 (a4 + 1)
      · refine zr_aload_n (pc' := 39) cx rfl 0 dX8_current_38 rfl rfl ?_
        refine zr_aload_n (pc' := 40) cx rfl 0 dX8_current_39 rfl rfl ?_
        refine zr_iload (pc' := 42) cx rfl 4 dX8_current_40 rfl ?_
        refine zr_iconst (pc' := 43) cx rfl dX8_current_42 ?_
        refine zc_X8_48 (pc' := 46) cx rfl  ⟨Nat.le_of_ble_eq_true rfl, Nat.le_of_ble_eq_true rfl⟩ ⟨Nat.zero_le _, Nat.zero_le _⟩ (Nat.le_of_ble_eq_true rfl) dX8_current_43 (fun v9 => ?_)
        refine zr_iload_n (pc' := 47) cx rfl 1 dX8_current_46 rfl rfl ?_
        refine zc_X8_77 (pc' := 50) cx rfl  ⟨Nat.le_of_ble_eq_true rfl, Nat.le_of_ble_eq_true rfl⟩ ⟨Nat.zero_le _, Nat.zero_le _⟩ (Nat.le_of_ble_eq_true rfl) dX8_current_47 (fun v10 => ?_)
        refine zr_if_eq (pc' := 53) cx rfl (tgt := 63) dX8_current_50 rfl ?_ ?_
        · refine zr_iconst (pc' := 64) cx rfl dX8_current_63 ?_
          refine zr_iadd (pc' := 65) cx rfl dX8_current_64 ?_
          refine zr_leti (fun x11 => ?_)
          refine zr_istore_n (pc' := 66) cx rfl (lv' := [(3, .int (i32 x11)), (0, .ref (zad Y 400)), (1, .int (i32 a1)), (2, .int (i32 a2)), (4, .int (i32 a4))]) dX8_current_65 rfl (by decide) rfl ?_
          refine zr_iinc (pc' := 69) cx rfl (lv' := [(4, .int (i32 (a4 + 1))), (3, .int (i32 x11)), (0, .ref (zad Y 400)), (1, .int (i32 a1)), (2, .int (i32 a2))]) 4 dX8_current_66 rfl (by decide) rfl ?_
          refine zr_goto cx (tgt := 16) dX8_current_69 rfl ?_
          refine zr_sub [2, 3, 4, 1, 0] rfl ?_
          exact ih a1 a2 x11 (a4 + 1)
        · refine zr_aload_n (pc' := 54) cx rfl 0 dX8_current_53 rfl rfl ?_
          refine zr_iload (pc' := 56) cx rfl 4 dX8_current_54 rfl ?_
          refine zr_iconst (pc' := 57) cx rfl dX8_current_56 ?_
          refine zc_X8_48 (pc' := 60) cx rfl  ⟨Nat.le_of_ble_eq_true rfl, Nat.le_of_ble_eq_true rfl⟩ ⟨Nat.zero_le _, Nat.zero_le _⟩ (Nat.le_of_ble_eq_true rfl) dX8_current_57 (fun v12 => ?_)
          refine zr_gotoS cx (tgt := 64) dX8_current_60 rfl ?_
          refine zr_iadd (pc' := 65) cx rfl dX8_current_64 ?_
          refine zr_leti (fun x13 => ?_)
          refine zr_istore_n (pc' := 66) cx rfl (lv' := [(3, .int (i32 x13)), (0, .ref (zad Y 400)), (1, .int (i32 a1)), (2, .int (i32 a2)), (4, .int (i32 a4))]) dX8_current_65 rfl (by decide) rfl ?_
          refine zr_iinc (pc' := 69) cx rfl (lv' := [(4, .int (i32 (a4 + 1))), (3, .int (i32 x13)), (0, .ref (zad Y 400)), (1, .int (i32 a1)), (2, .int (i32 a2))]) 4 dX8_current_66 rfl (by decide) rfl ?_
          refine zr_goto cx (tgt := 16) dX8_current_69 rfl ?_
          refine zr_sub [2, 3, 4, 1, 0] rfl ?_
          exact ih a1 a2 x13 (a4 + 1)
theorem wX8_current (cx : zCx Y p s m args meth c RX8 cX8_current 5 (some .int)) (g : zSt) (a1 : Int) (a2 : Int)  : zWo Y p l e (zrm 8) s m args below meth c 5 0 0 (fun v : Int => MQ below (zQi Y v g) args s 0 0 (zA Y)) g [(0, .ref (zad Y 400)), (1, .int (i32 a1)), (2, .int (i32 a2))] ([]) 0 (fX8_current g a1 a2) := by
  unfold fX8_current
  refine zr_aload_n (pc' := 1) cx rfl 0 dX8_current_0 rfl rfl ?_
  refine zr_iload_n (pc' := 2) cx rfl 1 dX8_current_1 rfl rfl ?_
  refine zr_iload_n (pc' := 3) cx rfl 2 dX8_current_2 rfl rfl ?_
  refine zc_X8_61 (pc' := 6) cx rfl  ⟨Nat.le_of_ble_eq_true rfl, Nat.le_of_ble_eq_true rfl⟩ ⟨Nat.zero_le _, Nat.zero_le _⟩ (Nat.le_of_ble_eq_true rfl) dX8_current_3 (fun v14 => ?_)
  refine zr_if_ne (pc' := 9) cx rfl (tgt := 11) dX8_current_6 rfl ?_ ?_
  · refine zr_iconst (pc' := 12) cx rfl dX8_current_11 ?_
    refine zr_istore_n (pc' := 13) cx rfl (lv' := [(3, .int (i32 0)), (0, .ref (zad Y 400)), (1, .int (i32 a1)), (2, .int (i32 a2))]) dX8_current_12 rfl (by decide) rfl ?_
    refine zr_iconst (pc' := 14) cx rfl dX8_current_13 ?_
    refine zr_istore (pc' := 16) cx rfl (lv' := [(4, .int (i32 0)), (3, .int (i32 0)), (0, .ref (zad Y 400)), (1, .int (i32 a1)), (2, .int (i32 a2))]) dX8_current_14 (by decide) rfl ?_
    refine zr_sub [2, 3, 4, 1, 0] rfl ?_
    exact wX8_current_p16 cx g zfu a1 a2 0 0
  · refine zr_iconst (pc' := 10) cx rfl dX8_current_9 ?_
    exact zr_iretP cx dX8_current_10
theorem mX8_current (l : Launch) (Y : zLy) (g : zSt) (a1 : Int) (a2 : Int)  : ∀ v, fX8_current g a1 a2 = some v → zMt l yX8_current cX8_current 5 (some .int) 8 [.ref (zad Y 400), .int (i32 a1), .int (i32 a2)] Y g (zQi Y v g) := by
  intro v hv
  refine zmet_of RX8 rfl (by decide +kernel) (Nat.le_of_ble_eq_true rfl) ?_
  intro p e s m below meth c cx H locs ls hH hS hl
  exact wX8_current cx g a1 a2  v hv H locs ls hH hS hl
theorem zc_X8_87 (cx : zCx Y p s m args meth c RX8 cc nl ret) (hpc : pc + 3 = pc') {g : zSt} {a1 : Int} {a2 : Int}  {fk : Int → Option ρ} (hR : 8 + 1 ≤ R.frames ∧ 8 + (5 + 11) + 40 * 8 ≤ R.locals) (hkn : k ≤ R.cells ∧ n ≤ R.slots) (hrest : (rest.map fun v => v.category).sum ≤ 8) (hdg : decode cc pc = .ok (.invokevirtual 87, 3)) (kk : ∀ v : Int, zWo Y p l e R s m args below meth c nl k n kq g lv (.int (i32 v) :: rest) pc' (fk v)) : zWo Y p l e R s m args below meth c nl k n kq g lv (.int (i32 a2) :: .int (i32 a1) :: .ref (zad Y 400) :: rest) pc (zbd (fX8_current g a1 a2) fk) := zr_callViP cx (an := 2) (As := [.int (i32 a1), .int (i32 a2)]) 9 zkc_400 (by decide) rfl (mX8_current l Y g a1 a2) (zG_V zw_1054 zw_1056 zw_44 zw_109 zw_1057) (by decide +kernel) hR hkn rfl rfl hrest hdg hpc kk
def fX8_nextToBlow_p59 (g : zSt) (k4 : Int → Int → Option Int) (y0 : Int) (a1 : Int) (a2 : Int) : Option Int :=
    (if i32 y0 = i32 0 then
    k4 a1 (a2 + 1)
    else
    (if i32 a1 = i32 (-1) then
    k4 a2 (a2 + 1)
    else
    zbd (fX8_depth g (zdv a2 2)) (fun v1 =>
    zbd (fX8_depth g (zdv a1 2)) (fun v2 =>
    (if i32 v2 < i32 v1 then
    k4 a2 (a2 + 1)
    else
    k4 a1 (a2 + 1))))))
def fX8_nextToBlow_p4 (g : zSt)  : Nat → Int → Int → Option Int
  | 0, _, _ => none
  | fu + 1, a1, a2 =>
    zck ((0 : Int) ≤ 0 ∧ 0 < 168) (
    (if i32 a2 < i32 (2 * (g.1 401 (Int.toNat 0))) then
    zbd (fX8_current g (zdv a2 2) (zmo a2 2)) (fun v3 =>
    zbd (fX8_ofBox g (zdv a2 2) (3 + (zmo a2 2))) (fun v4 =>
    (if i32 v4 < i32 v3 then
    zbd (fX8_isAlive g (zdv a2 2) (zmo a2 2)) (fun v5 =>
    (if i32 v5 = i32 0 then
    fX8_nextToBlow_p59 g (fX8_nextToBlow_p4 g fu) 0 a1 a2
    else
    fX8_nextToBlow_p59 g (fX8_nextToBlow_p4 g fu) 1 a1 a2))
    else
    fX8_nextToBlow_p59 g (fX8_nextToBlow_p4 g fu) 0 a1 a2)))
    else
    some a1))
def fX8_nextToBlow (g : zSt) : Option Int :=
    fX8_nextToBlow_p4 g zfu (-1) 2
theorem wX8_nextToBlow_p59 (cx : zCx Y p s m args meth c RX8 cX8_nextToBlow 4 (some .int)) (g : zSt) {k4 : Int → Int → Option Int} (hk4 : ∀ (a1 : Int) (a2 : Int), zWo Y p l e (zrm 9) s m args below meth c 4 0 0 (fun v : Int => MQ below (zQi Y v g) args s 0 0 (zA Y)) g [(0, .ref (zad Y 400)), (1, .int (i32 a1)), (2, .int (i32 a2))] ([]) 4 (k4 a1 a2)) : ∀ (y0 : Int) (a1 : Int) (a2 : Int), zWo Y p l e (zrm 9) s m args below meth c 4 0 0 (fun v : Int => MQ below (zQi Y v g) args s 0 0 (zA Y)) g [(0, .ref (zad Y 400)), (1, .int (i32 a1)), (2, .int (i32 a2))] (.int (i32 y0) :: []) 59 (fX8_nextToBlow_p59 g k4 y0 a1 a2) := by
  intro y0 a1 a2
  unfold fX8_nextToBlow_p59
  refine zr_istore_n (pc' := 60) cx rfl (lv' := [(3, .int (i32 y0)), (0, .ref (zad Y 400)), (1, .int (i32 a1)), (2, .int (i32 a2))]) dX8_nextToBlow_59 rfl (by decide) rfl ?_
  refine zr_iload_n (pc' := 61) cx rfl 0 dX8_nextToBlow_60 rfl rfl ?_
  refine zr_if_eq (pc' := 64) cx rfl (tgt := 90) dX8_nextToBlow_61 rfl ?_ ?_
  · refine zr_iload_n (pc' := 91) cx rfl 2 dX8_nextToBlow_90 rfl rfl ?_
    refine zr_istore_n (pc' := 92) cx rfl (lv' := [(1, .int (i32 a1)), (3, .int (i32 y0)), (0, .ref (zad Y 400)), (2, .int (i32 a2))]) dX8_nextToBlow_91 rfl (by decide) rfl ?_
    refine zr_iinc (pc' := 95) cx rfl (lv' := [(2, .int (i32 (a2 + 1))), (1, .int (i32 a1)), (3, .int (i32 y0)), (0, .ref (zad Y 400))]) 3 dX8_nextToBlow_92 rfl (by decide) rfl ?_
    refine zr_goto cx (tgt := 4) dX8_nextToBlow_95 rfl ?_
    refine zr_sub [3, 1, 0] rfl ?_
    exact hk4 a1 (a2 + 1)
  · refine zr_iload_n (pc' := 65) cx rfl 2 dX8_nextToBlow_64 rfl rfl ?_
    refine zr_iconst (pc' := 66) cx rfl dX8_nextToBlow_65 ?_
    refine zr_icmp_eq (pc' := 69) cx rfl (tgt := 86) dX8_nextToBlow_66 rfl ?_ ?_
    · refine zr_iload_n (pc' := 87) cx rfl 3 dX8_nextToBlow_86 rfl rfl ?_
      refine zr_gotoS cx (tgt := 91) dX8_nextToBlow_87 rfl ?_
      refine zr_istore_n (pc' := 92) cx rfl (lv' := [(1, .int (i32 a2)), (3, .int (i32 y0)), (0, .ref (zad Y 400)), (2, .int (i32 a2))]) dX8_nextToBlow_91 rfl (by decide) rfl ?_
      refine zr_iinc (pc' := 95) cx rfl (lv' := [(2, .int (i32 (a2 + 1))), (1, .int (i32 a2)), (3, .int (i32 y0)), (0, .ref (zad Y 400))]) 3 dX8_nextToBlow_92 rfl (by decide) rfl ?_
      refine zr_goto cx (tgt := 4) dX8_nextToBlow_95 rfl ?_
      refine zr_sub [3, 1, 0] rfl ?_
      exact hk4 a2 (a2 + 1)
    · refine zr_aload_n (pc' := 70) cx rfl 1 dX8_nextToBlow_69 rfl rfl ?_
      refine zr_iload_n (pc' := 71) cx rfl 3 dX8_nextToBlow_70 rfl rfl ?_
      refine zr_iconst (pc' := 72) cx rfl dX8_nextToBlow_71 ?_
      refine zr_idiv (pc' := 73) cx rfl (by decide +kernel) dX8_nextToBlow_72 ?_
      refine zc_X8_90 (pc' := 76) cx rfl  ⟨Nat.le_of_ble_eq_true rfl, Nat.le_of_ble_eq_true rfl⟩ ⟨Nat.zero_le _, Nat.zero_le _⟩ (Nat.le_of_ble_eq_true rfl) dX8_nextToBlow_73 (fun v1 => ?_)
      refine zr_aload_n (pc' := 77) cx rfl 1 dX8_nextToBlow_76 rfl rfl ?_
      refine zr_iload_n (pc' := 78) cx rfl 2 dX8_nextToBlow_77 rfl rfl ?_
      refine zr_iconst (pc' := 79) cx rfl dX8_nextToBlow_78 ?_
      refine zr_idiv (pc' := 80) cx rfl (by decide +kernel) dX8_nextToBlow_79 ?_
      refine zc_X8_90 (pc' := 83) cx rfl  ⟨Nat.le_of_ble_eq_true rfl, Nat.le_of_ble_eq_true rfl⟩ ⟨Nat.zero_le _, Nat.zero_le _⟩ (Nat.le_of_ble_eq_true rfl) dX8_nextToBlow_80 (fun v2 => ?_)
      refine zr_icmp_le (pc' := 86) cx rfl (tgt := 90) dX8_nextToBlow_83 rfl ?_ ?_
      · refine zr_iload_n (pc' := 91) cx rfl 2 dX8_nextToBlow_90 rfl rfl ?_
        refine zr_istore_n (pc' := 92) cx rfl (lv' := [(1, .int (i32 a1)), (3, .int (i32 y0)), (0, .ref (zad Y 400)), (2, .int (i32 a2))]) dX8_nextToBlow_91 rfl (by decide) rfl ?_
        refine zr_iinc (pc' := 95) cx rfl (lv' := [(2, .int (i32 (a2 + 1))), (1, .int (i32 a1)), (3, .int (i32 y0)), (0, .ref (zad Y 400))]) 3 dX8_nextToBlow_92 rfl (by decide) rfl ?_
        refine zr_goto cx (tgt := 4) dX8_nextToBlow_95 rfl ?_
        refine zr_sub [3, 1, 0] rfl ?_
        exact hk4 a1 (a2 + 1)
      · refine zr_iload_n (pc' := 87) cx rfl 3 dX8_nextToBlow_86 rfl rfl ?_
        refine zr_gotoS cx (tgt := 91) dX8_nextToBlow_87 rfl ?_
        refine zr_istore_n (pc' := 92) cx rfl (lv' := [(1, .int (i32 a2)), (3, .int (i32 y0)), (0, .ref (zad Y 400)), (2, .int (i32 a2))]) dX8_nextToBlow_91 rfl (by decide) rfl ?_
        refine zr_iinc (pc' := 95) cx rfl (lv' := [(2, .int (i32 (a2 + 1))), (1, .int (i32 a2)), (3, .int (i32 y0)), (0, .ref (zad Y 400))]) 3 dX8_nextToBlow_92 rfl (by decide) rfl ?_
        refine zr_goto cx (tgt := 4) dX8_nextToBlow_95 rfl ?_
        refine zr_sub [3, 1, 0] rfl ?_
        exact hk4 a2 (a2 + 1)
theorem wX8_nextToBlow_p4 (cx : zCx Y p s m args meth c RX8 cX8_nextToBlow 4 (some .int)) (g : zSt)   : ∀ (fu : Nat) (a1 : Int) (a2 : Int), zWo Y p l e (zrm 9) s m args below meth c 4 0 0 (fun v : Int => MQ below (zQi Y v g) args s 0 0 (zA Y)) g [(0, .ref (zad Y 400)), (1, .int (i32 a1)), (2, .int (i32 a2))] ([]) 4 (fX8_nextToBlow_p4 g fu a1 a2) := by
  intro fu
  induction fu with
  | zero => intro a1 a2; exact zr_none
  | succ fu ih =>
    intro a1 a2
    rw [fX8_nextToBlow_p4]
    refine zr_iload_n (pc' := 5) cx rfl 2 dX8_nextToBlow_4 rfl rfl ?_
    refine zr_iconst (pc' := 6) cx rfl dX8_nextToBlow_5 ?_
    refine zr_aload_n (pc' := 7) cx rfl 0 dX8_nextToBlow_6 rfl rfl ?_
    refine zg_X8_7 (pc' := 10) cx rfl zkc_400 dX8_nextToBlow_7 ?_
    refine zr_iconst (pc' := 11) cx rfl dX8_nextToBlow_10 ?_
    refine zr_iald (pc' := 12) cx rfl 16 zkc_401 (by decide) (L := 168) rfl dX8_nextToBlow_11 ?_
    refine zr_imul (pc' := 13) cx rfl dX8_nextToBlow_12 ?_
    refine zr_icmp_ge (pc' := 16) cx rfl (tgt := 98) dX8_nextToBlow_13 rfl ?_ ?_
    · refine zr_iload_n (pc' := 99) cx rfl 1 dX8_nextToBlow_98 rfl rfl ?_
      exact zr_iretP cx dX8_nextToBlow_99
    · refine zr_aload_n (pc' := 17) cx rfl 0 dX8_nextToBlow_16 rfl rfl ?_
      refine zr_iload_n (pc' := 18) cx rfl 2 dX8_nextToBlow_17 rfl rfl ?_
      refine zr_iconst (pc' := 19) cx rfl dX8_nextToBlow_18 ?_
      refine zr_idiv (pc' := 20) cx rfl (by decide +kernel) dX8_nextToBlow_19 ?_
      refine zr_iload_n (pc' := 21) cx rfl 2 dX8_nextToBlow_20 rfl rfl ?_
      refine zr_iconst (pc' := 22) cx rfl dX8_nextToBlow_21 ?_
      refine zr_irem (pc' := 23) cx rfl (by decide +kernel) dX8_nextToBlow_22 ?_
      refine zc_X8_87 (pc' := 26) cx rfl  ⟨Nat.le_of_ble_eq_true rfl, Nat.le_of_ble_eq_true rfl⟩ ⟨Nat.zero_le _, Nat.zero_le _⟩ (Nat.le_of_ble_eq_true rfl) dX8_nextToBlow_23 (fun v3 => ?_)
      refine zr_aload_n (pc' := 27) cx rfl 0 dX8_nextToBlow_26 rfl rfl ?_
      refine zr_iload_n (pc' := 28) cx rfl 2 dX8_nextToBlow_27 rfl rfl ?_
      refine zr_iconst (pc' := 29) cx rfl dX8_nextToBlow_28 ?_
      refine zr_idiv (pc' := 30) cx rfl (by decide +kernel) dX8_nextToBlow_29 ?_
      refine zr_iconst (pc' := 31) cx rfl dX8_nextToBlow_30 ?_
      refine zr_iload_n (pc' := 32) cx rfl 2 dX8_nextToBlow_31 rfl rfl ?_
      refine zr_iconst (pc' := 33) cx rfl dX8_nextToBlow_32 ?_
      refine zr_irem (pc' := 34) cx rfl (by decide +kernel) dX8_nextToBlow_33 ?_
      refine zr_iadd (pc' := 35) cx rfl dX8_nextToBlow_34 ?_
      refine zc_X8_33 (pc' := 38) cx rfl  ⟨Nat.le_of_ble_eq_true rfl, Nat.le_of_ble_eq_true rfl⟩ ⟨Nat.zero_le _, Nat.zero_le _⟩ (Nat.le_of_ble_eq_true rfl) dX8_nextToBlow_35 (fun v4 => ?_)
      refine zr_icmp_le (pc' := 41) cx rfl (tgt := 58) dX8_nextToBlow_38 rfl ?_ ?_
      · refine zr_iconst (pc' := 59) cx rfl dX8_nextToBlow_58 ?_
        refine zr_sub [0, 1, 2] rfl ?_
        exact wX8_nextToBlow_p59 cx g ih 0 a1 a2
      · refine zr_aload_n (pc' := 42) cx rfl 0 dX8_nextToBlow_41 rfl rfl ?_
        refine zr_iload_n (pc' := 43) cx rfl 2 dX8_nextToBlow_42 rfl rfl ?_
        refine zr_iconst (pc' := 44) cx rfl dX8_nextToBlow_43 ?_
        refine zr_idiv (pc' := 45) cx rfl (by decide +kernel) dX8_nextToBlow_44 ?_
        refine zr_iload_n (pc' := 46) cx rfl 2 dX8_nextToBlow_45 rfl rfl ?_
        refine zr_iconst (pc' := 47) cx rfl dX8_nextToBlow_46 ?_
        refine zr_irem (pc' := 48) cx rfl (by decide +kernel) dX8_nextToBlow_47 ?_
        refine zc_X8_61 (pc' := 51) cx rfl  ⟨Nat.le_of_ble_eq_true rfl, Nat.le_of_ble_eq_true rfl⟩ ⟨Nat.zero_le _, Nat.zero_le _⟩ (Nat.le_of_ble_eq_true rfl) dX8_nextToBlow_48 (fun v5 => ?_)
        refine zr_if_eq (pc' := 54) cx rfl (tgt := 58) dX8_nextToBlow_51 rfl ?_ ?_
        · refine zr_iconst (pc' := 59) cx rfl dX8_nextToBlow_58 ?_
          refine zr_sub [0, 1, 2] rfl ?_
          exact wX8_nextToBlow_p59 cx g ih 0 a1 a2
        · refine zr_iconst (pc' := 55) cx rfl dX8_nextToBlow_54 ?_
          refine zr_gotoS cx (tgt := 59) dX8_nextToBlow_55 rfl ?_
          refine zr_sub [0, 1, 2] rfl ?_
          exact wX8_nextToBlow_p59 cx g ih 1 a1 a2
theorem wX8_nextToBlow (cx : zCx Y p s m args meth c RX8 cX8_nextToBlow 4 (some .int)) (g : zSt)  : zWo Y p l e (zrm 9) s m args below meth c 4 0 0 (fun v : Int => MQ below (zQi Y v g) args s 0 0 (zA Y)) g [(0, .ref (zad Y 400))] ([]) 0 (fX8_nextToBlow g) := by
  unfold fX8_nextToBlow
  refine zr_iconst (pc' := 1) cx rfl dX8_nextToBlow_0 ?_
  refine zr_istore_n (pc' := 2) cx rfl (lv' := [(1, .int (i32 (-1))), (0, .ref (zad Y 400))]) dX8_nextToBlow_1 rfl (by decide) rfl ?_
  refine zr_iconst (pc' := 3) cx rfl dX8_nextToBlow_2 ?_
  refine zr_istore_n (pc' := 4) cx rfl (lv' := [(2, .int (i32 2)), (1, .int (i32 (-1))), (0, .ref (zad Y 400))]) dX8_nextToBlow_3 rfl (by decide) rfl ?_
  refine zr_sub [2, 1, 0] rfl ?_
  exact wX8_nextToBlow_p4 cx g zfu (-1) 2
theorem mX8_nextToBlow (l : Launch) (Y : zLy) (g : zSt)  : ∀ v, fX8_nextToBlow g = some v → zMt l yX8_nextToBlow cX8_nextToBlow 4 (some .int) 9 [.ref (zad Y 400)] Y g (zQi Y v g) := by
  intro v hv
  refine zmet_of RX8 rfl (by decide +kernel) (Nat.le_of_ble_eq_true rfl) ?_
  intro p e s m below meth c cx H locs ls hH hS hl
  exact wX8_nextToBlow cx g   v hv H locs ls hH hS hl
theorem zc_X8_99 (cx : zCx Y p s m args meth c RX8 cc nl ret) (hpc : pc + 3 = pc') {g : zSt}   {fk : Int → Option ρ} (hR : 9 + 1 ≤ R.frames ∧ 8 + (4 + 11) + 40 * 9 ≤ R.locals) (hkn : k ≤ R.cells ∧ n ≤ R.slots) (hrest : (rest.map fun v => v.category).sum ≤ 8) (hdg : decode cc pc = .ok (.invokevirtual 99, 3)) (kk : ∀ v : Int, zWo Y p l e R s m args below meth c nl k n kq g lv (.int (i32 v) :: rest) pc' (fk v)) : zWo Y p l e R s m args below meth c nl k n kq g lv (.ref (zad Y 400) :: rest) pc (zbd (fX8_nextToBlow g) fk) := zr_callViP cx (an := 0) (As := []) 9 zkc_400 (by decide) rfl (mX8_nextToBlow l Y g) (zG_V zw_1050 zw_1052 zw_43 zw_109 zw_1053) (by decide +kernel) hR hkn rfl rfl hrest hdg hpc kk
def fX8_settle_p36 (k15 : zSt → Int → Option zSt) (g : zSt) (y1 : Int) (a1 : Int) : Option zSt :=
    zlet (zwr g 400 7 y1) (fun g1 =>
    zck ((0 : Int) ≤ (((1 + (7 * (zdv a1 2))) + 5) + (zmo a1 2)) ∧ (((1 + (7 * (zdv a1 2))) + 5) + (zmo a1 2)) < 168) (zlet (zwr g1 401 (Int.toNat (((1 + (7 * (zdv a1 2))) + 5) + (zmo a1 2))) 1) (fun g2 =>
    zck ((0 : Int) ≤ 163 ∧ 163 < 168) (
    zck ((0 : Int) ≤ 163 ∧ 163 < 168) (zlet (zwr g2 401 (Int.toNat 163) ((g2.1 401 (Int.toNat 163)) + 1)) (fun g3 =>
    zlet (zwr g3 400 6 ((g3.1 400 6) + 1)) (fun g4 =>
    zbd (fX8_nextToBlow g4) (fun v5 =>
    k15 g4 v5))))))))
def fX8_settle_p15  : Nat → zSt → Int → Option zSt
  | 0, _, _ => none
  | fu + 1, g, a1 =>
    (if i32 a1 = i32 (-1) then
    some g
    else
    (if i32 (g.1 400 6) = i32 0 then
    fX8_settle_p36 (fX8_settle_p15 fu) g a1 a1
    else
    fX8_settle_p36 (fX8_settle_p15 fu) g (g.1 400 7) a1))
def fX8_settle (g : zSt) : Option zSt :=
    zlet (zwr g 400 6 0) (fun g6 =>
    zlet (zwr g6 400 7 (-1)) (fun g7 =>
    zbd (fX8_nextToBlow g7) (fun v8 =>
    fX8_settle_p15 zfu g7 v8)))
theorem wX8_settle_p36 (cx : zCx Y p s m args meth c RX8 cX8_settle 2 none) {k15 : zSt → Int → Option zSt} (hk15 : ∀ (g : zSt) (a1 : Int), zWo Y p l e (zrm 10) s m args below meth c 2 0 0 (fun g9 : zSt => MQ below (zQv Y g9) args s 0 0 (zA Y)) g [(0, .ref (zad Y 400)), (1, .int (i32 a1))] ([]) 15 (k15 g a1)) : ∀ (g : zSt) (y1 : Int) (a1 : Int), zWo Y p l e (zrm 10) s m args below meth c 2 0 0 (fun g9 : zSt => MQ below (zQv Y g9) args s 0 0 (zA Y)) g [(0, .ref (zad Y 400)), (1, .int (i32 a1))] (.int (i32 y1) :: .ref (zad Y 400) :: []) 36 (fX8_settle_p36 k15 g y1 a1) := by
  intro g y1 a1
  unfold fX8_settle_p36
  refine zp_X8_96 (pc' := 39) cx rfl zkc_400 dX8_settle_36 ?_
  refine zr_letS (fun g1 => ?_)
  refine zr_aload_n (pc' := 40) cx rfl 0 dX8_settle_39 rfl rfl ?_
  refine zg_X8_7 (pc' := 43) cx rfl zkc_400 dX8_settle_40 ?_
  refine zr_iconst (pc' := 44) cx rfl dX8_settle_43 ?_
  refine zr_bipush (pc' := 46) cx rfl dX8_settle_44 (by decide +kernel) ?_
  refine zr_iload_n (pc' := 47) cx rfl 1 dX8_settle_46 rfl rfl ?_
  refine zr_iconst (pc' := 48) cx rfl dX8_settle_47 ?_
  refine zr_idiv (pc' := 49) cx rfl (by decide +kernel) dX8_settle_48 ?_
  refine zr_imul (pc' := 50) cx rfl dX8_settle_49 ?_
  refine zr_iadd (pc' := 51) cx rfl dX8_settle_50 ?_
  refine zr_iconst (pc' := 52) cx rfl dX8_settle_51 ?_
  refine zr_iadd (pc' := 53) cx rfl dX8_settle_52 ?_
  refine zr_iload_n (pc' := 54) cx rfl 1 dX8_settle_53 rfl rfl ?_
  refine zr_iconst (pc' := 55) cx rfl dX8_settle_54 ?_
  refine zr_irem (pc' := 56) cx rfl (by decide +kernel) dX8_settle_55 ?_
  refine zr_iadd (pc' := 57) cx rfl dX8_settle_56 ?_
  refine zr_iconst (pc' := 58) cx rfl dX8_settle_57 ?_
  refine zr_iast (pc' := 59) cx rfl 16 zkc_401 (by decide) (L := 168) rfl dX8_settle_58 ?_
  refine zr_letS (fun g2 => ?_)
  refine zr_aload_n (pc' := 60) cx rfl 0 dX8_settle_59 rfl rfl ?_
  refine zg_X8_7 (pc' := 63) cx rfl zkc_400 dX8_settle_60 ?_
  refine zr_sipush (pc' := 66) cx rfl dX8_settle_63 (by decide +kernel) ?_
  refine zr_dup2 (pc' := 67) cx rfl dX8_settle_66 rfl rfl ?_
  refine zr_iald (pc' := 68) cx rfl 16 zkc_401 (by decide) (L := 168) rfl dX8_settle_67 ?_
  refine zr_iconst (pc' := 69) cx rfl dX8_settle_68 ?_
  refine zr_iadd (pc' := 70) cx rfl dX8_settle_69 ?_
  refine zr_iast (pc' := 71) cx rfl 16 zkc_401 (by decide) (L := 168) rfl dX8_settle_70 ?_
  refine zr_letS (fun g3 => ?_)
  refine zr_aload_n (pc' := 72) cx rfl 0 dX8_settle_71 rfl rfl ?_
  refine zr_dup (pc' := 73) cx rfl dX8_settle_72 rfl ?_
  refine zg_X8_93 (pc' := 76) cx rfl zkc_400 dX8_settle_73 ?_
  refine zr_iconst (pc' := 77) cx rfl dX8_settle_76 ?_
  refine zr_iadd (pc' := 78) cx rfl dX8_settle_77 ?_
  refine zp_X8_93 (pc' := 81) cx rfl zkc_400 dX8_settle_78 ?_
  refine zr_letS (fun g4 => ?_)
  refine zr_aload_n (pc' := 82) cx rfl 0 dX8_settle_81 rfl rfl ?_
  refine zc_X8_99 (pc' := 85) cx rfl  ⟨Nat.le_of_ble_eq_true rfl, Nat.le_of_ble_eq_true rfl⟩ ⟨Nat.zero_le _, Nat.zero_le _⟩ (Nat.le_of_ble_eq_true rfl) dX8_settle_82 (fun v5 => ?_)
  refine zr_istore_n (pc' := 86) cx rfl (lv' := [(1, .int (i32 v5)), (0, .ref (zad Y 400))]) dX8_settle_85 rfl (by decide) rfl ?_
  refine zr_goto cx (tgt := 15) dX8_settle_86 rfl ?_
  refine zr_sub [1, 0] rfl ?_
  exact hk15 g4 v5
theorem wX8_settle_p15 (cx : zCx Y p s m args meth c RX8 cX8_settle 2 none)   : ∀ (fu : Nat) (g : zSt) (a1 : Int), zWo Y p l e (zrm 10) s m args below meth c 2 0 0 (fun g9 : zSt => MQ below (zQv Y g9) args s 0 0 (zA Y)) g [(0, .ref (zad Y 400)), (1, .int (i32 a1))] ([]) 15 (fX8_settle_p15 fu g a1) := by
  intro fu
  induction fu with
  | zero => intro g a1; exact zr_none
  | succ fu ih =>
    intro g a1
    rw [fX8_settle_p15]
    refine zr_iload_n (pc' := 16) cx rfl 1 dX8_settle_15 rfl rfl ?_
    refine zr_iconst (pc' := 17) cx rfl dX8_settle_16 ?_
    refine zr_icmp_eq (pc' := 20) cx rfl (tgt := 89) dX8_settle_17 rfl ?_ ?_
    · exact zr_vretE cx dX8_settle_89
    · refine zr_aload_n (pc' := 21) cx rfl 0 dX8_settle_20 rfl rfl ?_
      refine zr_aload_n (pc' := 22) cx rfl 0 dX8_settle_21 rfl rfl ?_
      refine zg_X8_93 (pc' := 25) cx rfl zkc_400 dX8_settle_22 ?_
      refine zr_if_ne (pc' := 28) cx rfl (tgt := 32) dX8_settle_25 rfl ?_ ?_
      · refine zr_aload_n (pc' := 33) cx rfl 0 dX8_settle_32 rfl rfl ?_
        refine zg_X8_96 (pc' := 36) cx rfl zkc_400 dX8_settle_33 ?_
        refine zr_sub [0, 1] rfl ?_
        exact wX8_settle_p36 cx ih g (g.1 400 7) a1
      · refine zr_iload_n (pc' := 29) cx rfl 1 dX8_settle_28 rfl rfl ?_
        refine zr_gotoS cx (tgt := 36) dX8_settle_29 rfl ?_
        refine zr_sub [0, 1] rfl ?_
        exact wX8_settle_p36 cx ih g a1 a1
theorem wX8_settle (cx : zCx Y p s m args meth c RX8 cX8_settle 2 none) (g : zSt)  : zWo Y p l e (zrm 10) s m args below meth c 2 0 0 (fun g9 : zSt => MQ below (zQv Y g9) args s 0 0 (zA Y)) g [(0, .ref (zad Y 400))] ([]) 0 (fX8_settle g) := by
  unfold fX8_settle
  refine zr_aload_n (pc' := 1) cx rfl 0 dX8_settle_0 rfl rfl ?_
  refine zr_iconst (pc' := 2) cx rfl dX8_settle_1 ?_
  refine zp_X8_93 (pc' := 5) cx rfl zkc_400 dX8_settle_2 ?_
  refine zr_letS (fun g6 => ?_)
  refine zr_aload_n (pc' := 6) cx rfl 0 dX8_settle_5 rfl rfl ?_
  refine zr_iconst (pc' := 7) cx rfl dX8_settle_6 ?_
  refine zp_X8_96 (pc' := 10) cx rfl zkc_400 dX8_settle_7 ?_
  refine zr_letS (fun g7 => ?_)
  refine zr_aload_n (pc' := 11) cx rfl 0 dX8_settle_10 rfl rfl ?_
  refine zc_X8_99 (pc' := 14) cx rfl  ⟨Nat.le_of_ble_eq_true rfl, Nat.le_of_ble_eq_true rfl⟩ ⟨Nat.zero_le _, Nat.zero_le _⟩ (Nat.le_of_ble_eq_true rfl) dX8_settle_11 (fun v8 => ?_)
  refine zr_istore_n (pc' := 15) cx rfl (lv' := [(1, .int (i32 v8)), (0, .ref (zad Y 400))]) dX8_settle_14 rfl (by decide) rfl ?_
  refine zr_sub [1, 0] rfl ?_
  exact wX8_settle_p15 cx zfu g7 v8
theorem mX8_settle (l : Launch) (Y : zLy) (g : zSt)  : ∀ g2, fX8_settle g = some g2 → zMt l yX8_settle cX8_settle 2 none 10 [.ref (zad Y 400)] Y g (zQv Y g2) := by
  intro g2 hv
  refine zmet_of RX8 rfl (by decide +kernel) (Nat.le_of_ble_eq_true rfl) ?_
  intro p e s m below meth c cx H locs ls hH hS hl
  exact wX8_settle cx g   g2 hv H locs ls hH hS hl
theorem zc_X8_111 (cx : zCx Y p s m args meth c RX8 cc nl ret) (hpc : pc + 3 = pc') {g : zSt}   {fk : zSt → Option ρ} (hR : 10 + 1 ≤ R.frames ∧ 8 + (2 + 11) + 40 * 10 ≤ R.locals) (hkn : k ≤ R.cells ∧ n ≤ R.slots) (hrest : (rest.map fun v => v.category).sum ≤ 8) (hdg : decode cc pc = .ok (.invokevirtual 111, 3)) (kk : ∀ g2 : zSt, zWo Y p l e R s m args below meth c nl k n kq g2 lv (rest) pc' (fk g2)) : zWo Y p l e R s m args below meth c nl k n kq g lv (.ref (zad Y 400) :: rest) pc (zbd (fX8_settle g) fk) := zr_callVvE cx (an := 0) (As := []) 9 zkc_400 (by decide) rfl (mX8_settle l Y g) (zG_V zw_1046 zw_1048 zw_42 zw_109 zw_1049) (by decide +kernel) hR hkn rfl rfl hrest hdg hpc kk
def fX8_save_p54  : Nat → zSt → Int → Option zSt
  | 0, _, _ => none
  | fu + 1, g, a1 =>
    (if i32 a1 < i32 168 then
    zck ((0 : Int) ≤ a1 ∧ a1 < 168) (
    zck ((0 : Int) ≤ ((168 * (g.1 400 2)) + a1) ∧ ((168 * (g.1 400 2)) + a1) < 1008) (zlet (zwr g 402 (Int.toNat ((168 * (g.1 400 2)) + a1)) (g.1 401 (Int.toNat a1))) (fun g2 =>
    fX8_save_p54 fu g2 (a1 + 1))))
    else
    zlet (zwr g 400 2 ((g.1 400 2) + 1)) (fun g1 =>
    some g1))
def fX8_save_p13  : Nat → zSt → Int → Option zSt
  | 0, _, _ => none
  | fu + 1, g, a1 =>
    (if i32 a1 < i32 1008 then
    zck ((0 : Int) ≤ a1 ∧ a1 < 1008) (
    zck ((0 : Int) ≤ (a1 - 168) ∧ (a1 - 168) < 1008) (zlet (zwr g 402 (Int.toNat (a1 - 168)) (g.1 402 (Int.toNat a1))) (fun g4 =>
    fX8_save_p13 fu g4 (a1 + 1))))
    else
    zlet (zwr g 400 2 ((g.1 400 2) - 1)) (fun g3 =>
    fX8_save_p54 zfu g3 0))
def fX8_save (g : zSt) : Option zSt :=
    (if i32 (g.1 400 2) = i32 6 then
    fX8_save_p13 zfu g 168
    else
    fX8_save_p54 zfu g 0)
theorem wX8_save_p54 (cx : zCx Y p s m args meth c RX8 cX8_save 2 none)   : ∀ (fu : Nat) (g : zSt) (a1 : Int), zWo Y p l e (zrm 0) s m args below meth c 2 0 0 (fun g9 : zSt => MQ below (zQv Y g9) args s 0 0 (zA Y)) g [(0, .ref (zad Y 400)), (1, .int (i32 a1))] ([]) 54 (fX8_save_p54 fu g a1) := by
  intro fu
  induction fu with
  | zero => intro g a1; exact zr_none
  | succ fu ih =>
    intro g a1
    rw [fX8_save_p54]
    refine zr_iload_n (pc' := 55) cx rfl 1 dX8_save_54 rfl rfl ?_
    refine zr_sipush (pc' := 58) cx rfl dX8_save_55 (by decide +kernel) ?_
    refine zr_icmp_ge (pc' := 61) cx rfl (tgt := 88) dX8_save_58 rfl ?_ ?_
    · refine zr_aload_n (pc' := 89) cx rfl 0 dX8_save_88 rfl rfl ?_
      refine zr_dup (pc' := 90) cx rfl dX8_save_89 rfl ?_
      refine zg_X8_102 (pc' := 93) cx rfl zkc_400 dX8_save_90 ?_
      refine zr_iconst (pc' := 94) cx rfl dX8_save_93 ?_
      refine zr_iadd (pc' := 95) cx rfl dX8_save_94 ?_
      refine zp_X8_102 (pc' := 98) cx rfl zkc_400 dX8_save_95 ?_
      refine zr_letS (fun g1 => ?_)
      exact zr_vretE cx dX8_save_98
    · refine zr_aload_n (pc' := 62) cx rfl 0 dX8_save_61 rfl rfl ?_
      refine zg_X8_13 (pc' := 65) cx rfl zkc_400 dX8_save_62 ?_
      refine zr_sipush (pc' := 68) cx rfl dX8_save_65 (by decide +kernel) ?_
      refine zr_aload_n (pc' := 69) cx rfl 0 dX8_save_68 rfl rfl ?_
      refine zg_X8_102 (pc' := 72) cx rfl zkc_400 dX8_save_69 ?_
      refine zr_imul (pc' := 73) cx rfl dX8_save_72 ?_
      refine zr_iload_n (pc' := 74) cx rfl 1 dX8_save_73 rfl rfl ?_
      refine zr_iadd (pc' := 75) cx rfl dX8_save_74 ?_
      refine zr_aload_n (pc' := 76) cx rfl 0 dX8_save_75 rfl rfl ?_
      refine zg_X8_7 (pc' := 79) cx rfl zkc_400 dX8_save_76 ?_
      refine zr_iload_n (pc' := 80) cx rfl 1 dX8_save_79 rfl rfl ?_
      refine zr_iald (pc' := 81) cx rfl 16 zkc_401 (by decide) (L := 168) rfl dX8_save_80 ?_
      refine zr_iast (pc' := 82) cx rfl 17 zkc_402 (by decide) (L := 1008) rfl dX8_save_81 ?_
      refine zr_letS (fun g2 => ?_)
      refine zr_iinc (pc' := 85) cx rfl (lv' := [(1, .int (i32 (a1 + 1))), (0, .ref (zad Y 400))]) 1 dX8_save_82 rfl (by decide) rfl ?_
      refine zr_goto cx (tgt := 54) dX8_save_85 rfl ?_
      refine zr_sub [1, 0] rfl ?_
      exact ih g2 (a1 + 1)
theorem wX8_save_p13 (cx : zCx Y p s m args meth c RX8 cX8_save 2 none)   : ∀ (fu : Nat) (g : zSt) (a1 : Int), zWo Y p l e (zrm 0) s m args below meth c 2 0 0 (fun g9 : zSt => MQ below (zQv Y g9) args s 0 0 (zA Y)) g [(0, .ref (zad Y 400)), (1, .int (i32 a1))] ([]) 13 (fX8_save_p13 fu g a1) := by
  intro fu
  induction fu with
  | zero => intro g a1; exact zr_none
  | succ fu ih =>
    intro g a1
    rw [fX8_save_p13]
    refine zr_iload_n (pc' := 14) cx rfl 1 dX8_save_13 rfl rfl ?_
    refine zr_sipush (pc' := 17) cx rfl dX8_save_14 (by decide +kernel) ?_
    refine zr_icmp_ge (pc' := 20) cx rfl (tgt := 42) dX8_save_17 rfl ?_ ?_
    · refine zr_aload_n (pc' := 43) cx rfl 0 dX8_save_42 rfl rfl ?_
      refine zr_dup (pc' := 44) cx rfl dX8_save_43 rfl ?_
      refine zg_X8_102 (pc' := 47) cx rfl zkc_400 dX8_save_44 ?_
      refine zr_iconst (pc' := 48) cx rfl dX8_save_47 ?_
      refine zr_isub (pc' := 49) cx rfl dX8_save_48 ?_
      refine zp_X8_102 (pc' := 52) cx rfl zkc_400 dX8_save_49 ?_
      refine zr_letS (fun g3 => ?_)
      refine zr_iconst (pc' := 53) cx rfl dX8_save_52 ?_
      refine zr_istore_n (pc' := 54) cx rfl (lv' := [(1, .int (i32 0)), (0, .ref (zad Y 400))]) dX8_save_53 rfl (by decide) rfl ?_
      refine zr_sub [1, 0] rfl ?_
      exact wX8_save_p54 cx zfu g3 0
    · refine zr_aload_n (pc' := 21) cx rfl 0 dX8_save_20 rfl rfl ?_
      refine zg_X8_13 (pc' := 24) cx rfl zkc_400 dX8_save_21 ?_
      refine zr_iload_n (pc' := 25) cx rfl 1 dX8_save_24 rfl rfl ?_
      refine zr_sipush (pc' := 28) cx rfl dX8_save_25 (by decide +kernel) ?_
      refine zr_isub (pc' := 29) cx rfl dX8_save_28 ?_
      refine zr_aload_n (pc' := 30) cx rfl 0 dX8_save_29 rfl rfl ?_
      refine zg_X8_13 (pc' := 33) cx rfl zkc_400 dX8_save_30 ?_
      refine zr_iload_n (pc' := 34) cx rfl 1 dX8_save_33 rfl rfl ?_
      refine zr_iald (pc' := 35) cx rfl 17 zkc_402 (by decide) (L := 1008) rfl dX8_save_34 ?_
      refine zr_iast (pc' := 36) cx rfl 17 zkc_402 (by decide) (L := 1008) rfl dX8_save_35 ?_
      refine zr_letS (fun g4 => ?_)
      refine zr_iinc (pc' := 39) cx rfl (lv' := [(1, .int (i32 (a1 + 1))), (0, .ref (zad Y 400))]) 1 dX8_save_36 rfl (by decide) rfl ?_
      refine zr_goto cx (tgt := 13) dX8_save_39 rfl ?_
      refine zr_sub [1, 0] rfl ?_
      exact ih g4 (a1 + 1)
theorem wX8_save (cx : zCx Y p s m args meth c RX8 cX8_save 2 none) (g : zSt)  : zWo Y p l e (zrm 0) s m args below meth c 2 0 0 (fun g9 : zSt => MQ below (zQv Y g9) args s 0 0 (zA Y)) g [(0, .ref (zad Y 400))] ([]) 0 (fX8_save g) := by
  unfold fX8_save
  refine zr_aload_n (pc' := 1) cx rfl 0 dX8_save_0 rfl rfl ?_
  refine zg_X8_102 (pc' := 4) cx rfl zkc_400 dX8_save_1 ?_
  refine zr_bipush (pc' := 6) cx rfl dX8_save_4 (by decide +kernel) ?_
  refine zr_icmp_ne (pc' := 9) cx rfl (tgt := 52) dX8_save_6 rfl ?_ ?_
  · refine zr_iconst (pc' := 53) cx rfl dX8_save_52 ?_
    refine zr_istore_n (pc' := 54) cx rfl (lv' := [(1, .int (i32 0)), (0, .ref (zad Y 400))]) dX8_save_53 rfl (by decide) rfl ?_
    refine zr_sub [1, 0] rfl ?_
    exact wX8_save_p54 cx zfu g 0
  · refine zr_sipush (pc' := 12) cx rfl dX8_save_9 (by decide +kernel) ?_
    refine zr_istore_n (pc' := 13) cx rfl (lv' := [(1, .int (i32 168)), (0, .ref (zad Y 400))]) dX8_save_12 rfl (by decide) rfl ?_
    refine zr_sub [1, 0] rfl ?_
    exact wX8_save_p13 cx zfu g 168
theorem mX8_save (l : Launch) (Y : zLy) (g : zSt)  : ∀ g2, fX8_save g = some g2 → zMt l yX8_save cX8_save 2 none 0 [.ref (zad Y 400)] Y g (zQv Y g2) := by
  intro g2 hv
  refine zmet_of RX8 rfl (by decide +kernel) (Nat.le_of_ble_eq_true rfl) ?_
  intro p e s m below meth c cx H locs ls hH hS hl
  exact wX8_save cx g   g2 hv H locs ls hH hS hl
theorem zc_X8_118 (cx : zCx Y p s m args meth c RX8 cc nl ret) (hpc : pc + 3 = pc') {g : zSt}   {fk : zSt → Option ρ} (hR : 0 + 1 ≤ R.frames ∧ 8 + (2 + 11) + 40 * 0 ≤ R.locals) (hkn : k ≤ R.cells ∧ n ≤ R.slots) (hrest : (rest.map fun v => v.category).sum ≤ 8) (hdg : decode cc pc = .ok (.invokevirtual 118, 3)) (kk : ∀ g2 : zSt, zWo Y p l e R s m args below meth c nl k n kq g2 lv (rest) pc' (fk g2)) : zWo Y p l e R s m args below meth c nl k n kq g lv (.ref (zad Y 400) :: rest) pc (zbd (fX8_save g) fk) := zr_callVvE cx (an := 0) (As := []) 9 zkc_400 (by decide) rfl (mX8_save l Y g) (zG_V zw_1038 zw_1040 zw_40 zw_109 zw_1041) (by decide +kernel) hR hkn rfl rfl hrest hdg hpc kk
def fX8_undo_p37  : Nat → zSt → Int → Option (Int × zSt)
  | 0, _, _ => none
  | fu + 1, g, a1 =>
    (if i32 a1 < i32 168 then
    zck ((0 : Int) ≤ ((168 * (g.1 400 2)) + a1) ∧ ((168 * (g.1 400 2)) + a1) < 1008) (
    zck ((0 : Int) ≤ a1 ∧ a1 < 168) (zlet (zwr g 401 (Int.toNat a1) (g.1 402 (Int.toNat ((168 * (g.1 400 2)) + a1)))) (fun g1 =>
    fX8_undo_p37 fu g1 (a1 + 1))))
    else
    some ((g.1 400 2), g))
def fX8_undo_p13  (g : zSt) (y1 : Int) : Option (Int × zSt) :=
    zlet (zwr g 400 0 y1) (fun g2 =>
    (if i32 0 < i32 (g2.1 400 0) then
    some (0, g2)
    else
    zlet (zwr g2 400 2 ((g2.1 400 2) - 1)) (fun g3 =>
    fX8_undo_p37 zfu g3 0)))
def fX8_undo (g : zSt) : Option (Int × zSt) :=
    (if i32 0 < i32 (g.1 400 2) then
    fX8_undo_p13 g 0
    else
    fX8_undo_p13 g 1)
theorem wX8_undo_p37 (cx : zCx Y p s m args meth c RX8 cX8_undo 2 (some .int))   : ∀ (fu : Nat) (g : zSt) (a1 : Int), zWo Y p l e (zrm 0) s m args below meth c 2 0 0 (fun q : Int × zSt => MQ below (zQi Y q.1 q.2) args s 0 0 (zA Y)) g [(0, .ref (zad Y 400)), (1, .int (i32 a1))] ([]) 37 (fX8_undo_p37 fu g a1) := by
  intro fu
  induction fu with
  | zero => intro g a1; exact zr_none
  | succ fu ih =>
    intro g a1
    rw [fX8_undo_p37]
    refine zr_iload_n (pc' := 38) cx rfl 1 dX8_undo_37 rfl rfl ?_
    refine zr_sipush (pc' := 41) cx rfl dX8_undo_38 (by decide +kernel) ?_
    refine zr_icmp_ge (pc' := 44) cx rfl (tgt := 71) dX8_undo_41 rfl ?_ ?_
    · refine zr_aload_n (pc' := 72) cx rfl 0 dX8_undo_71 rfl rfl ?_
      refine zg_X8_102 (pc' := 75) cx rfl zkc_400 dX8_undo_72 ?_
      exact zr_iretE cx dX8_undo_75
    · refine zr_aload_n (pc' := 45) cx rfl 0 dX8_undo_44 rfl rfl ?_
      refine zg_X8_7 (pc' := 48) cx rfl zkc_400 dX8_undo_45 ?_
      refine zr_iload_n (pc' := 49) cx rfl 1 dX8_undo_48 rfl rfl ?_
      refine zr_aload_n (pc' := 50) cx rfl 0 dX8_undo_49 rfl rfl ?_
      refine zg_X8_13 (pc' := 53) cx rfl zkc_400 dX8_undo_50 ?_
      refine zr_sipush (pc' := 56) cx rfl dX8_undo_53 (by decide +kernel) ?_
      refine zr_aload_n (pc' := 57) cx rfl 0 dX8_undo_56 rfl rfl ?_
      refine zg_X8_102 (pc' := 60) cx rfl zkc_400 dX8_undo_57 ?_
      refine zr_imul (pc' := 61) cx rfl dX8_undo_60 ?_
      refine zr_iload_n (pc' := 62) cx rfl 1 dX8_undo_61 rfl rfl ?_
      refine zr_iadd (pc' := 63) cx rfl dX8_undo_62 ?_
      refine zr_iald (pc' := 64) cx rfl 17 zkc_402 (by decide) (L := 1008) rfl dX8_undo_63 ?_
      refine zr_iast (pc' := 65) cx rfl 16 zkc_401 (by decide) (L := 168) rfl dX8_undo_64 ?_
      refine zr_letS (fun g1 => ?_)
      refine zr_iinc (pc' := 68) cx rfl (lv' := [(1, .int (i32 (a1 + 1))), (0, .ref (zad Y 400))]) 1 dX8_undo_65 rfl (by decide) rfl ?_
      refine zr_goto cx (tgt := 37) dX8_undo_68 rfl ?_
      refine zr_sub [1, 0] rfl ?_
      exact ih g1 (a1 + 1)
theorem wX8_undo_p13 (cx : zCx Y p s m args meth c RX8 cX8_undo 2 (some .int))   : ∀ (g : zSt) (y1 : Int), zWo Y p l e (zrm 0) s m args below meth c 2 0 0 (fun q : Int × zSt => MQ below (zQi Y q.1 q.2) args s 0 0 (zA Y)) g [(0, .ref (zad Y 400))] (.int (i32 y1) :: .ref (zad Y 400) :: []) 13 (fX8_undo_p13 g y1) := by
  intro g y1
  unfold fX8_undo_p13
  refine zp_X8_25 (pc' := 16) cx rfl zkc_400 dX8_undo_13 ?_
  refine zr_letS (fun g2 => ?_)
  refine zr_aload_n (pc' := 17) cx rfl 0 dX8_undo_16 rfl rfl ?_
  refine zg_X8_25 (pc' := 20) cx rfl zkc_400 dX8_undo_17 ?_
  refine zr_if_le (pc' := 23) cx rfl (tgt := 25) dX8_undo_20 rfl ?_ ?_
  · refine zr_aload_n (pc' := 26) cx rfl 0 dX8_undo_25 rfl rfl ?_
    refine zr_dup (pc' := 27) cx rfl dX8_undo_26 rfl ?_
    refine zg_X8_102 (pc' := 30) cx rfl zkc_400 dX8_undo_27 ?_
    refine zr_iconst (pc' := 31) cx rfl dX8_undo_30 ?_
    refine zr_isub (pc' := 32) cx rfl dX8_undo_31 ?_
    refine zp_X8_102 (pc' := 35) cx rfl zkc_400 dX8_undo_32 ?_
    refine zr_letS (fun g3 => ?_)
    refine zr_iconst (pc' := 36) cx rfl dX8_undo_35 ?_
    refine zr_istore_n (pc' := 37) cx rfl (lv' := [(1, .int (i32 0)), (0, .ref (zad Y 400))]) dX8_undo_36 rfl (by decide) rfl ?_
    refine zr_sub [1, 0] rfl ?_
    exact wX8_undo_p37 cx zfu g3 0
  · refine zr_iconst (pc' := 24) cx rfl dX8_undo_23 ?_
    exact zr_iretE cx dX8_undo_24
theorem wX8_undo (cx : zCx Y p s m args meth c RX8 cX8_undo 2 (some .int)) (g : zSt)  : zWo Y p l e (zrm 0) s m args below meth c 2 0 0 (fun q : Int × zSt => MQ below (zQi Y q.1 q.2) args s 0 0 (zA Y)) g [(0, .ref (zad Y 400))] ([]) 0 (fX8_undo g) := by
  unfold fX8_undo
  refine zr_aload_n (pc' := 1) cx rfl 0 dX8_undo_0 rfl rfl ?_
  refine zr_aload_n (pc' := 2) cx rfl 0 dX8_undo_1 rfl rfl ?_
  refine zg_X8_102 (pc' := 5) cx rfl zkc_400 dX8_undo_2 ?_
  refine zr_if_le (pc' := 8) cx rfl (tgt := 12) dX8_undo_5 rfl ?_ ?_
  · refine zr_iconst (pc' := 13) cx rfl dX8_undo_12 ?_
    refine zr_sub [0] rfl ?_
    exact wX8_undo_p13 cx g 1
  · refine zr_iconst (pc' := 9) cx rfl dX8_undo_8 ?_
    refine zr_gotoS cx (tgt := 13) dX8_undo_9 rfl ?_
    refine zr_sub [0] rfl ?_
    exact wX8_undo_p13 cx g 0
theorem mX8_undo (l : Launch) (Y : zLy) (g : zSt)  : ∀ v g2, fX8_undo g = some (v, g2) → zMt l yX8_undo cX8_undo 2 (some .int) 0 [.ref (zad Y 400)] Y g (zQi Y v g2) := by
  intro v g2 hv
  refine zmet_of RX8 rfl (by decide +kernel) (Nat.le_of_ble_eq_true rfl) ?_
  intro p e s m below meth c cx H locs ls hH hS hl
  exact wX8_undo cx g   (v, g2) hv H locs ls hH hS hl
def fX8_keepAside_p2  : Nat → zSt → Int → Option zSt
  | 0, _, _ => none
  | fu + 1, g, a1 =>
    (if i32 a1 < i32 168 then
    zck ((0 : Int) ≤ a1 ∧ a1 < 168) (
    zck ((0 : Int) ≤ a1 ∧ a1 < 168) (zlet (zwr g 404 (Int.toNat a1) (g.1 401 (Int.toNat a1))) (fun g1 =>
    fX8_keepAside_p2 fu g1 (a1 + 1))))
    else
    some g)
def fX8_keepAside (g : zSt) : Option zSt :=
    fX8_keepAside_p2 zfu g 0
theorem wX8_keepAside_p2 (cx : zCx Y p s m args meth c RX8 cX8_keepAside 2 none)   : ∀ (fu : Nat) (g : zSt) (a1 : Int), zWo Y p l e (zrm 0) s m args below meth c 2 0 0 (fun g9 : zSt => MQ below (zQv Y g9) args s 0 0 (zA Y)) g [(0, .ref (zad Y 400)), (1, .int (i32 a1))] ([]) 2 (fX8_keepAside_p2 fu g a1) := by
  intro fu
  induction fu with
  | zero => intro g a1; exact zr_none
  | succ fu ih =>
    intro g a1
    rw [fX8_keepAside_p2]
    refine zr_iload_n (pc' := 3) cx rfl 1 dX8_keepAside_2 rfl rfl ?_
    refine zr_sipush (pc' := 6) cx rfl dX8_keepAside_3 (by decide +kernel) ?_
    refine zr_icmp_ge (pc' := 9) cx rfl (tgt := 27) dX8_keepAside_6 rfl ?_ ?_
    · exact zr_vretE cx dX8_keepAside_27
    · refine zr_aload_n (pc' := 10) cx rfl 0 dX8_keepAside_9 rfl rfl ?_
      refine zg_X8_19 (pc' := 13) cx rfl zkc_400 dX8_keepAside_10 ?_
      refine zr_iload_n (pc' := 14) cx rfl 1 dX8_keepAside_13 rfl rfl ?_
      refine zr_aload_n (pc' := 15) cx rfl 0 dX8_keepAside_14 rfl rfl ?_
      refine zg_X8_7 (pc' := 18) cx rfl zkc_400 dX8_keepAside_15 ?_
      refine zr_iload_n (pc' := 19) cx rfl 1 dX8_keepAside_18 rfl rfl ?_
      refine zr_iald (pc' := 20) cx rfl 16 zkc_401 (by decide) (L := 168) rfl dX8_keepAside_19 ?_
      refine zr_iast (pc' := 21) cx rfl 16 zkc_404 (by decide) (L := 168) rfl dX8_keepAside_20 ?_
      refine zr_letS (fun g1 => ?_)
      refine zr_iinc (pc' := 24) cx rfl (lv' := [(1, .int (i32 (a1 + 1))), (0, .ref (zad Y 400))]) 1 dX8_keepAside_21 rfl (by decide) rfl ?_
      refine zr_goto cx (tgt := 2) dX8_keepAside_24 rfl ?_
      refine zr_sub [1, 0] rfl ?_
      exact ih g1 (a1 + 1)
theorem wX8_keepAside (cx : zCx Y p s m args meth c RX8 cX8_keepAside 2 none) (g : zSt)  : zWo Y p l e (zrm 0) s m args below meth c 2 0 0 (fun g9 : zSt => MQ below (zQv Y g9) args s 0 0 (zA Y)) g [(0, .ref (zad Y 400))] ([]) 0 (fX8_keepAside g) := by
  unfold fX8_keepAside
  refine zr_iconst (pc' := 1) cx rfl dX8_keepAside_0 ?_
  refine zr_istore_n (pc' := 2) cx rfl (lv' := [(1, .int (i32 0)), (0, .ref (zad Y 400))]) dX8_keepAside_1 rfl (by decide) rfl ?_
  refine zr_sub [1, 0] rfl ?_
  exact wX8_keepAside_p2 cx zfu g 0
theorem mX8_keepAside (l : Launch) (Y : zLy) (g : zSt)  : ∀ g2, fX8_keepAside g = some g2 → zMt l yX8_keepAside cX8_keepAside 2 none 0 [.ref (zad Y 400)] Y g (zQv Y g2) := by
  intro g2 hv
  refine zmet_of RX8 rfl (by decide +kernel) (Nat.le_of_ble_eq_true rfl) ?_
  intro p e s m below meth c cx H locs ls hH hS hl
  exact wX8_keepAside cx g   g2 hv H locs ls hH hS hl
theorem zc_X8_240 (cx : zCx Y p s m args meth c RX8 cc nl ret) (hpc : pc + 3 = pc') {g : zSt}   {fk : zSt → Option ρ} (hR : 0 + 1 ≤ R.frames ∧ 8 + (2 + 11) + 40 * 0 ≤ R.locals) (hkn : k ≤ R.cells ∧ n ≤ R.slots) (hrest : (rest.map fun v => v.category).sum ≤ 8) (hdg : decode cc pc = .ok (.invokevirtual 240, 3)) (kk : ∀ g2 : zSt, zWo Y p l e R s m args below meth c nl k n kq g2 lv (rest) pc' (fk g2)) : zWo Y p l e R s m args below meth c nl k n kq g lv (.ref (zad Y 400) :: rest) pc (zbd (fX8_keepAside g) fk) := zr_callVvE cx (an := 0) (As := []) 9 zkc_400 (by decide) rfl (mX8_keepAside l Y g) (zG_V zw_1334 zw_1336 zw_92 zw_109 zw_1337) (by decide +kernel) hR hkn rfl rfl hrest hdg hpc kk
def fX8_takeBack_p2  : Nat → zSt → Int → Option zSt
  | 0, _, _ => none
  | fu + 1, g, a1 =>
    (if i32 a1 < i32 168 then
    zck ((0 : Int) ≤ a1 ∧ a1 < 168) (
    zck ((0 : Int) ≤ a1 ∧ a1 < 168) (zlet (zwr g 401 (Int.toNat a1) (g.1 404 (Int.toNat a1))) (fun g1 =>
    fX8_takeBack_p2 fu g1 (a1 + 1))))
    else
    some g)
def fX8_takeBack (g : zSt) : Option zSt :=
    fX8_takeBack_p2 zfu g 0
theorem wX8_takeBack_p2 (cx : zCx Y p s m args meth c RX8 cX8_takeBack 2 none)   : ∀ (fu : Nat) (g : zSt) (a1 : Int), zWo Y p l e (zrm 0) s m args below meth c 2 0 0 (fun g9 : zSt => MQ below (zQv Y g9) args s 0 0 (zA Y)) g [(0, .ref (zad Y 400)), (1, .int (i32 a1))] ([]) 2 (fX8_takeBack_p2 fu g a1) := by
  intro fu
  induction fu with
  | zero => intro g a1; exact zr_none
  | succ fu ih =>
    intro g a1
    rw [fX8_takeBack_p2]
    refine zr_iload_n (pc' := 3) cx rfl 1 dX8_takeBack_2 rfl rfl ?_
    refine zr_sipush (pc' := 6) cx rfl dX8_takeBack_3 (by decide +kernel) ?_
    refine zr_icmp_ge (pc' := 9) cx rfl (tgt := 27) dX8_takeBack_6 rfl ?_ ?_
    · exact zr_vretE cx dX8_takeBack_27
    · refine zr_aload_n (pc' := 10) cx rfl 0 dX8_takeBack_9 rfl rfl ?_
      refine zg_X8_7 (pc' := 13) cx rfl zkc_400 dX8_takeBack_10 ?_
      refine zr_iload_n (pc' := 14) cx rfl 1 dX8_takeBack_13 rfl rfl ?_
      refine zr_aload_n (pc' := 15) cx rfl 0 dX8_takeBack_14 rfl rfl ?_
      refine zg_X8_19 (pc' := 18) cx rfl zkc_400 dX8_takeBack_15 ?_
      refine zr_iload_n (pc' := 19) cx rfl 1 dX8_takeBack_18 rfl rfl ?_
      refine zr_iald (pc' := 20) cx rfl 16 zkc_404 (by decide) (L := 168) rfl dX8_takeBack_19 ?_
      refine zr_iast (pc' := 21) cx rfl 16 zkc_401 (by decide) (L := 168) rfl dX8_takeBack_20 ?_
      refine zr_letS (fun g1 => ?_)
      refine zr_iinc (pc' := 24) cx rfl (lv' := [(1, .int (i32 (a1 + 1))), (0, .ref (zad Y 400))]) 1 dX8_takeBack_21 rfl (by decide) rfl ?_
      refine zr_goto cx (tgt := 2) dX8_takeBack_24 rfl ?_
      refine zr_sub [1, 0] rfl ?_
      exact ih g1 (a1 + 1)
theorem wX8_takeBack (cx : zCx Y p s m args meth c RX8 cX8_takeBack 2 none) (g : zSt)  : zWo Y p l e (zrm 0) s m args below meth c 2 0 0 (fun g9 : zSt => MQ below (zQv Y g9) args s 0 0 (zA Y)) g [(0, .ref (zad Y 400))] ([]) 0 (fX8_takeBack g) := by
  unfold fX8_takeBack
  refine zr_iconst (pc' := 1) cx rfl dX8_takeBack_0 ?_
  refine zr_istore_n (pc' := 2) cx rfl (lv' := [(1, .int (i32 0)), (0, .ref (zad Y 400))]) dX8_takeBack_1 rfl (by decide) rfl ?_
  refine zr_sub [1, 0] rfl ?_
  exact wX8_takeBack_p2 cx zfu g 0
theorem mX8_takeBack (l : Launch) (Y : zLy) (g : zSt)  : ∀ g2, fX8_takeBack g = some g2 → zMt l yX8_takeBack cX8_takeBack 2 none 0 [.ref (zad Y 400)] Y g (zQv Y g2) := by
  intro g2 hv
  refine zmet_of RX8 rfl (by decide +kernel) (Nat.le_of_ble_eq_true rfl) ?_
  intro p e s m below meth c cx H locs ls hH hS hl
  exact wX8_takeBack cx g   g2 hv H locs ls hH hS hl
theorem zc_X8_246 (cx : zCx Y p s m args meth c RX8 cc nl ret) (hpc : pc + 3 = pc') {g : zSt}   {fk : zSt → Option ρ} (hR : 0 + 1 ≤ R.frames ∧ 8 + (2 + 11) + 40 * 0 ≤ R.locals) (hkn : k ≤ R.cells ∧ n ≤ R.slots) (hrest : (rest.map fun v => v.category).sum ≤ 8) (hdg : decode cc pc = .ok (.invokevirtual 246, 3)) (kk : ∀ g2 : zSt, zWo Y p l e R s m args below meth c nl k n kq g2 lv (rest) pc' (fk g2)) : zWo Y p l e R s m args below meth c nl k n kq g lv (.ref (zad Y 400) :: rest) pc (zbd (fX8_takeBack g) fk) := zr_callVvE cx (an := 0) (As := []) 9 zkc_400 (by decide) rfl (mX8_takeBack l Y g) (zG_V zw_1342 zw_1344 zw_94 zw_109 zw_1345) (by decide +kernel) hR hkn rfl rfl hrest hdg hpc kk
def fX8_isRating (g : zSt) (a0 : Int) : Option Int :=
    zbd (fX8_within g a0 1 60) (fun v1 =>
    zck ((v1 : Int) = 0 ∨ (v1 : Int) = 1) (some v1))
theorem wX8_isRating (cx : zCx Y p s m args meth c RX8 cX8_isRating 1 (some .boolean)) (g : zSt) (a0 : Int)  : zWo Y p l e (zrm 1) s m args below meth c 1 0 0 (fun v : Int => MQ below (zQi Y v g) args s 0 0 (zA Y)) g [(0, .int (i32 a0))] ([]) 0 (fX8_isRating g a0) := by
  unfold fX8_isRating
  refine zr_iload_n (pc' := 1) cx rfl 0 dX8_isRating_0 rfl rfl ?_
  refine zr_iconst (pc' := 2) cx rfl dX8_isRating_1 ?_
  refine zr_bipush (pc' := 4) cx rfl dX8_isRating_2 (by decide +kernel) ?_
  refine zc_X8_29 (pc' := 7) cx rfl  ⟨Nat.le_of_ble_eq_true rfl, Nat.le_of_ble_eq_true rfl⟩ ⟨Nat.zero_le _, Nat.zero_le _⟩ (Nat.le_of_ble_eq_true rfl) dX8_isRating_4 (fun v1 => ?_)
  exact zr_zretP cx dX8_isRating_7
theorem mX8_isRating (l : Launch) (Y : zLy) (g : zSt) (a0 : Int)  : ∀ v, fX8_isRating g a0 = some v → zMt l yX8_isRating cX8_isRating 1 (some .boolean) 1 [.int (i32 a0)] Y g (zQi Y v g) := by
  intro v hv
  refine zmet_of RX8 rfl (by decide +kernel) (Nat.le_of_ble_eq_true rfl) ?_
  intro p e s m below meth c cx H locs ls hH hS hl
  exact wX8_isRating cx g a0  v hv H locs ls hH hS hl
theorem zc_X8_108 (cx : zCx Y p s m args meth c RX8 cc nl ret) (hpc : pc + 3 = pc') {g : zSt} {a0 : Int}  {fk : Int → Option ρ} (hR : 1 + 1 ≤ R.frames ∧ 8 + (1 + 11) + 40 * 1 ≤ R.locals) (hkn : k ≤ R.cells ∧ n ≤ R.slots) (hrest : (rest.map fun v => v.category).sum ≤ 8) (hdg : decode cc pc = .ok (.invokestatic 108, 3)) (kk : ∀ v : Int, zWo Y p l e R s m args below meth c nl k n kq g lv (.int (i32 v) :: rest) pc' (fk v)) : zWo Y p l e R s m args below meth c nl k n kq g lv (.int (i32 a0) :: rest) pc (zbd (fX8_isRating g a0) fk) := zr_callSiP cx (an := 1) (As := [.int (i32 a0)])  (mX8_isRating l Y g a0) (zG_S zw_1035 zw_1036 zw_109 zw_1037) (by decide +kernel) hR hkn rfl rfl hrest hdg hpc kk
def fX8_whyNoBox (g : zSt) (a1 : Int) (a2 : Int) (a3 : Int) : Option Int :=
    zbd (fX8_isBox g a1) (fun v1 =>
    (if i32 v1 = i32 0 then
    some 1
    else
    zbd (fX8_isRating g a2) (fun v2 =>
    (if i32 v2 = i32 0 then
    some 2
    else
    zbd (fX8_isRating g a3) (fun v3 =>
    (if i32 v3 = i32 0 then
    some 2
    else
    zck ((0 : Int) ≤ 0 ∧ 0 < 168) (
    (if i32 (g.1 401 (Int.toNat 0)) = i32 12 then
    some 3
    else
    some 0))))))))
theorem wX8_whyNoBox (cx : zCx Y p s m args meth c RX8 cX8_whyNoBox 4 (some .int)) (g : zSt) (a1 : Int) (a2 : Int) (a3 : Int)  : zWo Y p l e (zrm 2) s m args below meth c 4 0 0 (fun v : Int => MQ below (zQi Y v g) args s 0 0 (zA Y)) g [(0, .ref (zad Y 400)), (1, .int (i32 a1)), (2, .int (i32 a2)), (3, .int (i32 a3))] ([]) 0 (fX8_whyNoBox g a1 a2 a3) := by
  unfold fX8_whyNoBox
  refine zr_aload_n (pc' := 1) cx rfl 0 dX8_whyNoBox_0 rfl rfl ?_
  refine zr_iload_n (pc' := 2) cx rfl 1 dX8_whyNoBox_1 rfl rfl ?_
  refine zc_X8_105 (pc' := 5) cx rfl  ⟨Nat.le_of_ble_eq_true rfl, Nat.le_of_ble_eq_true rfl⟩ ⟨Nat.zero_le _, Nat.zero_le _⟩ (Nat.le_of_ble_eq_true rfl) dX8_whyNoBox_2 (fun v1 => ?_)
  refine zr_if_ne (pc' := 8) cx rfl (tgt := 12) dX8_whyNoBox_5 rfl ?_ ?_
  · refine zr_iload_n (pc' := 13) cx rfl 2 dX8_whyNoBox_12 rfl rfl ?_
    refine zc_X8_108 (pc' := 16) cx rfl  ⟨Nat.le_of_ble_eq_true rfl, Nat.le_of_ble_eq_true rfl⟩ ⟨Nat.zero_le _, Nat.zero_le _⟩ (Nat.le_of_ble_eq_true rfl) dX8_whyNoBox_13 (fun v2 => ?_)
    refine zr_if_eq (pc' := 19) cx rfl (tgt := 26) dX8_whyNoBox_16 rfl ?_ ?_
    · refine zr_iconst (pc' := 27) cx rfl dX8_whyNoBox_26 ?_
      refine zr_gotoS cx (tgt := 46) dX8_whyNoBox_27 rfl ?_
      exact zr_iretP cx dX8_whyNoBox_46
    · refine zr_iload_n (pc' := 20) cx rfl 3 dX8_whyNoBox_19 rfl rfl ?_
      refine zc_X8_108 (pc' := 23) cx rfl  ⟨Nat.le_of_ble_eq_true rfl, Nat.le_of_ble_eq_true rfl⟩ ⟨Nat.zero_le _, Nat.zero_le _⟩ (Nat.le_of_ble_eq_true rfl) dX8_whyNoBox_20 (fun v3 => ?_)
      refine zr_if_ne (pc' := 26) cx rfl (tgt := 30) dX8_whyNoBox_23 rfl ?_ ?_
      · refine zr_aload_n (pc' := 31) cx rfl 0 dX8_whyNoBox_30 rfl rfl ?_
        refine zg_X8_7 (pc' := 34) cx rfl zkc_400 dX8_whyNoBox_31 ?_
        refine zr_iconst (pc' := 35) cx rfl dX8_whyNoBox_34 ?_
        refine zr_iald (pc' := 36) cx rfl 16 zkc_401 (by decide) (L := 168) rfl dX8_whyNoBox_35 ?_
        refine zr_bipush (pc' := 38) cx rfl dX8_whyNoBox_36 (by decide +kernel) ?_
        refine zr_icmp_ne (pc' := 41) cx rfl (tgt := 45) dX8_whyNoBox_38 rfl ?_ ?_
        · refine zr_iconst (pc' := 46) cx rfl dX8_whyNoBox_45 ?_
          exact zr_iretP cx dX8_whyNoBox_46
        · refine zr_iconst (pc' := 42) cx rfl dX8_whyNoBox_41 ?_
          refine zr_gotoS cx (tgt := 46) dX8_whyNoBox_42 rfl ?_
          exact zr_iretP cx dX8_whyNoBox_46
      · refine zr_iconst (pc' := 27) cx rfl dX8_whyNoBox_26 ?_
        refine zr_gotoS cx (tgt := 46) dX8_whyNoBox_27 rfl ?_
        exact zr_iretP cx dX8_whyNoBox_46
  · refine zr_iconst (pc' := 9) cx rfl dX8_whyNoBox_8 ?_
    refine zr_gotoS cx (tgt := 46) dX8_whyNoBox_9 rfl ?_
    exact zr_iretP cx dX8_whyNoBox_46
theorem mX8_whyNoBox (l : Launch) (Y : zLy) (g : zSt) (a1 : Int) (a2 : Int) (a3 : Int)  : ∀ v, fX8_whyNoBox g a1 a2 a3 = some v → zMt l yX8_whyNoBox cX8_whyNoBox 4 (some .int) 2 [.ref (zad Y 400), .int (i32 a1), .int (i32 a2), .int (i32 a3)] Y g (zQi Y v g) := by
  intro v hv
  refine zmet_of RX8 rfl (by decide +kernel) (Nat.le_of_ble_eq_true rfl) ?_
  intro p e s m below meth c cx H locs ls hH hS hl
  exact wX8_whyNoBox cx g a1 a2 a3  v hv H locs ls hH hS hl
theorem zc_X8_114 (cx : zCx Y p s m args meth c RX8 cc nl ret) (hpc : pc + 3 = pc') {g : zSt} {a1 : Int} {a2 : Int} {a3 : Int}  {fk : Int → Option ρ} (hR : 2 + 1 ≤ R.frames ∧ 8 + (4 + 11) + 40 * 2 ≤ R.locals) (hkn : k ≤ R.cells ∧ n ≤ R.slots) (hrest : (rest.map fun v => v.category).sum ≤ 8) (hdg : decode cc pc = .ok (.invokevirtual 114, 3)) (kk : ∀ v : Int, zWo Y p l e R s m args below meth c nl k n kq g lv (.int (i32 v) :: rest) pc' (fk v)) : zWo Y p l e R s m args below meth c nl k n kq g lv (.int (i32 a3) :: .int (i32 a2) :: .int (i32 a1) :: .ref (zad Y 400) :: rest) pc (zbd (fX8_whyNoBox g a1 a2 a3) fk) := zr_callViP cx (an := 3) (As := [.int (i32 a1), .int (i32 a2), .int (i32 a3)]) 9 zkc_400 (by decide) rfl (mX8_whyNoBox l Y g a1 a2 a3) (zG_V zw_1024 zw_1026 zw_38 zw_109 zw_1027) (by decide +kernel) hR hkn rfl rfl hrest hdg hpc kk
def fX8_bringBox_p41  (g : zSt) (y1 : Int) (y2 : Int) (a2 : Int) (a3 : Int) (a5 : Int) : Option zSt :=
    zck ((0 : Int) ≤ y1 ∧ y1 < 168) (zlet (zwr g 401 (Int.toNat y1) y2) (fun g1 =>
    zck ((0 : Int) ≤ (a5 + 2) ∧ (a5 + 2) < 168) (zlet (zwr g1 401 (Int.toNat (a5 + 2)) 1) (fun g2 =>
    zck ((0 : Int) ≤ (a5 + 3) ∧ (a5 + 3) < 168) (zlet (zwr g2 401 (Int.toNat (a5 + 3)) a2) (fun g3 =>
    zck ((0 : Int) ≤ ((a5 + 3) + 1) ∧ ((a5 + 3) + 1) < 168) (zlet (zwr g3 401 (Int.toNat ((a5 + 3) + 1)) a3) (fun g4 =>
    zck ((0 : Int) ≤ (a5 + 5) ∧ (a5 + 5) < 168) (zlet (zwr g4 401 (Int.toNat (a5 + 5)) 0) (fun g5 =>
    zck ((0 : Int) ≤ ((a5 + 5) + 1) ∧ ((a5 + 5) + 1) < 168) (zlet (zwr g5 401 (Int.toNat ((a5 + 5) + 1)) 0) (fun g6 =>
    zck ((0 : Int) ≤ 0 ∧ 0 < 168) (
    zck ((0 : Int) ≤ 0 ∧ 0 < 168) (zlet (zwr g6 401 (Int.toNat 0) ((g6.1 401 (Int.toNat 0)) + 1)) (fun g7 =>
    zbd (fX8_settle g7) (fun g8 =>
    some g8))))))))))))))))
def fX8_bringBox (g : zSt) (a1 : Int) (a2 : Int) (a3 : Int) (a4 : Int) : Option zSt :=
    zck ((0 : Int) ≤ 0 ∧ 0 < 168) (
    zlet (1 + (7 * (g.1 401 (Int.toNat 0)))) (fun x9 =>
    zck ((0 : Int) ≤ (x9 + 0) ∧ (x9 + 0) < 168) (zlet (zwr g 401 (Int.toNat (x9 + 0)) a1) (fun g10 =>
    (if i32 a4 = i32 0 then
    fX8_bringBox_p41 g10 (x9 + 1) 0 a2 a3 x9
    else
    fX8_bringBox_p41 g10 (x9 + 1) 1 a2 a3 x9)))))
theorem wX8_bringBox_p41 (cx : zCx Y p s m args meth c RX8 cX8_bringBox 6 none)   : ∀ (g : zSt) (y1 : Int) (y2 : Int) (a2 : Int) (a3 : Int) (a5 : Int), zWo Y p l e (zrm 11) s m args below meth c 6 0 0 (fun g9 : zSt => MQ below (zQv Y g9) args s 0 0 (zA Y)) g [(0, .ref (zad Y 400)), (2, .int (i32 a2)), (3, .int (i32 a3)), (5, .int (i32 a5))] (.int (i32 y2) :: .int (i32 y1) :: .ref (zad Y 401) :: []) 41 (fX8_bringBox_p41 g y1 y2 a2 a3 a5) := by
  intro g y1 y2 a2 a3 a5
  unfold fX8_bringBox_p41
  refine zr_iast (pc' := 42) cx rfl 16 zkc_401 (by decide) (L := 168) rfl dX8_bringBox_41 ?_
  refine zr_letS (fun g1 => ?_)
  refine zr_aload_n (pc' := 43) cx rfl 0 dX8_bringBox_42 rfl rfl ?_
  refine zg_X8_7 (pc' := 46) cx rfl zkc_400 dX8_bringBox_43 ?_
  refine zr_iload (pc' := 48) cx rfl 3 dX8_bringBox_46 rfl ?_
  refine zr_iconst (pc' := 49) cx rfl dX8_bringBox_48 ?_
  refine zr_iadd (pc' := 50) cx rfl dX8_bringBox_49 ?_
  refine zr_iconst (pc' := 51) cx rfl dX8_bringBox_50 ?_
  refine zr_iast (pc' := 52) cx rfl 16 zkc_401 (by decide) (L := 168) rfl dX8_bringBox_51 ?_
  refine zr_letS (fun g2 => ?_)
  refine zr_aload_n (pc' := 53) cx rfl 0 dX8_bringBox_52 rfl rfl ?_
  refine zg_X8_7 (pc' := 56) cx rfl zkc_400 dX8_bringBox_53 ?_
  refine zr_iload (pc' := 58) cx rfl 3 dX8_bringBox_56 rfl ?_
  refine zr_iconst (pc' := 59) cx rfl dX8_bringBox_58 ?_
  refine zr_iadd (pc' := 60) cx rfl dX8_bringBox_59 ?_
  refine zr_iload_n (pc' := 61) cx rfl 1 dX8_bringBox_60 rfl rfl ?_
  refine zr_iast (pc' := 62) cx rfl 16 zkc_401 (by decide) (L := 168) rfl dX8_bringBox_61 ?_
  refine zr_letS (fun g3 => ?_)
  refine zr_aload_n (pc' := 63) cx rfl 0 dX8_bringBox_62 rfl rfl ?_
  refine zg_X8_7 (pc' := 66) cx rfl zkc_400 dX8_bringBox_63 ?_
  refine zr_iload (pc' := 68) cx rfl 3 dX8_bringBox_66 rfl ?_
  refine zr_iconst (pc' := 69) cx rfl dX8_bringBox_68 ?_
  refine zr_iadd (pc' := 70) cx rfl dX8_bringBox_69 ?_
  refine zr_iconst (pc' := 71) cx rfl dX8_bringBox_70 ?_
  refine zr_iadd (pc' := 72) cx rfl dX8_bringBox_71 ?_
  refine zr_iload_n (pc' := 73) cx rfl 2 dX8_bringBox_72 rfl rfl ?_
  refine zr_iast (pc' := 74) cx rfl 16 zkc_401 (by decide) (L := 168) rfl dX8_bringBox_73 ?_
  refine zr_letS (fun g4 => ?_)
  refine zr_aload_n (pc' := 75) cx rfl 0 dX8_bringBox_74 rfl rfl ?_
  refine zg_X8_7 (pc' := 78) cx rfl zkc_400 dX8_bringBox_75 ?_
  refine zr_iload (pc' := 80) cx rfl 3 dX8_bringBox_78 rfl ?_
  refine zr_iconst (pc' := 81) cx rfl dX8_bringBox_80 ?_
  refine zr_iadd (pc' := 82) cx rfl dX8_bringBox_81 ?_
  refine zr_iconst (pc' := 83) cx rfl dX8_bringBox_82 ?_
  refine zr_iast (pc' := 84) cx rfl 16 zkc_401 (by decide) (L := 168) rfl dX8_bringBox_83 ?_
  refine zr_letS (fun g5 => ?_)
  refine zr_aload_n (pc' := 85) cx rfl 0 dX8_bringBox_84 rfl rfl ?_
  refine zg_X8_7 (pc' := 88) cx rfl zkc_400 dX8_bringBox_85 ?_
  refine zr_iload (pc' := 90) cx rfl 3 dX8_bringBox_88 rfl ?_
  refine zr_iconst (pc' := 91) cx rfl dX8_bringBox_90 ?_
  refine zr_iadd (pc' := 92) cx rfl dX8_bringBox_91 ?_
  refine zr_iconst (pc' := 93) cx rfl dX8_bringBox_92 ?_
  refine zr_iadd (pc' := 94) cx rfl dX8_bringBox_93 ?_
  refine zr_iconst (pc' := 95) cx rfl dX8_bringBox_94 ?_
  refine zr_iast (pc' := 96) cx rfl 16 zkc_401 (by decide) (L := 168) rfl dX8_bringBox_95 ?_
  refine zr_letS (fun g6 => ?_)
  refine zr_aload_n (pc' := 97) cx rfl 0 dX8_bringBox_96 rfl rfl ?_
  refine zg_X8_7 (pc' := 100) cx rfl zkc_400 dX8_bringBox_97 ?_
  refine zr_iconst (pc' := 101) cx rfl dX8_bringBox_100 ?_
  refine zr_dup2 (pc' := 102) cx rfl dX8_bringBox_101 rfl rfl ?_
  refine zr_iald (pc' := 103) cx rfl 16 zkc_401 (by decide) (L := 168) rfl dX8_bringBox_102 ?_
  refine zr_iconst (pc' := 104) cx rfl dX8_bringBox_103 ?_
  refine zr_iadd (pc' := 105) cx rfl dX8_bringBox_104 ?_
  refine zr_iast (pc' := 106) cx rfl 16 zkc_401 (by decide) (L := 168) rfl dX8_bringBox_105 ?_
  refine zr_letS (fun g7 => ?_)
  refine zr_aload_n (pc' := 107) cx rfl 0 dX8_bringBox_106 rfl rfl ?_
  refine zc_X8_111 (pc' := 110) cx rfl  ⟨Nat.le_of_ble_eq_true rfl, Nat.le_of_ble_eq_true rfl⟩ ⟨Nat.zero_le _, Nat.zero_le _⟩ (Nat.le_of_ble_eq_true rfl) dX8_bringBox_107 (fun g8 => ?_)
  exact zr_vretE cx dX8_bringBox_110
theorem wX8_bringBox (cx : zCx Y p s m args meth c RX8 cX8_bringBox 6 none) (g : zSt) (a1 : Int) (a2 : Int) (a3 : Int) (a4 : Int)  : zWo Y p l e (zrm 11) s m args below meth c 6 0 0 (fun g9 : zSt => MQ below (zQv Y g9) args s 0 0 (zA Y)) g [(0, .ref (zad Y 400)), (1, .int (i32 a1)), (2, .int (i32 a2)), (3, .int (i32 a3)), (4, .int (i32 a4))] ([]) 0 (fX8_bringBox g a1 a2 a3 a4) := by
  unfold fX8_bringBox
  refine zr_iconst (pc' := 1) cx rfl dX8_bringBox_0 ?_
  refine zr_bipush (pc' := 3) cx rfl dX8_bringBox_1 (by decide +kernel) ?_
  refine zr_aload_n (pc' := 4) cx rfl 0 dX8_bringBox_3 rfl rfl ?_
  refine zg_X8_7 (pc' := 7) cx rfl zkc_400 dX8_bringBox_4 ?_
  refine zr_iconst (pc' := 8) cx rfl dX8_bringBox_7 ?_
  refine zr_iald (pc' := 9) cx rfl 16 zkc_401 (by decide) (L := 168) rfl dX8_bringBox_8 ?_
  refine zr_imul (pc' := 10) cx rfl dX8_bringBox_9 ?_
  refine zr_iadd (pc' := 11) cx rfl dX8_bringBox_10 ?_
  refine zr_leti (fun x9 => ?_)
  refine zr_istore (pc' := 13) cx rfl (lv' := [(5, .int (i32 x9)), (0, .ref (zad Y 400)), (1, .int (i32 a1)), (2, .int (i32 a2)), (3, .int (i32 a3)), (4, .int (i32 a4))]) dX8_bringBox_11 (by decide) rfl ?_
  refine zr_aload_n (pc' := 14) cx rfl 1 dX8_bringBox_13 rfl rfl ?_
  refine zg_X8_7 (pc' := 17) cx rfl zkc_400 dX8_bringBox_14 ?_
  refine zr_iload (pc' := 19) cx rfl 0 dX8_bringBox_17 rfl ?_
  refine zr_iconst (pc' := 20) cx rfl dX8_bringBox_19 ?_
  refine zr_iadd (pc' := 21) cx rfl dX8_bringBox_20 ?_
  refine zr_iload_n (pc' := 22) cx rfl 2 dX8_bringBox_21 rfl rfl ?_
  refine zr_iast (pc' := 23) cx rfl 16 zkc_401 (by decide) (L := 168) rfl dX8_bringBox_22 ?_
  refine zr_letS (fun g10 => ?_)
  refine zr_aload_n (pc' := 24) cx rfl 1 dX8_bringBox_23 rfl rfl ?_
  refine zg_X8_7 (pc' := 27) cx rfl zkc_400 dX8_bringBox_24 ?_
  refine zr_iload (pc' := 29) cx rfl 0 dX8_bringBox_27 rfl ?_
  refine zr_iconst (pc' := 30) cx rfl dX8_bringBox_29 ?_
  refine zr_iadd (pc' := 31) cx rfl dX8_bringBox_30 ?_
  refine zr_iload (pc' := 33) cx rfl 5 dX8_bringBox_31 rfl ?_
  refine zr_if_eq (pc' := 36) cx rfl (tgt := 40) dX8_bringBox_33 rfl ?_ ?_
  · refine zr_iconst (pc' := 41) cx rfl dX8_bringBox_40 ?_
    refine zr_sub [1, 3, 4, 0] rfl ?_
    exact wX8_bringBox_p41 cx g10 (x9 + 1) 0 a2 a3 x9
  · refine zr_iconst (pc' := 37) cx rfl dX8_bringBox_36 ?_
    refine zr_gotoS cx (tgt := 41) dX8_bringBox_37 rfl ?_
    refine zr_sub [1, 3, 4, 0] rfl ?_
    exact wX8_bringBox_p41 cx g10 (x9 + 1) 1 a2 a3 x9
theorem mX8_bringBox (l : Launch) (Y : zLy) (g : zSt) (a1 : Int) (a2 : Int) (a3 : Int) (a4 : Int)  : ∀ g2, fX8_bringBox g a1 a2 a3 a4 = some g2 → zMt l yX8_bringBox cX8_bringBox 6 none 11 [.ref (zad Y 400), .int (i32 a1), .int (i32 a2), .int (i32 a3), .int (i32 a4)] Y g (zQv Y g2) := by
  intro g2 hv
  refine zmet_of RX8 rfl (by decide +kernel) (Nat.le_of_ble_eq_true rfl) ?_
  intro p e s m below meth c cx H locs ls hH hS hl
  exact wX8_bringBox cx g a1 a2 a3 a4  g2 hv H locs ls hH hS hl
theorem zc_X8_121 (cx : zCx Y p s m args meth c RX8 cc nl ret) (hpc : pc + 3 = pc') {g : zSt} {a1 : Int} {a2 : Int} {a3 : Int} {a4 : Int}  {fk : zSt → Option ρ} (hR : 11 + 1 ≤ R.frames ∧ 8 + (6 + 11) + 40 * 11 ≤ R.locals) (hkn : k ≤ R.cells ∧ n ≤ R.slots) (hrest : (rest.map fun v => v.category).sum ≤ 8) (hdg : decode cc pc = .ok (.invokevirtual 121, 3)) (kk : ∀ g2 : zSt, zWo Y p l e R s m args below meth c nl k n kq g2 lv (rest) pc' (fk g2)) : zWo Y p l e R s m args below meth c nl k n kq g lv (.int (i32 a4) :: .int (i32 a3) :: .int (i32 a2) :: .int (i32 a1) :: .ref (zad Y 400) :: rest) pc (zbd (fX8_bringBox g a1 a2 a3 a4) fk) := zr_callVvE cx (an := 4) (As := [.int (i32 a1), .int (i32 a2), .int (i32 a3), .int (i32 a4)]) 9 zkc_400 (by decide) rfl (mX8_bringBox l Y g a1 a2 a3 a4) (zG_V zw_1042 zw_1044 zw_41 zw_109 zw_1045) (by decide +kernel) hR hkn rfl rfl hrest hdg hpc kk
def fX8_addBox (g : zSt) (a1 : Int) (a2 : Int) (a3 : Int) (a4 : Int) : Option (Int × zSt) :=
    zbd (fX8_whyNoBox g a1 a2 a3) (fun v1 =>
    zlet (zwr g 400 0 v1) (fun g2 =>
    (if i32 0 < i32 (g2.1 400 0) then
    some (0, g2)
    else
    zbd (fX8_save g2) (fun g3 =>
    zbd (fX8_bringBox g3 a1 a2 a3 a4) (fun g4 =>
    zck ((0 : Int) ≤ 0 ∧ 0 < 168) (
    some (((g4.1 401 (Int.toNat 0)) - 1), g4)))))))
theorem wX8_addBox (cx : zCx Y p s m args meth c RX8 cX8_addBox 5 (some .int)) (g : zSt) (a1 : Int) (a2 : Int) (a3 : Int) (a4 : Int)  : zWo Y p l e (zrm 12) s m args below meth c 5 0 0 (fun q : Int × zSt => MQ below (zQi Y q.1 q.2) args s 0 0 (zA Y)) g [(0, .ref (zad Y 400)), (1, .int (i32 a1)), (2, .int (i32 a2)), (3, .int (i32 a3)), (4, .int (i32 a4))] ([]) 0 (fX8_addBox g a1 a2 a3 a4) := by
  unfold fX8_addBox
  refine zr_aload_n (pc' := 1) cx rfl 0 dX8_addBox_0 rfl rfl ?_
  refine zr_aload_n (pc' := 2) cx rfl 0 dX8_addBox_1 rfl rfl ?_
  refine zr_iload_n (pc' := 3) cx rfl 1 dX8_addBox_2 rfl rfl ?_
  refine zr_iload_n (pc' := 4) cx rfl 2 dX8_addBox_3 rfl rfl ?_
  refine zr_iload_n (pc' := 5) cx rfl 3 dX8_addBox_4 rfl rfl ?_
  refine zc_X8_114 (pc' := 8) cx rfl  ⟨Nat.le_of_ble_eq_true rfl, Nat.le_of_ble_eq_true rfl⟩ ⟨Nat.zero_le _, Nat.zero_le _⟩ (Nat.le_of_ble_eq_true rfl) dX8_addBox_5 (fun v1 => ?_)
  refine zp_X8_25 (pc' := 11) cx rfl zkc_400 dX8_addBox_8 ?_
  refine zr_letS (fun g2 => ?_)
  refine zr_aload_n (pc' := 12) cx rfl 0 dX8_addBox_11 rfl rfl ?_
  refine zg_X8_25 (pc' := 15) cx rfl zkc_400 dX8_addBox_12 ?_
  refine zr_if_le (pc' := 18) cx rfl (tgt := 20) dX8_addBox_15 rfl ?_ ?_
  · refine zr_aload_n (pc' := 21) cx rfl 0 dX8_addBox_20 rfl rfl ?_
    refine zc_X8_118 (pc' := 24) cx rfl  ⟨Nat.le_of_ble_eq_true rfl, Nat.le_of_ble_eq_true rfl⟩ ⟨Nat.zero_le _, Nat.zero_le _⟩ (Nat.le_of_ble_eq_true rfl) dX8_addBox_21 (fun g3 => ?_)
    refine zr_aload_n (pc' := 25) cx rfl 0 dX8_addBox_24 rfl rfl ?_
    refine zr_iload_n (pc' := 26) cx rfl 1 dX8_addBox_25 rfl rfl ?_
    refine zr_iload_n (pc' := 27) cx rfl 2 dX8_addBox_26 rfl rfl ?_
    refine zr_iload_n (pc' := 28) cx rfl 3 dX8_addBox_27 rfl rfl ?_
    refine zr_iload (pc' := 30) cx rfl 4 dX8_addBox_28 rfl ?_
    refine zc_X8_121 (pc' := 33) cx rfl  ⟨Nat.le_of_ble_eq_true rfl, Nat.le_of_ble_eq_true rfl⟩ ⟨Nat.zero_le _, Nat.zero_le _⟩ (Nat.le_of_ble_eq_true rfl) dX8_addBox_30 (fun g4 => ?_)
    refine zr_aload_n (pc' := 34) cx rfl 0 dX8_addBox_33 rfl rfl ?_
    refine zg_X8_7 (pc' := 37) cx rfl zkc_400 dX8_addBox_34 ?_
    refine zr_iconst (pc' := 38) cx rfl dX8_addBox_37 ?_
    refine zr_iald (pc' := 39) cx rfl 16 zkc_401 (by decide) (L := 168) rfl dX8_addBox_38 ?_
    refine zr_iconst (pc' := 40) cx rfl dX8_addBox_39 ?_
    refine zr_isub (pc' := 41) cx rfl dX8_addBox_40 ?_
    exact zr_iretE cx dX8_addBox_41
  · refine zr_iconst (pc' := 19) cx rfl dX8_addBox_18 ?_
    exact zr_iretE cx dX8_addBox_19
theorem mX8_addBox (l : Launch) (Y : zLy) (g : zSt) (a1 : Int) (a2 : Int) (a3 : Int) (a4 : Int)  : ∀ v g2, fX8_addBox g a1 a2 a3 a4 = some (v, g2) → zMt l yX8_addBox cX8_addBox 5 (some .int) 12 [.ref (zad Y 400), .int (i32 a1), .int (i32 a2), .int (i32 a3), .int (i32 a4)] Y g (zQi Y v g2) := by
  intro v g2 hv
  refine zmet_of RX8 rfl (by decide +kernel) (Nat.le_of_ble_eq_true rfl) ?_
  intro p e s m below meth c cx H locs ls hH hS hl
  exact wX8_addBox cx g a1 a2 a3 a4  (v, g2) hv H locs ls hH hS hl
def fX8_turn (g : zSt) (a1 : Int) (a2 : Int) : Option zSt :=
    zbd (fX8_ofBox g a1 a2) (fun v1 =>
    zck ((0 : Int) ≤ ((1 + (7 * a1)) + a2) ∧ ((1 + (7 * a1)) + a2) < 168) (zlet (zwr g 401 (Int.toNat ((1 + (7 * a1)) + a2)) (1 - v1)) (fun g2 =>
    zbd (fX8_settle g2) (fun g3 =>
    some g3))))
theorem wX8_turn (cx : zCx Y p s m args meth c RX8 cX8_turn 3 none) (g : zSt) (a1 : Int) (a2 : Int)  : zWo Y p l e (zrm 11) s m args below meth c 3 0 0 (fun g9 : zSt => MQ below (zQv Y g9) args s 0 0 (zA Y)) g [(0, .ref (zad Y 400)), (1, .int (i32 a1)), (2, .int (i32 a2))] ([]) 0 (fX8_turn g a1 a2) := by
  unfold fX8_turn
  refine zr_aload_n (pc' := 1) cx rfl 0 dX8_turn_0 rfl rfl ?_
  refine zg_X8_7 (pc' := 4) cx rfl zkc_400 dX8_turn_1 ?_
  refine zr_iconst (pc' := 5) cx rfl dX8_turn_4 ?_
  refine zr_bipush (pc' := 7) cx rfl dX8_turn_5 (by decide +kernel) ?_
  refine zr_iload_n (pc' := 8) cx rfl 1 dX8_turn_7 rfl rfl ?_
  refine zr_imul (pc' := 9) cx rfl dX8_turn_8 ?_
  refine zr_iadd (pc' := 10) cx rfl dX8_turn_9 ?_
  refine zr_iload_n (pc' := 11) cx rfl 2 dX8_turn_10 rfl rfl ?_
  refine zr_iadd (pc' := 12) cx rfl dX8_turn_11 ?_
  refine zr_iconst (pc' := 13) cx rfl dX8_turn_12 ?_
  refine zr_aload_n (pc' := 14) cx rfl 0 dX8_turn_13 rfl rfl ?_
  refine zr_iload_n (pc' := 15) cx rfl 1 dX8_turn_14 rfl rfl ?_
  refine zr_iload_n (pc' := 16) cx rfl 2 dX8_turn_15 rfl rfl ?_
  refine zc_X8_33 (pc' := 19) cx rfl  ⟨Nat.le_of_ble_eq_true rfl, Nat.le_of_ble_eq_true rfl⟩ ⟨Nat.zero_le _, Nat.zero_le _⟩ (Nat.le_of_ble_eq_true rfl) dX8_turn_16 (fun v1 => ?_)
  refine zr_isub (pc' := 20) cx rfl dX8_turn_19 ?_
  refine zr_iast (pc' := 21) cx rfl 16 zkc_401 (by decide) (L := 168) rfl dX8_turn_20 ?_
  refine zr_letS (fun g2 => ?_)
  refine zr_aload_n (pc' := 22) cx rfl 0 dX8_turn_21 rfl rfl ?_
  refine zc_X8_111 (pc' := 25) cx rfl  ⟨Nat.le_of_ble_eq_true rfl, Nat.le_of_ble_eq_true rfl⟩ ⟨Nat.zero_le _, Nat.zero_le _⟩ (Nat.le_of_ble_eq_true rfl) dX8_turn_22 (fun g3 => ?_)
  exact zr_vretE cx dX8_turn_25
theorem mX8_turn (l : Launch) (Y : zLy) (g : zSt) (a1 : Int) (a2 : Int)  : ∀ g2, fX8_turn g a1 a2 = some g2 → zMt l yX8_turn cX8_turn 3 none 11 [.ref (zad Y 400), .int (i32 a1), .int (i32 a2)] Y g (zQv Y g2) := by
  intro g2 hv
  refine zmet_of RX8 rfl (by decide +kernel) (Nat.le_of_ble_eq_true rfl) ?_
  intro p e s m below meth c cx H locs ls hH hS hl
  exact wX8_turn cx g a1 a2  g2 hv H locs ls hH hS hl
theorem zc_X8_128 (cx : zCx Y p s m args meth c RX8 cc nl ret) (hpc : pc + 3 = pc') {g : zSt} {a1 : Int} {a2 : Int}  {fk : zSt → Option ρ} (hR : 11 + 1 ≤ R.frames ∧ 8 + (3 + 11) + 40 * 11 ≤ R.locals) (hkn : k ≤ R.cells ∧ n ≤ R.slots) (hrest : (rest.map fun v => v.category).sum ≤ 8) (hdg : decode cc pc = .ok (.invokevirtual 128, 3)) (kk : ∀ g2 : zSt, zWo Y p l e R s m args below meth c nl k n kq g2 lv (rest) pc' (fk g2)) : zWo Y p l e R s m args below meth c nl k n kq g lv (.int (i32 a2) :: .int (i32 a1) :: .ref (zad Y 400) :: rest) pc (zbd (fX8_turn g a1 a2) fk) := zr_callVvE cx (an := 2) (As := [.int (i32 a1), .int (i32 a2)]) 9 zkc_400 (by decide) rfl (mX8_turn l Y g a1 a2) (zG_V zw_1134 zw_1136 zw_63 zw_109 zw_1137) (by decide +kernel) hR hkn rfl rfl hrest hdg hpc kk
def fX8_toggle_p14  (g : zSt) (y1 : Int) (a1 : Int) : Option (Int × zSt) :=
    zlet (zwr g 400 0 y1) (fun g1 =>
    (if i32 0 < i32 (g1.1 400 0) then
    some (0, g1)
    else
    zbd (fX8_save g1) (fun g2 =>
    zbd (fX8_turn g2 a1 2) (fun g3 =>
    zbd (fX8_ofBox g3 a1 2) (fun v4 =>
    some (v4, g3))))))
def fX8_toggle (g : zSt) (a1 : Int) : Option (Int × zSt) :=
    zbd (fX8_isFed g a1) (fun v5 =>
    (if i32 v5 = i32 0 then
    fX8_toggle_p14 g 1 a1
    else
    fX8_toggle_p14 g 0 a1))
theorem wX8_toggle_p14 (cx : zCx Y p s m args meth c RX8 cX8_toggle 2 (some .int))   : ∀ (g : zSt) (y1 : Int) (a1 : Int), zWo Y p l e (zrm 12) s m args below meth c 2 0 0 (fun q : Int × zSt => MQ below (zQi Y q.1 q.2) args s 0 0 (zA Y)) g [(0, .ref (zad Y 400)), (1, .int (i32 a1))] (.int (i32 y1) :: .ref (zad Y 400) :: []) 14 (fX8_toggle_p14 g y1 a1) := by
  intro g y1 a1
  unfold fX8_toggle_p14
  refine zp_X8_25 (pc' := 17) cx rfl zkc_400 dX8_toggle_14 ?_
  refine zr_letS (fun g1 => ?_)
  refine zr_aload_n (pc' := 18) cx rfl 0 dX8_toggle_17 rfl rfl ?_
  refine zg_X8_25 (pc' := 21) cx rfl zkc_400 dX8_toggle_18 ?_
  refine zr_if_le (pc' := 24) cx rfl (tgt := 26) dX8_toggle_21 rfl ?_ ?_
  · refine zr_aload_n (pc' := 27) cx rfl 0 dX8_toggle_26 rfl rfl ?_
    refine zc_X8_118 (pc' := 30) cx rfl  ⟨Nat.le_of_ble_eq_true rfl, Nat.le_of_ble_eq_true rfl⟩ ⟨Nat.zero_le _, Nat.zero_le _⟩ (Nat.le_of_ble_eq_true rfl) dX8_toggle_27 (fun g2 => ?_)
    refine zr_aload_n (pc' := 31) cx rfl 0 dX8_toggle_30 rfl rfl ?_
    refine zr_iload_n (pc' := 32) cx rfl 1 dX8_toggle_31 rfl rfl ?_
    refine zr_iconst (pc' := 33) cx rfl dX8_toggle_32 ?_
    refine zc_X8_128 (pc' := 36) cx rfl  ⟨Nat.le_of_ble_eq_true rfl, Nat.le_of_ble_eq_true rfl⟩ ⟨Nat.zero_le _, Nat.zero_le _⟩ (Nat.le_of_ble_eq_true rfl) dX8_toggle_33 (fun g3 => ?_)
    refine zr_aload_n (pc' := 37) cx rfl 0 dX8_toggle_36 rfl rfl ?_
    refine zr_iload_n (pc' := 38) cx rfl 1 dX8_toggle_37 rfl rfl ?_
    refine zr_iconst (pc' := 39) cx rfl dX8_toggle_38 ?_
    refine zc_X8_33 (pc' := 42) cx rfl  ⟨Nat.le_of_ble_eq_true rfl, Nat.le_of_ble_eq_true rfl⟩ ⟨Nat.zero_le _, Nat.zero_le _⟩ (Nat.le_of_ble_eq_true rfl) dX8_toggle_39 (fun v4 => ?_)
    exact zr_iretE cx dX8_toggle_42
  · refine zr_iconst (pc' := 25) cx rfl dX8_toggle_24 ?_
    exact zr_iretE cx dX8_toggle_25
theorem wX8_toggle (cx : zCx Y p s m args meth c RX8 cX8_toggle 2 (some .int)) (g : zSt) (a1 : Int)  : zWo Y p l e (zrm 12) s m args below meth c 2 0 0 (fun q : Int × zSt => MQ below (zQi Y q.1 q.2) args s 0 0 (zA Y)) g [(0, .ref (zad Y 400)), (1, .int (i32 a1))] ([]) 0 (fX8_toggle g a1) := by
  unfold fX8_toggle
  refine zr_aload_n (pc' := 1) cx rfl 0 dX8_toggle_0 rfl rfl ?_
  refine zr_aload_n (pc' := 2) cx rfl 0 dX8_toggle_1 rfl rfl ?_
  refine zr_iload_n (pc' := 3) cx rfl 1 dX8_toggle_2 rfl rfl ?_
  refine zc_X8_125 (pc' := 6) cx rfl  ⟨Nat.le_of_ble_eq_true rfl, Nat.le_of_ble_eq_true rfl⟩ ⟨Nat.zero_le _, Nat.zero_le _⟩ (Nat.le_of_ble_eq_true rfl) dX8_toggle_3 (fun v5 => ?_)
  refine zr_if_eq (pc' := 9) cx rfl (tgt := 13) dX8_toggle_6 rfl ?_ ?_
  · refine zr_iconst (pc' := 14) cx rfl dX8_toggle_13 ?_
    refine zr_sub [0, 1] rfl ?_
    exact wX8_toggle_p14 cx g 1 a1
  · refine zr_iconst (pc' := 10) cx rfl dX8_toggle_9 ?_
    refine zr_gotoS cx (tgt := 14) dX8_toggle_10 rfl ?_
    refine zr_sub [0, 1] rfl ?_
    exact wX8_toggle_p14 cx g 0 a1
theorem mX8_toggle (l : Launch) (Y : zLy) (g : zSt) (a1 : Int)  : ∀ v g2, fX8_toggle g a1 = some (v, g2) → zMt l yX8_toggle cX8_toggle 2 (some .int) 12 [.ref (zad Y 400), .int (i32 a1)] Y g (zQi Y v g2) := by
  intro v g2 hv
  refine zmet_of RX8 rfl (by decide +kernel) (Nat.le_of_ble_eq_true rfl) ?_
  intro p e s m below meth c cx H locs ls hH hS hl
  exact wX8_toggle cx g a1  (v, g2) hv H locs ls hH hS hl
def fX8_cross_p14  (g : zSt) (y1 : Int) (a1 : Int) : Option (Int × zSt) :=
    zlet (zwr g 400 0 y1) (fun g1 =>
    (if i32 0 < i32 (g1.1 400 0) then
    some (0, g1)
    else
    zbd (fX8_save g1) (fun g2 =>
    zbd (fX8_turn g2 a1 1) (fun g3 =>
    zbd (fX8_burning g3) (fun v4 =>
    some (v4, g3))))))
def fX8_cross (g : zSt) (a1 : Int) : Option (Int × zSt) :=
    zbd (fX8_isFed g a1) (fun v5 =>
    (if i32 v5 = i32 0 then
    fX8_cross_p14 g 1 a1
    else
    fX8_cross_p14 g 0 a1))
theorem wX8_cross_p14 (cx : zCx Y p s m args meth c RX8 cX8_cross 2 (some .int))   : ∀ (g : zSt) (y1 : Int) (a1 : Int), zWo Y p l e (zrm 12) s m args below meth c 2 0 0 (fun q : Int × zSt => MQ below (zQi Y q.1 q.2) args s 0 0 (zA Y)) g [(0, .ref (zad Y 400)), (1, .int (i32 a1))] (.int (i32 y1) :: .ref (zad Y 400) :: []) 14 (fX8_cross_p14 g y1 a1) := by
  intro g y1 a1
  unfold fX8_cross_p14
  refine zp_X8_25 (pc' := 17) cx rfl zkc_400 dX8_cross_14 ?_
  refine zr_letS (fun g1 => ?_)
  refine zr_aload_n (pc' := 18) cx rfl 0 dX8_cross_17 rfl rfl ?_
  refine zg_X8_25 (pc' := 21) cx rfl zkc_400 dX8_cross_18 ?_
  refine zr_if_le (pc' := 24) cx rfl (tgt := 26) dX8_cross_21 rfl ?_ ?_
  · refine zr_aload_n (pc' := 27) cx rfl 0 dX8_cross_26 rfl rfl ?_
    refine zc_X8_118 (pc' := 30) cx rfl  ⟨Nat.le_of_ble_eq_true rfl, Nat.le_of_ble_eq_true rfl⟩ ⟨Nat.zero_le _, Nat.zero_le _⟩ (Nat.le_of_ble_eq_true rfl) dX8_cross_27 (fun g2 => ?_)
    refine zr_aload_n (pc' := 31) cx rfl 0 dX8_cross_30 rfl rfl ?_
    refine zr_iload_n (pc' := 32) cx rfl 1 dX8_cross_31 rfl rfl ?_
    refine zr_iconst (pc' := 33) cx rfl dX8_cross_32 ?_
    refine zc_X8_128 (pc' := 36) cx rfl  ⟨Nat.le_of_ble_eq_true rfl, Nat.le_of_ble_eq_true rfl⟩ ⟨Nat.zero_le _, Nat.zero_le _⟩ (Nat.le_of_ble_eq_true rfl) dX8_cross_33 (fun g3 => ?_)
    refine zr_aload_n (pc' := 37) cx rfl 0 dX8_cross_36 rfl rfl ?_
    refine zc_X8_132 (pc' := 40) cx rfl  ⟨Nat.le_of_ble_eq_true rfl, Nat.le_of_ble_eq_true rfl⟩ ⟨Nat.zero_le _, Nat.zero_le _⟩ (Nat.le_of_ble_eq_true rfl) dX8_cross_37 (fun v4 => ?_)
    exact zr_iretE cx dX8_cross_40
  · refine zr_iconst (pc' := 25) cx rfl dX8_cross_24 ?_
    exact zr_iretE cx dX8_cross_25
theorem wX8_cross (cx : zCx Y p s m args meth c RX8 cX8_cross 2 (some .int)) (g : zSt) (a1 : Int)  : zWo Y p l e (zrm 12) s m args below meth c 2 0 0 (fun q : Int × zSt => MQ below (zQi Y q.1 q.2) args s 0 0 (zA Y)) g [(0, .ref (zad Y 400)), (1, .int (i32 a1))] ([]) 0 (fX8_cross g a1) := by
  unfold fX8_cross
  refine zr_aload_n (pc' := 1) cx rfl 0 dX8_cross_0 rfl rfl ?_
  refine zr_aload_n (pc' := 2) cx rfl 0 dX8_cross_1 rfl rfl ?_
  refine zr_iload_n (pc' := 3) cx rfl 1 dX8_cross_2 rfl rfl ?_
  refine zc_X8_125 (pc' := 6) cx rfl  ⟨Nat.le_of_ble_eq_true rfl, Nat.le_of_ble_eq_true rfl⟩ ⟨Nat.zero_le _, Nat.zero_le _⟩ (Nat.le_of_ble_eq_true rfl) dX8_cross_3 (fun v5 => ?_)
  refine zr_if_eq (pc' := 9) cx rfl (tgt := 13) dX8_cross_6 rfl ?_ ?_
  · refine zr_iconst (pc' := 14) cx rfl dX8_cross_13 ?_
    refine zr_sub [0, 1] rfl ?_
    exact wX8_cross_p14 cx g 1 a1
  · refine zr_iconst (pc' := 10) cx rfl dX8_cross_9 ?_
    refine zr_gotoS cx (tgt := 14) dX8_cross_10 rfl ?_
    refine zr_sub [0, 1] rfl ?_
    exact wX8_cross_p14 cx g 0 a1
theorem mX8_cross (l : Launch) (Y : zLy) (g : zSt) (a1 : Int)  : ∀ v g2, fX8_cross g a1 = some (v, g2) → zMt l yX8_cross cX8_cross 2 (some .int) 12 [.ref (zad Y 400), .int (i32 a1)] Y g (zQi Y v g2) := by
  intro v g2 hv
  refine zmet_of RX8 rfl (by decide +kernel) (Nat.le_of_ble_eq_true rfl) ?_
  intro p e s m below meth c cx H locs ls hH hS hl
  exact wX8_cross cx g a1  (v, g2) hv H locs ls hH hS hl
def fX8_replace_p59  (g : zSt) (y1 : Int) (a1 : Int) (a2 : Int) (a3 : Int) : Option (Int × zSt) :=
    zlet (zwr g 400 0 y1) (fun g1 =>
    (if i32 0 < i32 (g1.1 400 0) then
    some (0, g1)
    else
    zbd (fX8_save g1) (fun g2 =>
    zck ((0 : Int) ≤ 162 ∧ 162 < 168) (
    zck ((0 : Int) ≤ 162 ∧ 162 < 168) (zlet (zwr g2 401 (Int.toNat 162) ((g2.1 401 (Int.toNat 162)) - 1)) (fun g3 =>
    zck ((0 : Int) ≤ (((1 + (7 * a1)) + 3) + a2) ∧ (((1 + (7 * a1)) + 3) + a2) < 168) (zlet (zwr g3 401 (Int.toNat (((1 + (7 * a1)) + 3) + a2)) a3) (fun g4 =>
    zck ((0 : Int) ≤ (((1 + (7 * a1)) + 5) + a2) ∧ (((1 + (7 * a1)) + 5) + a2) < 168) (zlet (zwr g4 401 (Int.toNat (((1 + (7 * a1)) + 5) + a2)) 0) (fun g5 =>
    zbd (fX8_settle g5) (fun g6 =>
    zbd (fX8_ofBox g6 a1 (5 + a2)) (fun v7 =>
    some ((1 - v7), g6)))))))))))))
def fX8_replace_p20  (g : zSt) (y0 : Int) (a1 : Int) (a2 : Int) (a3 : Int) : Option (Int × zSt) :=
    (if i32 y0 = i32 0 then
    fX8_replace_p59 g 1 a1 a2 a3
    else
    zbd (fX8_isRating g a3) (fun v8 =>
    (if i32 v8 = i32 0 then
    fX8_replace_p59 g 2 a1 a2 a3
    else
    zck ((0 : Int) ≤ 162 ∧ 162 < 168) (
    (if i32 (g.1 401 (Int.toNat 162)) = i32 0 then
    fX8_replace_p59 g 3 a1 a2 a3
    else
    fX8_replace_p59 g 0 a1 a2 a3)))))
def fX8_replace (g : zSt) (a1 : Int) (a2 : Int) (a3 : Int) : Option (Int × zSt) :=
    zbd (fX8_isFed g a1) (fun v9 =>
    (if i32 v9 = i32 0 then
    fX8_replace_p20 g 0 a1 a2 a3
    else
    zbd (fX8_isTerminal g a2) (fun v10 =>
    (if i32 v10 = i32 0 then
    fX8_replace_p20 g 0 a1 a2 a3
    else
    fX8_replace_p20 g 1 a1 a2 a3))))
theorem wX8_replace_p59 (cx : zCx Y p s m args meth c RX8 cX8_replace 5 (some .int))   : ∀ (g : zSt) (y1 : Int) (a1 : Int) (a2 : Int) (a3 : Int), zWo Y p l e (zrm 11) s m args below meth c 5 0 0 (fun q : Int × zSt => MQ below (zQi Y q.1 q.2) args s 0 0 (zA Y)) g [(0, .ref (zad Y 400)), (1, .int (i32 a1)), (2, .int (i32 a2)), (3, .int (i32 a3))] (.int (i32 y1) :: .ref (zad Y 400) :: []) 59 (fX8_replace_p59 g y1 a1 a2 a3) := by
  intro g y1 a1 a2 a3
  unfold fX8_replace_p59
  refine zp_X8_25 (pc' := 62) cx rfl zkc_400 dX8_replace_59 ?_
  refine zr_letS (fun g1 => ?_)
  refine zr_aload_n (pc' := 63) cx rfl 0 dX8_replace_62 rfl rfl ?_
  refine zg_X8_25 (pc' := 66) cx rfl zkc_400 dX8_replace_63 ?_
  refine zr_if_le (pc' := 69) cx rfl (tgt := 71) dX8_replace_66 rfl ?_ ?_
  · refine zr_aload_n (pc' := 72) cx rfl 0 dX8_replace_71 rfl rfl ?_
    refine zc_X8_118 (pc' := 75) cx rfl  ⟨Nat.le_of_ble_eq_true rfl, Nat.le_of_ble_eq_true rfl⟩ ⟨Nat.zero_le _, Nat.zero_le _⟩ (Nat.le_of_ble_eq_true rfl) dX8_replace_72 (fun g2 => ?_)
    refine zr_aload_n (pc' := 76) cx rfl 0 dX8_replace_75 rfl rfl ?_
    refine zg_X8_7 (pc' := 79) cx rfl zkc_400 dX8_replace_76 ?_
    refine zr_sipush (pc' := 82) cx rfl dX8_replace_79 (by decide +kernel) ?_
    refine zr_dup2 (pc' := 83) cx rfl dX8_replace_82 rfl rfl ?_
    refine zr_iald (pc' := 84) cx rfl 16 zkc_401 (by decide) (L := 168) rfl dX8_replace_83 ?_
    refine zr_iconst (pc' := 85) cx rfl dX8_replace_84 ?_
    refine zr_isub (pc' := 86) cx rfl dX8_replace_85 ?_
    refine zr_iast (pc' := 87) cx rfl 16 zkc_401 (by decide) (L := 168) rfl dX8_replace_86 ?_
    refine zr_letS (fun g3 => ?_)
    refine zr_aload_n (pc' := 88) cx rfl 0 dX8_replace_87 rfl rfl ?_
    refine zg_X8_7 (pc' := 91) cx rfl zkc_400 dX8_replace_88 ?_
    refine zr_iconst (pc' := 92) cx rfl dX8_replace_91 ?_
    refine zr_bipush (pc' := 94) cx rfl dX8_replace_92 (by decide +kernel) ?_
    refine zr_iload_n (pc' := 95) cx rfl 1 dX8_replace_94 rfl rfl ?_
    refine zr_imul (pc' := 96) cx rfl dX8_replace_95 ?_
    refine zr_iadd (pc' := 97) cx rfl dX8_replace_96 ?_
    refine zr_iconst (pc' := 98) cx rfl dX8_replace_97 ?_
    refine zr_iadd (pc' := 99) cx rfl dX8_replace_98 ?_
    refine zr_iload_n (pc' := 100) cx rfl 2 dX8_replace_99 rfl rfl ?_
    refine zr_iadd (pc' := 101) cx rfl dX8_replace_100 ?_
    refine zr_iload_n (pc' := 102) cx rfl 3 dX8_replace_101 rfl rfl ?_
    refine zr_iast (pc' := 103) cx rfl 16 zkc_401 (by decide) (L := 168) rfl dX8_replace_102 ?_
    refine zr_letS (fun g4 => ?_)
    refine zr_aload_n (pc' := 104) cx rfl 0 dX8_replace_103 rfl rfl ?_
    refine zg_X8_7 (pc' := 107) cx rfl zkc_400 dX8_replace_104 ?_
    refine zr_iconst (pc' := 108) cx rfl dX8_replace_107 ?_
    refine zr_bipush (pc' := 110) cx rfl dX8_replace_108 (by decide +kernel) ?_
    refine zr_iload_n (pc' := 111) cx rfl 1 dX8_replace_110 rfl rfl ?_
    refine zr_imul (pc' := 112) cx rfl dX8_replace_111 ?_
    refine zr_iadd (pc' := 113) cx rfl dX8_replace_112 ?_
    refine zr_iconst (pc' := 114) cx rfl dX8_replace_113 ?_
    refine zr_iadd (pc' := 115) cx rfl dX8_replace_114 ?_
    refine zr_iload_n (pc' := 116) cx rfl 2 dX8_replace_115 rfl rfl ?_
    refine zr_iadd (pc' := 117) cx rfl dX8_replace_116 ?_
    refine zr_iconst (pc' := 118) cx rfl dX8_replace_117 ?_
    refine zr_iast (pc' := 119) cx rfl 16 zkc_401 (by decide) (L := 168) rfl dX8_replace_118 ?_
    refine zr_letS (fun g5 => ?_)
    refine zr_aload_n (pc' := 120) cx rfl 0 dX8_replace_119 rfl rfl ?_
    refine zc_X8_111 (pc' := 123) cx rfl  ⟨Nat.le_of_ble_eq_true rfl, Nat.le_of_ble_eq_true rfl⟩ ⟨Nat.zero_le _, Nat.zero_le _⟩ (Nat.le_of_ble_eq_true rfl) dX8_replace_120 (fun g6 => ?_)
    refine zr_iconst (pc' := 124) cx rfl dX8_replace_123 ?_
    refine zr_aload_n (pc' := 125) cx rfl 0 dX8_replace_124 rfl rfl ?_
    refine zr_iload_n (pc' := 126) cx rfl 1 dX8_replace_125 rfl rfl ?_
    refine zr_iconst (pc' := 127) cx rfl dX8_replace_126 ?_
    refine zr_iload_n (pc' := 128) cx rfl 2 dX8_replace_127 rfl rfl ?_
    refine zr_iadd (pc' := 129) cx rfl dX8_replace_128 ?_
    refine zc_X8_33 (pc' := 132) cx rfl  ⟨Nat.le_of_ble_eq_true rfl, Nat.le_of_ble_eq_true rfl⟩ ⟨Nat.zero_le _, Nat.zero_le _⟩ (Nat.le_of_ble_eq_true rfl) dX8_replace_129 (fun v7 => ?_)
    refine zr_isub (pc' := 133) cx rfl dX8_replace_132 ?_
    exact zr_iretE cx dX8_replace_133
  · refine zr_iconst (pc' := 70) cx rfl dX8_replace_69 ?_
    exact zr_iretE cx dX8_replace_70
theorem wX8_replace_p20 (cx : zCx Y p s m args meth c RX8 cX8_replace 5 (some .int))   : ∀ (g : zSt) (y0 : Int) (a1 : Int) (a2 : Int) (a3 : Int), zWo Y p l e (zrm 11) s m args below meth c 5 0 0 (fun q : Int × zSt => MQ below (zQi Y q.1 q.2) args s 0 0 (zA Y)) g [(0, .ref (zad Y 400)), (1, .int (i32 a1)), (2, .int (i32 a2)), (3, .int (i32 a3))] (.int (i32 y0) :: []) 20 (fX8_replace_p20 g y0 a1 a2 a3) := by
  intro g y0 a1 a2 a3
  unfold fX8_replace_p20
  refine zr_istore (pc' := 22) cx rfl (lv' := [(4, .int (i32 y0)), (0, .ref (zad Y 400)), (1, .int (i32 a1)), (2, .int (i32 a2)), (3, .int (i32 a3))]) dX8_replace_20 (by decide) rfl ?_
  refine zr_aload_n (pc' := 23) cx rfl 1 dX8_replace_22 rfl rfl ?_
  refine zr_iload (pc' := 25) cx rfl 0 dX8_replace_23 rfl ?_
  refine zr_if_ne (pc' := 28) cx rfl (tgt := 32) dX8_replace_25 rfl ?_ ?_
  · refine zr_iload_n (pc' := 33) cx rfl 4 dX8_replace_32 rfl rfl ?_
    refine zc_X8_108 (pc' := 36) cx rfl  ⟨Nat.le_of_ble_eq_true rfl, Nat.le_of_ble_eq_true rfl⟩ ⟨Nat.zero_le _, Nat.zero_le _⟩ (Nat.le_of_ble_eq_true rfl) dX8_replace_33 (fun v8 => ?_)
    refine zr_if_ne (pc' := 39) cx rfl (tgt := 43) dX8_replace_36 rfl ?_ ?_
    · refine zr_aload_n (pc' := 44) cx rfl 1 dX8_replace_43 rfl rfl ?_
      refine zg_X8_7 (pc' := 47) cx rfl zkc_400 dX8_replace_44 ?_
      refine zr_sipush (pc' := 50) cx rfl dX8_replace_47 (by decide +kernel) ?_
      refine zr_iald (pc' := 51) cx rfl 16 zkc_401 (by decide) (L := 168) rfl dX8_replace_50 ?_
      refine zr_if_ne (pc' := 54) cx rfl (tgt := 58) dX8_replace_51 rfl ?_ ?_
      · refine zr_iconst (pc' := 59) cx rfl dX8_replace_58 ?_
        refine zr_sub [1, 2, 3, 4] rfl ?_
        exact wX8_replace_p59 cx g 0 a1 a2 a3
      · refine zr_iconst (pc' := 55) cx rfl dX8_replace_54 ?_
        refine zr_gotoS cx (tgt := 59) dX8_replace_55 rfl ?_
        refine zr_sub [1, 2, 3, 4] rfl ?_
        exact wX8_replace_p59 cx g 3 a1 a2 a3
    · refine zr_iconst (pc' := 40) cx rfl dX8_replace_39 ?_
      refine zr_gotoS cx (tgt := 59) dX8_replace_40 rfl ?_
      refine zr_sub [1, 2, 3, 4] rfl ?_
      exact wX8_replace_p59 cx g 2 a1 a2 a3
  · refine zr_iconst (pc' := 29) cx rfl dX8_replace_28 ?_
    refine zr_gotoS cx (tgt := 59) dX8_replace_29 rfl ?_
    refine zr_sub [1, 2, 3, 4] rfl ?_
    exact wX8_replace_p59 cx g 1 a1 a2 a3
theorem wX8_replace (cx : zCx Y p s m args meth c RX8 cX8_replace 5 (some .int)) (g : zSt) (a1 : Int) (a2 : Int) (a3 : Int)  : zWo Y p l e (zrm 11) s m args below meth c 5 0 0 (fun q : Int × zSt => MQ below (zQi Y q.1 q.2) args s 0 0 (zA Y)) g [(0, .ref (zad Y 400)), (1, .int (i32 a1)), (2, .int (i32 a2)), (3, .int (i32 a3))] ([]) 0 (fX8_replace g a1 a2 a3) := by
  unfold fX8_replace
  refine zr_aload_n (pc' := 1) cx rfl 0 dX8_replace_0 rfl rfl ?_
  refine zr_iload_n (pc' := 2) cx rfl 1 dX8_replace_1 rfl rfl ?_
  refine zc_X8_125 (pc' := 5) cx rfl  ⟨Nat.le_of_ble_eq_true rfl, Nat.le_of_ble_eq_true rfl⟩ ⟨Nat.zero_le _, Nat.zero_le _⟩ (Nat.le_of_ble_eq_true rfl) dX8_replace_2 (fun v9 => ?_)
  refine zr_if_eq (pc' := 8) cx rfl (tgt := 19) dX8_replace_5 rfl ?_ ?_
  · refine zr_iconst (pc' := 20) cx rfl dX8_replace_19 ?_
    refine zr_sub [0, 1, 2, 3] rfl ?_
    exact wX8_replace_p20 cx g 0 a1 a2 a3
  · refine zr_iload_n (pc' := 9) cx rfl 2 dX8_replace_8 rfl rfl ?_
    refine zc_X8_135 (pc' := 12) cx rfl  ⟨Nat.le_of_ble_eq_true rfl, Nat.le_of_ble_eq_true rfl⟩ ⟨Nat.zero_le _, Nat.zero_le _⟩ (Nat.le_of_ble_eq_true rfl) dX8_replace_9 (fun v10 => ?_)
    refine zr_if_eq (pc' := 15) cx rfl (tgt := 19) dX8_replace_12 rfl ?_ ?_
    · refine zr_iconst (pc' := 20) cx rfl dX8_replace_19 ?_
      refine zr_sub [0, 1, 2, 3] rfl ?_
      exact wX8_replace_p20 cx g 0 a1 a2 a3
    · refine zr_iconst (pc' := 16) cx rfl dX8_replace_15 ?_
      refine zr_gotoS cx (tgt := 20) dX8_replace_16 rfl ?_
      refine zr_sub [0, 1, 2, 3] rfl ?_
      exact wX8_replace_p20 cx g 1 a1 a2 a3
theorem mX8_replace (l : Launch) (Y : zLy) (g : zSt) (a1 : Int) (a2 : Int) (a3 : Int)  : ∀ v g2, fX8_replace g a1 a2 a3 = some (v, g2) → zMt l yX8_replace cX8_replace 5 (some .int) 11 [.ref (zad Y 400), .int (i32 a1), .int (i32 a2), .int (i32 a3)] Y g (zQi Y v g2) := by
  intro v g2 hv
  refine zmet_of RX8 rfl (by decide +kernel) (Nat.le_of_ble_eq_true rfl) ?_
  intro p e s m below meth c cx H locs ls hH hS hl
  exact wX8_replace cx g a1 a2 a3  (v, g2) hv H locs ls hH hS hl
def fX8_buyFuses_p35  (g : zSt) (y1 : Int) (a1 : Int) : Option (Int × zSt) :=
    zlet (zwr g 400 0 y1) (fun g1 =>
    (if i32 0 < i32 (g1.1 400 0) then
    some (0, g1)
    else
    zbd (fX8_save g1) (fun g2 =>
    zck ((0 : Int) ≤ 162 ∧ 162 < 168) (
    zck ((0 : Int) ≤ 162 ∧ 162 < 168) (zlet (zwr g2 401 (Int.toNat 162) ((g2.1 401 (Int.toNat 162)) + a1)) (fun g3 =>
    zck ((0 : Int) ≤ 162 ∧ 162 < 168) (
    some ((g3.1 401 (Int.toNat 162)), g3))))))))
def fX8_buyFuses (g : zSt) (a1 : Int) : Option (Int × zSt) :=
    zbd (fX8_within g a1 1 20) (fun v4 =>
    (if i32 v4 = i32 0 then
    fX8_buyFuses_p35 g 1 a1
    else
    zck ((0 : Int) ≤ 162 ∧ 162 < 168) (
    (if i32 50 < i32 ((g.1 401 (Int.toNat 162)) + a1) then
    fX8_buyFuses_p35 g 2 a1
    else
    fX8_buyFuses_p35 g 0 a1))))
theorem wX8_buyFuses_p35 (cx : zCx Y p s m args meth c RX8 cX8_buyFuses 2 (some .int))   : ∀ (g : zSt) (y1 : Int) (a1 : Int), zWo Y p l e (zrm 1) s m args below meth c 2 0 0 (fun q : Int × zSt => MQ below (zQi Y q.1 q.2) args s 0 0 (zA Y)) g [(0, .ref (zad Y 400)), (1, .int (i32 a1))] (.int (i32 y1) :: .ref (zad Y 400) :: []) 35 (fX8_buyFuses_p35 g y1 a1) := by
  intro g y1 a1
  unfold fX8_buyFuses_p35
  refine zp_X8_25 (pc' := 38) cx rfl zkc_400 dX8_buyFuses_35 ?_
  refine zr_letS (fun g1 => ?_)
  refine zr_aload_n (pc' := 39) cx rfl 0 dX8_buyFuses_38 rfl rfl ?_
  refine zg_X8_25 (pc' := 42) cx rfl zkc_400 dX8_buyFuses_39 ?_
  refine zr_if_le (pc' := 45) cx rfl (tgt := 47) dX8_buyFuses_42 rfl ?_ ?_
  · refine zr_aload_n (pc' := 48) cx rfl 0 dX8_buyFuses_47 rfl rfl ?_
    refine zc_X8_118 (pc' := 51) cx rfl  ⟨Nat.le_of_ble_eq_true rfl, Nat.le_of_ble_eq_true rfl⟩ ⟨Nat.zero_le _, Nat.zero_le _⟩ (Nat.le_of_ble_eq_true rfl) dX8_buyFuses_48 (fun g2 => ?_)
    refine zr_aload_n (pc' := 52) cx rfl 0 dX8_buyFuses_51 rfl rfl ?_
    refine zg_X8_7 (pc' := 55) cx rfl zkc_400 dX8_buyFuses_52 ?_
    refine zr_sipush (pc' := 58) cx rfl dX8_buyFuses_55 (by decide +kernel) ?_
    refine zr_dup2 (pc' := 59) cx rfl dX8_buyFuses_58 rfl rfl ?_
    refine zr_iald (pc' := 60) cx rfl 16 zkc_401 (by decide) (L := 168) rfl dX8_buyFuses_59 ?_
    refine zr_iload_n (pc' := 61) cx rfl 1 dX8_buyFuses_60 rfl rfl ?_
    refine zr_iadd (pc' := 62) cx rfl dX8_buyFuses_61 ?_
    refine zr_iast (pc' := 63) cx rfl 16 zkc_401 (by decide) (L := 168) rfl dX8_buyFuses_62 ?_
    refine zr_letS (fun g3 => ?_)
    refine zr_aload_n (pc' := 64) cx rfl 0 dX8_buyFuses_63 rfl rfl ?_
    refine zg_X8_7 (pc' := 67) cx rfl zkc_400 dX8_buyFuses_64 ?_
    refine zr_sipush (pc' := 70) cx rfl dX8_buyFuses_67 (by decide +kernel) ?_
    refine zr_iald (pc' := 71) cx rfl 16 zkc_401 (by decide) (L := 168) rfl dX8_buyFuses_70 ?_
    exact zr_iretE cx dX8_buyFuses_71
  · refine zr_iconst (pc' := 46) cx rfl dX8_buyFuses_45 ?_
    exact zr_iretE cx dX8_buyFuses_46
theorem wX8_buyFuses (cx : zCx Y p s m args meth c RX8 cX8_buyFuses 2 (some .int)) (g : zSt) (a1 : Int)  : zWo Y p l e (zrm 1) s m args below meth c 2 0 0 (fun q : Int × zSt => MQ below (zQi Y q.1 q.2) args s 0 0 (zA Y)) g [(0, .ref (zad Y 400)), (1, .int (i32 a1))] ([]) 0 (fX8_buyFuses g a1) := by
  unfold fX8_buyFuses
  refine zr_aload_n (pc' := 1) cx rfl 0 dX8_buyFuses_0 rfl rfl ?_
  refine zr_iload_n (pc' := 2) cx rfl 1 dX8_buyFuses_1 rfl rfl ?_
  refine zr_iconst (pc' := 3) cx rfl dX8_buyFuses_2 ?_
  refine zr_bipush (pc' := 5) cx rfl dX8_buyFuses_3 (by decide +kernel) ?_
  refine zc_X8_29 (pc' := 8) cx rfl  ⟨Nat.le_of_ble_eq_true rfl, Nat.le_of_ble_eq_true rfl⟩ ⟨Nat.zero_le _, Nat.zero_le _⟩ (Nat.le_of_ble_eq_true rfl) dX8_buyFuses_5 (fun v4 => ?_)
  refine zr_if_ne (pc' := 11) cx rfl (tgt := 15) dX8_buyFuses_8 rfl ?_ ?_
  · refine zr_aload_n (pc' := 16) cx rfl 0 dX8_buyFuses_15 rfl rfl ?_
    refine zg_X8_7 (pc' := 19) cx rfl zkc_400 dX8_buyFuses_16 ?_
    refine zr_sipush (pc' := 22) cx rfl dX8_buyFuses_19 (by decide +kernel) ?_
    refine zr_iald (pc' := 23) cx rfl 16 zkc_401 (by decide) (L := 168) rfl dX8_buyFuses_22 ?_
    refine zr_iload_n (pc' := 24) cx rfl 1 dX8_buyFuses_23 rfl rfl ?_
    refine zr_iadd (pc' := 25) cx rfl dX8_buyFuses_24 ?_
    refine zr_bipush (pc' := 27) cx rfl dX8_buyFuses_25 (by decide +kernel) ?_
    refine zr_icmp_le (pc' := 30) cx rfl (tgt := 34) dX8_buyFuses_27 rfl ?_ ?_
    · refine zr_iconst (pc' := 35) cx rfl dX8_buyFuses_34 ?_
      refine zr_sub [0, 1] rfl ?_
      exact wX8_buyFuses_p35 cx g 0 a1
    · refine zr_iconst (pc' := 31) cx rfl dX8_buyFuses_30 ?_
      refine zr_gotoS cx (tgt := 35) dX8_buyFuses_31 rfl ?_
      refine zr_sub [0, 1] rfl ?_
      exact wX8_buyFuses_p35 cx g 2 a1
  · refine zr_iconst (pc' := 12) cx rfl dX8_buyFuses_11 ?_
    refine zr_gotoS cx (tgt := 35) dX8_buyFuses_12 rfl ?_
    refine zr_sub [0, 1] rfl ?_
    exact wX8_buyFuses_p35 cx g 1 a1
theorem mX8_buyFuses (l : Launch) (Y : zLy) (g : zSt) (a1 : Int)  : ∀ v g2, fX8_buyFuses g a1 = some (v, g2) → zMt l yX8_buyFuses cX8_buyFuses 2 (some .int) 1 [.ref (zad Y 400), .int (i32 a1)] Y g (zQi Y v g2) := by
  intro v g2 hv
  refine zmet_of RX8 rfl (by decide +kernel) (Nat.le_of_ble_eq_true rfl) ?_
  intro p e s m below meth c cx H locs ls hH hS hl
  exact wX8_buyFuses cx g a1  (v, g2) hv H locs ls hH hS hl
def fX8_whyNoLantern (g : zSt) (a1 : Int) (a2 : Int) : Option Int :=
    zbd (fX8_isBox g a1) (fun v1 =>
    (if i32 v1 = i32 0 then
    some 1
    else
    zbd (fX8_within g a2 1 9) (fun v2 =>
    (if i32 v2 = i32 0 then
    some 2
    else
    zck ((0 : Int) ≤ 85 ∧ 85 < 168) (
    (if i32 (g.1 401 (Int.toNat 85)) = i32 16 then
    some 3
    else
    some 0))))))
theorem wX8_whyNoLantern (cx : zCx Y p s m args meth c RX8 cX8_whyNoLantern 3 (some .int)) (g : zSt) (a1 : Int) (a2 : Int)  : zWo Y p l e (zrm 2) s m args below meth c 3 0 0 (fun v : Int => MQ below (zQi Y v g) args s 0 0 (zA Y)) g [(0, .ref (zad Y 400)), (1, .int (i32 a1)), (2, .int (i32 a2))] ([]) 0 (fX8_whyNoLantern g a1 a2) := by
  unfold fX8_whyNoLantern
  refine zr_aload_n (pc' := 1) cx rfl 0 dX8_whyNoLantern_0 rfl rfl ?_
  refine zr_iload_n (pc' := 2) cx rfl 1 dX8_whyNoLantern_1 rfl rfl ?_
  refine zc_X8_105 (pc' := 5) cx rfl  ⟨Nat.le_of_ble_eq_true rfl, Nat.le_of_ble_eq_true rfl⟩ ⟨Nat.zero_le _, Nat.zero_le _⟩ (Nat.le_of_ble_eq_true rfl) dX8_whyNoLantern_2 (fun v1 => ?_)
  refine zr_if_ne (pc' := 8) cx rfl (tgt := 12) dX8_whyNoLantern_5 rfl ?_ ?_
  · refine zr_iload_n (pc' := 13) cx rfl 2 dX8_whyNoLantern_12 rfl rfl ?_
    refine zr_iconst (pc' := 14) cx rfl dX8_whyNoLantern_13 ?_
    refine zr_bipush (pc' := 16) cx rfl dX8_whyNoLantern_14 (by decide +kernel) ?_
    refine zc_X8_29 (pc' := 19) cx rfl  ⟨Nat.le_of_ble_eq_true rfl, Nat.le_of_ble_eq_true rfl⟩ ⟨Nat.zero_le _, Nat.zero_le _⟩ (Nat.le_of_ble_eq_true rfl) dX8_whyNoLantern_16 (fun v2 => ?_)
    refine zr_if_ne (pc' := 22) cx rfl (tgt := 26) dX8_whyNoLantern_19 rfl ?_ ?_
    · refine zr_aload_n (pc' := 27) cx rfl 0 dX8_whyNoLantern_26 rfl rfl ?_
      refine zg_X8_7 (pc' := 30) cx rfl zkc_400 dX8_whyNoLantern_27 ?_
      refine zr_bipush (pc' := 32) cx rfl dX8_whyNoLantern_30 (by decide +kernel) ?_
      refine zr_iald (pc' := 33) cx rfl 16 zkc_401 (by decide) (L := 168) rfl dX8_whyNoLantern_32 ?_
      refine zr_bipush (pc' := 35) cx rfl dX8_whyNoLantern_33 (by decide +kernel) ?_
      refine zr_icmp_ne (pc' := 38) cx rfl (tgt := 42) dX8_whyNoLantern_35 rfl ?_ ?_
      · refine zr_iconst (pc' := 43) cx rfl dX8_whyNoLantern_42 ?_
        exact zr_iretP cx dX8_whyNoLantern_43
      · refine zr_iconst (pc' := 39) cx rfl dX8_whyNoLantern_38 ?_
        refine zr_gotoS cx (tgt := 43) dX8_whyNoLantern_39 rfl ?_
        exact zr_iretP cx dX8_whyNoLantern_43
    · refine zr_iconst (pc' := 23) cx rfl dX8_whyNoLantern_22 ?_
      refine zr_gotoS cx (tgt := 43) dX8_whyNoLantern_23 rfl ?_
      exact zr_iretP cx dX8_whyNoLantern_43
  · refine zr_iconst (pc' := 9) cx rfl dX8_whyNoLantern_8 ?_
    refine zr_gotoS cx (tgt := 43) dX8_whyNoLantern_9 rfl ?_
    exact zr_iretP cx dX8_whyNoLantern_43
theorem mX8_whyNoLantern (l : Launch) (Y : zLy) (g : zSt) (a1 : Int) (a2 : Int)  : ∀ v, fX8_whyNoLantern g a1 a2 = some v → zMt l yX8_whyNoLantern cX8_whyNoLantern 3 (some .int) 2 [.ref (zad Y 400), .int (i32 a1), .int (i32 a2)] Y g (zQi Y v g) := by
  intro v hv
  refine zmet_of RX8 rfl (by decide +kernel) (Nat.le_of_ble_eq_true rfl) ?_
  intro p e s m below meth c cx H locs ls hH hS hl
  exact wX8_whyNoLantern cx g a1 a2  v hv H locs ls hH hS hl
theorem zc_X8_138 (cx : zCx Y p s m args meth c RX8 cc nl ret) (hpc : pc + 3 = pc') {g : zSt} {a1 : Int} {a2 : Int}  {fk : Int → Option ρ} (hR : 2 + 1 ≤ R.frames ∧ 8 + (3 + 11) + 40 * 2 ≤ R.locals) (hkn : k ≤ R.cells ∧ n ≤ R.slots) (hrest : (rest.map fun v => v.category).sum ≤ 8) (hdg : decode cc pc = .ok (.invokevirtual 138, 3)) (kk : ∀ v : Int, zWo Y p l e R s m args below meth c nl k n kq g lv (.int (i32 v) :: rest) pc' (fk v)) : zWo Y p l e R s m args below meth c nl k n kq g lv (.int (i32 a2) :: .int (i32 a1) :: .ref (zad Y 400) :: rest) pc (zbd (fX8_whyNoLantern g a1 a2) fk) := zr_callViP cx (an := 2) (As := [.int (i32 a1), .int (i32 a2)]) 9 zkc_400 (by decide) rfl (mX8_whyNoLantern l Y g a1 a2) (zG_V zw_1161 zw_1163 zw_65 zw_109 zw_1164) (by decide +kernel) hR hkn rfl rfl hrest hdg hpc kk
def fX8_bringLantern_p49  (g : zSt) (y1 : Int) (y2 : Int) : Option zSt :=
    zck ((0 : Int) ≤ y1 ∧ y1 < 168) (zlet (zwr g 401 (Int.toNat y1) y2) (fun g1 =>
    zck ((0 : Int) ≤ 85 ∧ 85 < 168) (
    zck ((0 : Int) ≤ 85 ∧ 85 < 168) (zlet (zwr g1 401 (Int.toNat 85) ((g1.1 401 (Int.toNat 85)) + 1)) (fun g2 =>
    zbd (fX8_settle g2) (fun g3 =>
    some g3))))))
def fX8_bringLantern (g : zSt) (a1 : Int) (a2 : Int) (a3 : Int) : Option zSt :=
    zck ((0 : Int) ≤ 85 ∧ 85 < 168) (
    zlet (86 + (3 * (g.1 401 (Int.toNat 85)))) (fun x4 =>
    zck ((0 : Int) ≤ x4 ∧ x4 < 168) (zlet (zwr g 401 (Int.toNat x4) a1) (fun g5 =>
    zck ((0 : Int) ≤ (x4 + 1) ∧ (x4 + 1) < 168) (zlet (zwr g5 401 (Int.toNat (x4 + 1)) a2) (fun g6 =>
    (if i32 a3 = i32 0 then
    fX8_bringLantern_p49 g6 (x4 + 2) 0
    else
    fX8_bringLantern_p49 g6 (x4 + 2) 1)))))))
theorem wX8_bringLantern_p49 (cx : zCx Y p s m args meth c RX8 cX8_bringLantern 5 none)   : ∀ (g : zSt) (y1 : Int) (y2 : Int), zWo Y p l e (zrm 11) s m args below meth c 5 0 0 (fun g9 : zSt => MQ below (zQv Y g9) args s 0 0 (zA Y)) g [(0, .ref (zad Y 400))] (.int (i32 y2) :: .int (i32 y1) :: .ref (zad Y 401) :: []) 49 (fX8_bringLantern_p49 g y1 y2) := by
  intro g y1 y2
  unfold fX8_bringLantern_p49
  refine zr_iast (pc' := 50) cx rfl 16 zkc_401 (by decide) (L := 168) rfl dX8_bringLantern_49 ?_
  refine zr_letS (fun g1 => ?_)
  refine zr_aload_n (pc' := 51) cx rfl 0 dX8_bringLantern_50 rfl rfl ?_
  refine zg_X8_7 (pc' := 54) cx rfl zkc_400 dX8_bringLantern_51 ?_
  refine zr_bipush (pc' := 56) cx rfl dX8_bringLantern_54 (by decide +kernel) ?_
  refine zr_dup2 (pc' := 57) cx rfl dX8_bringLantern_56 rfl rfl ?_
  refine zr_iald (pc' := 58) cx rfl 16 zkc_401 (by decide) (L := 168) rfl dX8_bringLantern_57 ?_
  refine zr_iconst (pc' := 59) cx rfl dX8_bringLantern_58 ?_
  refine zr_iadd (pc' := 60) cx rfl dX8_bringLantern_59 ?_
  refine zr_iast (pc' := 61) cx rfl 16 zkc_401 (by decide) (L := 168) rfl dX8_bringLantern_60 ?_
  refine zr_letS (fun g2 => ?_)
  refine zr_aload_n (pc' := 62) cx rfl 0 dX8_bringLantern_61 rfl rfl ?_
  refine zc_X8_111 (pc' := 65) cx rfl  ⟨Nat.le_of_ble_eq_true rfl, Nat.le_of_ble_eq_true rfl⟩ ⟨Nat.zero_le _, Nat.zero_le _⟩ (Nat.le_of_ble_eq_true rfl) dX8_bringLantern_62 (fun g3 => ?_)
  exact zr_vretE cx dX8_bringLantern_65
theorem wX8_bringLantern (cx : zCx Y p s m args meth c RX8 cX8_bringLantern 5 none) (g : zSt) (a1 : Int) (a2 : Int) (a3 : Int)  : zWo Y p l e (zrm 11) s m args below meth c 5 0 0 (fun g9 : zSt => MQ below (zQv Y g9) args s 0 0 (zA Y)) g [(0, .ref (zad Y 400)), (1, .int (i32 a1)), (2, .int (i32 a2)), (3, .int (i32 a3))] ([]) 0 (fX8_bringLantern g a1 a2 a3) := by
  unfold fX8_bringLantern
  refine zr_bipush (pc' := 2) cx rfl dX8_bringLantern_0 (by decide +kernel) ?_
  refine zr_iconst (pc' := 3) cx rfl dX8_bringLantern_2 ?_
  refine zr_aload_n (pc' := 4) cx rfl 0 dX8_bringLantern_3 rfl rfl ?_
  refine zg_X8_7 (pc' := 7) cx rfl zkc_400 dX8_bringLantern_4 ?_
  refine zr_bipush (pc' := 9) cx rfl dX8_bringLantern_7 (by decide +kernel) ?_
  refine zr_iald (pc' := 10) cx rfl 16 zkc_401 (by decide) (L := 168) rfl dX8_bringLantern_9 ?_
  refine zr_imul (pc' := 11) cx rfl dX8_bringLantern_10 ?_
  refine zr_iadd (pc' := 12) cx rfl dX8_bringLantern_11 ?_
  refine zr_leti (fun x4 => ?_)
  refine zr_istore (pc' := 14) cx rfl (lv' := [(4, .int (i32 x4)), (0, .ref (zad Y 400)), (1, .int (i32 a1)), (2, .int (i32 a2)), (3, .int (i32 a3))]) dX8_bringLantern_12 (by decide) rfl ?_
  refine zr_aload_n (pc' := 15) cx rfl 1 dX8_bringLantern_14 rfl rfl ?_
  refine zg_X8_7 (pc' := 18) cx rfl zkc_400 dX8_bringLantern_15 ?_
  refine zr_iload (pc' := 20) cx rfl 0 dX8_bringLantern_18 rfl ?_
  refine zr_iload_n (pc' := 21) cx rfl 2 dX8_bringLantern_20 rfl rfl ?_
  refine zr_iast (pc' := 22) cx rfl 16 zkc_401 (by decide) (L := 168) rfl dX8_bringLantern_21 ?_
  refine zr_letS (fun g5 => ?_)
  refine zr_aload_n (pc' := 23) cx rfl 1 dX8_bringLantern_22 rfl rfl ?_
  refine zg_X8_7 (pc' := 26) cx rfl zkc_400 dX8_bringLantern_23 ?_
  refine zr_iload (pc' := 28) cx rfl 0 dX8_bringLantern_26 rfl ?_
  refine zr_iconst (pc' := 29) cx rfl dX8_bringLantern_28 ?_
  refine zr_iadd (pc' := 30) cx rfl dX8_bringLantern_29 ?_
  refine zr_iload_n (pc' := 31) cx rfl 3 dX8_bringLantern_30 rfl rfl ?_
  refine zr_iast (pc' := 32) cx rfl 16 zkc_401 (by decide) (L := 168) rfl dX8_bringLantern_31 ?_
  refine zr_letS (fun g6 => ?_)
  refine zr_aload_n (pc' := 33) cx rfl 1 dX8_bringLantern_32 rfl rfl ?_
  refine zg_X8_7 (pc' := 36) cx rfl zkc_400 dX8_bringLantern_33 ?_
  refine zr_iload (pc' := 38) cx rfl 0 dX8_bringLantern_36 rfl ?_
  refine zr_iconst (pc' := 39) cx rfl dX8_bringLantern_38 ?_
  refine zr_iadd (pc' := 40) cx rfl dX8_bringLantern_39 ?_
  refine zr_iload_n (pc' := 41) cx rfl 4 dX8_bringLantern_40 rfl rfl ?_
  refine zr_if_eq (pc' := 44) cx rfl (tgt := 48) dX8_bringLantern_41 rfl ?_ ?_
  · refine zr_iconst (pc' := 49) cx rfl dX8_bringLantern_48 ?_
    refine zr_sub [1] rfl ?_
    exact wX8_bringLantern_p49 cx g6 (x4 + 2) 0
  · refine zr_iconst (pc' := 45) cx rfl dX8_bringLantern_44 ?_
    refine zr_gotoS cx (tgt := 49) dX8_bringLantern_45 rfl ?_
    refine zr_sub [1] rfl ?_
    exact wX8_bringLantern_p49 cx g6 (x4 + 2) 1
theorem mX8_bringLantern (l : Launch) (Y : zLy) (g : zSt) (a1 : Int) (a2 : Int) (a3 : Int)  : ∀ g2, fX8_bringLantern g a1 a2 a3 = some g2 → zMt l yX8_bringLantern cX8_bringLantern 5 none 11 [.ref (zad Y 400), .int (i32 a1), .int (i32 a2), .int (i32 a3)] Y g (zQv Y g2) := by
  intro g2 hv
  refine zmet_of RX8 rfl (by decide +kernel) (Nat.le_of_ble_eq_true rfl) ?_
  intro p e s m below meth c cx H locs ls hH hS hl
  exact wX8_bringLantern cx g a1 a2 a3  g2 hv H locs ls hH hS hl
theorem zc_X8_141 (cx : zCx Y p s m args meth c RX8 cc nl ret) (hpc : pc + 3 = pc') {g : zSt} {a1 : Int} {a2 : Int} {a3 : Int}  {fk : zSt → Option ρ} (hR : 11 + 1 ≤ R.frames ∧ 8 + (5 + 11) + 40 * 11 ≤ R.locals) (hkn : k ≤ R.cells ∧ n ≤ R.slots) (hrest : (rest.map fun v => v.category).sum ≤ 8) (hdg : decode cc pc = .ok (.invokevirtual 141, 3)) (kk : ∀ g2 : zSt, zWo Y p l e R s m args below meth c nl k n kq g2 lv (rest) pc' (fk g2)) : zWo Y p l e R s m args below meth c nl k n kq g lv (.int (i32 a3) :: .int (i32 a2) :: .int (i32 a1) :: .ref (zad Y 400) :: rest) pc (zbd (fX8_bringLantern g a1 a2 a3) fk) := zr_callVvE cx (an := 3) (As := [.int (i32 a1), .int (i32 a2), .int (i32 a3)]) 9 zkc_400 (by decide) rfl (mX8_bringLantern l Y g a1 a2 a3) (zG_V zw_1165 zw_1167 zw_66 zw_109 zw_1168) (by decide +kernel) hR hkn rfl rfl hrest hdg hpc kk
def fX8_hang (g : zSt) (a1 : Int) (a2 : Int) (a3 : Int) : Option (Int × zSt) :=
    zbd (fX8_whyNoLantern g a1 a2) (fun v1 =>
    zlet (zwr g 400 0 v1) (fun g2 =>
    (if i32 0 < i32 (g2.1 400 0) then
    some (0, g2)
    else
    zbd (fX8_save g2) (fun g3 =>
    zbd (fX8_bringLantern g3 a1 a2 a3) (fun g4 =>
    zck ((0 : Int) ≤ 85 ∧ 85 < 168) (
    some (((g4.1 401 (Int.toNat 85)) - 1), g4)))))))
theorem wX8_hang (cx : zCx Y p s m args meth c RX8 cX8_hang 4 (some .int)) (g : zSt) (a1 : Int) (a2 : Int) (a3 : Int)  : zWo Y p l e (zrm 12) s m args below meth c 4 0 0 (fun q : Int × zSt => MQ below (zQi Y q.1 q.2) args s 0 0 (zA Y)) g [(0, .ref (zad Y 400)), (1, .int (i32 a1)), (2, .int (i32 a2)), (3, .int (i32 a3))] ([]) 0 (fX8_hang g a1 a2 a3) := by
  unfold fX8_hang
  refine zr_aload_n (pc' := 1) cx rfl 0 dX8_hang_0 rfl rfl ?_
  refine zr_aload_n (pc' := 2) cx rfl 0 dX8_hang_1 rfl rfl ?_
  refine zr_iload_n (pc' := 3) cx rfl 1 dX8_hang_2 rfl rfl ?_
  refine zr_iload_n (pc' := 4) cx rfl 2 dX8_hang_3 rfl rfl ?_
  refine zc_X8_138 (pc' := 7) cx rfl  ⟨Nat.le_of_ble_eq_true rfl, Nat.le_of_ble_eq_true rfl⟩ ⟨Nat.zero_le _, Nat.zero_le _⟩ (Nat.le_of_ble_eq_true rfl) dX8_hang_4 (fun v1 => ?_)
  refine zp_X8_25 (pc' := 10) cx rfl zkc_400 dX8_hang_7 ?_
  refine zr_letS (fun g2 => ?_)
  refine zr_aload_n (pc' := 11) cx rfl 0 dX8_hang_10 rfl rfl ?_
  refine zg_X8_25 (pc' := 14) cx rfl zkc_400 dX8_hang_11 ?_
  refine zr_if_le (pc' := 17) cx rfl (tgt := 19) dX8_hang_14 rfl ?_ ?_
  · refine zr_aload_n (pc' := 20) cx rfl 0 dX8_hang_19 rfl rfl ?_
    refine zc_X8_118 (pc' := 23) cx rfl  ⟨Nat.le_of_ble_eq_true rfl, Nat.le_of_ble_eq_true rfl⟩ ⟨Nat.zero_le _, Nat.zero_le _⟩ (Nat.le_of_ble_eq_true rfl) dX8_hang_20 (fun g3 => ?_)
    refine zr_aload_n (pc' := 24) cx rfl 0 dX8_hang_23 rfl rfl ?_
    refine zr_iload_n (pc' := 25) cx rfl 1 dX8_hang_24 rfl rfl ?_
    refine zr_iload_n (pc' := 26) cx rfl 2 dX8_hang_25 rfl rfl ?_
    refine zr_iload_n (pc' := 27) cx rfl 3 dX8_hang_26 rfl rfl ?_
    refine zc_X8_141 (pc' := 30) cx rfl  ⟨Nat.le_of_ble_eq_true rfl, Nat.le_of_ble_eq_true rfl⟩ ⟨Nat.zero_le _, Nat.zero_le _⟩ (Nat.le_of_ble_eq_true rfl) dX8_hang_27 (fun g4 => ?_)
    refine zr_aload_n (pc' := 31) cx rfl 0 dX8_hang_30 rfl rfl ?_
    refine zg_X8_7 (pc' := 34) cx rfl zkc_400 dX8_hang_31 ?_
    refine zr_bipush (pc' := 36) cx rfl dX8_hang_34 (by decide +kernel) ?_
    refine zr_iald (pc' := 37) cx rfl 16 zkc_401 (by decide) (L := 168) rfl dX8_hang_36 ?_
    refine zr_iconst (pc' := 38) cx rfl dX8_hang_37 ?_
    refine zr_isub (pc' := 39) cx rfl dX8_hang_38 ?_
    exact zr_iretE cx dX8_hang_39
  · refine zr_iconst (pc' := 18) cx rfl dX8_hang_17 ?_
    exact zr_iretE cx dX8_hang_18
theorem mX8_hang (l : Launch) (Y : zLy) (g : zSt) (a1 : Int) (a2 : Int) (a3 : Int)  : ∀ v g2, fX8_hang g a1 a2 a3 = some (v, g2) → zMt l yX8_hang cX8_hang 4 (some .int) 12 [.ref (zad Y 400), .int (i32 a1), .int (i32 a2), .int (i32 a3)] Y g (zQi Y v g2) := by
  intro v g2 hv
  refine zmet_of RX8 rfl (by decide +kernel) (Nat.le_of_ble_eq_true rfl) ?_
  intro p e s m below meth c cx H locs ls hH hS hl
  exact wX8_hang cx g a1 a2 a3  (v, g2) hv H locs ls hH hS hl
def fX8_isLantern (g : zSt) (a1 : Int) : Option Int :=
    zck ((0 : Int) ≤ 85 ∧ 85 < 168) (
    zbd (fX8_within g a1 0 ((g.1 401 (Int.toNat 85)) - 1)) (fun v1 =>
    zck ((v1 : Int) = 0 ∨ (v1 : Int) = 1) (some v1)))
theorem wX8_isLantern (cx : zCx Y p s m args meth c RX8 cX8_isLantern 2 (some .boolean)) (g : zSt) (a1 : Int)  : zWo Y p l e (zrm 1) s m args below meth c 2 0 0 (fun v : Int => MQ below (zQi Y v g) args s 0 0 (zA Y)) g [(0, .ref (zad Y 400)), (1, .int (i32 a1))] ([]) 0 (fX8_isLantern g a1) := by
  unfold fX8_isLantern
  refine zr_iload_n (pc' := 1) cx rfl 1 dX8_isLantern_0 rfl rfl ?_
  refine zr_iconst (pc' := 2) cx rfl dX8_isLantern_1 ?_
  refine zr_aload_n (pc' := 3) cx rfl 0 dX8_isLantern_2 rfl rfl ?_
  refine zg_X8_7 (pc' := 6) cx rfl zkc_400 dX8_isLantern_3 ?_
  refine zr_bipush (pc' := 8) cx rfl dX8_isLantern_6 (by decide +kernel) ?_
  refine zr_iald (pc' := 9) cx rfl 16 zkc_401 (by decide) (L := 168) rfl dX8_isLantern_8 ?_
  refine zr_iconst (pc' := 10) cx rfl dX8_isLantern_9 ?_
  refine zr_isub (pc' := 11) cx rfl dX8_isLantern_10 ?_
  refine zc_X8_29 (pc' := 14) cx rfl  ⟨Nat.le_of_ble_eq_true rfl, Nat.le_of_ble_eq_true rfl⟩ ⟨Nat.zero_le _, Nat.zero_le _⟩ (Nat.le_of_ble_eq_true rfl) dX8_isLantern_11 (fun v1 => ?_)
  exact zr_zretP cx dX8_isLantern_14
theorem mX8_isLantern (l : Launch) (Y : zLy) (g : zSt) (a1 : Int)  : ∀ v, fX8_isLantern g a1 = some v → zMt l yX8_isLantern cX8_isLantern 2 (some .boolean) 1 [.ref (zad Y 400), .int (i32 a1)] Y g (zQi Y v g) := by
  intro v hv
  refine zmet_of RX8 rfl (by decide +kernel) (Nat.le_of_ble_eq_true rfl) ?_
  intro p e s m below meth c cx H locs ls hH hS hl
  exact wX8_isLantern cx g a1  v hv H locs ls hH hS hl
theorem zc_X8_145 (cx : zCx Y p s m args meth c RX8 cc nl ret) (hpc : pc + 3 = pc') {g : zSt} {a1 : Int}  {fk : Int → Option ρ} (hR : 1 + 1 ≤ R.frames ∧ 8 + (2 + 11) + 40 * 1 ≤ R.locals) (hkn : k ≤ R.cells ∧ n ≤ R.slots) (hrest : (rest.map fun v => v.category).sum ≤ 8) (hdg : decode cc pc = .ok (.invokevirtual 145, 3)) (kk : ∀ v : Int, zWo Y p l e R s m args below meth c nl k n kq g lv (.int (i32 v) :: rest) pc' (fk v)) : zWo Y p l e R s m args below meth c nl k n kq g lv (.int (i32 a1) :: .ref (zad Y 400) :: rest) pc (zbd (fX8_isLantern g a1) fk) := zr_callViP cx (an := 1) (As := [.int (i32 a1)]) 9 zkc_400 (by decide) rfl (mX8_isLantern l Y g a1) (zG_V zw_1173 zw_1175 zw_67 zw_109 zw_1176) (by decide +kernel) hR hkn rfl rfl hrest hdg hpc kk
def fX8_takeDown_p62  : Nat → zSt → Int → Int → Option (Int × zSt)
  | 0, _, _, _ => none
  | fu + 1, g, a2, a3 =>
    zck ((0 : Int) ≤ 85 ∧ 85 < 168) (
    (if i32 a3 < i32 (86 + (3 * (g.1 401 (Int.toNat 85)))) then
    zck ((0 : Int) ≤ (a3 + 3) ∧ (a3 + 3) < 168) (
    zck ((0 : Int) ≤ a3 ∧ a3 < 168) (zlet (zwr g 401 (Int.toNat a3) (g.1 401 (Int.toNat (a3 + 3)))) (fun g2 =>
    fX8_takeDown_p62 fu g2 a2 (a3 + 1))))
    else
    zbd (fX8_settle g) (fun g1 =>
    some (a2, g1))))
def fX8_takeDown_p43  (g : zSt) (y0 : Int) (a1 : Int) : Option (Int × zSt) :=
    zck ((0 : Int) ≤ 85 ∧ 85 < 168) (
    zck ((0 : Int) ≤ 85 ∧ 85 < 168) (zlet (zwr g 401 (Int.toNat 85) ((g.1 401 (Int.toNat 85)) - 1)) (fun g3 =>
    zlet (86 + (3 * a1)) (fun x4 =>
    fX8_takeDown_p62 zfu g3 y0 x4))))
def fX8_takeDown_p14  (g : zSt) (y1 : Int) (a1 : Int) : Option (Int × zSt) :=
    zlet (zwr g 400 0 y1) (fun g5 =>
    (if i32 0 < i32 (g5.1 400 0) then
    some (0, g5)
    else
    zbd (fX8_save g5) (fun g6 =>
    zbd (fX8_dark g6 a1) (fun v7 =>
    (if i32 v7 = i32 0 then
    fX8_takeDown_p43 g6 1 a1
    else
    fX8_takeDown_p43 g6 0 a1)))))
def fX8_takeDown (g : zSt) (a1 : Int) : Option (Int × zSt) :=
    zbd (fX8_isLantern g a1) (fun v8 =>
    (if i32 v8 = i32 0 then
    fX8_takeDown_p14 g 1 a1
    else
    fX8_takeDown_p14 g 0 a1))
theorem wX8_takeDown_p62 (cx : zCx Y p s m args meth c RX8 cX8_takeDown 4 (some .int))   : ∀ (fu : Nat) (g : zSt) (a2 : Int) (a3 : Int), zWo Y p l e (zrm 11) s m args below meth c 4 0 0 (fun q : Int × zSt => MQ below (zQi Y q.1 q.2) args s 0 0 (zA Y)) g [(0, .ref (zad Y 400)), (2, .int (i32 a2)), (3, .int (i32 a3))] ([]) 62 (fX8_takeDown_p62 fu g a2 a3) := by
  intro fu
  induction fu with
  | zero => intro g a2 a3; exact zr_none
  | succ fu ih =>
    intro g a2 a3
    rw [fX8_takeDown_p62]
    refine zr_iload_n (pc' := 63) cx rfl 2 dX8_takeDown_62 rfl rfl ?_
    refine zr_bipush (pc' := 65) cx rfl dX8_takeDown_63 (by decide +kernel) ?_
    refine zr_iconst (pc' := 66) cx rfl dX8_takeDown_65 ?_
    refine zr_aload_n (pc' := 67) cx rfl 0 dX8_takeDown_66 rfl rfl ?_
    refine zg_X8_7 (pc' := 70) cx rfl zkc_400 dX8_takeDown_67 ?_
    refine zr_bipush (pc' := 72) cx rfl dX8_takeDown_70 (by decide +kernel) ?_
    refine zr_iald (pc' := 73) cx rfl 16 zkc_401 (by decide) (L := 168) rfl dX8_takeDown_72 ?_
    refine zr_imul (pc' := 74) cx rfl dX8_takeDown_73 ?_
    refine zr_iadd (pc' := 75) cx rfl dX8_takeDown_74 ?_
    refine zr_icmp_ge (pc' := 78) cx rfl (tgt := 98) dX8_takeDown_75 rfl ?_ ?_
    · refine zr_aload_n (pc' := 99) cx rfl 0 dX8_takeDown_98 rfl rfl ?_
      refine zc_X8_111 (pc' := 102) cx rfl  ⟨Nat.le_of_ble_eq_true rfl, Nat.le_of_ble_eq_true rfl⟩ ⟨Nat.zero_le _, Nat.zero_le _⟩ (Nat.le_of_ble_eq_true rfl) dX8_takeDown_99 (fun g1 => ?_)
      refine zr_iload_n (pc' := 103) cx rfl 1 dX8_takeDown_102 rfl rfl ?_
      exact zr_iretE cx dX8_takeDown_103
    · refine zr_aload_n (pc' := 79) cx rfl 0 dX8_takeDown_78 rfl rfl ?_
      refine zg_X8_7 (pc' := 82) cx rfl zkc_400 dX8_takeDown_79 ?_
      refine zr_iload_n (pc' := 83) cx rfl 2 dX8_takeDown_82 rfl rfl ?_
      refine zr_aload_n (pc' := 84) cx rfl 0 dX8_takeDown_83 rfl rfl ?_
      refine zg_X8_7 (pc' := 87) cx rfl zkc_400 dX8_takeDown_84 ?_
      refine zr_iload_n (pc' := 88) cx rfl 2 dX8_takeDown_87 rfl rfl ?_
      refine zr_iconst (pc' := 89) cx rfl dX8_takeDown_88 ?_
      refine zr_iadd (pc' := 90) cx rfl dX8_takeDown_89 ?_
      refine zr_iald (pc' := 91) cx rfl 16 zkc_401 (by decide) (L := 168) rfl dX8_takeDown_90 ?_
      refine zr_iast (pc' := 92) cx rfl 16 zkc_401 (by decide) (L := 168) rfl dX8_takeDown_91 ?_
      refine zr_letS (fun g2 => ?_)
      refine zr_iinc (pc' := 95) cx rfl (lv' := [(3, .int (i32 (a3 + 1))), (0, .ref (zad Y 400)), (2, .int (i32 a2))]) 2 dX8_takeDown_92 rfl (by decide) rfl ?_
      refine zr_goto cx (tgt := 62) dX8_takeDown_95 rfl ?_
      refine zr_sub [1, 2, 0] rfl ?_
      exact ih g2 a2 (a3 + 1)
theorem wX8_takeDown_p43 (cx : zCx Y p s m args meth c RX8 cX8_takeDown 4 (some .int))   : ∀ (g : zSt) (y0 : Int) (a1 : Int), zWo Y p l e (zrm 11) s m args below meth c 4 0 0 (fun q : Int × zSt => MQ below (zQi Y q.1 q.2) args s 0 0 (zA Y)) g [(0, .ref (zad Y 400)), (1, .int (i32 a1))] (.int (i32 y0) :: []) 43 (fX8_takeDown_p43 g y0 a1) := by
  intro g y0 a1
  unfold fX8_takeDown_p43
  refine zr_istore_n (pc' := 44) cx rfl (lv' := [(2, .int (i32 y0)), (0, .ref (zad Y 400)), (1, .int (i32 a1))]) dX8_takeDown_43 rfl (by decide) rfl ?_
  refine zr_aload_n (pc' := 45) cx rfl 1 dX8_takeDown_44 rfl rfl ?_
  refine zg_X8_7 (pc' := 48) cx rfl zkc_400 dX8_takeDown_45 ?_
  refine zr_bipush (pc' := 50) cx rfl dX8_takeDown_48 (by decide +kernel) ?_
  refine zr_dup2 (pc' := 51) cx rfl dX8_takeDown_50 rfl rfl ?_
  refine zr_iald (pc' := 52) cx rfl 16 zkc_401 (by decide) (L := 168) rfl dX8_takeDown_51 ?_
  refine zr_iconst (pc' := 53) cx rfl dX8_takeDown_52 ?_
  refine zr_isub (pc' := 54) cx rfl dX8_takeDown_53 ?_
  refine zr_iast (pc' := 55) cx rfl 16 zkc_401 (by decide) (L := 168) rfl dX8_takeDown_54 ?_
  refine zr_letS (fun g3 => ?_)
  refine zr_bipush (pc' := 57) cx rfl dX8_takeDown_55 (by decide +kernel) ?_
  refine zr_iconst (pc' := 58) cx rfl dX8_takeDown_57 ?_
  refine zr_iload_n (pc' := 59) cx rfl 2 dX8_takeDown_58 rfl rfl ?_
  refine zr_imul (pc' := 60) cx rfl dX8_takeDown_59 ?_
  refine zr_iadd (pc' := 61) cx rfl dX8_takeDown_60 ?_
  refine zr_leti (fun x4 => ?_)
  refine zr_istore_n (pc' := 62) cx rfl (lv' := [(3, .int (i32 x4)), (2, .int (i32 y0)), (0, .ref (zad Y 400)), (1, .int (i32 a1))]) dX8_takeDown_61 rfl (by decide) rfl ?_
  refine zr_sub [2, 1, 0] rfl ?_
  exact wX8_takeDown_p62 cx zfu g3 y0 x4
theorem wX8_takeDown_p14 (cx : zCx Y p s m args meth c RX8 cX8_takeDown 4 (some .int))   : ∀ (g : zSt) (y1 : Int) (a1 : Int), zWo Y p l e (zrm 11) s m args below meth c 4 0 0 (fun q : Int × zSt => MQ below (zQi Y q.1 q.2) args s 0 0 (zA Y)) g [(0, .ref (zad Y 400)), (1, .int (i32 a1))] (.int (i32 y1) :: .ref (zad Y 400) :: []) 14 (fX8_takeDown_p14 g y1 a1) := by
  intro g y1 a1
  unfold fX8_takeDown_p14
  refine zp_X8_25 (pc' := 17) cx rfl zkc_400 dX8_takeDown_14 ?_
  refine zr_letS (fun g5 => ?_)
  refine zr_aload_n (pc' := 18) cx rfl 0 dX8_takeDown_17 rfl rfl ?_
  refine zg_X8_25 (pc' := 21) cx rfl zkc_400 dX8_takeDown_18 ?_
  refine zr_if_le (pc' := 24) cx rfl (tgt := 26) dX8_takeDown_21 rfl ?_ ?_
  · refine zr_aload_n (pc' := 27) cx rfl 0 dX8_takeDown_26 rfl rfl ?_
    refine zc_X8_118 (pc' := 30) cx rfl  ⟨Nat.le_of_ble_eq_true rfl, Nat.le_of_ble_eq_true rfl⟩ ⟨Nat.zero_le _, Nat.zero_le _⟩ (Nat.le_of_ble_eq_true rfl) dX8_takeDown_27 (fun g6 => ?_)
    refine zr_aload_n (pc' := 31) cx rfl 0 dX8_takeDown_30 rfl rfl ?_
    refine zr_iload_n (pc' := 32) cx rfl 1 dX8_takeDown_31 rfl rfl ?_
    refine zc_X8_54 (pc' := 35) cx rfl  ⟨Nat.le_of_ble_eq_true rfl, Nat.le_of_ble_eq_true rfl⟩ ⟨Nat.zero_le _, Nat.zero_le _⟩ (Nat.le_of_ble_eq_true rfl) dX8_takeDown_32 (fun v7 => ?_)
    refine zr_if_ne (pc' := 38) cx rfl (tgt := 42) dX8_takeDown_35 rfl ?_ ?_
    · refine zr_iconst (pc' := 43) cx rfl dX8_takeDown_42 ?_
      refine zr_sub [0, 1] rfl ?_
      exact wX8_takeDown_p43 cx g6 0 a1
    · refine zr_iconst (pc' := 39) cx rfl dX8_takeDown_38 ?_
      refine zr_gotoS cx (tgt := 43) dX8_takeDown_39 rfl ?_
      refine zr_sub [0, 1] rfl ?_
      exact wX8_takeDown_p43 cx g6 1 a1
  · refine zr_iconst (pc' := 25) cx rfl dX8_takeDown_24 ?_
    exact zr_iretE cx dX8_takeDown_25
theorem wX8_takeDown (cx : zCx Y p s m args meth c RX8 cX8_takeDown 4 (some .int)) (g : zSt) (a1 : Int)  : zWo Y p l e (zrm 11) s m args below meth c 4 0 0 (fun q : Int × zSt => MQ below (zQi Y q.1 q.2) args s 0 0 (zA Y)) g [(0, .ref (zad Y 400)), (1, .int (i32 a1))] ([]) 0 (fX8_takeDown g a1) := by
  unfold fX8_takeDown
  refine zr_aload_n (pc' := 1) cx rfl 0 dX8_takeDown_0 rfl rfl ?_
  refine zr_aload_n (pc' := 2) cx rfl 0 dX8_takeDown_1 rfl rfl ?_
  refine zr_iload_n (pc' := 3) cx rfl 1 dX8_takeDown_2 rfl rfl ?_
  refine zc_X8_145 (pc' := 6) cx rfl  ⟨Nat.le_of_ble_eq_true rfl, Nat.le_of_ble_eq_true rfl⟩ ⟨Nat.zero_le _, Nat.zero_le _⟩ (Nat.le_of_ble_eq_true rfl) dX8_takeDown_3 (fun v8 => ?_)
  refine zr_if_eq (pc' := 9) cx rfl (tgt := 13) dX8_takeDown_6 rfl ?_ ?_
  · refine zr_iconst (pc' := 14) cx rfl dX8_takeDown_13 ?_
    refine zr_sub [0, 1] rfl ?_
    exact wX8_takeDown_p14 cx g 1 a1
  · refine zr_iconst (pc' := 10) cx rfl dX8_takeDown_9 ?_
    refine zr_gotoS cx (tgt := 14) dX8_takeDown_10 rfl ?_
    refine zr_sub [0, 1] rfl ?_
    exact wX8_takeDown_p14 cx g 0 a1
theorem mX8_takeDown (l : Launch) (Y : zLy) (g : zSt) (a1 : Int)  : ∀ v g2, fX8_takeDown g a1 = some (v, g2) → zMt l yX8_takeDown cX8_takeDown 4 (some .int) 11 [.ref (zad Y 400), .int (i32 a1)] Y g (zQi Y v g2) := by
  intro v g2 hv
  refine zmet_of RX8 rfl (by decide +kernel) (Nat.le_of_ble_eq_true rfl) ?_
  intro p e s m below meth c cx H locs ls hH hS hl
  exact wX8_takeDown cx g a1  (v, g2) hv H locs ls hH hS hl
def fX8_whyNoFault (g : zSt) (a1 : Int) (a2 : Int) (a3 : Int) : Option Int :=
    zbd (fX8_isBox g a1) (fun v1 =>
    (if i32 v1 = i32 0 then
    some 1
    else
    zbd (fX8_isTerminal g a2) (fun v2 =>
    (if i32 v2 = i32 0 then
    some 1
    else
    zbd (fX8_within g a3 1 30) (fun v3 =>
    (if i32 v3 = i32 0 then
    some 2
    else
    zck ((0 : Int) ≤ 134 ∧ 134 < 168) (
    (if i32 (g.1 401 (Int.toNat 134)) = i32 8 then
    some 3
    else
    some 0))))))))
theorem wX8_whyNoFault (cx : zCx Y p s m args meth c RX8 cX8_whyNoFault 4 (some .int)) (g : zSt) (a1 : Int) (a2 : Int) (a3 : Int)  : zWo Y p l e (zrm 2) s m args below meth c 4 0 0 (fun v : Int => MQ below (zQi Y v g) args s 0 0 (zA Y)) g [(0, .ref (zad Y 400)), (1, .int (i32 a1)), (2, .int (i32 a2)), (3, .int (i32 a3))] ([]) 0 (fX8_whyNoFault g a1 a2 a3) := by
  unfold fX8_whyNoFault
  refine zr_aload_n (pc' := 1) cx rfl 0 dX8_whyNoFault_0 rfl rfl ?_
  refine zr_iload_n (pc' := 2) cx rfl 1 dX8_whyNoFault_1 rfl rfl ?_
  refine zc_X8_105 (pc' := 5) cx rfl  ⟨Nat.le_of_ble_eq_true rfl, Nat.le_of_ble_eq_true rfl⟩ ⟨Nat.zero_le _, Nat.zero_le _⟩ (Nat.le_of_ble_eq_true rfl) dX8_whyNoFault_2 (fun v1 => ?_)
  refine zr_if_eq (pc' := 8) cx rfl (tgt := 15) dX8_whyNoFault_5 rfl ?_ ?_
  · refine zr_iconst (pc' := 16) cx rfl dX8_whyNoFault_15 ?_
    refine zr_gotoS cx (tgt := 51) dX8_whyNoFault_16 rfl ?_
    exact zr_iretP cx dX8_whyNoFault_51
  · refine zr_iload_n (pc' := 9) cx rfl 2 dX8_whyNoFault_8 rfl rfl ?_
    refine zc_X8_135 (pc' := 12) cx rfl  ⟨Nat.le_of_ble_eq_true rfl, Nat.le_of_ble_eq_true rfl⟩ ⟨Nat.zero_le _, Nat.zero_le _⟩ (Nat.le_of_ble_eq_true rfl) dX8_whyNoFault_9 (fun v2 => ?_)
    refine zr_if_ne (pc' := 15) cx rfl (tgt := 19) dX8_whyNoFault_12 rfl ?_ ?_
    · refine zr_iload_n (pc' := 20) cx rfl 3 dX8_whyNoFault_19 rfl rfl ?_
      refine zr_iconst (pc' := 21) cx rfl dX8_whyNoFault_20 ?_
      refine zr_bipush (pc' := 23) cx rfl dX8_whyNoFault_21 (by decide +kernel) ?_
      refine zc_X8_29 (pc' := 26) cx rfl  ⟨Nat.le_of_ble_eq_true rfl, Nat.le_of_ble_eq_true rfl⟩ ⟨Nat.zero_le _, Nat.zero_le _⟩ (Nat.le_of_ble_eq_true rfl) dX8_whyNoFault_23 (fun v3 => ?_)
      refine zr_if_ne (pc' := 29) cx rfl (tgt := 33) dX8_whyNoFault_26 rfl ?_ ?_
      · refine zr_aload_n (pc' := 34) cx rfl 0 dX8_whyNoFault_33 rfl rfl ?_
        refine zg_X8_7 (pc' := 37) cx rfl zkc_400 dX8_whyNoFault_34 ?_
        refine zr_sipush (pc' := 40) cx rfl dX8_whyNoFault_37 (by decide +kernel) ?_
        refine zr_iald (pc' := 41) cx rfl 16 zkc_401 (by decide) (L := 168) rfl dX8_whyNoFault_40 ?_
        refine zr_bipush (pc' := 43) cx rfl dX8_whyNoFault_41 (by decide +kernel) ?_
        refine zr_icmp_ne (pc' := 46) cx rfl (tgt := 50) dX8_whyNoFault_43 rfl ?_ ?_
        · refine zr_iconst (pc' := 51) cx rfl dX8_whyNoFault_50 ?_
          exact zr_iretP cx dX8_whyNoFault_51
        · refine zr_iconst (pc' := 47) cx rfl dX8_whyNoFault_46 ?_
          refine zr_gotoS cx (tgt := 51) dX8_whyNoFault_47 rfl ?_
          exact zr_iretP cx dX8_whyNoFault_51
      · refine zr_iconst (pc' := 30) cx rfl dX8_whyNoFault_29 ?_
        refine zr_gotoS cx (tgt := 51) dX8_whyNoFault_30 rfl ?_
        exact zr_iretP cx dX8_whyNoFault_51
    · refine zr_iconst (pc' := 16) cx rfl dX8_whyNoFault_15 ?_
      refine zr_gotoS cx (tgt := 51) dX8_whyNoFault_16 rfl ?_
      exact zr_iretP cx dX8_whyNoFault_51
theorem mX8_whyNoFault (l : Launch) (Y : zLy) (g : zSt) (a1 : Int) (a2 : Int) (a3 : Int)  : ∀ v, fX8_whyNoFault g a1 a2 a3 = some v → zMt l yX8_whyNoFault cX8_whyNoFault 4 (some .int) 2 [.ref (zad Y 400), .int (i32 a1), .int (i32 a2), .int (i32 a3)] Y g (zQi Y v g) := by
  intro v hv
  refine zmet_of RX8 rfl (by decide +kernel) (Nat.le_of_ble_eq_true rfl) ?_
  intro p e s m below meth c cx H locs ls hH hS hl
  exact wX8_whyNoFault cx g a1 a2 a3  v hv H locs ls hH hS hl
theorem zc_X8_148 (cx : zCx Y p s m args meth c RX8 cc nl ret) (hpc : pc + 3 = pc') {g : zSt} {a1 : Int} {a2 : Int} {a3 : Int}  {fk : Int → Option ρ} (hR : 2 + 1 ≤ R.frames ∧ 8 + (4 + 11) + 40 * 2 ≤ R.locals) (hkn : k ≤ R.cells ∧ n ≤ R.slots) (hrest : (rest.map fun v => v.category).sum ≤ 8) (hdg : decode cc pc = .ok (.invokevirtual 148, 3)) (kk : ∀ v : Int, zWo Y p l e R s m args below meth c nl k n kq g lv (.int (i32 v) :: rest) pc' (fk v)) : zWo Y p l e R s m args below meth c nl k n kq g lv (.int (i32 a3) :: .int (i32 a2) :: .int (i32 a1) :: .ref (zad Y 400) :: rest) pc (zbd (fX8_whyNoFault g a1 a2 a3) fk) := zr_callViP cx (an := 3) (As := [.int (i32 a1), .int (i32 a2), .int (i32 a3)]) 9 zkc_400 (by decide) rfl (mX8_whyNoFault l Y g a1 a2 a3) (zG_V zw_1181 zw_1183 zw_68 zw_109 zw_1184) (by decide +kernel) hR hkn rfl rfl hrest hdg hpc kk
def fX8_bringFault (g : zSt) (a1 : Int) (a2 : Int) (a3 : Int) : Option zSt :=
    zck ((0 : Int) ≤ 134 ∧ 134 < 168) (
    zlet (135 + (3 * (g.1 401 (Int.toNat 134)))) (fun x1 =>
    zck ((0 : Int) ≤ x1 ∧ x1 < 168) (zlet (zwr g 401 (Int.toNat x1) a1) (fun g2 =>
    zck ((0 : Int) ≤ (x1 + 1) ∧ (x1 + 1) < 168) (zlet (zwr g2 401 (Int.toNat (x1 + 1)) a2) (fun g3 =>
    zck ((0 : Int) ≤ (x1 + 2) ∧ (x1 + 2) < 168) (zlet (zwr g3 401 (Int.toNat (x1 + 2)) a3) (fun g4 =>
    zck ((0 : Int) ≤ 134 ∧ 134 < 168) (
    zck ((0 : Int) ≤ 134 ∧ 134 < 168) (zlet (zwr g4 401 (Int.toNat 134) ((g4.1 401 (Int.toNat 134)) + 1)) (fun g5 =>
    zbd (fX8_settle g5) (fun g6 =>
    some g6))))))))))))
theorem wX8_bringFault (cx : zCx Y p s m args meth c RX8 cX8_bringFault 5 none) (g : zSt) (a1 : Int) (a2 : Int) (a3 : Int)  : zWo Y p l e (zrm 11) s m args below meth c 5 0 0 (fun g9 : zSt => MQ below (zQv Y g9) args s 0 0 (zA Y)) g [(0, .ref (zad Y 400)), (1, .int (i32 a1)), (2, .int (i32 a2)), (3, .int (i32 a3))] ([]) 0 (fX8_bringFault g a1 a2 a3) := by
  unfold fX8_bringFault
  refine zr_sipush (pc' := 3) cx rfl dX8_bringFault_0 (by decide +kernel) ?_
  refine zr_iconst (pc' := 4) cx rfl dX8_bringFault_3 ?_
  refine zr_aload_n (pc' := 5) cx rfl 0 dX8_bringFault_4 rfl rfl ?_
  refine zg_X8_7 (pc' := 8) cx rfl zkc_400 dX8_bringFault_5 ?_
  refine zr_sipush (pc' := 11) cx rfl dX8_bringFault_8 (by decide +kernel) ?_
  refine zr_iald (pc' := 12) cx rfl 16 zkc_401 (by decide) (L := 168) rfl dX8_bringFault_11 ?_
  refine zr_imul (pc' := 13) cx rfl dX8_bringFault_12 ?_
  refine zr_iadd (pc' := 14) cx rfl dX8_bringFault_13 ?_
  refine zr_leti (fun x1 => ?_)
  refine zr_istore (pc' := 16) cx rfl (lv' := [(4, .int (i32 x1)), (0, .ref (zad Y 400)), (1, .int (i32 a1)), (2, .int (i32 a2)), (3, .int (i32 a3))]) dX8_bringFault_14 (by decide) rfl ?_
  refine zr_aload_n (pc' := 17) cx rfl 1 dX8_bringFault_16 rfl rfl ?_
  refine zg_X8_7 (pc' := 20) cx rfl zkc_400 dX8_bringFault_17 ?_
  refine zr_iload (pc' := 22) cx rfl 0 dX8_bringFault_20 rfl ?_
  refine zr_iload_n (pc' := 23) cx rfl 2 dX8_bringFault_22 rfl rfl ?_
  refine zr_iast (pc' := 24) cx rfl 16 zkc_401 (by decide) (L := 168) rfl dX8_bringFault_23 ?_
  refine zr_letS (fun g2 => ?_)
  refine zr_aload_n (pc' := 25) cx rfl 1 dX8_bringFault_24 rfl rfl ?_
  refine zg_X8_7 (pc' := 28) cx rfl zkc_400 dX8_bringFault_25 ?_
  refine zr_iload (pc' := 30) cx rfl 0 dX8_bringFault_28 rfl ?_
  refine zr_iconst (pc' := 31) cx rfl dX8_bringFault_30 ?_
  refine zr_iadd (pc' := 32) cx rfl dX8_bringFault_31 ?_
  refine zr_iload_n (pc' := 33) cx rfl 3 dX8_bringFault_32 rfl rfl ?_
  refine zr_iast (pc' := 34) cx rfl 16 zkc_401 (by decide) (L := 168) rfl dX8_bringFault_33 ?_
  refine zr_letS (fun g3 => ?_)
  refine zr_aload_n (pc' := 35) cx rfl 1 dX8_bringFault_34 rfl rfl ?_
  refine zg_X8_7 (pc' := 38) cx rfl zkc_400 dX8_bringFault_35 ?_
  refine zr_iload (pc' := 40) cx rfl 0 dX8_bringFault_38 rfl ?_
  refine zr_iconst (pc' := 41) cx rfl dX8_bringFault_40 ?_
  refine zr_iadd (pc' := 42) cx rfl dX8_bringFault_41 ?_
  refine zr_iload_n (pc' := 43) cx rfl 4 dX8_bringFault_42 rfl rfl ?_
  refine zr_iast (pc' := 44) cx rfl 16 zkc_401 (by decide) (L := 168) rfl dX8_bringFault_43 ?_
  refine zr_letS (fun g4 => ?_)
  refine zr_aload_n (pc' := 45) cx rfl 1 dX8_bringFault_44 rfl rfl ?_
  refine zg_X8_7 (pc' := 48) cx rfl zkc_400 dX8_bringFault_45 ?_
  refine zr_sipush (pc' := 51) cx rfl dX8_bringFault_48 (by decide +kernel) ?_
  refine zr_dup2 (pc' := 52) cx rfl dX8_bringFault_51 rfl rfl ?_
  refine zr_iald (pc' := 53) cx rfl 16 zkc_401 (by decide) (L := 168) rfl dX8_bringFault_52 ?_
  refine zr_iconst (pc' := 54) cx rfl dX8_bringFault_53 ?_
  refine zr_iadd (pc' := 55) cx rfl dX8_bringFault_54 ?_
  refine zr_iast (pc' := 56) cx rfl 16 zkc_401 (by decide) (L := 168) rfl dX8_bringFault_55 ?_
  refine zr_letS (fun g5 => ?_)
  refine zr_aload_n (pc' := 57) cx rfl 1 dX8_bringFault_56 rfl rfl ?_
  refine zc_X8_111 (pc' := 60) cx rfl  ⟨Nat.le_of_ble_eq_true rfl, Nat.le_of_ble_eq_true rfl⟩ ⟨Nat.zero_le _, Nat.zero_le _⟩ (Nat.le_of_ble_eq_true rfl) dX8_bringFault_57 (fun g6 => ?_)
  exact zr_vretE cx dX8_bringFault_60
theorem mX8_bringFault (l : Launch) (Y : zLy) (g : zSt) (a1 : Int) (a2 : Int) (a3 : Int)  : ∀ g2, fX8_bringFault g a1 a2 a3 = some g2 → zMt l yX8_bringFault cX8_bringFault 5 none 11 [.ref (zad Y 400), .int (i32 a1), .int (i32 a2), .int (i32 a3)] Y g (zQv Y g2) := by
  intro g2 hv
  refine zmet_of RX8 rfl (by decide +kernel) (Nat.le_of_ble_eq_true rfl) ?_
  intro p e s m below meth c cx H locs ls hH hS hl
  exact wX8_bringFault cx g a1 a2 a3  g2 hv H locs ls hH hS hl
theorem zc_X8_151 (cx : zCx Y p s m args meth c RX8 cc nl ret) (hpc : pc + 3 = pc') {g : zSt} {a1 : Int} {a2 : Int} {a3 : Int}  {fk : zSt → Option ρ} (hR : 11 + 1 ≤ R.frames ∧ 8 + (5 + 11) + 40 * 11 ≤ R.locals) (hkn : k ≤ R.cells ∧ n ≤ R.slots) (hrest : (rest.map fun v => v.category).sum ≤ 8) (hdg : decode cc pc = .ok (.invokevirtual 151, 3)) (kk : ∀ g2 : zSt, zWo Y p l e R s m args below meth c nl k n kq g2 lv (rest) pc' (fk g2)) : zWo Y p l e R s m args below meth c nl k n kq g lv (.int (i32 a3) :: .int (i32 a2) :: .int (i32 a1) :: .ref (zad Y 400) :: rest) pc (zbd (fX8_bringFault g a1 a2 a3) fk) := zr_callVvE cx (an := 3) (As := [.int (i32 a1), .int (i32 a2), .int (i32 a3)]) 9 zkc_400 (by decide) rfl (mX8_bringFault l Y g a1 a2 a3) (zG_V zw_1185 zw_1187 zw_69 zw_109 zw_1188) (by decide +kernel) hR hkn rfl rfl hrest hdg hpc kk
def fX8_fault (g : zSt) (a1 : Int) (a2 : Int) (a3 : Int) : Option (Int × zSt) :=
    zbd (fX8_whyNoFault g a1 a2 a3) (fun v1 =>
    zlet (zwr g 400 0 v1) (fun g2 =>
    (if i32 0 < i32 (g2.1 400 0) then
    some (0, g2)
    else
    zbd (fX8_save g2) (fun g3 =>
    zbd (fX8_bringFault g3 a1 a2 a3) (fun g4 =>
    some ((g4.1 400 6), g4))))))
theorem wX8_fault (cx : zCx Y p s m args meth c RX8 cX8_fault 4 (some .int)) (g : zSt) (a1 : Int) (a2 : Int) (a3 : Int)  : zWo Y p l e (zrm 12) s m args below meth c 4 0 0 (fun q : Int × zSt => MQ below (zQi Y q.1 q.2) args s 0 0 (zA Y)) g [(0, .ref (zad Y 400)), (1, .int (i32 a1)), (2, .int (i32 a2)), (3, .int (i32 a3))] ([]) 0 (fX8_fault g a1 a2 a3) := by
  unfold fX8_fault
  refine zr_aload_n (pc' := 1) cx rfl 0 dX8_fault_0 rfl rfl ?_
  refine zr_aload_n (pc' := 2) cx rfl 0 dX8_fault_1 rfl rfl ?_
  refine zr_iload_n (pc' := 3) cx rfl 1 dX8_fault_2 rfl rfl ?_
  refine zr_iload_n (pc' := 4) cx rfl 2 dX8_fault_3 rfl rfl ?_
  refine zr_iload_n (pc' := 5) cx rfl 3 dX8_fault_4 rfl rfl ?_
  refine zc_X8_148 (pc' := 8) cx rfl  ⟨Nat.le_of_ble_eq_true rfl, Nat.le_of_ble_eq_true rfl⟩ ⟨Nat.zero_le _, Nat.zero_le _⟩ (Nat.le_of_ble_eq_true rfl) dX8_fault_5 (fun v1 => ?_)
  refine zp_X8_25 (pc' := 11) cx rfl zkc_400 dX8_fault_8 ?_
  refine zr_letS (fun g2 => ?_)
  refine zr_aload_n (pc' := 12) cx rfl 0 dX8_fault_11 rfl rfl ?_
  refine zg_X8_25 (pc' := 15) cx rfl zkc_400 dX8_fault_12 ?_
  refine zr_if_le (pc' := 18) cx rfl (tgt := 20) dX8_fault_15 rfl ?_ ?_
  · refine zr_aload_n (pc' := 21) cx rfl 0 dX8_fault_20 rfl rfl ?_
    refine zc_X8_118 (pc' := 24) cx rfl  ⟨Nat.le_of_ble_eq_true rfl, Nat.le_of_ble_eq_true rfl⟩ ⟨Nat.zero_le _, Nat.zero_le _⟩ (Nat.le_of_ble_eq_true rfl) dX8_fault_21 (fun g3 => ?_)
    refine zr_aload_n (pc' := 25) cx rfl 0 dX8_fault_24 rfl rfl ?_
    refine zr_iload_n (pc' := 26) cx rfl 1 dX8_fault_25 rfl rfl ?_
    refine zr_iload_n (pc' := 27) cx rfl 2 dX8_fault_26 rfl rfl ?_
    refine zr_iload_n (pc' := 28) cx rfl 3 dX8_fault_27 rfl rfl ?_
    refine zc_X8_151 (pc' := 31) cx rfl  ⟨Nat.le_of_ble_eq_true rfl, Nat.le_of_ble_eq_true rfl⟩ ⟨Nat.zero_le _, Nat.zero_le _⟩ (Nat.le_of_ble_eq_true rfl) dX8_fault_28 (fun g4 => ?_)
    refine zr_aload_n (pc' := 32) cx rfl 0 dX8_fault_31 rfl rfl ?_
    refine zg_X8_93 (pc' := 35) cx rfl zkc_400 dX8_fault_32 ?_
    exact zr_iretE cx dX8_fault_35
  · refine zr_iconst (pc' := 19) cx rfl dX8_fault_18 ?_
    exact zr_iretE cx dX8_fault_19
theorem mX8_fault (l : Launch) (Y : zLy) (g : zSt) (a1 : Int) (a2 : Int) (a3 : Int)  : ∀ v g2, fX8_fault g a1 a2 a3 = some (v, g2) → zMt l yX8_fault cX8_fault 4 (some .int) 12 [.ref (zad Y 400), .int (i32 a1), .int (i32 a2), .int (i32 a3)] Y g (zQi Y v g2) := by
  intro v g2 hv
  refine zmet_of RX8 rfl (by decide +kernel) (Nat.le_of_ble_eq_true rfl) ?_
  intro p e s m below meth c cx H locs ls hH hS hl
  exact wX8_fault cx g a1 a2 a3  (v, g2) hv H locs ls hH hS hl
def fX8_isFault (g : zSt) (a1 : Int) : Option Int :=
    zck ((0 : Int) ≤ 134 ∧ 134 < 168) (
    zbd (fX8_within g a1 0 ((g.1 401 (Int.toNat 134)) - 1)) (fun v1 =>
    zck ((v1 : Int) = 0 ∨ (v1 : Int) = 1) (some v1)))
theorem wX8_isFault (cx : zCx Y p s m args meth c RX8 cX8_isFault 2 (some .boolean)) (g : zSt) (a1 : Int)  : zWo Y p l e (zrm 1) s m args below meth c 2 0 0 (fun v : Int => MQ below (zQi Y v g) args s 0 0 (zA Y)) g [(0, .ref (zad Y 400)), (1, .int (i32 a1))] ([]) 0 (fX8_isFault g a1) := by
  unfold fX8_isFault
  refine zr_iload_n (pc' := 1) cx rfl 1 dX8_isFault_0 rfl rfl ?_
  refine zr_iconst (pc' := 2) cx rfl dX8_isFault_1 ?_
  refine zr_aload_n (pc' := 3) cx rfl 0 dX8_isFault_2 rfl rfl ?_
  refine zg_X8_7 (pc' := 6) cx rfl zkc_400 dX8_isFault_3 ?_
  refine zr_sipush (pc' := 9) cx rfl dX8_isFault_6 (by decide +kernel) ?_
  refine zr_iald (pc' := 10) cx rfl 16 zkc_401 (by decide) (L := 168) rfl dX8_isFault_9 ?_
  refine zr_iconst (pc' := 11) cx rfl dX8_isFault_10 ?_
  refine zr_isub (pc' := 12) cx rfl dX8_isFault_11 ?_
  refine zc_X8_29 (pc' := 15) cx rfl  ⟨Nat.le_of_ble_eq_true rfl, Nat.le_of_ble_eq_true rfl⟩ ⟨Nat.zero_le _, Nat.zero_le _⟩ (Nat.le_of_ble_eq_true rfl) dX8_isFault_12 (fun v1 => ?_)
  exact zr_zretP cx dX8_isFault_15
theorem mX8_isFault (l : Launch) (Y : zLy) (g : zSt) (a1 : Int)  : ∀ v, fX8_isFault g a1 = some v → zMt l yX8_isFault cX8_isFault 2 (some .boolean) 1 [.ref (zad Y 400), .int (i32 a1)] Y g (zQi Y v g) := by
  intro v hv
  refine zmet_of RX8 rfl (by decide +kernel) (Nat.le_of_ble_eq_true rfl) ?_
  intro p e s m below meth c cx H locs ls hH hS hl
  exact wX8_isFault cx g a1  v hv H locs ls hH hS hl
theorem zc_X8_155 (cx : zCx Y p s m args meth c RX8 cc nl ret) (hpc : pc + 3 = pc') {g : zSt} {a1 : Int}  {fk : Int → Option ρ} (hR : 1 + 1 ≤ R.frames ∧ 8 + (2 + 11) + 40 * 1 ≤ R.locals) (hkn : k ≤ R.cells ∧ n ≤ R.slots) (hrest : (rest.map fun v => v.category).sum ≤ 8) (hdg : decode cc pc = .ok (.invokevirtual 155, 3)) (kk : ∀ v : Int, zWo Y p l e R s m args below meth c nl k n kq g lv (.int (i32 v) :: rest) pc' (fk v)) : zWo Y p l e R s m args below meth c nl k n kq g lv (.int (i32 a1) :: .ref (zad Y 400) :: rest) pc (zbd (fX8_isFault g a1) fk) := zr_callViP cx (an := 1) (As := [.int (i32 a1)]) 9 zkc_400 (by decide) rfl (mX8_isFault l Y g a1) (zG_V zw_1193 zw_1195 zw_70 zw_109 zw_1196) (by decide +kernel) hR hkn rfl rfl hrest hdg hpc kk
def fX8_mend_p57  : Nat → zSt → Int → Int → Option (Int × zSt)
  | 0, _, _, _ => none
  | fu + 1, g, a2, a3 =>
    zck ((0 : Int) ≤ 134 ∧ 134 < 168) (
    (if i32 a3 < i32 (135 + (3 * (g.1 401 (Int.toNat 134)))) then
    zck ((0 : Int) ≤ (a3 + 3) ∧ (a3 + 3) < 168) (
    zck ((0 : Int) ≤ a3 ∧ a3 < 168) (zlet (zwr g 401 (Int.toNat a3) (g.1 401 (Int.toNat (a3 + 3)))) (fun g2 =>
    fX8_mend_p57 fu g2 a2 (a3 + 1))))
    else
    zbd (fX8_settle g) (fun g1 =>
    some (a2, g1))))
def fX8_mend_p14  (g : zSt) (y1 : Int) (a1 : Int) : Option (Int × zSt) :=
    zlet (zwr g 400 0 y1) (fun g3 =>
    (if i32 0 < i32 (g3.1 400 0) then
    some (0, g3)
    else
    zbd (fX8_save g3) (fun g4 =>
    zbd (fX8_ofFault g4 a1 2) (fun v5 =>
    zck ((0 : Int) ≤ 134 ∧ 134 < 168) (
    zck ((0 : Int) ≤ 134 ∧ 134 < 168) (zlet (zwr g4 401 (Int.toNat 134) ((g4.1 401 (Int.toNat 134)) - 1)) (fun g6 =>
    zlet (135 + (3 * a1)) (fun x7 =>
    fX8_mend_p57 zfu g6 v5 x7))))))))
def fX8_mend (g : zSt) (a1 : Int) : Option (Int × zSt) :=
    zbd (fX8_isFault g a1) (fun v8 =>
    (if i32 v8 = i32 0 then
    fX8_mend_p14 g 1 a1
    else
    fX8_mend_p14 g 0 a1))
theorem wX8_mend_p57 (cx : zCx Y p s m args meth c RX8 cX8_mend 4 (some .int))   : ∀ (fu : Nat) (g : zSt) (a2 : Int) (a3 : Int), zWo Y p l e (zrm 11) s m args below meth c 4 0 0 (fun q : Int × zSt => MQ below (zQi Y q.1 q.2) args s 0 0 (zA Y)) g [(0, .ref (zad Y 400)), (2, .int (i32 a2)), (3, .int (i32 a3))] ([]) 57 (fX8_mend_p57 fu g a2 a3) := by
  intro fu
  induction fu with
  | zero => intro g a2 a3; exact zr_none
  | succ fu ih =>
    intro g a2 a3
    rw [fX8_mend_p57]
    refine zr_iload_n (pc' := 58) cx rfl 2 dX8_mend_57 rfl rfl ?_
    refine zr_sipush (pc' := 61) cx rfl dX8_mend_58 (by decide +kernel) ?_
    refine zr_iconst (pc' := 62) cx rfl dX8_mend_61 ?_
    refine zr_aload_n (pc' := 63) cx rfl 0 dX8_mend_62 rfl rfl ?_
    refine zg_X8_7 (pc' := 66) cx rfl zkc_400 dX8_mend_63 ?_
    refine zr_sipush (pc' := 69) cx rfl dX8_mend_66 (by decide +kernel) ?_
    refine zr_iald (pc' := 70) cx rfl 16 zkc_401 (by decide) (L := 168) rfl dX8_mend_69 ?_
    refine zr_imul (pc' := 71) cx rfl dX8_mend_70 ?_
    refine zr_iadd (pc' := 72) cx rfl dX8_mend_71 ?_
    refine zr_icmp_ge (pc' := 75) cx rfl (tgt := 95) dX8_mend_72 rfl ?_ ?_
    · refine zr_aload_n (pc' := 96) cx rfl 0 dX8_mend_95 rfl rfl ?_
      refine zc_X8_111 (pc' := 99) cx rfl  ⟨Nat.le_of_ble_eq_true rfl, Nat.le_of_ble_eq_true rfl⟩ ⟨Nat.zero_le _, Nat.zero_le _⟩ (Nat.le_of_ble_eq_true rfl) dX8_mend_96 (fun g1 => ?_)
      refine zr_iload_n (pc' := 100) cx rfl 1 dX8_mend_99 rfl rfl ?_
      exact zr_iretE cx dX8_mend_100
    · refine zr_aload_n (pc' := 76) cx rfl 0 dX8_mend_75 rfl rfl ?_
      refine zg_X8_7 (pc' := 79) cx rfl zkc_400 dX8_mend_76 ?_
      refine zr_iload_n (pc' := 80) cx rfl 2 dX8_mend_79 rfl rfl ?_
      refine zr_aload_n (pc' := 81) cx rfl 0 dX8_mend_80 rfl rfl ?_
      refine zg_X8_7 (pc' := 84) cx rfl zkc_400 dX8_mend_81 ?_
      refine zr_iload_n (pc' := 85) cx rfl 2 dX8_mend_84 rfl rfl ?_
      refine zr_iconst (pc' := 86) cx rfl dX8_mend_85 ?_
      refine zr_iadd (pc' := 87) cx rfl dX8_mend_86 ?_
      refine zr_iald (pc' := 88) cx rfl 16 zkc_401 (by decide) (L := 168) rfl dX8_mend_87 ?_
      refine zr_iast (pc' := 89) cx rfl 16 zkc_401 (by decide) (L := 168) rfl dX8_mend_88 ?_
      refine zr_letS (fun g2 => ?_)
      refine zr_iinc (pc' := 92) cx rfl (lv' := [(3, .int (i32 (a3 + 1))), (0, .ref (zad Y 400)), (2, .int (i32 a2))]) 2 dX8_mend_89 rfl (by decide) rfl ?_
      refine zr_goto cx (tgt := 57) dX8_mend_92 rfl ?_
      refine zr_sub [1, 2, 0] rfl ?_
      exact ih g2 a2 (a3 + 1)
theorem wX8_mend_p14 (cx : zCx Y p s m args meth c RX8 cX8_mend 4 (some .int))   : ∀ (g : zSt) (y1 : Int) (a1 : Int), zWo Y p l e (zrm 11) s m args below meth c 4 0 0 (fun q : Int × zSt => MQ below (zQi Y q.1 q.2) args s 0 0 (zA Y)) g [(0, .ref (zad Y 400)), (1, .int (i32 a1))] (.int (i32 y1) :: .ref (zad Y 400) :: []) 14 (fX8_mend_p14 g y1 a1) := by
  intro g y1 a1
  unfold fX8_mend_p14
  refine zp_X8_25 (pc' := 17) cx rfl zkc_400 dX8_mend_14 ?_
  refine zr_letS (fun g3 => ?_)
  refine zr_aload_n (pc' := 18) cx rfl 0 dX8_mend_17 rfl rfl ?_
  refine zg_X8_25 (pc' := 21) cx rfl zkc_400 dX8_mend_18 ?_
  refine zr_if_le (pc' := 24) cx rfl (tgt := 26) dX8_mend_21 rfl ?_ ?_
  · refine zr_aload_n (pc' := 27) cx rfl 0 dX8_mend_26 rfl rfl ?_
    refine zc_X8_118 (pc' := 30) cx rfl  ⟨Nat.le_of_ble_eq_true rfl, Nat.le_of_ble_eq_true rfl⟩ ⟨Nat.zero_le _, Nat.zero_le _⟩ (Nat.le_of_ble_eq_true rfl) dX8_mend_27 (fun g4 => ?_)
    refine zr_aload_n (pc' := 31) cx rfl 0 dX8_mend_30 rfl rfl ?_
    refine zr_iload_n (pc' := 32) cx rfl 1 dX8_mend_31 rfl rfl ?_
    refine zr_iconst (pc' := 33) cx rfl dX8_mend_32 ?_
    refine zc_X8_58 (pc' := 36) cx rfl  ⟨Nat.le_of_ble_eq_true rfl, Nat.le_of_ble_eq_true rfl⟩ ⟨Nat.zero_le _, Nat.zero_le _⟩ (Nat.le_of_ble_eq_true rfl) dX8_mend_33 (fun v5 => ?_)
    refine zr_istore_n (pc' := 37) cx rfl (lv' := [(2, .int (i32 v5)), (0, .ref (zad Y 400)), (1, .int (i32 a1))]) dX8_mend_36 rfl (by decide) rfl ?_
    refine zr_aload_n (pc' := 38) cx rfl 1 dX8_mend_37 rfl rfl ?_
    refine zg_X8_7 (pc' := 41) cx rfl zkc_400 dX8_mend_38 ?_
    refine zr_sipush (pc' := 44) cx rfl dX8_mend_41 (by decide +kernel) ?_
    refine zr_dup2 (pc' := 45) cx rfl dX8_mend_44 rfl rfl ?_
    refine zr_iald (pc' := 46) cx rfl 16 zkc_401 (by decide) (L := 168) rfl dX8_mend_45 ?_
    refine zr_iconst (pc' := 47) cx rfl dX8_mend_46 ?_
    refine zr_isub (pc' := 48) cx rfl dX8_mend_47 ?_
    refine zr_iast (pc' := 49) cx rfl 16 zkc_401 (by decide) (L := 168) rfl dX8_mend_48 ?_
    refine zr_letS (fun g6 => ?_)
    refine zr_sipush (pc' := 52) cx rfl dX8_mend_49 (by decide +kernel) ?_
    refine zr_iconst (pc' := 53) cx rfl dX8_mend_52 ?_
    refine zr_iload_n (pc' := 54) cx rfl 2 dX8_mend_53 rfl rfl ?_
    refine zr_imul (pc' := 55) cx rfl dX8_mend_54 ?_
    refine zr_iadd (pc' := 56) cx rfl dX8_mend_55 ?_
    refine zr_leti (fun x7 => ?_)
    refine zr_istore_n (pc' := 57) cx rfl (lv' := [(3, .int (i32 x7)), (2, .int (i32 v5)), (0, .ref (zad Y 400)), (1, .int (i32 a1))]) dX8_mend_56 rfl (by decide) rfl ?_
    refine zr_sub [2, 1, 0] rfl ?_
    exact wX8_mend_p57 cx zfu g6 v5 x7
  · refine zr_iconst (pc' := 25) cx rfl dX8_mend_24 ?_
    exact zr_iretE cx dX8_mend_25
theorem wX8_mend (cx : zCx Y p s m args meth c RX8 cX8_mend 4 (some .int)) (g : zSt) (a1 : Int)  : zWo Y p l e (zrm 11) s m args below meth c 4 0 0 (fun q : Int × zSt => MQ below (zQi Y q.1 q.2) args s 0 0 (zA Y)) g [(0, .ref (zad Y 400)), (1, .int (i32 a1))] ([]) 0 (fX8_mend g a1) := by
  unfold fX8_mend
  refine zr_aload_n (pc' := 1) cx rfl 0 dX8_mend_0 rfl rfl ?_
  refine zr_aload_n (pc' := 2) cx rfl 0 dX8_mend_1 rfl rfl ?_
  refine zr_iload_n (pc' := 3) cx rfl 1 dX8_mend_2 rfl rfl ?_
  refine zc_X8_155 (pc' := 6) cx rfl  ⟨Nat.le_of_ble_eq_true rfl, Nat.le_of_ble_eq_true rfl⟩ ⟨Nat.zero_le _, Nat.zero_le _⟩ (Nat.le_of_ble_eq_true rfl) dX8_mend_3 (fun v8 => ?_)
  refine zr_if_eq (pc' := 9) cx rfl (tgt := 13) dX8_mend_6 rfl ?_ ?_
  · refine zr_iconst (pc' := 14) cx rfl dX8_mend_13 ?_
    refine zr_sub [0, 1] rfl ?_
    exact wX8_mend_p14 cx g 1 a1
  · refine zr_iconst (pc' := 10) cx rfl dX8_mend_9 ?_
    refine zr_gotoS cx (tgt := 14) dX8_mend_10 rfl ?_
    refine zr_sub [0, 1] rfl ?_
    exact wX8_mend_p14 cx g 0 a1
theorem mX8_mend (l : Launch) (Y : zLy) (g : zSt) (a1 : Int)  : ∀ v g2, fX8_mend g a1 = some (v, g2) → zMt l yX8_mend cX8_mend 4 (some .int) 11 [.ref (zad Y 400), .int (i32 a1)] Y g (zQi Y v g2) := by
  intro v g2 hv
  refine zmet_of RX8 rfl (by decide +kernel) (Nat.le_of_ble_eq_true rfl) ?_
  intro p e s m below meth c cx H locs ls hH hS hl
  exact wX8_mend cx g a1  (v, g2) hv H locs ls hH hS hl
def fX8_burn_p36  (g : zSt) (y1 : Int) (a1 : Int) : Option (Int × zSt) :=
    zlet (zwr g 400 0 y1) (fun g1 =>
    (if i32 0 < i32 (g1.1 400 0) then
    some (0, g1)
    else
    zbd (fX8_save g1) (fun g2 =>
    zbd (fX8_drawn g2) (fun v3 =>
    zlet (a1 * v3) (fun x4 =>
    zck ((0 : Int) ≤ 164 ∧ 164 < 168) (
    zck ((0 : Int) ≤ 164 ∧ 164 < 168) (zlet (zwr g2 401 (Int.toNat 164) ((g2.1 401 (Int.toNat 164)) + a1)) (fun g5 =>
    zck ((0 : Int) ≤ 165 ∧ 165 < 168) (
    zck ((0 : Int) ≤ 165 ∧ 165 < 168) (zlet (zwr g5 401 (Int.toNat 165) ((g5.1 401 (Int.toNat 165)) + x4)) (fun g6 =>
    zck ((0 : Int) ≤ 166 ∧ 166 < 168) (
    zbd (fX8_leak g6) (fun v7 =>
    zck ((0 : Int) ≤ 166 ∧ 166 < 168) (zlet (zwr g6 401 (Int.toNat 166) ((g6.1 401 (Int.toNat 166)) + (a1 * v7))) (fun g8 =>
    some (x4, g8))))))))))))))))
def fX8_burn (g : zSt) (a1 : Int) : Option (Int × zSt) :=
    zbd (fX8_within g a1 1 1000) (fun v9 =>
    (if i32 v9 = i32 0 then
    fX8_burn_p36 g 1 a1
    else
    zck ((0 : Int) ≤ 164 ∧ 164 < 168) (
    (if i32 100000 < i32 ((g.1 401 (Int.toNat 164)) + a1) then
    fX8_burn_p36 g 2 a1
    else
    fX8_burn_p36 g 0 a1))))
theorem wX8_burn_p36 (cx : zCx Y p s m args meth c RX8 cX8_burn 3 (some .int))   : ∀ (g : zSt) (y1 : Int) (a1 : Int), zWo Y p l e (zrm 7) s m args below meth c 3 0 0 (fun q : Int × zSt => MQ below (zQi Y q.1 q.2) args s 0 0 (zA Y)) g [(0, .ref (zad Y 400)), (1, .int (i32 a1))] (.int (i32 y1) :: .ref (zad Y 400) :: []) 36 (fX8_burn_p36 g y1 a1) := by
  intro g y1 a1
  unfold fX8_burn_p36
  refine zp_X8_25 (pc' := 39) cx rfl zkc_400 dX8_burn_36 ?_
  refine zr_letS (fun g1 => ?_)
  refine zr_aload_n (pc' := 40) cx rfl 0 dX8_burn_39 rfl rfl ?_
  refine zg_X8_25 (pc' := 43) cx rfl zkc_400 dX8_burn_40 ?_
  refine zr_if_le (pc' := 46) cx rfl (tgt := 48) dX8_burn_43 rfl ?_ ?_
  · refine zr_aload_n (pc' := 49) cx rfl 0 dX8_burn_48 rfl rfl ?_
    refine zc_X8_118 (pc' := 52) cx rfl  ⟨Nat.le_of_ble_eq_true rfl, Nat.le_of_ble_eq_true rfl⟩ ⟨Nat.zero_le _, Nat.zero_le _⟩ (Nat.le_of_ble_eq_true rfl) dX8_burn_49 (fun g2 => ?_)
    refine zr_iload_n (pc' := 53) cx rfl 1 dX8_burn_52 rfl rfl ?_
    refine zr_aload_n (pc' := 54) cx rfl 0 dX8_burn_53 rfl rfl ?_
    refine zc_X8_159 (pc' := 57) cx rfl  ⟨Nat.le_of_ble_eq_true rfl, Nat.le_of_ble_eq_true rfl⟩ ⟨Nat.zero_le _, Nat.zero_le _⟩ (Nat.le_of_ble_eq_true rfl) dX8_burn_54 (fun v3 => ?_)
    refine zr_imul (pc' := 58) cx rfl dX8_burn_57 ?_
    refine zr_leti (fun x4 => ?_)
    refine zr_istore_n (pc' := 59) cx rfl (lv' := [(2, .int (i32 x4)), (0, .ref (zad Y 400)), (1, .int (i32 a1))]) dX8_burn_58 rfl (by decide) rfl ?_
    refine zr_aload_n (pc' := 60) cx rfl 1 dX8_burn_59 rfl rfl ?_
    refine zg_X8_7 (pc' := 63) cx rfl zkc_400 dX8_burn_60 ?_
    refine zr_sipush (pc' := 66) cx rfl dX8_burn_63 (by decide +kernel) ?_
    refine zr_dup2 (pc' := 67) cx rfl dX8_burn_66 rfl rfl ?_
    refine zr_iald (pc' := 68) cx rfl 16 zkc_401 (by decide) (L := 168) rfl dX8_burn_67 ?_
    refine zr_iload_n (pc' := 69) cx rfl 2 dX8_burn_68 rfl rfl ?_
    refine zr_iadd (pc' := 70) cx rfl dX8_burn_69 ?_
    refine zr_iast (pc' := 71) cx rfl 16 zkc_401 (by decide) (L := 168) rfl dX8_burn_70 ?_
    refine zr_letS (fun g5 => ?_)
    refine zr_aload_n (pc' := 72) cx rfl 1 dX8_burn_71 rfl rfl ?_
    refine zg_X8_7 (pc' := 75) cx rfl zkc_400 dX8_burn_72 ?_
    refine zr_sipush (pc' := 78) cx rfl dX8_burn_75 (by decide +kernel) ?_
    refine zr_dup2 (pc' := 79) cx rfl dX8_burn_78 rfl rfl ?_
    refine zr_iald (pc' := 80) cx rfl 16 zkc_401 (by decide) (L := 168) rfl dX8_burn_79 ?_
    refine zr_iload_n (pc' := 81) cx rfl 0 dX8_burn_80 rfl rfl ?_
    refine zr_iadd (pc' := 82) cx rfl dX8_burn_81 ?_
    refine zr_iast (pc' := 83) cx rfl 16 zkc_401 (by decide) (L := 168) rfl dX8_burn_82 ?_
    refine zr_letS (fun g6 => ?_)
    refine zr_aload_n (pc' := 84) cx rfl 1 dX8_burn_83 rfl rfl ?_
    refine zg_X8_7 (pc' := 87) cx rfl zkc_400 dX8_burn_84 ?_
    refine zr_sipush (pc' := 90) cx rfl dX8_burn_87 (by decide +kernel) ?_
    refine zr_dup2 (pc' := 91) cx rfl dX8_burn_90 rfl rfl ?_
    refine zr_iald (pc' := 92) cx rfl 16 zkc_401 (by decide) (L := 168) rfl dX8_burn_91 ?_
    refine zr_iload_n (pc' := 93) cx rfl 2 dX8_burn_92 rfl rfl ?_
    refine zr_aload_n (pc' := 94) cx rfl 1 dX8_burn_93 rfl rfl ?_
    refine zc_X8_73 (pc' := 97) cx rfl  ⟨Nat.le_of_ble_eq_true rfl, Nat.le_of_ble_eq_true rfl⟩ ⟨Nat.zero_le _, Nat.zero_le _⟩ (Nat.le_of_ble_eq_true rfl) dX8_burn_94 (fun v7 => ?_)
    refine zr_imul (pc' := 98) cx rfl dX8_burn_97 ?_
    refine zr_iadd (pc' := 99) cx rfl dX8_burn_98 ?_
    refine zr_iast (pc' := 100) cx rfl 16 zkc_401 (by decide) (L := 168) rfl dX8_burn_99 ?_
    refine zr_letS (fun g8 => ?_)
    refine zr_iload_n (pc' := 101) cx rfl 0 dX8_burn_100 rfl rfl ?_
    exact zr_iretE cx dX8_burn_101
  · refine zr_iconst (pc' := 47) cx rfl dX8_burn_46 ?_
    exact zr_iretE cx dX8_burn_47
theorem wX8_burn (cx : zCx Y p s m args meth c RX8 cX8_burn 3 (some .int)) (g : zSt) (a1 : Int)  : zWo Y p l e (zrm 7) s m args below meth c 3 0 0 (fun q : Int × zSt => MQ below (zQi Y q.1 q.2) args s 0 0 (zA Y)) g [(0, .ref (zad Y 400)), (1, .int (i32 a1))] ([]) 0 (fX8_burn g a1) := by
  unfold fX8_burn
  refine zr_aload_n (pc' := 1) cx rfl 0 dX8_burn_0 rfl rfl ?_
  refine zr_iload_n (pc' := 2) cx rfl 1 dX8_burn_1 rfl rfl ?_
  refine zr_iconst (pc' := 3) cx rfl dX8_burn_2 ?_
  refine zr_sipush (pc' := 6) cx rfl dX8_burn_3 (by decide +kernel) ?_
  refine zc_X8_29 (pc' := 9) cx rfl  ⟨Nat.le_of_ble_eq_true rfl, Nat.le_of_ble_eq_true rfl⟩ ⟨Nat.zero_le _, Nat.zero_le _⟩ (Nat.le_of_ble_eq_true rfl) dX8_burn_6 (fun v9 => ?_)
  refine zr_if_ne (pc' := 12) cx rfl (tgt := 16) dX8_burn_9 rfl ?_ ?_
  · refine zr_aload_n (pc' := 17) cx rfl 0 dX8_burn_16 rfl rfl ?_
    refine zg_X8_7 (pc' := 20) cx rfl zkc_400 dX8_burn_17 ?_
    refine zr_sipush (pc' := 23) cx rfl dX8_burn_20 (by decide +kernel) ?_
    refine zr_iald (pc' := 24) cx rfl 16 zkc_401 (by decide) (L := 168) rfl dX8_burn_23 ?_
    refine zr_iload_n (pc' := 25) cx rfl 1 dX8_burn_24 rfl rfl ?_
    refine zr_iadd (pc' := 26) cx rfl dX8_burn_25 ?_
    refine zr_ldc (pc' := 28) cx rfl (v := 100000) dX8_burn_26 zw_1201 (by decide +kernel) ?_
    refine zr_icmp_le (pc' := 31) cx rfl (tgt := 35) dX8_burn_28 rfl ?_ ?_
    · refine zr_iconst (pc' := 36) cx rfl dX8_burn_35 ?_
      refine zr_sub [0, 1] rfl ?_
      exact wX8_burn_p36 cx g 0 a1
    · refine zr_iconst (pc' := 32) cx rfl dX8_burn_31 ?_
      refine zr_gotoS cx (tgt := 36) dX8_burn_32 rfl ?_
      refine zr_sub [0, 1] rfl ?_
      exact wX8_burn_p36 cx g 2 a1
  · refine zr_iconst (pc' := 13) cx rfl dX8_burn_12 ?_
    refine zr_gotoS cx (tgt := 36) dX8_burn_13 rfl ?_
    refine zr_sub [0, 1] rfl ?_
    exact wX8_burn_p36 cx g 1 a1
theorem mX8_burn (l : Launch) (Y : zLy) (g : zSt) (a1 : Int)  : ∀ v g2, fX8_burn g a1 = some (v, g2) → zMt l yX8_burn cX8_burn 3 (some .int) 7 [.ref (zad Y 400), .int (i32 a1)] Y g (zQi Y v g2) := by
  intro v g2 hv
  refine zmet_of RX8 rfl (by decide +kernel) (Nat.le_of_ble_eq_true rfl) ?_
  intro p e s m below meth c cx H locs ls hH hS hl
  exact wX8_burn cx g a1  (v, g2) hv H locs ls hH hS hl
def fX8_append_p30  (g : zSt) (y1 : Int) (a1 : Int) : Option (Int × zSt) :=
    zlet (zwr g 400 0 y1) (fun g1 =>
    (if i32 0 < i32 (g1.1 400 0) then
    some (0, g1)
    else
    zck ((0 : Int) ≤ (g1.1 400 4) ∧ (g1.1 400 4) < 60) (zlet (zwr g1 403 (Int.toNat (g1.1 400 4)) a1) (fun g2 =>
    zlet (zwr g2 400 4 ((g2.1 400 4) + 1)) (fun g3 =>
    some ((g3.1 400 4), g3))))))
def fX8_append (g : zSt) (a1 : Int) : Option (Int × zSt) :=
    zbd (fX8_within g a1 33 126) (fun v4 =>
    (if i32 v4 = i32 0 then
    fX8_append_p30 g 1 a1
    else
    (if i32 (g.1 400 4) = i32 60 then
    fX8_append_p30 g 2 a1
    else
    fX8_append_p30 g 0 a1)))
theorem wX8_append_p30 (cx : zCx Y p s m args meth c RX8 cX8_append 2 (some .int))   : ∀ (g : zSt) (y1 : Int) (a1 : Int), zWo Y p l e (zrm 1) s m args below meth c 2 0 0 (fun q : Int × zSt => MQ below (zQi Y q.1 q.2) args s 0 0 (zA Y)) g [(0, .ref (zad Y 400)), (1, .int (i32 a1))] (.int (i32 y1) :: .ref (zad Y 400) :: []) 30 (fX8_append_p30 g y1 a1) := by
  intro g y1 a1
  unfold fX8_append_p30
  refine zp_X8_25 (pc' := 33) cx rfl zkc_400 dX8_append_30 ?_
  refine zr_letS (fun g1 => ?_)
  refine zr_aload_n (pc' := 34) cx rfl 0 dX8_append_33 rfl rfl ?_
  refine zg_X8_25 (pc' := 37) cx rfl zkc_400 dX8_append_34 ?_
  refine zr_if_le (pc' := 40) cx rfl (tgt := 42) dX8_append_37 rfl ?_ ?_
  · refine zr_aload_n (pc' := 43) cx rfl 0 dX8_append_42 rfl rfl ?_
    refine zg_X8_16 (pc' := 46) cx rfl zkc_400 dX8_append_43 ?_
    refine zr_aload_n (pc' := 47) cx rfl 0 dX8_append_46 rfl rfl ?_
    refine zg_X8_162 (pc' := 50) cx rfl zkc_400 dX8_append_47 ?_
    refine zr_iload_n (pc' := 51) cx rfl 1 dX8_append_50 rfl rfl ?_
    refine zr_iast (pc' := 52) cx rfl 15 zkc_403 (by decide) (L := 60) rfl dX8_append_51 ?_
    refine zr_letS (fun g2 => ?_)
    refine zr_aload_n (pc' := 53) cx rfl 0 dX8_append_52 rfl rfl ?_
    refine zr_dup (pc' := 54) cx rfl dX8_append_53 rfl ?_
    refine zg_X8_162 (pc' := 57) cx rfl zkc_400 dX8_append_54 ?_
    refine zr_iconst (pc' := 58) cx rfl dX8_append_57 ?_
    refine zr_iadd (pc' := 59) cx rfl dX8_append_58 ?_
    refine zp_X8_162 (pc' := 62) cx rfl zkc_400 dX8_append_59 ?_
    refine zr_letS (fun g3 => ?_)
    refine zr_aload_n (pc' := 63) cx rfl 0 dX8_append_62 rfl rfl ?_
    refine zg_X8_162 (pc' := 66) cx rfl zkc_400 dX8_append_63 ?_
    exact zr_iretE cx dX8_append_66
  · refine zr_iconst (pc' := 41) cx rfl dX8_append_40 ?_
    exact zr_iretE cx dX8_append_41
theorem wX8_append (cx : zCx Y p s m args meth c RX8 cX8_append 2 (some .int)) (g : zSt) (a1 : Int)  : zWo Y p l e (zrm 1) s m args below meth c 2 0 0 (fun q : Int × zSt => MQ below (zQi Y q.1 q.2) args s 0 0 (zA Y)) g [(0, .ref (zad Y 400)), (1, .int (i32 a1))] ([]) 0 (fX8_append g a1) := by
  unfold fX8_append
  refine zr_aload_n (pc' := 1) cx rfl 0 dX8_append_0 rfl rfl ?_
  refine zr_iload_n (pc' := 2) cx rfl 1 dX8_append_1 rfl rfl ?_
  refine zr_bipush (pc' := 4) cx rfl dX8_append_2 (by decide +kernel) ?_
  refine zr_bipush (pc' := 6) cx rfl dX8_append_4 (by decide +kernel) ?_
  refine zc_X8_29 (pc' := 9) cx rfl  ⟨Nat.le_of_ble_eq_true rfl, Nat.le_of_ble_eq_true rfl⟩ ⟨Nat.zero_le _, Nat.zero_le _⟩ (Nat.le_of_ble_eq_true rfl) dX8_append_6 (fun v4 => ?_)
  refine zr_if_ne (pc' := 12) cx rfl (tgt := 16) dX8_append_9 rfl ?_ ?_
  · refine zr_aload_n (pc' := 17) cx rfl 0 dX8_append_16 rfl rfl ?_
    refine zg_X8_162 (pc' := 20) cx rfl zkc_400 dX8_append_17 ?_
    refine zr_bipush (pc' := 22) cx rfl dX8_append_20 (by decide +kernel) ?_
    refine zr_icmp_ne (pc' := 25) cx rfl (tgt := 29) dX8_append_22 rfl ?_ ?_
    · refine zr_iconst (pc' := 30) cx rfl dX8_append_29 ?_
      refine zr_sub [0, 1] rfl ?_
      exact wX8_append_p30 cx g 0 a1
    · refine zr_iconst (pc' := 26) cx rfl dX8_append_25 ?_
      refine zr_gotoS cx (tgt := 30) dX8_append_26 rfl ?_
      refine zr_sub [0, 1] rfl ?_
      exact wX8_append_p30 cx g 2 a1
  · refine zr_iconst (pc' := 13) cx rfl dX8_append_12 ?_
    refine zr_gotoS cx (tgt := 30) dX8_append_13 rfl ?_
    refine zr_sub [0, 1] rfl ?_
    exact wX8_append_p30 cx g 1 a1
theorem mX8_append (l : Launch) (Y : zLy) (g : zSt) (a1 : Int)  : ∀ v g2, fX8_append g a1 = some (v, g2) → zMt l yX8_append cX8_append 2 (some .int) 1 [.ref (zad Y 400), .int (i32 a1)] Y g (zQi Y v g2) := by
  intro v g2 hv
  refine zmet_of RX8 rfl (by decide +kernel) (Nat.le_of_ble_eq_true rfl) ?_
  intro p e s m below meth c cx H locs ls hH hS hl
  exact wX8_append cx g a1  (v, g2) hv H locs ls hH hS hl
def fX8_clearBuffer (g : zSt) : Option (Int × zSt) :=
    zlet (zwr g 400 0 0) (fun g1 =>
    zlet (g1.1 400 4) (fun x2 =>
    zlet (zwr g1 400 4 0) (fun g3 =>
    some (x2, g3))))
theorem wX8_clearBuffer (cx : zCx Y p s m args meth c RX8 cX8_clearBuffer 2 (some .int)) (g : zSt)  : zWo Y p l e (zrm 0) s m args below meth c 2 0 0 (fun q : Int × zSt => MQ below (zQi Y q.1 q.2) args s 0 0 (zA Y)) g [(0, .ref (zad Y 400))] ([]) 0 (fX8_clearBuffer g) := by
  unfold fX8_clearBuffer
  refine zr_aload_n (pc' := 1) cx rfl 0 dX8_clearBuffer_0 rfl rfl ?_
  refine zr_iconst (pc' := 2) cx rfl dX8_clearBuffer_1 ?_
  refine zp_X8_25 (pc' := 5) cx rfl zkc_400 dX8_clearBuffer_2 ?_
  refine zr_letS (fun g1 => ?_)
  refine zr_aload_n (pc' := 6) cx rfl 0 dX8_clearBuffer_5 rfl rfl ?_
  refine zg_X8_162 (pc' := 9) cx rfl zkc_400 dX8_clearBuffer_6 ?_
  refine zr_leti (fun x2 => ?_)
  refine zr_istore_n (pc' := 10) cx rfl (lv' := [(1, .int (i32 x2)), (0, .ref (zad Y 400))]) dX8_clearBuffer_9 rfl (by decide) rfl ?_
  refine zr_aload_n (pc' := 11) cx rfl 1 dX8_clearBuffer_10 rfl rfl ?_
  refine zr_iconst (pc' := 12) cx rfl dX8_clearBuffer_11 ?_
  refine zp_X8_162 (pc' := 15) cx rfl zkc_400 dX8_clearBuffer_12 ?_
  refine zr_letS (fun g3 => ?_)
  refine zr_iload_n (pc' := 16) cx rfl 0 dX8_clearBuffer_15 rfl rfl ?_
  exact zr_iretE cx dX8_clearBuffer_16
theorem mX8_clearBuffer (l : Launch) (Y : zLy) (g : zSt)  : ∀ v g2, fX8_clearBuffer g = some (v, g2) → zMt l yX8_clearBuffer cX8_clearBuffer 2 (some .int) 0 [.ref (zad Y 400)] Y g (zQi Y v g2) := by
  intro v g2 hv
  refine zmet_of RX8 rfl (by decide +kernel) (Nat.le_of_ble_eq_true rfl) ?_
  intro p e s m below meth c cx H locs ls hH hS hl
  exact wX8_clearBuffer cx g   (v, g2) hv H locs ls hH hS hl
def fX8_least (g : zSt) : Option Int :=
    (if i32 (g.1 400 10) = i32 0 then
    some 0
    else
    (if i32 (g.1 400 9) = i32 35 then
    (if i32 (g.1 400 10) = i32 1 then
    some 0
    else
    some 1)
    else
    some 1))
theorem wX8_least (cx : zCx Y p s m args meth c RX8 cX8_least 1 (some .int)) (g : zSt)  : zWo Y p l e (zrm 0) s m args below meth c 1 0 0 (fun v : Int => MQ below (zQi Y v g) args s 0 0 (zA Y)) g [(0, .ref (zad Y 400))] ([]) 0 (fX8_least g) := by
  unfold fX8_least
  refine zr_aload_n (pc' := 1) cx rfl 0 dX8_least_0 rfl rfl ?_
  refine zg_X8_165 (pc' := 4) cx rfl zkc_400 dX8_least_1 ?_
  refine zr_if_eq (pc' := 7) cx rfl (tgt := 24) dX8_least_4 rfl ?_ ?_
  · refine zr_iconst (pc' := 25) cx rfl dX8_least_24 ?_
    refine zr_gotoS cx (tgt := 29) dX8_least_25 rfl ?_
    exact zr_iretP cx dX8_least_29
  · refine zr_aload_n (pc' := 8) cx rfl 0 dX8_least_7 rfl rfl ?_
    refine zg_X8_168 (pc' := 11) cx rfl zkc_400 dX8_least_8 ?_
    refine zr_bipush (pc' := 13) cx rfl dX8_least_11 (by decide +kernel) ?_
    refine zr_icmp_ne (pc' := 16) cx rfl (tgt := 28) dX8_least_13 rfl ?_ ?_
    · refine zr_iconst (pc' := 29) cx rfl dX8_least_28 ?_
      exact zr_iretP cx dX8_least_29
    · refine zr_aload_n (pc' := 17) cx rfl 0 dX8_least_16 rfl rfl ?_
      refine zg_X8_165 (pc' := 20) cx rfl zkc_400 dX8_least_17 ?_
      refine zr_iconst (pc' := 21) cx rfl dX8_least_20 ?_
      refine zr_icmp_ne (pc' := 24) cx rfl (tgt := 28) dX8_least_21 rfl ?_ ?_
      · refine zr_iconst (pc' := 29) cx rfl dX8_least_28 ?_
        exact zr_iretP cx dX8_least_29
      · refine zr_iconst (pc' := 25) cx rfl dX8_least_24 ?_
        refine zr_gotoS cx (tgt := 29) dX8_least_25 rfl ?_
        exact zr_iretP cx dX8_least_29
theorem mX8_least (l : Launch) (Y : zLy) (g : zSt)  : ∀ v, fX8_least g = some v → zMt l yX8_least cX8_least 1 (some .int) 0 [.ref (zad Y 400)] Y g (zQi Y v g) := by
  intro v hv
  refine zmet_of RX8 rfl (by decide +kernel) (Nat.le_of_ble_eq_true rfl) ?_
  intro p e s m below meth c cx H locs ls hH hS hl
  exact wX8_least cx g   v hv H locs ls hH hS hl
theorem zc_X8_177 (cx : zCx Y p s m args meth c RX8 cc nl ret) (hpc : pc + 3 = pc') {g : zSt}   {fk : Int → Option ρ} (hR : 0 + 1 ≤ R.frames ∧ 8 + (1 + 11) + 40 * 0 ≤ R.locals) (hkn : k ≤ R.cells ∧ n ≤ R.slots) (hrest : (rest.map fun v => v.category).sum ≤ 8) (hdg : decode cc pc = .ok (.invokevirtual 177, 3)) (kk : ∀ v : Int, zWo Y p l e R s m args below meth c nl k n kq g lv (.int (i32 v) :: rest) pc' (fk v)) : zWo Y p l e R s m args below meth c nl k n kq g lv (.ref (zad Y 400) :: rest) pc (zbd (fX8_least g) fk) := zr_callViP cx (an := 0) (As := []) 9 zkc_400 (by decide) rfl (mX8_least l Y g) (zG_V zw_1230 zw_1232 zw_75 zw_109 zw_1233) (by decide +kernel) hR hkn rfl rfl hrest hdg hpc kk
def fX8_greatest (g : zSt) : Option Int :=
    (if i32 (g.1 400 10) = i32 0 then
    some 11
    else
    (if i32 (g.1 400 9) = i32 42 then
    some 9
    else
    (if i32 (g.1 400 9) = i32 33 then
    some 9
    else
    (if i32 (g.1 400 9) = i32 35 then
    (if i32 (g.1 400 10) = i32 1 then
    some 1
    else
    some 30)
    else
    some 60))))
theorem wX8_greatest (cx : zCx Y p s m args meth c RX8 cX8_greatest 1 (some .int)) (g : zSt)  : zWo Y p l e (zrm 0) s m args below meth c 1 0 0 (fun v : Int => MQ below (zQi Y v g) args s 0 0 (zA Y)) g [(0, .ref (zad Y 400))] ([]) 0 (fX8_greatest g) := by
  unfold fX8_greatest
  refine zr_aload_n (pc' := 1) cx rfl 0 dX8_greatest_0 rfl rfl ?_
  refine zg_X8_165 (pc' := 4) cx rfl zkc_400 dX8_greatest_1 ?_
  refine zr_if_ne (pc' := 7) cx rfl (tgt := 10) dX8_greatest_4 rfl ?_ ?_
  · refine zr_aload_n (pc' := 11) cx rfl 0 dX8_greatest_10 rfl rfl ?_
    refine zg_X8_168 (pc' := 14) cx rfl zkc_400 dX8_greatest_11 ?_
    refine zr_bipush (pc' := 16) cx rfl dX8_greatest_14 (by decide +kernel) ?_
    refine zr_icmp_eq (pc' := 19) cx rfl (tgt := 28) dX8_greatest_16 rfl ?_ ?_
    · refine zr_bipush (pc' := 30) cx rfl dX8_greatest_28 (by decide +kernel) ?_
      refine zr_gotoS cx (tgt := 61) dX8_greatest_30 rfl ?_
      exact zr_iretP cx dX8_greatest_61
    · refine zr_aload_n (pc' := 20) cx rfl 0 dX8_greatest_19 rfl rfl ?_
      refine zg_X8_168 (pc' := 23) cx rfl zkc_400 dX8_greatest_20 ?_
      refine zr_bipush (pc' := 25) cx rfl dX8_greatest_23 (by decide +kernel) ?_
      refine zr_icmp_ne (pc' := 28) cx rfl (tgt := 33) dX8_greatest_25 rfl ?_ ?_
      · refine zr_aload_n (pc' := 34) cx rfl 0 dX8_greatest_33 rfl rfl ?_
        refine zg_X8_168 (pc' := 37) cx rfl zkc_400 dX8_greatest_34 ?_
        refine zr_bipush (pc' := 39) cx rfl dX8_greatest_37 (by decide +kernel) ?_
        refine zr_icmp_ne (pc' := 42) cx rfl (tgt := 59) dX8_greatest_39 rfl ?_ ?_
        · refine zr_bipush (pc' := 61) cx rfl dX8_greatest_59 (by decide +kernel) ?_
          exact zr_iretP cx dX8_greatest_61
        · refine zr_aload_n (pc' := 43) cx rfl 0 dX8_greatest_42 rfl rfl ?_
          refine zg_X8_165 (pc' := 46) cx rfl zkc_400 dX8_greatest_43 ?_
          refine zr_iconst (pc' := 47) cx rfl dX8_greatest_46 ?_
          refine zr_icmp_ne (pc' := 50) cx rfl (tgt := 54) dX8_greatest_47 rfl ?_ ?_
          · refine zr_bipush (pc' := 56) cx rfl dX8_greatest_54 (by decide +kernel) ?_
            refine zr_gotoS cx (tgt := 61) dX8_greatest_56 rfl ?_
            exact zr_iretP cx dX8_greatest_61
          · refine zr_iconst (pc' := 51) cx rfl dX8_greatest_50 ?_
            refine zr_gotoS cx (tgt := 61) dX8_greatest_51 rfl ?_
            exact zr_iretP cx dX8_greatest_61
      · refine zr_bipush (pc' := 30) cx rfl dX8_greatest_28 (by decide +kernel) ?_
        refine zr_gotoS cx (tgt := 61) dX8_greatest_30 rfl ?_
        exact zr_iretP cx dX8_greatest_61
  · refine zr_bipush (pc' := 9) cx rfl dX8_greatest_7 (by decide +kernel) ?_
    exact zr_iretP cx dX8_greatest_9
theorem mX8_greatest (l : Launch) (Y : zLy) (g : zSt)  : ∀ v, fX8_greatest g = some v → zMt l yX8_greatest cX8_greatest 1 (some .int) 0 [.ref (zad Y 400)] Y g (zQi Y v g) := by
  intro v hv
  refine zmet_of RX8 rfl (by decide +kernel) (Nat.le_of_ble_eq_true rfl) ?_
  intro p e s m below meth c cx H locs ls hH hS hl
  exact wX8_greatest cx g   v hv H locs ls hH hS hl
theorem zc_X8_180 (cx : zCx Y p s m args meth c RX8 cc nl ret) (hpc : pc + 3 = pc') {g : zSt}   {fk : Int → Option ρ} (hR : 0 + 1 ≤ R.frames ∧ 8 + (1 + 11) + 40 * 0 ≤ R.locals) (hkn : k ≤ R.cells ∧ n ≤ R.slots) (hrest : (rest.map fun v => v.category).sum ≤ 8) (hdg : decode cc pc = .ok (.invokevirtual 180, 3)) (kk : ∀ v : Int, zWo Y p l e R s m args below meth c nl k n kq g lv (.int (i32 v) :: rest) pc' (fk v)) : zWo Y p l e R s m args below meth c nl k n kq g lv (.ref (zad Y 400) :: rest) pc (zbd (fX8_greatest g) fk) := zr_callViP cx (an := 0) (As := []) 9 zkc_400 (by decide) rfl (mX8_greatest l Y g) (zG_V zw_1234 zw_1236 zw_76 zw_109 zw_1237) (by decide +kernel) hR hkn rfl rfl hrest hdg hpc kk
def fX8_takesDigit_p112  (g : zSt) (y1 : Int) (y2 : Int) (a4 : Int) : Option (Int × zSt) :=
    zck ((0 : Int) ≤ y1 ∧ y1 < 80) (zlet (zwr g 405 (Int.toNat y1) y2) (fun g1 =>
    (if i32 a4 = i32 0 then
    zlet (zwr g1 400 11 ((g1.1 400 11) + 0)) (fun g2 =>
    zck ((a4 : Int) = 0 ∨ (a4 : Int) = 1) (some (a4, g2)))
    else
    zlet (zwr g1 400 11 ((g1.1 400 11) + 1)) (fun g3 =>
    zck ((a4 : Int) = 0 ∨ (a4 : Int) = 1) (some (a4, g3))))))
def fX8_takesDigit_p90  (g : zSt) (y0 : Int) (a2 : Int) (a3 : Int) : Option (Int × zSt) :=
    (if i32 y0 = i32 0 then
    zck ((0 : Int) ≤ a2 ∧ a2 < 80) (
    fX8_takesDigit_p112 g a2 (g.1 405 (Int.toNat a2)) y0)
    else
    fX8_takesDigit_p112 g a2 a3 y0)
def fX8_takesDigit_p36  (g : zSt) (y0 : Int) (a2 : Int) : Option (Int × zSt) :=
    (if i32 (g.1 400 11) = i32 0 then
    zbd (fX8_least g) (fun v5 =>
    (if i32 y0 < i32 v5 then
    fX8_takesDigit_p90 g 0 a2 y0
    else
    zbd (fX8_greatest g) (fun v6 =>
    (if i32 v6 < i32 y0 then
    fX8_takesDigit_p90 g 0 a2 y0
    else
    fX8_takesDigit_p90 g 1 a2 y0))))
    else
    zck ((0 : Int) ≤ a2 ∧ a2 < 80) (
    (if i32 0 < i32 (g.1 405 (Int.toNat a2)) then
    zbd (fX8_greatest g) (fun v4 =>
    (if i32 v4 < i32 y0 then
    fX8_takesDigit_p90 g 0 a2 y0
    else
    fX8_takesDigit_p90 g 1 a2 y0))
    else
    fX8_takesDigit_p90 g 0 a2 y0)))
def fX8_takesDigit (g : zSt) (a1 : Int) : Option (Int × zSt) :=
    zlet (((4 * (g.1 400 12)) + 1) + (g.1 400 10)) (fun x7 =>
    (if i32 (g.1 400 11) = i32 0 then
    fX8_takesDigit_p36 g a1 x7
    else
    zck ((0 : Int) ≤ x7 ∧ x7 < 80) (
    fX8_takesDigit_p36 g ((10 * (g.1 405 (Int.toNat x7))) + a1) x7)))
theorem wX8_takesDigit_p112 (cx : zCx Y p s m args meth c RX8 cX8_takesDigit 5 (some .boolean))   : ∀ (g : zSt) (y1 : Int) (y2 : Int) (a4 : Int), zWo Y p l e (zrm 1) s m args below meth c 5 0 0 (fun q : Int × zSt => MQ below (zQi Y q.1 q.2) args s 0 0 (zA Y)) g [(0, .ref (zad Y 400)), (4, .int (i32 a4))] (.int (i32 y2) :: .int (i32 y1) :: .ref (zad Y 405) :: []) 112 (fX8_takesDigit_p112 g y1 y2 a4) := by
  intro g y1 y2 a4
  unfold fX8_takesDigit_p112
  refine zr_iast (pc' := 113) cx rfl 18 zkc_405 (by decide) (L := 80) rfl dX8_takesDigit_112 ?_
  refine zr_letS (fun g1 => ?_)
  refine zr_aload_n (pc' := 114) cx rfl 0 dX8_takesDigit_113 rfl rfl ?_
  refine zr_dup (pc' := 115) cx rfl dX8_takesDigit_114 rfl ?_
  refine zg_X8_174 (pc' := 118) cx rfl zkc_400 dX8_takesDigit_115 ?_
  refine zr_iload (pc' := 120) cx rfl 1 dX8_takesDigit_118 rfl ?_
  refine zr_if_eq (pc' := 123) cx rfl (tgt := 127) dX8_takesDigit_120 rfl ?_ ?_
  · refine zr_iconst (pc' := 128) cx rfl dX8_takesDigit_127 ?_
    refine zr_iadd (pc' := 129) cx rfl dX8_takesDigit_128 ?_
    refine zp_X8_174 (pc' := 132) cx rfl zkc_400 dX8_takesDigit_129 ?_
    refine zr_letS (fun g2 => ?_)
    refine zr_iload (pc' := 134) cx rfl 1 dX8_takesDigit_132 rfl ?_
    exact zr_zretE cx dX8_takesDigit_134
  · refine zr_iconst (pc' := 124) cx rfl dX8_takesDigit_123 ?_
    refine zr_gotoS cx (tgt := 128) dX8_takesDigit_124 rfl ?_
    refine zr_iadd (pc' := 129) cx rfl dX8_takesDigit_128 ?_
    refine zp_X8_174 (pc' := 132) cx rfl zkc_400 dX8_takesDigit_129 ?_
    refine zr_letS (fun g3 => ?_)
    refine zr_iload (pc' := 134) cx rfl 1 dX8_takesDigit_132 rfl ?_
    exact zr_zretE cx dX8_takesDigit_134
theorem wX8_takesDigit_p90 (cx : zCx Y p s m args meth c RX8 cX8_takesDigit 5 (some .boolean))   : ∀ (g : zSt) (y0 : Int) (a2 : Int) (a3 : Int), zWo Y p l e (zrm 1) s m args below meth c 5 0 0 (fun q : Int × zSt => MQ below (zQi Y q.1 q.2) args s 0 0 (zA Y)) g [(0, .ref (zad Y 400)), (2, .int (i32 a2)), (3, .int (i32 a3))] (.int (i32 y0) :: []) 90 (fX8_takesDigit_p90 g y0 a2 a3) := by
  intro g y0 a2 a3
  unfold fX8_takesDigit_p90
  refine zr_istore (pc' := 92) cx rfl (lv' := [(4, .int (i32 y0)), (0, .ref (zad Y 400)), (2, .int (i32 a2)), (3, .int (i32 a3))]) dX8_takesDigit_90 (by decide) rfl ?_
  refine zr_aload_n (pc' := 93) cx rfl 1 dX8_takesDigit_92 rfl rfl ?_
  refine zg_X8_22 (pc' := 96) cx rfl zkc_400 dX8_takesDigit_93 ?_
  refine zr_iload_n (pc' := 97) cx rfl 2 dX8_takesDigit_96 rfl rfl ?_
  refine zr_iload (pc' := 99) cx rfl 0 dX8_takesDigit_97 rfl ?_
  refine zr_if_eq (pc' := 102) cx rfl (tgt := 106) dX8_takesDigit_99 rfl ?_ ?_
  · refine zr_aload_n (pc' := 107) cx rfl 1 dX8_takesDigit_106 rfl rfl ?_
    refine zg_X8_22 (pc' := 110) cx rfl zkc_400 dX8_takesDigit_107 ?_
    refine zr_iload_n (pc' := 111) cx rfl 2 dX8_takesDigit_110 rfl rfl ?_
    refine zr_iald (pc' := 112) cx rfl 18 zkc_405 (by decide) (L := 80) rfl dX8_takesDigit_111 ?_
    refine zr_sub [1, 0] rfl ?_
    exact wX8_takesDigit_p112 cx g a2 (g.1 405 (Int.toNat a2)) y0
  · refine zr_iload_n (pc' := 103) cx rfl 3 dX8_takesDigit_102 rfl rfl ?_
    refine zr_gotoS cx (tgt := 112) dX8_takesDigit_103 rfl ?_
    refine zr_sub [1, 0] rfl ?_
    exact wX8_takesDigit_p112 cx g a2 a3 y0
theorem wX8_takesDigit_p36 (cx : zCx Y p s m args meth c RX8 cX8_takesDigit 5 (some .boolean))   : ∀ (g : zSt) (y0 : Int) (a2 : Int), zWo Y p l e (zrm 1) s m args below meth c 5 0 0 (fun q : Int × zSt => MQ below (zQi Y q.1 q.2) args s 0 0 (zA Y)) g [(0, .ref (zad Y 400)), (2, .int (i32 a2))] (.int (i32 y0) :: []) 36 (fX8_takesDigit_p36 g y0 a2) := by
  intro g y0 a2
  unfold fX8_takesDigit_p36
  refine zr_istore_n (pc' := 37) cx rfl (lv' := [(3, .int (i32 y0)), (0, .ref (zad Y 400)), (2, .int (i32 a2))]) dX8_takesDigit_36 rfl (by decide) rfl ?_
  refine zr_aload_n (pc' := 38) cx rfl 1 dX8_takesDigit_37 rfl rfl ?_
  refine zg_X8_174 (pc' := 41) cx rfl zkc_400 dX8_takesDigit_38 ?_
  refine zr_if_ne (pc' := 44) cx rfl (tgt := 68) dX8_takesDigit_41 rfl ?_ ?_
  · refine zr_aload_n (pc' := 69) cx rfl 1 dX8_takesDigit_68 rfl rfl ?_
    refine zg_X8_22 (pc' := 72) cx rfl zkc_400 dX8_takesDigit_69 ?_
    refine zr_iload_n (pc' := 73) cx rfl 2 dX8_takesDigit_72 rfl rfl ?_
    refine zr_iald (pc' := 74) cx rfl 18 zkc_405 (by decide) (L := 80) rfl dX8_takesDigit_73 ?_
    refine zr_if_le (pc' := 77) cx rfl (tgt := 89) dX8_takesDigit_74 rfl ?_ ?_
    · refine zr_iconst (pc' := 90) cx rfl dX8_takesDigit_89 ?_
      refine zr_sub [1, 2, 0] rfl ?_
      exact wX8_takesDigit_p90 cx g 0 a2 y0
    · refine zr_iload_n (pc' := 78) cx rfl 0 dX8_takesDigit_77 rfl rfl ?_
      refine zr_aload_n (pc' := 79) cx rfl 1 dX8_takesDigit_78 rfl rfl ?_
      refine zc_X8_180 (pc' := 82) cx rfl  ⟨Nat.le_of_ble_eq_true rfl, Nat.le_of_ble_eq_true rfl⟩ ⟨Nat.zero_le _, Nat.zero_le _⟩ (Nat.le_of_ble_eq_true rfl) dX8_takesDigit_79 (fun v4 => ?_)
      refine zr_icmp_gt (pc' := 85) cx rfl (tgt := 89) dX8_takesDigit_82 rfl ?_ ?_
      · refine zr_iconst (pc' := 90) cx rfl dX8_takesDigit_89 ?_
        refine zr_sub [1, 2, 0] rfl ?_
        exact wX8_takesDigit_p90 cx g 0 a2 y0
      · refine zr_iconst (pc' := 86) cx rfl dX8_takesDigit_85 ?_
        refine zr_gotoS cx (tgt := 90) dX8_takesDigit_86 rfl ?_
        refine zr_sub [1, 2, 0] rfl ?_
        exact wX8_takesDigit_p90 cx g 1 a2 y0
  · refine zr_iload_n (pc' := 45) cx rfl 0 dX8_takesDigit_44 rfl rfl ?_
    refine zr_aload_n (pc' := 46) cx rfl 1 dX8_takesDigit_45 rfl rfl ?_
    refine zc_X8_177 (pc' := 49) cx rfl  ⟨Nat.le_of_ble_eq_true rfl, Nat.le_of_ble_eq_true rfl⟩ ⟨Nat.zero_le _, Nat.zero_le _⟩ (Nat.le_of_ble_eq_true rfl) dX8_takesDigit_46 (fun v5 => ?_)
    refine zr_icmp_lt (pc' := 52) cx rfl (tgt := 64) dX8_takesDigit_49 rfl ?_ ?_
    · refine zr_iconst (pc' := 65) cx rfl dX8_takesDigit_64 ?_
      refine zr_gotoS cx (tgt := 90) dX8_takesDigit_65 rfl ?_
      refine zr_sub [1, 2, 0] rfl ?_
      exact wX8_takesDigit_p90 cx g 0 a2 y0
    · refine zr_iload_n (pc' := 53) cx rfl 0 dX8_takesDigit_52 rfl rfl ?_
      refine zr_aload_n (pc' := 54) cx rfl 1 dX8_takesDigit_53 rfl rfl ?_
      refine zc_X8_180 (pc' := 57) cx rfl  ⟨Nat.le_of_ble_eq_true rfl, Nat.le_of_ble_eq_true rfl⟩ ⟨Nat.zero_le _, Nat.zero_le _⟩ (Nat.le_of_ble_eq_true rfl) dX8_takesDigit_54 (fun v6 => ?_)
      refine zr_icmp_gt (pc' := 60) cx rfl (tgt := 64) dX8_takesDigit_57 rfl ?_ ?_
      · refine zr_iconst (pc' := 65) cx rfl dX8_takesDigit_64 ?_
        refine zr_gotoS cx (tgt := 90) dX8_takesDigit_65 rfl ?_
        refine zr_sub [1, 2, 0] rfl ?_
        exact wX8_takesDigit_p90 cx g 0 a2 y0
      · refine zr_iconst (pc' := 61) cx rfl dX8_takesDigit_60 ?_
        refine zr_gotoS cx (tgt := 90) dX8_takesDigit_61 rfl ?_
        refine zr_sub [1, 2, 0] rfl ?_
        exact wX8_takesDigit_p90 cx g 1 a2 y0
theorem wX8_takesDigit (cx : zCx Y p s m args meth c RX8 cX8_takesDigit 5 (some .boolean)) (g : zSt) (a1 : Int)  : zWo Y p l e (zrm 1) s m args below meth c 5 0 0 (fun q : Int × zSt => MQ below (zQi Y q.1 q.2) args s 0 0 (zA Y)) g [(0, .ref (zad Y 400)), (1, .int (i32 a1))] ([]) 0 (fX8_takesDigit g a1) := by
  unfold fX8_takesDigit
  refine zr_iconst (pc' := 1) cx rfl dX8_takesDigit_0 ?_
  refine zr_aload_n (pc' := 2) cx rfl 0 dX8_takesDigit_1 rfl rfl ?_
  refine zg_X8_171 (pc' := 5) cx rfl zkc_400 dX8_takesDigit_2 ?_
  refine zr_imul (pc' := 6) cx rfl dX8_takesDigit_5 ?_
  refine zr_iconst (pc' := 7) cx rfl dX8_takesDigit_6 ?_
  refine zr_iadd (pc' := 8) cx rfl dX8_takesDigit_7 ?_
  refine zr_aload_n (pc' := 9) cx rfl 0 dX8_takesDigit_8 rfl rfl ?_
  refine zg_X8_165 (pc' := 12) cx rfl zkc_400 dX8_takesDigit_9 ?_
  refine zr_iadd (pc' := 13) cx rfl dX8_takesDigit_12 ?_
  refine zr_leti (fun x7 => ?_)
  refine zr_istore_n (pc' := 14) cx rfl (lv' := [(2, .int (i32 x7)), (0, .ref (zad Y 400)), (1, .int (i32 a1))]) dX8_takesDigit_13 rfl (by decide) rfl ?_
  refine zr_aload_n (pc' := 15) cx rfl 1 dX8_takesDigit_14 rfl rfl ?_
  refine zg_X8_174 (pc' := 18) cx rfl zkc_400 dX8_takesDigit_15 ?_
  refine zr_if_ne (pc' := 21) cx rfl (tgt := 25) dX8_takesDigit_18 rfl ?_ ?_
  · refine zr_bipush (pc' := 27) cx rfl dX8_takesDigit_25 (by decide +kernel) ?_
    refine zr_aload_n (pc' := 28) cx rfl 1 dX8_takesDigit_27 rfl rfl ?_
    refine zg_X8_22 (pc' := 31) cx rfl zkc_400 dX8_takesDigit_28 ?_
    refine zr_iload_n (pc' := 32) cx rfl 0 dX8_takesDigit_31 rfl rfl ?_
    refine zr_iald (pc' := 33) cx rfl 18 zkc_405 (by decide) (L := 80) rfl dX8_takesDigit_32 ?_
    refine zr_imul (pc' := 34) cx rfl dX8_takesDigit_33 ?_
    refine zr_iload_n (pc' := 35) cx rfl 2 dX8_takesDigit_34 rfl rfl ?_
    refine zr_iadd (pc' := 36) cx rfl dX8_takesDigit_35 ?_
    refine zr_sub [1, 0] rfl ?_
    exact wX8_takesDigit_p36 cx g ((10 * (g.1 405 (Int.toNat x7))) + a1) x7
  · refine zr_iload_n (pc' := 22) cx rfl 2 dX8_takesDigit_21 rfl rfl ?_
    refine zr_gotoS cx (tgt := 36) dX8_takesDigit_22 rfl ?_
    refine zr_sub [1, 0] rfl ?_
    exact wX8_takesDigit_p36 cx g a1 x7
theorem mX8_takesDigit (l : Launch) (Y : zLy) (g : zSt) (a1 : Int)  : ∀ v g2, fX8_takesDigit g a1 = some (v, g2) → zMt l yX8_takesDigit cX8_takesDigit 5 (some .boolean) 1 [.ref (zad Y 400), .int (i32 a1)] Y g (zQi Y v g2) := by
  intro v g2 hv
  refine zmet_of RX8 rfl (by decide +kernel) (Nat.le_of_ble_eq_true rfl) ?_
  intro p e s m below meth c cx H locs ls hH hS hl
  exact wX8_takesDigit cx g a1  (v, g2) hv H locs ls hH hS hl
theorem zc_X8_183 (cx : zCx Y p s m args meth c RX8 cc nl ret) (hpc : pc + 3 = pc') {g : zSt} {a1 : Int}  {fk : Int → zSt → Option ρ} (hR : 1 + 1 ≤ R.frames ∧ 8 + (5 + 11) + 40 * 1 ≤ R.locals) (hkn : k ≤ R.cells ∧ n ≤ R.slots) (hrest : (rest.map fun v => v.category).sum ≤ 8) (hdg : decode cc pc = .ok (.invokevirtual 183, 3)) (kk : ∀ (v : Int) (g2 : zSt), zWo Y p l e R s m args below meth c nl k n kq g2 lv (.int (i32 v) :: rest) pc' (fk v g2)) : zWo Y p l e R s m args below meth c nl k n kq g lv (.int (i32 a1) :: .ref (zad Y 400) :: rest) pc (zbe (fX8_takesDigit g a1) fk) := zr_callViE cx (an := 1) (As := [.int (i32 a1)]) 9 zkc_400 (by decide) rfl (mX8_takesDigit l Y g a1) (zG_V zw_1226 zw_1228 zw_74 zw_109 zw_1229) (by decide +kernel) hR hkn rfl rfl hrest hdg hpc kk
def fX8_isSign (g : zSt) (a1 : Int) : Option Int :=
    (if i32 a1 = i32 62 then
    zck ((1 : Int) = 0 ∨ (1 : Int) = 1) (some 1)
    else
    (if i32 a1 = i32 37 then
    zck ((1 : Int) = 0 ∨ (1 : Int) = 1) (some 1)
    else
    (if i32 a1 = i32 42 then
    zck ((1 : Int) = 0 ∨ (1 : Int) = 1) (some 1)
    else
    (if i32 a1 = i32 33 then
    zck ((1 : Int) = 0 ∨ (1 : Int) = 1) (some 1)
    else
    (if i32 a1 = i32 35 then
    zck ((1 : Int) = 0 ∨ (1 : Int) = 1) (some 1)
    else
    zck ((0 : Int) = 0 ∨ (0 : Int) = 1) (some 0))))))
theorem wX8_isSign (cx : zCx Y p s m args meth c RX8 cX8_isSign 2 (some .boolean)) (g : zSt) (a1 : Int)  : zWo Y p l e (zrm 0) s m args below meth c 2 0 0 (fun v : Int => MQ below (zQi Y v g) args s 0 0 (zA Y)) g [(0, .ref (zad Y 400)), (1, .int (i32 a1))] ([]) 0 (fX8_isSign g a1) := by
  unfold fX8_isSign
  refine zr_iload_n (pc' := 1) cx rfl 1 dX8_isSign_0 rfl rfl ?_
  refine zr_bipush (pc' := 3) cx rfl dX8_isSign_1 (by decide +kernel) ?_
  refine zr_icmp_eq (pc' := 6) cx rfl (tgt := 30) dX8_isSign_3 rfl ?_ ?_
  · refine zr_iconst (pc' := 31) cx rfl dX8_isSign_30 ?_
    refine zr_gotoS cx (tgt := 35) dX8_isSign_31 rfl ?_
    exact zr_zretP cx dX8_isSign_35
  · refine zr_iload_n (pc' := 7) cx rfl 1 dX8_isSign_6 rfl rfl ?_
    refine zr_bipush (pc' := 9) cx rfl dX8_isSign_7 (by decide +kernel) ?_
    refine zr_icmp_eq (pc' := 12) cx rfl (tgt := 30) dX8_isSign_9 rfl ?_ ?_
    · refine zr_iconst (pc' := 31) cx rfl dX8_isSign_30 ?_
      refine zr_gotoS cx (tgt := 35) dX8_isSign_31 rfl ?_
      exact zr_zretP cx dX8_isSign_35
    · refine zr_iload_n (pc' := 13) cx rfl 1 dX8_isSign_12 rfl rfl ?_
      refine zr_bipush (pc' := 15) cx rfl dX8_isSign_13 (by decide +kernel) ?_
      refine zr_icmp_eq (pc' := 18) cx rfl (tgt := 30) dX8_isSign_15 rfl ?_ ?_
      · refine zr_iconst (pc' := 31) cx rfl dX8_isSign_30 ?_
        refine zr_gotoS cx (tgt := 35) dX8_isSign_31 rfl ?_
        exact zr_zretP cx dX8_isSign_35
      · refine zr_iload_n (pc' := 19) cx rfl 1 dX8_isSign_18 rfl rfl ?_
        refine zr_bipush (pc' := 21) cx rfl dX8_isSign_19 (by decide +kernel) ?_
        refine zr_icmp_eq (pc' := 24) cx rfl (tgt := 30) dX8_isSign_21 rfl ?_ ?_
        · refine zr_iconst (pc' := 31) cx rfl dX8_isSign_30 ?_
          refine zr_gotoS cx (tgt := 35) dX8_isSign_31 rfl ?_
          exact zr_zretP cx dX8_isSign_35
        · refine zr_iload_n (pc' := 25) cx rfl 1 dX8_isSign_24 rfl rfl ?_
          refine zr_bipush (pc' := 27) cx rfl dX8_isSign_25 (by decide +kernel) ?_
          refine zr_icmp_ne (pc' := 30) cx rfl (tgt := 34) dX8_isSign_27 rfl ?_ ?_
          · refine zr_iconst (pc' := 35) cx rfl dX8_isSign_34 ?_
            exact zr_zretP cx dX8_isSign_35
          · refine zr_iconst (pc' := 31) cx rfl dX8_isSign_30 ?_
            refine zr_gotoS cx (tgt := 35) dX8_isSign_31 rfl ?_
            exact zr_zretP cx dX8_isSign_35
theorem mX8_isSign (l : Launch) (Y : zLy) (g : zSt) (a1 : Int)  : ∀ v, fX8_isSign g a1 = some v → zMt l yX8_isSign cX8_isSign 2 (some .boolean) 0 [.ref (zad Y 400), .int (i32 a1)] Y g (zQi Y v g) := by
  intro v hv
  refine zmet_of RX8 rfl (by decide +kernel) (Nat.le_of_ble_eq_true rfl) ?_
  intro p e s m below meth c cx H locs ls hH hS hl
  exact wX8_isSign cx g a1  v hv H locs ls hH hS hl
theorem zc_X8_186 (cx : zCx Y p s m args meth c RX8 cc nl ret) (hpc : pc + 3 = pc') {g : zSt} {a1 : Int}  {fk : Int → Option ρ} (hR : 0 + 1 ≤ R.frames ∧ 8 + (2 + 11) + 40 * 0 ≤ R.locals) (hkn : k ≤ R.cells ∧ n ≤ R.slots) (hrest : (rest.map fun v => v.category).sum ≤ 8) (hdg : decode cc pc = .ok (.invokevirtual 186, 3)) (kk : ∀ v : Int, zWo Y p l e R s m args below meth c nl k n kq g lv (.int (i32 v) :: rest) pc' (fk v)) : zWo Y p l e R s m args below meth c nl k n kq g lv (.int (i32 a1) :: .ref (zad Y 400) :: rest) pc (zbd (fX8_isSign g a1) fk) := zr_callViP cx (an := 1) (As := [.int (i32 a1)]) 9 zkc_400 (by decide) rfl (mX8_isSign l Y g a1) (zG_V zw_1238 zw_1240 zw_77 zw_109 zw_1241) (by decide +kernel) hR hkn rfl rfl hrest hdg hpc kk
def fX8_isPartOver (g : zSt) : Option Int :=
    (if i32 0 < i32 (g.1 400 11) then
    (if i32 (g.1 400 9) = i32 42 then
    (if i32 (g.1 400 10) = i32 1 then
    zck ((1 : Int) = 0 ∨ (1 : Int) = 1) (some 1)
    else
    zck ((0 : Int) = 0 ∨ (0 : Int) = 1) (some 0))
    else
    (if i32 (g.1 400 9) = i32 33 then
    (if i32 (g.1 400 10) = i32 1 then
    zck ((1 : Int) = 0 ∨ (1 : Int) = 1) (some 1)
    else
    zck ((0 : Int) = 0 ∨ (0 : Int) = 1) (some 0))
    else
    (if i32 (g.1 400 10) = i32 2 then
    zck ((1 : Int) = 0 ∨ (1 : Int) = 1) (some 1)
    else
    zck ((0 : Int) = 0 ∨ (0 : Int) = 1) (some 0))))
    else
    zck ((0 : Int) = 0 ∨ (0 : Int) = 1) (some 0))
theorem wX8_isPartOver (cx : zCx Y p s m args meth c RX8 cX8_isPartOver 1 (some .boolean)) (g : zSt)  : zWo Y p l e (zrm 0) s m args below meth c 1 0 0 (fun v : Int => MQ below (zQi Y v g) args s 0 0 (zA Y)) g [(0, .ref (zad Y 400))] ([]) 0 (fX8_isPartOver g) := by
  unfold fX8_isPartOver
  refine zr_aload_n (pc' := 1) cx rfl 0 dX8_isPartOver_0 rfl rfl ?_
  refine zg_X8_174 (pc' := 4) cx rfl zkc_400 dX8_isPartOver_1 ?_
  refine zr_if_le (pc' := 7) cx rfl (tgt := 48) dX8_isPartOver_4 rfl ?_ ?_
  · refine zr_iconst (pc' := 49) cx rfl dX8_isPartOver_48 ?_
    exact zr_zretP cx dX8_isPartOver_49
  · refine zr_aload_n (pc' := 8) cx rfl 0 dX8_isPartOver_7 rfl rfl ?_
    refine zg_X8_168 (pc' := 11) cx rfl zkc_400 dX8_isPartOver_8 ?_
    refine zr_bipush (pc' := 13) cx rfl dX8_isPartOver_11 (by decide +kernel) ?_
    refine zr_icmp_eq (pc' := 16) cx rfl (tgt := 25) dX8_isPartOver_13 rfl ?_ ?_
    · refine zr_aload_n (pc' := 26) cx rfl 0 dX8_isPartOver_25 rfl rfl ?_
      refine zg_X8_165 (pc' := 29) cx rfl zkc_400 dX8_isPartOver_26 ?_
      refine zr_iconst (pc' := 30) cx rfl dX8_isPartOver_29 ?_
      refine zr_icmp_ne (pc' := 33) cx rfl (tgt := 48) dX8_isPartOver_30 rfl ?_ ?_
      · refine zr_iconst (pc' := 49) cx rfl dX8_isPartOver_48 ?_
        exact zr_zretP cx dX8_isPartOver_49
      · refine zr_goto cx (tgt := 44) dX8_isPartOver_33 rfl ?_
        refine zr_iconst (pc' := 45) cx rfl dX8_isPartOver_44 ?_
        refine zr_gotoS cx (tgt := 49) dX8_isPartOver_45 rfl ?_
        exact zr_zretP cx dX8_isPartOver_49
    · refine zr_aload_n (pc' := 17) cx rfl 0 dX8_isPartOver_16 rfl rfl ?_
      refine zg_X8_168 (pc' := 20) cx rfl zkc_400 dX8_isPartOver_17 ?_
      refine zr_bipush (pc' := 22) cx rfl dX8_isPartOver_20 (by decide +kernel) ?_
      refine zr_icmp_ne (pc' := 25) cx rfl (tgt := 36) dX8_isPartOver_22 rfl ?_ ?_
      · refine zr_aload_n (pc' := 37) cx rfl 0 dX8_isPartOver_36 rfl rfl ?_
        refine zg_X8_165 (pc' := 40) cx rfl zkc_400 dX8_isPartOver_37 ?_
        refine zr_iconst (pc' := 41) cx rfl dX8_isPartOver_40 ?_
        refine zr_icmp_ne (pc' := 44) cx rfl (tgt := 48) dX8_isPartOver_41 rfl ?_ ?_
        · refine zr_iconst (pc' := 49) cx rfl dX8_isPartOver_48 ?_
          exact zr_zretP cx dX8_isPartOver_49
        · refine zr_iconst (pc' := 45) cx rfl dX8_isPartOver_44 ?_
          refine zr_gotoS cx (tgt := 49) dX8_isPartOver_45 rfl ?_
          exact zr_zretP cx dX8_isPartOver_49
      · refine zr_aload_n (pc' := 26) cx rfl 0 dX8_isPartOver_25 rfl rfl ?_
        refine zg_X8_165 (pc' := 29) cx rfl zkc_400 dX8_isPartOver_26 ?_
        refine zr_iconst (pc' := 30) cx rfl dX8_isPartOver_29 ?_
        refine zr_icmp_ne (pc' := 33) cx rfl (tgt := 48) dX8_isPartOver_30 rfl ?_ ?_
        · refine zr_iconst (pc' := 49) cx rfl dX8_isPartOver_48 ?_
          exact zr_zretP cx dX8_isPartOver_49
        · refine zr_goto cx (tgt := 44) dX8_isPartOver_33 rfl ?_
          refine zr_iconst (pc' := 45) cx rfl dX8_isPartOver_44 ?_
          refine zr_gotoS cx (tgt := 49) dX8_isPartOver_45 rfl ?_
          exact zr_zretP cx dX8_isPartOver_49
theorem mX8_isPartOver (l : Launch) (Y : zLy) (g : zSt)  : ∀ v, fX8_isPartOver g = some v → zMt l yX8_isPartOver cX8_isPartOver 1 (some .boolean) 0 [.ref (zad Y 400)] Y g (zQi Y v g) := by
  intro v hv
  refine zmet_of RX8 rfl (by decide +kernel) (Nat.le_of_ble_eq_true rfl) ?_
  intro p e s m below meth c cx H locs ls hH hS hl
  exact wX8_isPartOver cx g   v hv H locs ls hH hS hl
theorem zc_X8_189 (cx : zCx Y p s m args meth c RX8 cc nl ret) (hpc : pc + 3 = pc') {g : zSt}   {fk : Int → Option ρ} (hR : 0 + 1 ≤ R.frames ∧ 8 + (1 + 11) + 40 * 0 ≤ R.locals) (hkn : k ≤ R.cells ∧ n ≤ R.slots) (hrest : (rest.map fun v => v.category).sum ≤ 8) (hdg : decode cc pc = .ok (.invokevirtual 189, 3)) (kk : ∀ v : Int, zWo Y p l e R s m args below meth c nl k n kq g lv (.int (i32 v) :: rest) pc' (fk v)) : zWo Y p l e R s m args below meth c nl k n kq g lv (.ref (zad Y 400) :: rest) pc (zbd (fX8_isPartOver g) fk) := zr_callViP cx (an := 0) (As := []) 9 zkc_400 (by decide) rfl (mX8_isPartOver l Y g) (zG_V zw_1242 zw_1244 zw_78 zw_109 zw_1245) (by decide +kernel) hR hkn rfl rfl hrest hdg hpc kk
def fX8_endPart (g : zSt) : Option zSt :=
    zck ((0 : Int) ≤ (4 * (g.1 400 12)) ∧ (4 * (g.1 400 12)) < 80) (zlet (zwr g 405 (Int.toNat (4 * (g.1 400 12))) (g.1 400 9)) (fun g1 =>
    zlet (zwr g1 400 12 ((g1.1 400 12) + 1)) (fun g2 =>
    zlet (zwr g2 400 9 0) (fun g3 =>
    zlet (zwr g3 400 10 0) (fun g4 =>
    zlet (zwr g4 400 11 0) (fun g5 =>
    some g5))))))
theorem wX8_endPart (cx : zCx Y p s m args meth c RX8 cX8_endPart 1 none) (g : zSt)  : zWo Y p l e (zrm 0) s m args below meth c 1 0 0 (fun g9 : zSt => MQ below (zQv Y g9) args s 0 0 (zA Y)) g [(0, .ref (zad Y 400))] ([]) 0 (fX8_endPart g) := by
  unfold fX8_endPart
  refine zr_aload_n (pc' := 1) cx rfl 0 dX8_endPart_0 rfl rfl ?_
  refine zg_X8_22 (pc' := 4) cx rfl zkc_400 dX8_endPart_1 ?_
  refine zr_iconst (pc' := 5) cx rfl dX8_endPart_4 ?_
  refine zr_aload_n (pc' := 6) cx rfl 0 dX8_endPart_5 rfl rfl ?_
  refine zg_X8_171 (pc' := 9) cx rfl zkc_400 dX8_endPart_6 ?_
  refine zr_imul (pc' := 10) cx rfl dX8_endPart_9 ?_
  refine zr_aload_n (pc' := 11) cx rfl 0 dX8_endPart_10 rfl rfl ?_
  refine zg_X8_168 (pc' := 14) cx rfl zkc_400 dX8_endPart_11 ?_
  refine zr_iast (pc' := 15) cx rfl 18 zkc_405 (by decide) (L := 80) rfl dX8_endPart_14 ?_
  refine zr_letS (fun g1 => ?_)
  refine zr_aload_n (pc' := 16) cx rfl 0 dX8_endPart_15 rfl rfl ?_
  refine zr_dup (pc' := 17) cx rfl dX8_endPart_16 rfl ?_
  refine zg_X8_171 (pc' := 20) cx rfl zkc_400 dX8_endPart_17 ?_
  refine zr_iconst (pc' := 21) cx rfl dX8_endPart_20 ?_
  refine zr_iadd (pc' := 22) cx rfl dX8_endPart_21 ?_
  refine zp_X8_171 (pc' := 25) cx rfl zkc_400 dX8_endPart_22 ?_
  refine zr_letS (fun g2 => ?_)
  refine zr_aload_n (pc' := 26) cx rfl 0 dX8_endPart_25 rfl rfl ?_
  refine zr_iconst (pc' := 27) cx rfl dX8_endPart_26 ?_
  refine zp_X8_168 (pc' := 30) cx rfl zkc_400 dX8_endPart_27 ?_
  refine zr_letS (fun g3 => ?_)
  refine zr_aload_n (pc' := 31) cx rfl 0 dX8_endPart_30 rfl rfl ?_
  refine zr_iconst (pc' := 32) cx rfl dX8_endPart_31 ?_
  refine zp_X8_165 (pc' := 35) cx rfl zkc_400 dX8_endPart_32 ?_
  refine zr_letS (fun g4 => ?_)
  refine zr_aload_n (pc' := 36) cx rfl 0 dX8_endPart_35 rfl rfl ?_
  refine zr_iconst (pc' := 37) cx rfl dX8_endPart_36 ?_
  refine zp_X8_174 (pc' := 40) cx rfl zkc_400 dX8_endPart_37 ?_
  refine zr_letS (fun g5 => ?_)
  exact zr_vretE cx dX8_endPart_40
theorem mX8_endPart (l : Launch) (Y : zLy) (g : zSt)  : ∀ g2, fX8_endPart g = some g2 → zMt l yX8_endPart cX8_endPart 1 none 0 [.ref (zad Y 400)] Y g (zQv Y g2) := by
  intro g2 hv
  refine zmet_of RX8 rfl (by decide +kernel) (Nat.le_of_ble_eq_true rfl) ?_
  intro p e s m below meth c cx H locs ls hH hS hl
  exact wX8_endPart cx g   g2 hv H locs ls hH hS hl
theorem zc_X8_193 (cx : zCx Y p s m args meth c RX8 cc nl ret) (hpc : pc + 3 = pc') {g : zSt}   {fk : zSt → Option ρ} (hR : 0 + 1 ≤ R.frames ∧ 8 + (1 + 11) + 40 * 0 ≤ R.locals) (hkn : k ≤ R.cells ∧ n ≤ R.slots) (hrest : (rest.map fun v => v.category).sum ≤ 8) (hdg : decode cc pc = .ok (.invokevirtual 193, 3)) (kk : ∀ g2 : zSt, zWo Y p l e R s m args below meth c nl k n kq g2 lv (rest) pc' (fk g2)) : zWo Y p l e R s m args below meth c nl k n kq g lv (.ref (zad Y 400) :: rest) pc (zbd (fX8_endPart g) fk) := zr_callVvE cx (an := 0) (As := []) 9 zkc_400 (by decide) rfl (mX8_endPart l Y g) (zG_V zw_1246 zw_1248 zw_79 zw_109 zw_1249) (by decide +kernel) hR hkn rfl rfl hrest hdg hpc kk
def fX8_takes_p129  (g : zSt) (a1 : Int) : Option (Int × zSt) :=
    (if i32 a1 = i32 59 then
    zbd (fX8_isPartOver g) (fun v1 =>
    (if i32 v1 = i32 0 then
    zck ((0 : Int) = 0 ∨ (0 : Int) = 1) (some (0, g))
    else
    zbd (fX8_endPart g) (fun g2 =>
    zck ((1 : Int) = 0 ∨ (1 : Int) = 1) (some (1, g2)))))
    else
    zck ((0 : Int) = 0 ∨ (0 : Int) = 1) (some (0, g)))
def fX8_takes_p91  (g : zSt) (y0 : Int) (a1 : Int) : Option (Int × zSt) :=
    (if i32 0 < i32 (g.1 400 11) then
    (if i32 (g.1 400 10) = i32 1 then
    (if i32 y0 = i32 0 then
    fX8_takes_p129 g a1
    else
    (if i32 a1 = i32 44 then
    zlet (zwr g 400 10 2) (fun g3 =>
    zlet (zwr g3 400 11 0) (fun g4 =>
    zck ((1 : Int) = 0 ∨ (1 : Int) = 1) (some (1, g4))))
    else
    fX8_takes_p129 g a1))
    else
    fX8_takes_p129 g a1)
    else
    fX8_takes_p129 g a1)
def fX8_takes_p59  (g : zSt) (a1 : Int) : Option (Int × zSt) :=
    (if i32 (g.1 400 9) = i32 62 then
    fX8_takes_p91 g 1 a1
    else
    (if i32 (g.1 400 9) = i32 37 then
    fX8_takes_p91 g 1 a1
    else
    (if i32 (g.1 400 9) = i32 35 then
    fX8_takes_p91 g 1 a1
    else
    fX8_takes_p91 g 0 a1)))
def fX8_takes (g : zSt) (a1 : Int) : Option (Int × zSt) :=
    zbd (fX8_within g a1 48 57) (fun v5 =>
    (if i32 v5 = i32 0 then
    (if i32 0 < i32 (g.1 400 11) then
    (if i32 (g.1 400 10) = i32 0 then
    zbd (fX8_isSign g a1) (fun v6 =>
    (if i32 v6 = i32 0 then
    fX8_takes_p59 g a1
    else
    zlet (zwr g 400 9 a1) (fun g7 =>
    zlet (zwr g7 400 10 1) (fun g8 =>
    zlet (zwr g8 400 11 0) (fun g9 =>
    zck ((1 : Int) = 0 ∨ (1 : Int) = 1) (some (1, g9)))))))
    else
    fX8_takes_p59 g a1)
    else
    fX8_takes_p59 g a1)
    else
    zbe (fX8_takesDigit g (a1 - 48)) (fun v10 g11 =>
    zck ((v10 : Int) = 0 ∨ (v10 : Int) = 1) (some (v10, g11)))))
theorem wX8_takes_p129 (cx : zCx Y p s m args meth c RX8 cX8_takes 3 (some .boolean))   : ∀ (g : zSt) (a1 : Int), zWo Y p l e (zrm 2) s m args below meth c 3 0 0 (fun q : Int × zSt => MQ below (zQi Y q.1 q.2) args s 0 0 (zA Y)) g [(0, .ref (zad Y 400)), (1, .int (i32 a1))] ([]) 129 (fX8_takes_p129 g a1) := by
  intro g a1
  unfold fX8_takes_p129
  refine zr_iload_n (pc' := 130) cx rfl 1 dX8_takes_129 rfl rfl ?_
  refine zr_bipush (pc' := 132) cx rfl dX8_takes_130 (by decide +kernel) ?_
  refine zr_icmp_ne (pc' := 135) cx rfl (tgt := 148) dX8_takes_132 rfl ?_ ?_
  · refine zr_iconst (pc' := 149) cx rfl dX8_takes_148 ?_
    exact zr_zretE cx dX8_takes_149
  · refine zr_aload_n (pc' := 136) cx rfl 0 dX8_takes_135 rfl rfl ?_
    refine zc_X8_189 (pc' := 139) cx rfl  ⟨Nat.le_of_ble_eq_true rfl, Nat.le_of_ble_eq_true rfl⟩ ⟨Nat.zero_le _, Nat.zero_le _⟩ (Nat.le_of_ble_eq_true rfl) dX8_takes_136 (fun v1 => ?_)
    refine zr_if_eq (pc' := 142) cx rfl (tgt := 148) dX8_takes_139 rfl ?_ ?_
    · refine zr_iconst (pc' := 149) cx rfl dX8_takes_148 ?_
      exact zr_zretE cx dX8_takes_149
    · refine zr_aload_n (pc' := 143) cx rfl 0 dX8_takes_142 rfl rfl ?_
      refine zc_X8_193 (pc' := 146) cx rfl  ⟨Nat.le_of_ble_eq_true rfl, Nat.le_of_ble_eq_true rfl⟩ ⟨Nat.zero_le _, Nat.zero_le _⟩ (Nat.le_of_ble_eq_true rfl) dX8_takes_143 (fun g2 => ?_)
      refine zr_iconst (pc' := 147) cx rfl dX8_takes_146 ?_
      exact zr_zretE cx dX8_takes_147
theorem wX8_takes_p91 (cx : zCx Y p s m args meth c RX8 cX8_takes 3 (some .boolean))   : ∀ (g : zSt) (y0 : Int) (a1 : Int), zWo Y p l e (zrm 2) s m args below meth c 3 0 0 (fun q : Int × zSt => MQ below (zQi Y q.1 q.2) args s 0 0 (zA Y)) g [(0, .ref (zad Y 400)), (1, .int (i32 a1))] (.int (i32 y0) :: []) 91 (fX8_takes_p91 g y0 a1) := by
  intro g y0 a1
  unfold fX8_takes_p91
  refine zr_istore_n (pc' := 92) cx rfl (lv' := [(2, .int (i32 y0)), (0, .ref (zad Y 400)), (1, .int (i32 a1))]) dX8_takes_91 rfl (by decide) rfl ?_
  refine zr_aload_n (pc' := 93) cx rfl 1 dX8_takes_92 rfl rfl ?_
  refine zg_X8_174 (pc' := 96) cx rfl zkc_400 dX8_takes_93 ?_
  refine zr_if_le (pc' := 99) cx rfl (tgt := 129) dX8_takes_96 rfl ?_ ?_
  · refine zr_sub [1, 2] rfl ?_
    exact wX8_takes_p129 cx g a1
  · refine zr_aload_n (pc' := 100) cx rfl 1 dX8_takes_99 rfl rfl ?_
    refine zg_X8_165 (pc' := 103) cx rfl zkc_400 dX8_takes_100 ?_
    refine zr_iconst (pc' := 104) cx rfl dX8_takes_103 ?_
    refine zr_icmp_ne (pc' := 107) cx rfl (tgt := 129) dX8_takes_104 rfl ?_ ?_
    · refine zr_sub [1, 2] rfl ?_
      exact wX8_takes_p129 cx g a1
    · refine zr_iload_n (pc' := 108) cx rfl 0 dX8_takes_107 rfl rfl ?_
      refine zr_if_eq (pc' := 111) cx rfl (tgt := 129) dX8_takes_108 rfl ?_ ?_
      · refine zr_sub [1, 2] rfl ?_
        exact wX8_takes_p129 cx g a1
      · refine zr_iload_n (pc' := 112) cx rfl 2 dX8_takes_111 rfl rfl ?_
        refine zr_bipush (pc' := 114) cx rfl dX8_takes_112 (by decide +kernel) ?_
        refine zr_icmp_ne (pc' := 117) cx rfl (tgt := 129) dX8_takes_114 rfl ?_ ?_
        · refine zr_sub [1, 2] rfl ?_
          exact wX8_takes_p129 cx g a1
        · refine zr_aload_n (pc' := 118) cx rfl 1 dX8_takes_117 rfl rfl ?_
          refine zr_iconst (pc' := 119) cx rfl dX8_takes_118 ?_
          refine zp_X8_165 (pc' := 122) cx rfl zkc_400 dX8_takes_119 ?_
          refine zr_letS (fun g3 => ?_)
          refine zr_aload_n (pc' := 123) cx rfl 1 dX8_takes_122 rfl rfl ?_
          refine zr_iconst (pc' := 124) cx rfl dX8_takes_123 ?_
          refine zp_X8_174 (pc' := 127) cx rfl zkc_400 dX8_takes_124 ?_
          refine zr_letS (fun g4 => ?_)
          refine zr_iconst (pc' := 128) cx rfl dX8_takes_127 ?_
          exact zr_zretE cx dX8_takes_128
theorem wX8_takes_p59 (cx : zCx Y p s m args meth c RX8 cX8_takes 3 (some .boolean))   : ∀ (g : zSt) (a1 : Int), zWo Y p l e (zrm 2) s m args below meth c 3 0 0 (fun q : Int × zSt => MQ below (zQi Y q.1 q.2) args s 0 0 (zA Y)) g [(0, .ref (zad Y 400)), (1, .int (i32 a1))] ([]) 59 (fX8_takes_p59 g a1) := by
  intro g a1
  unfold fX8_takes_p59
  refine zr_aload_n (pc' := 60) cx rfl 0 dX8_takes_59 rfl rfl ?_
  refine zg_X8_168 (pc' := 63) cx rfl zkc_400 dX8_takes_60 ?_
  refine zr_bipush (pc' := 65) cx rfl dX8_takes_63 (by decide +kernel) ?_
  refine zr_icmp_eq (pc' := 68) cx rfl (tgt := 86) dX8_takes_65 rfl ?_ ?_
  · refine zr_iconst (pc' := 87) cx rfl dX8_takes_86 ?_
    refine zr_gotoS cx (tgt := 91) dX8_takes_87 rfl ?_
    refine zr_sub [0, 1] rfl ?_
    exact wX8_takes_p91 cx g 1 a1
  · refine zr_aload_n (pc' := 69) cx rfl 0 dX8_takes_68 rfl rfl ?_
    refine zg_X8_168 (pc' := 72) cx rfl zkc_400 dX8_takes_69 ?_
    refine zr_bipush (pc' := 74) cx rfl dX8_takes_72 (by decide +kernel) ?_
    refine zr_icmp_eq (pc' := 77) cx rfl (tgt := 86) dX8_takes_74 rfl ?_ ?_
    · refine zr_iconst (pc' := 87) cx rfl dX8_takes_86 ?_
      refine zr_gotoS cx (tgt := 91) dX8_takes_87 rfl ?_
      refine zr_sub [0, 1] rfl ?_
      exact wX8_takes_p91 cx g 1 a1
    · refine zr_aload_n (pc' := 78) cx rfl 0 dX8_takes_77 rfl rfl ?_
      refine zg_X8_168 (pc' := 81) cx rfl zkc_400 dX8_takes_78 ?_
      refine zr_bipush (pc' := 83) cx rfl dX8_takes_81 (by decide +kernel) ?_
      refine zr_icmp_ne (pc' := 86) cx rfl (tgt := 90) dX8_takes_83 rfl ?_ ?_
      · refine zr_iconst (pc' := 91) cx rfl dX8_takes_90 ?_
        refine zr_sub [0, 1] rfl ?_
        exact wX8_takes_p91 cx g 0 a1
      · refine zr_iconst (pc' := 87) cx rfl dX8_takes_86 ?_
        refine zr_gotoS cx (tgt := 91) dX8_takes_87 rfl ?_
        refine zr_sub [0, 1] rfl ?_
        exact wX8_takes_p91 cx g 1 a1
theorem wX8_takes (cx : zCx Y p s m args meth c RX8 cX8_takes 3 (some .boolean)) (g : zSt) (a1 : Int)  : zWo Y p l e (zrm 2) s m args below meth c 3 0 0 (fun q : Int × zSt => MQ below (zQi Y q.1 q.2) args s 0 0 (zA Y)) g [(0, .ref (zad Y 400)), (1, .int (i32 a1))] ([]) 0 (fX8_takes g a1) := by
  unfold fX8_takes
  refine zr_iload_n (pc' := 1) cx rfl 1 dX8_takes_0 rfl rfl ?_
  refine zr_bipush (pc' := 3) cx rfl dX8_takes_1 (by decide +kernel) ?_
  refine zr_bipush (pc' := 5) cx rfl dX8_takes_3 (by decide +kernel) ?_
  refine zc_X8_29 (pc' := 8) cx rfl  ⟨Nat.le_of_ble_eq_true rfl, Nat.le_of_ble_eq_true rfl⟩ ⟨Nat.zero_le _, Nat.zero_le _⟩ (Nat.le_of_ble_eq_true rfl) dX8_takes_5 (fun v5 => ?_)
  refine zr_if_eq (pc' := 11) cx rfl (tgt := 20) dX8_takes_8 rfl ?_ ?_
  · refine zr_aload_n (pc' := 21) cx rfl 0 dX8_takes_20 rfl rfl ?_
    refine zg_X8_174 (pc' := 24) cx rfl zkc_400 dX8_takes_21 ?_
    refine zr_if_le (pc' := 27) cx rfl (tgt := 59) dX8_takes_24 rfl ?_ ?_
    · refine zr_sub [0, 1] rfl ?_
      exact wX8_takes_p59 cx g a1
    · refine zr_aload_n (pc' := 28) cx rfl 0 dX8_takes_27 rfl rfl ?_
      refine zg_X8_165 (pc' := 31) cx rfl zkc_400 dX8_takes_28 ?_
      refine zr_if_ne (pc' := 34) cx rfl (tgt := 59) dX8_takes_31 rfl ?_ ?_
      · refine zr_sub [0, 1] rfl ?_
        exact wX8_takes_p59 cx g a1
      · refine zr_aload_n (pc' := 35) cx rfl 0 dX8_takes_34 rfl rfl ?_
        refine zr_iload_n (pc' := 36) cx rfl 1 dX8_takes_35 rfl rfl ?_
        refine zc_X8_186 (pc' := 39) cx rfl  ⟨Nat.le_of_ble_eq_true rfl, Nat.le_of_ble_eq_true rfl⟩ ⟨Nat.zero_le _, Nat.zero_le _⟩ (Nat.le_of_ble_eq_true rfl) dX8_takes_36 (fun v6 => ?_)
        refine zr_if_eq (pc' := 42) cx rfl (tgt := 59) dX8_takes_39 rfl ?_ ?_
        · refine zr_sub [0, 1] rfl ?_
          exact wX8_takes_p59 cx g a1
        · refine zr_aload_n (pc' := 43) cx rfl 0 dX8_takes_42 rfl rfl ?_
          refine zr_iload_n (pc' := 44) cx rfl 1 dX8_takes_43 rfl rfl ?_
          refine zp_X8_168 (pc' := 47) cx rfl zkc_400 dX8_takes_44 ?_
          refine zr_letS (fun g7 => ?_)
          refine zr_aload_n (pc' := 48) cx rfl 0 dX8_takes_47 rfl rfl ?_
          refine zr_iconst (pc' := 49) cx rfl dX8_takes_48 ?_
          refine zp_X8_165 (pc' := 52) cx rfl zkc_400 dX8_takes_49 ?_
          refine zr_letS (fun g8 => ?_)
          refine zr_aload_n (pc' := 53) cx rfl 0 dX8_takes_52 rfl rfl ?_
          refine zr_iconst (pc' := 54) cx rfl dX8_takes_53 ?_
          refine zp_X8_174 (pc' := 57) cx rfl zkc_400 dX8_takes_54 ?_
          refine zr_letS (fun g9 => ?_)
          refine zr_iconst (pc' := 58) cx rfl dX8_takes_57 ?_
          exact zr_zretE cx dX8_takes_58
  · refine zr_aload_n (pc' := 12) cx rfl 0 dX8_takes_11 rfl rfl ?_
    refine zr_iload_n (pc' := 13) cx rfl 1 dX8_takes_12 rfl rfl ?_
    refine zr_bipush (pc' := 15) cx rfl dX8_takes_13 (by decide +kernel) ?_
    refine zr_isub (pc' := 16) cx rfl dX8_takes_15 ?_
    refine zc_X8_183 (pc' := 19) cx rfl  ⟨Nat.le_of_ble_eq_true rfl, Nat.le_of_ble_eq_true rfl⟩ ⟨Nat.zero_le _, Nat.zero_le _⟩ (Nat.le_of_ble_eq_true rfl) dX8_takes_16 (fun v10 g11 => ?_)
    exact zr_zretE cx dX8_takes_19
theorem mX8_takes (l : Launch) (Y : zLy) (g : zSt) (a1 : Int)  : ∀ v g2, fX8_takes g a1 = some (v, g2) → zMt l yX8_takes cX8_takes 3 (some .boolean) 2 [.ref (zad Y 400), .int (i32 a1)] Y g (zQi Y v g2) := by
  intro v g2 hv
  refine zmet_of RX8 rfl (by decide +kernel) (Nat.le_of_ble_eq_true rfl) ?_
  intro p e s m below meth c cx H locs ls hH hS hl
  exact wX8_takes cx g a1  (v, g2) hv H locs ls hH hS hl
theorem zc_X8_196 (cx : zCx Y p s m args meth c RX8 cc nl ret) (hpc : pc + 3 = pc') {g : zSt} {a1 : Int}  {fk : Int → zSt → Option ρ} (hR : 2 + 1 ≤ R.frames ∧ 8 + (3 + 11) + 40 * 2 ≤ R.locals) (hkn : k ≤ R.cells ∧ n ≤ R.slots) (hrest : (rest.map fun v => v.category).sum ≤ 8) (hdg : decode cc pc = .ok (.invokevirtual 196, 3)) (kk : ∀ (v : Int) (g2 : zSt), zWo Y p l e R s m args below meth c nl k n kq g2 lv (.int (i32 v) :: rest) pc' (fk v g2)) : zWo Y p l e R s m args below meth c nl k n kq g lv (.int (i32 a1) :: .ref (zad Y 400) :: rest) pc (zbe (fX8_takes g a1) fk) := zr_callViE cx (an := 1) (As := [.int (i32 a1)]) 9 zkc_400 (by decide) rfl (mX8_takes l Y g a1) (zG_V zw_1222 zw_1224 zw_73 zw_109 zw_1225) (by decide +kernel) hR hkn rfl rfl hrest hdg hpc kk
def fX8_readText_p22  : Nat → zSt → Int → Option (Int × zSt)
  | 0, _, _ => none
  | fu + 1, g, a1 =>
    (if i32 a1 < i32 (g.1 400 4) then
    zck ((0 : Int) ≤ a1 ∧ a1 < 60) (
    zbe (fX8_takes g (g.1 403 (Int.toNat a1))) (fun v1 g2 =>
    (if i32 v1 = i32 0 then
    some (a1, g2)
    else
    fX8_readText_p22 fu g2 (a1 + 1))))
    else
    some (a1, g))
def fX8_readText (g : zSt) : Option (Int × zSt) :=
    zlet (zwr g 400 12 0) (fun g3 =>
    zlet (zwr g3 400 9 0) (fun g4 =>
    zlet (zwr g4 400 10 0) (fun g5 =>
    zlet (zwr g5 400 11 0) (fun g6 =>
    fX8_readText_p22 zfu g6 0))))
theorem wX8_readText_p22 (cx : zCx Y p s m args meth c RX8 cX8_readText 2 (some .int))   : ∀ (fu : Nat) (g : zSt) (a1 : Int), zWo Y p l e (zrm 3) s m args below meth c 2 0 0 (fun q : Int × zSt => MQ below (zQi Y q.1 q.2) args s 0 0 (zA Y)) g [(0, .ref (zad Y 400)), (1, .int (i32 a1))] ([]) 22 (fX8_readText_p22 fu g a1) := by
  intro fu
  induction fu with
  | zero => intro g a1; exact zr_none
  | succ fu ih =>
    intro g a1
    rw [fX8_readText_p22]
    refine zr_iload_n (pc' := 23) cx rfl 1 dX8_readText_22 rfl rfl ?_
    refine zr_aload_n (pc' := 24) cx rfl 0 dX8_readText_23 rfl rfl ?_
    refine zg_X8_162 (pc' := 27) cx rfl zkc_400 dX8_readText_24 ?_
    refine zr_icmp_ge (pc' := 30) cx rfl (tgt := 49) dX8_readText_27 rfl ?_ ?_
    · refine zr_iload_n (pc' := 50) cx rfl 1 dX8_readText_49 rfl rfl ?_
      exact zr_iretE cx dX8_readText_50
    · refine zr_aload_n (pc' := 31) cx rfl 0 dX8_readText_30 rfl rfl ?_
      refine zr_aload_n (pc' := 32) cx rfl 0 dX8_readText_31 rfl rfl ?_
      refine zg_X8_16 (pc' := 35) cx rfl zkc_400 dX8_readText_32 ?_
      refine zr_iload_n (pc' := 36) cx rfl 1 dX8_readText_35 rfl rfl ?_
      refine zr_iald (pc' := 37) cx rfl 15 zkc_403 (by decide) (L := 60) rfl dX8_readText_36 ?_
      refine zc_X8_196 (pc' := 40) cx rfl  ⟨Nat.le_of_ble_eq_true rfl, Nat.le_of_ble_eq_true rfl⟩ ⟨Nat.zero_le _, Nat.zero_le _⟩ (Nat.le_of_ble_eq_true rfl) dX8_readText_37 (fun v1 g2 => ?_)
      refine zr_if_eq (pc' := 43) cx rfl (tgt := 49) dX8_readText_40 rfl ?_ ?_
      · refine zr_iload_n (pc' := 50) cx rfl 1 dX8_readText_49 rfl rfl ?_
        exact zr_iretE cx dX8_readText_50
      · refine zr_iinc (pc' := 46) cx rfl (lv' := [(1, .int (i32 (a1 + 1))), (0, .ref (zad Y 400))]) 1 dX8_readText_43 rfl (by decide) rfl ?_
        refine zr_goto cx (tgt := 22) dX8_readText_46 rfl ?_
        refine zr_sub [1, 0] rfl ?_
        exact ih g2 (a1 + 1)
theorem wX8_readText (cx : zCx Y p s m args meth c RX8 cX8_readText 2 (some .int)) (g : zSt)  : zWo Y p l e (zrm 3) s m args below meth c 2 0 0 (fun q : Int × zSt => MQ below (zQi Y q.1 q.2) args s 0 0 (zA Y)) g [(0, .ref (zad Y 400))] ([]) 0 (fX8_readText g) := by
  unfold fX8_readText
  refine zr_aload_n (pc' := 1) cx rfl 0 dX8_readText_0 rfl rfl ?_
  refine zr_iconst (pc' := 2) cx rfl dX8_readText_1 ?_
  refine zp_X8_171 (pc' := 5) cx rfl zkc_400 dX8_readText_2 ?_
  refine zr_letS (fun g3 => ?_)
  refine zr_aload_n (pc' := 6) cx rfl 0 dX8_readText_5 rfl rfl ?_
  refine zr_iconst (pc' := 7) cx rfl dX8_readText_6 ?_
  refine zp_X8_168 (pc' := 10) cx rfl zkc_400 dX8_readText_7 ?_
  refine zr_letS (fun g4 => ?_)
  refine zr_aload_n (pc' := 11) cx rfl 0 dX8_readText_10 rfl rfl ?_
  refine zr_iconst (pc' := 12) cx rfl dX8_readText_11 ?_
  refine zp_X8_165 (pc' := 15) cx rfl zkc_400 dX8_readText_12 ?_
  refine zr_letS (fun g5 => ?_)
  refine zr_aload_n (pc' := 16) cx rfl 0 dX8_readText_15 rfl rfl ?_
  refine zr_iconst (pc' := 17) cx rfl dX8_readText_16 ?_
  refine zp_X8_174 (pc' := 20) cx rfl zkc_400 dX8_readText_17 ?_
  refine zr_letS (fun g6 => ?_)
  refine zr_iconst (pc' := 21) cx rfl dX8_readText_20 ?_
  refine zr_istore_n (pc' := 22) cx rfl (lv' := [(1, .int (i32 0)), (0, .ref (zad Y 400))]) dX8_readText_21 rfl (by decide) rfl ?_
  refine zr_sub [1, 0] rfl ?_
  exact wX8_readText_p22 cx zfu g6 0
theorem mX8_readText (l : Launch) (Y : zLy) (g : zSt)  : ∀ v g2, fX8_readText g = some (v, g2) → zMt l yX8_readText cX8_readText 2 (some .int) 3 [.ref (zad Y 400)] Y g (zQi Y v g2) := by
  intro v g2 hv
  refine zmet_of RX8 rfl (by decide +kernel) (Nat.le_of_ble_eq_true rfl) ?_
  intro p e s m below meth c cx H locs ls hH hS hl
  exact wX8_readText cx g   (v, g2) hv H locs ls hH hS hl
theorem zc_X8_199 (cx : zCx Y p s m args meth c RX8 cc nl ret) (hpc : pc + 3 = pc') {g : zSt}   {fk : Int → zSt → Option ρ} (hR : 3 + 1 ≤ R.frames ∧ 8 + (2 + 11) + 40 * 3 ≤ R.locals) (hkn : k ≤ R.cells ∧ n ≤ R.slots) (hrest : (rest.map fun v => v.category).sum ≤ 8) (hdg : decode cc pc = .ok (.invokevirtual 199, 3)) (kk : ∀ (v : Int) (g2 : zSt), zWo Y p l e R s m args below meth c nl k n kq g2 lv (.int (i32 v) :: rest) pc' (fk v g2)) : zWo Y p l e R s m args below meth c nl k n kq g lv (.ref (zad Y 400) :: rest) pc (zbe (fX8_readText g) fk) := zr_callViE cx (an := 0) (As := []) 9 zkc_400 (by decide) rfl (mX8_readText l Y g) (zG_V zw_1218 zw_1220 zw_72 zw_109 zw_1221) (by decide +kernel) hR hkn rfl rfl hrest hdg hpc kk
def fX8_firstError (g : zSt) : Option (Int × zSt) :=
    zlet (zwr g 400 0 0) (fun g1 =>
    zbe (fX8_readText g1) (fun v2 g3 =>
    some (v2, g3)))
theorem wX8_firstError (cx : zCx Y p s m args meth c RX8 cX8_firstError 1 (some .int)) (g : zSt)  : zWo Y p l e (zrm 4) s m args below meth c 1 0 0 (fun q : Int × zSt => MQ below (zQi Y q.1 q.2) args s 0 0 (zA Y)) g [(0, .ref (zad Y 400))] ([]) 0 (fX8_firstError g) := by
  unfold fX8_firstError
  refine zr_aload_n (pc' := 1) cx rfl 0 dX8_firstError_0 rfl rfl ?_
  refine zr_iconst (pc' := 2) cx rfl dX8_firstError_1 ?_
  refine zp_X8_25 (pc' := 5) cx rfl zkc_400 dX8_firstError_2 ?_
  refine zr_letS (fun g1 => ?_)
  refine zr_aload_n (pc' := 6) cx rfl 0 dX8_firstError_5 rfl rfl ?_
  refine zc_X8_199 (pc' := 9) cx rfl  ⟨Nat.le_of_ble_eq_true rfl, Nat.le_of_ble_eq_true rfl⟩ ⟨Nat.zero_le _, Nat.zero_le _⟩ (Nat.le_of_ble_eq_true rfl) dX8_firstError_6 (fun v2 g3 => ?_)
  exact zr_iretE cx dX8_firstError_9
theorem mX8_firstError (l : Launch) (Y : zLy) (g : zSt)  : ∀ v g2, fX8_firstError g = some (v, g2) → zMt l yX8_firstError cX8_firstError 1 (some .int) 4 [.ref (zad Y 400)] Y g (zQi Y v g2) := by
  intro v g2 hv
  refine zmet_of RX8 rfl (by decide +kernel) (Nat.le_of_ble_eq_true rfl) ?_
  intro p e s m below meth c cx H locs ls hH hS hl
  exact wX8_firstError cx g   (v, g2) hv H locs ls hH hS hl
def fX8_whyNoPart (g : zSt) (a1 : Int) : Option Int :=
    zlet (4 * a1) (fun x1 =>
    zck ((0 : Int) ≤ x1 ∧ x1 < 80) (
    (if i32 (g.1 405 (Int.toNat x1)) = i32 33 then
    zck ((0 : Int) ≤ (x1 + 1) ∧ (x1 + 1) < 80) (
    zck ((0 : Int) ≤ (x1 + 2) ∧ (x1 + 2) < 80) (
    zbd (fX8_whyNoLantern g (g.1 405 (Int.toNat (x1 + 1))) (g.1 405 (Int.toNat (x1 + 2)))) (fun v2 =>
    some v2)))
    else
    (if i32 (g.1 405 (Int.toNat x1)) = i32 35 then
    zck ((0 : Int) ≤ (x1 + 1) ∧ (x1 + 1) < 80) (
    zck ((0 : Int) ≤ (x1 + 2) ∧ (x1 + 2) < 80) (
    zck ((0 : Int) ≤ (x1 + 3) ∧ (x1 + 3) < 80) (
    zbd (fX8_whyNoFault g (g.1 405 (Int.toNat (x1 + 1))) (g.1 405 (Int.toNat (x1 + 2))) (g.1 405 (Int.toNat (x1 + 3)))) (fun v3 =>
    some v3))))
    else
    (if i32 (g.1 405 (Int.toNat x1)) = i32 42 then
    zck ((0 : Int) ≤ (x1 + 1) ∧ (x1 + 1) < 80) (
    zck ((0 : Int) ≤ (x1 + 2) ∧ (x1 + 2) < 80) (
    zbd (fX8_whyNoLantern g (g.1 405 (Int.toNat (x1 + 1))) (g.1 405 (Int.toNat (x1 + 2)))) (fun v4 =>
    some v4)))
    else
    zck ((0 : Int) ≤ (x1 + 1) ∧ (x1 + 1) < 80) (
    zck ((0 : Int) ≤ (x1 + 2) ∧ (x1 + 2) < 80) (
    zck ((0 : Int) ≤ (x1 + 3) ∧ (x1 + 3) < 80) (
    zbd (fX8_whyNoBox g (g.1 405 (Int.toNat (x1 + 1))) (g.1 405 (Int.toNat (x1 + 2))) (g.1 405 (Int.toNat (x1 + 3)))) (fun v5 =>
    some v5)))))))))
theorem wX8_whyNoPart (cx : zCx Y p s m args meth c RX8 cX8_whyNoPart 3 (some .int)) (g : zSt) (a1 : Int)  : zWo Y p l e (zrm 3) s m args below meth c 3 0 0 (fun v : Int => MQ below (zQi Y v g) args s 0 0 (zA Y)) g [(0, .ref (zad Y 400)), (1, .int (i32 a1))] ([]) 0 (fX8_whyNoPart g a1) := by
  unfold fX8_whyNoPart
  refine zr_iconst (pc' := 1) cx rfl dX8_whyNoPart_0 ?_
  refine zr_iload_n (pc' := 2) cx rfl 1 dX8_whyNoPart_1 rfl rfl ?_
  refine zr_imul (pc' := 3) cx rfl dX8_whyNoPart_2 ?_
  refine zr_leti (fun x1 => ?_)
  refine zr_istore_n (pc' := 4) cx rfl (lv' := [(2, .int (i32 x1)), (0, .ref (zad Y 400)), (1, .int (i32 a1))]) dX8_whyNoPart_3 rfl (by decide) rfl ?_
  refine zr_aload_n (pc' := 5) cx rfl 1 dX8_whyNoPart_4 rfl rfl ?_
  refine zg_X8_22 (pc' := 8) cx rfl zkc_400 dX8_whyNoPart_5 ?_
  refine zr_iload_n (pc' := 9) cx rfl 0 dX8_whyNoPart_8 rfl rfl ?_
  refine zr_iald (pc' := 10) cx rfl 18 zkc_405 (by decide) (L := 80) rfl dX8_whyNoPart_9 ?_
  refine zr_case (fun h => ?_) (fun n0 => ?_)
  · refine zr_look cx (off := 34) (tgt := 44) dX8_whyNoPart_10 (by decide +kernel) (by rw [h]; decide +kernel) rfl ?_
    refine zr_aload_n (pc' := 45) cx rfl 1 dX8_whyNoPart_44 rfl rfl ?_
    refine zr_aload_n (pc' := 46) cx rfl 1 dX8_whyNoPart_45 rfl rfl ?_
    refine zg_X8_22 (pc' := 49) cx rfl zkc_400 dX8_whyNoPart_46 ?_
    refine zr_iload_n (pc' := 50) cx rfl 0 dX8_whyNoPart_49 rfl rfl ?_
    refine zr_iconst (pc' := 51) cx rfl dX8_whyNoPart_50 ?_
    refine zr_iadd (pc' := 52) cx rfl dX8_whyNoPart_51 ?_
    refine zr_iald (pc' := 53) cx rfl 18 zkc_405 (by decide) (L := 80) rfl dX8_whyNoPart_52 ?_
    refine zr_aload_n (pc' := 54) cx rfl 1 dX8_whyNoPart_53 rfl rfl ?_
    refine zg_X8_22 (pc' := 57) cx rfl zkc_400 dX8_whyNoPart_54 ?_
    refine zr_iload_n (pc' := 58) cx rfl 0 dX8_whyNoPart_57 rfl rfl ?_
    refine zr_iconst (pc' := 59) cx rfl dX8_whyNoPart_58 ?_
    refine zr_iadd (pc' := 60) cx rfl dX8_whyNoPart_59 ?_
    refine zr_iald (pc' := 61) cx rfl 18 zkc_405 (by decide) (L := 80) rfl dX8_whyNoPart_60 ?_
    refine zc_X8_138 (pc' := 64) cx rfl  ⟨Nat.le_of_ble_eq_true rfl, Nat.le_of_ble_eq_true rfl⟩ ⟨Nat.zero_le _, Nat.zero_le _⟩ (Nat.le_of_ble_eq_true rfl) dX8_whyNoPart_61 (fun v2 => ?_)
    exact zr_iretP cx dX8_whyNoPart_64
  · refine zr_case (fun h => ?_) (fun n1 => ?_)
    · refine zr_look cx (off := 55) (tgt := 65) dX8_whyNoPart_10 (by decide +kernel) (by rw [h]; decide +kernel) rfl ?_
      refine zr_aload_n (pc' := 66) cx rfl 1 dX8_whyNoPart_65 rfl rfl ?_
      refine zr_aload_n (pc' := 67) cx rfl 1 dX8_whyNoPart_66 rfl rfl ?_
      refine zg_X8_22 (pc' := 70) cx rfl zkc_400 dX8_whyNoPart_67 ?_
      refine zr_iload_n (pc' := 71) cx rfl 0 dX8_whyNoPart_70 rfl rfl ?_
      refine zr_iconst (pc' := 72) cx rfl dX8_whyNoPart_71 ?_
      refine zr_iadd (pc' := 73) cx rfl dX8_whyNoPart_72 ?_
      refine zr_iald (pc' := 74) cx rfl 18 zkc_405 (by decide) (L := 80) rfl dX8_whyNoPart_73 ?_
      refine zr_aload_n (pc' := 75) cx rfl 1 dX8_whyNoPart_74 rfl rfl ?_
      refine zg_X8_22 (pc' := 78) cx rfl zkc_400 dX8_whyNoPart_75 ?_
      refine zr_iload_n (pc' := 79) cx rfl 0 dX8_whyNoPart_78 rfl rfl ?_
      refine zr_iconst (pc' := 80) cx rfl dX8_whyNoPart_79 ?_
      refine zr_iadd (pc' := 81) cx rfl dX8_whyNoPart_80 ?_
      refine zr_iald (pc' := 82) cx rfl 18 zkc_405 (by decide) (L := 80) rfl dX8_whyNoPart_81 ?_
      refine zr_aload_n (pc' := 83) cx rfl 1 dX8_whyNoPart_82 rfl rfl ?_
      refine zg_X8_22 (pc' := 86) cx rfl zkc_400 dX8_whyNoPart_83 ?_
      refine zr_iload_n (pc' := 87) cx rfl 0 dX8_whyNoPart_86 rfl rfl ?_
      refine zr_iconst (pc' := 88) cx rfl dX8_whyNoPart_87 ?_
      refine zr_iadd (pc' := 89) cx rfl dX8_whyNoPart_88 ?_
      refine zr_iald (pc' := 90) cx rfl 18 zkc_405 (by decide) (L := 80) rfl dX8_whyNoPart_89 ?_
      refine zc_X8_148 (pc' := 93) cx rfl  ⟨Nat.le_of_ble_eq_true rfl, Nat.le_of_ble_eq_true rfl⟩ ⟨Nat.zero_le _, Nat.zero_le _⟩ (Nat.le_of_ble_eq_true rfl) dX8_whyNoPart_90 (fun v3 => ?_)
      exact zr_iretP cx dX8_whyNoPart_93
    · refine zr_case (fun h => ?_) (fun n2 => ?_)
      · refine zr_look cx (off := 34) (tgt := 44) dX8_whyNoPart_10 (by decide +kernel) (by rw [h]; decide +kernel) rfl ?_
        refine zr_aload_n (pc' := 45) cx rfl 1 dX8_whyNoPart_44 rfl rfl ?_
        refine zr_aload_n (pc' := 46) cx rfl 1 dX8_whyNoPart_45 rfl rfl ?_
        refine zg_X8_22 (pc' := 49) cx rfl zkc_400 dX8_whyNoPart_46 ?_
        refine zr_iload_n (pc' := 50) cx rfl 0 dX8_whyNoPart_49 rfl rfl ?_
        refine zr_iconst (pc' := 51) cx rfl dX8_whyNoPart_50 ?_
        refine zr_iadd (pc' := 52) cx rfl dX8_whyNoPart_51 ?_
        refine zr_iald (pc' := 53) cx rfl 18 zkc_405 (by decide) (L := 80) rfl dX8_whyNoPart_52 ?_
        refine zr_aload_n (pc' := 54) cx rfl 1 dX8_whyNoPart_53 rfl rfl ?_
        refine zg_X8_22 (pc' := 57) cx rfl zkc_400 dX8_whyNoPart_54 ?_
        refine zr_iload_n (pc' := 58) cx rfl 0 dX8_whyNoPart_57 rfl rfl ?_
        refine zr_iconst (pc' := 59) cx rfl dX8_whyNoPart_58 ?_
        refine zr_iadd (pc' := 60) cx rfl dX8_whyNoPart_59 ?_
        refine zr_iald (pc' := 61) cx rfl 18 zkc_405 (by decide) (L := 80) rfl dX8_whyNoPart_60 ?_
        refine zc_X8_138 (pc' := 64) cx rfl  ⟨Nat.le_of_ble_eq_true rfl, Nat.le_of_ble_eq_true rfl⟩ ⟨Nat.zero_le _, Nat.zero_le _⟩ (Nat.le_of_ble_eq_true rfl) dX8_whyNoPart_61 (fun v4 => ?_)
        exact zr_iretP cx dX8_whyNoPart_64
      · refine zr_look cx (off := 84) (tgt := 94) dX8_whyNoPart_10 (by decide +kernel) ((lv_osw n0 (by decide +kernel)).trans ((lv_osw n1 (by decide +kernel)).trans ((lv_osw n2 (by decide +kernel)).trans (rfl)))) rfl ?_
        refine zr_aload_n (pc' := 95) cx rfl 1 dX8_whyNoPart_94 rfl rfl ?_
        refine zr_aload_n (pc' := 96) cx rfl 1 dX8_whyNoPart_95 rfl rfl ?_
        refine zg_X8_22 (pc' := 99) cx rfl zkc_400 dX8_whyNoPart_96 ?_
        refine zr_iload_n (pc' := 100) cx rfl 0 dX8_whyNoPart_99 rfl rfl ?_
        refine zr_iconst (pc' := 101) cx rfl dX8_whyNoPart_100 ?_
        refine zr_iadd (pc' := 102) cx rfl dX8_whyNoPart_101 ?_
        refine zr_iald (pc' := 103) cx rfl 18 zkc_405 (by decide) (L := 80) rfl dX8_whyNoPart_102 ?_
        refine zr_aload_n (pc' := 104) cx rfl 1 dX8_whyNoPart_103 rfl rfl ?_
        refine zg_X8_22 (pc' := 107) cx rfl zkc_400 dX8_whyNoPart_104 ?_
        refine zr_iload_n (pc' := 108) cx rfl 0 dX8_whyNoPart_107 rfl rfl ?_
        refine zr_iconst (pc' := 109) cx rfl dX8_whyNoPart_108 ?_
        refine zr_iadd (pc' := 110) cx rfl dX8_whyNoPart_109 ?_
        refine zr_iald (pc' := 111) cx rfl 18 zkc_405 (by decide) (L := 80) rfl dX8_whyNoPart_110 ?_
        refine zr_aload_n (pc' := 112) cx rfl 1 dX8_whyNoPart_111 rfl rfl ?_
        refine zg_X8_22 (pc' := 115) cx rfl zkc_400 dX8_whyNoPart_112 ?_
        refine zr_iload_n (pc' := 116) cx rfl 0 dX8_whyNoPart_115 rfl rfl ?_
        refine zr_iconst (pc' := 117) cx rfl dX8_whyNoPart_116 ?_
        refine zr_iadd (pc' := 118) cx rfl dX8_whyNoPart_117 ?_
        refine zr_iald (pc' := 119) cx rfl 18 zkc_405 (by decide) (L := 80) rfl dX8_whyNoPart_118 ?_
        refine zc_X8_114 (pc' := 122) cx rfl  ⟨Nat.le_of_ble_eq_true rfl, Nat.le_of_ble_eq_true rfl⟩ ⟨Nat.zero_le _, Nat.zero_le _⟩ (Nat.le_of_ble_eq_true rfl) dX8_whyNoPart_119 (fun v5 => ?_)
        exact zr_iretP cx dX8_whyNoPart_122
theorem mX8_whyNoPart (l : Launch) (Y : zLy) (g : zSt) (a1 : Int)  : ∀ v, fX8_whyNoPart g a1 = some v → zMt l yX8_whyNoPart cX8_whyNoPart 3 (some .int) 3 [.ref (zad Y 400), .int (i32 a1)] Y g (zQi Y v g) := by
  intro v hv
  refine zmet_of RX8 rfl (by decide +kernel) (Nat.le_of_ble_eq_true rfl) ?_
  intro p e s m below meth c cx H locs ls hH hS hl
  exact wX8_whyNoPart cx g a1  v hv H locs ls hH hS hl
theorem zc_X8_202 (cx : zCx Y p s m args meth c RX8 cc nl ret) (hpc : pc + 3 = pc') {g : zSt} {a1 : Int}  {fk : Int → Option ρ} (hR : 3 + 1 ≤ R.frames ∧ 8 + (3 + 11) + 40 * 3 ≤ R.locals) (hkn : k ≤ R.cells ∧ n ≤ R.slots) (hrest : (rest.map fun v => v.category).sum ≤ 8) (hdg : decode cc pc = .ok (.invokevirtual 202, 3)) (kk : ∀ v : Int, zWo Y p l e R s m args below meth c nl k n kq g lv (.int (i32 v) :: rest) pc' (fk v)) : zWo Y p l e R s m args below meth c nl k n kq g lv (.int (i32 a1) :: .ref (zad Y 400) :: rest) pc (zbd (fX8_whyNoPart g a1) fk) := zr_callViP cx (an := 1) (As := [.int (i32 a1)]) 9 zkc_400 (by decide) rfl (mX8_whyNoPart l Y g a1) (zG_V zw_1254 zw_1256 zw_80 zw_109 zw_1257) (by decide +kernel) hR hkn rfl rfl hrest hdg hpc kk
def fX8_bringPart (g : zSt) (a1 : Int) : Option zSt :=
    zlet (4 * a1) (fun x1 =>
    zck ((0 : Int) ≤ x1 ∧ x1 < 80) (
    (if i32 (g.1 405 (Int.toNat x1)) = i32 33 then
    zck ((0 : Int) ≤ (x1 + 1) ∧ (x1 + 1) < 80) (
    zck ((0 : Int) ≤ (x1 + 2) ∧ (x1 + 2) < 80) (
    zck ((0 : Int) ≤ x1 ∧ x1 < 80) (
    (if i32 (g.1 405 (Int.toNat x1)) = i32 33 then
    zbd (fX8_bringLantern g (g.1 405 (Int.toNat (x1 + 1))) (g.1 405 (Int.toNat (x1 + 2))) 1) (fun g3 =>
    some g3)
    else
    zbd (fX8_bringLantern g (g.1 405 (Int.toNat (x1 + 1))) (g.1 405 (Int.toNat (x1 + 2))) 0) (fun g2 =>
    some g2)))))
    else
    (if i32 (g.1 405 (Int.toNat x1)) = i32 35 then
    zck ((0 : Int) ≤ (x1 + 1) ∧ (x1 + 1) < 80) (
    zck ((0 : Int) ≤ (x1 + 2) ∧ (x1 + 2) < 80) (
    zck ((0 : Int) ≤ (x1 + 3) ∧ (x1 + 3) < 80) (
    zbd (fX8_bringFault g (g.1 405 (Int.toNat (x1 + 1))) (g.1 405 (Int.toNat (x1 + 2))) (g.1 405 (Int.toNat (x1 + 3)))) (fun g4 =>
    some g4))))
    else
    (if i32 (g.1 405 (Int.toNat x1)) = i32 42 then
    zck ((0 : Int) ≤ (x1 + 1) ∧ (x1 + 1) < 80) (
    zck ((0 : Int) ≤ (x1 + 2) ∧ (x1 + 2) < 80) (
    zck ((0 : Int) ≤ x1 ∧ x1 < 80) (
    (if i32 (g.1 405 (Int.toNat x1)) = i32 33 then
    zbd (fX8_bringLantern g (g.1 405 (Int.toNat (x1 + 1))) (g.1 405 (Int.toNat (x1 + 2))) 1) (fun g6 =>
    some g6)
    else
    zbd (fX8_bringLantern g (g.1 405 (Int.toNat (x1 + 1))) (g.1 405 (Int.toNat (x1 + 2))) 0) (fun g5 =>
    some g5)))))
    else
    zck ((0 : Int) ≤ (x1 + 1) ∧ (x1 + 1) < 80) (
    zck ((0 : Int) ≤ (x1 + 2) ∧ (x1 + 2) < 80) (
    zck ((0 : Int) ≤ (x1 + 3) ∧ (x1 + 3) < 80) (
    zck ((0 : Int) ≤ x1 ∧ x1 < 80) (
    (if i32 (g.1 405 (Int.toNat x1)) = i32 37 then
    zbd (fX8_bringBox g (g.1 405 (Int.toNat (x1 + 1))) (g.1 405 (Int.toNat (x1 + 2))) (g.1 405 (Int.toNat (x1 + 3))) 1) (fun g8 =>
    some g8)
    else
    zbd (fX8_bringBox g (g.1 405 (Int.toNat (x1 + 1))) (g.1 405 (Int.toNat (x1 + 2))) (g.1 405 (Int.toNat (x1 + 3))) 0) (fun g7 =>
    some g7)))))))))))
theorem wX8_bringPart (cx : zCx Y p s m args meth c RX8 cX8_bringPart 3 none) (g : zSt) (a1 : Int)  : zWo Y p l e (zrm 12) s m args below meth c 3 0 0 (fun g9 : zSt => MQ below (zQv Y g9) args s 0 0 (zA Y)) g [(0, .ref (zad Y 400)), (1, .int (i32 a1))] ([]) 0 (fX8_bringPart g a1) := by
  unfold fX8_bringPart
  refine zr_iconst (pc' := 1) cx rfl dX8_bringPart_0 ?_
  refine zr_iload_n (pc' := 2) cx rfl 1 dX8_bringPart_1 rfl rfl ?_
  refine zr_imul (pc' := 3) cx rfl dX8_bringPart_2 ?_
  refine zr_leti (fun x1 => ?_)
  refine zr_istore_n (pc' := 4) cx rfl (lv' := [(2, .int (i32 x1)), (0, .ref (zad Y 400)), (1, .int (i32 a1))]) dX8_bringPart_3 rfl (by decide) rfl ?_
  refine zr_aload_n (pc' := 5) cx rfl 1 dX8_bringPart_4 rfl rfl ?_
  refine zg_X8_22 (pc' := 8) cx rfl zkc_400 dX8_bringPart_5 ?_
  refine zr_iload_n (pc' := 9) cx rfl 0 dX8_bringPart_8 rfl rfl ?_
  refine zr_iald (pc' := 10) cx rfl 18 zkc_405 (by decide) (L := 80) rfl dX8_bringPart_9 ?_
  refine zr_case (fun h => ?_) (fun n0 => ?_)
  · refine zr_look cx (off := 34) (tgt := 44) dX8_bringPart_10 (by decide +kernel) (by rw [h]; decide +kernel) rfl ?_
    refine zr_aload_n (pc' := 45) cx rfl 1 dX8_bringPart_44 rfl rfl ?_
    refine zr_aload_n (pc' := 46) cx rfl 1 dX8_bringPart_45 rfl rfl ?_
    refine zg_X8_22 (pc' := 49) cx rfl zkc_400 dX8_bringPart_46 ?_
    refine zr_iload_n (pc' := 50) cx rfl 0 dX8_bringPart_49 rfl rfl ?_
    refine zr_iconst (pc' := 51) cx rfl dX8_bringPart_50 ?_
    refine zr_iadd (pc' := 52) cx rfl dX8_bringPart_51 ?_
    refine zr_iald (pc' := 53) cx rfl 18 zkc_405 (by decide) (L := 80) rfl dX8_bringPart_52 ?_
    refine zr_aload_n (pc' := 54) cx rfl 1 dX8_bringPart_53 rfl rfl ?_
    refine zg_X8_22 (pc' := 57) cx rfl zkc_400 dX8_bringPart_54 ?_
    refine zr_iload_n (pc' := 58) cx rfl 0 dX8_bringPart_57 rfl rfl ?_
    refine zr_iconst (pc' := 59) cx rfl dX8_bringPart_58 ?_
    refine zr_iadd (pc' := 60) cx rfl dX8_bringPart_59 ?_
    refine zr_iald (pc' := 61) cx rfl 18 zkc_405 (by decide) (L := 80) rfl dX8_bringPart_60 ?_
    refine zr_aload_n (pc' := 62) cx rfl 1 dX8_bringPart_61 rfl rfl ?_
    refine zg_X8_22 (pc' := 65) cx rfl zkc_400 dX8_bringPart_62 ?_
    refine zr_iload_n (pc' := 66) cx rfl 0 dX8_bringPart_65 rfl rfl ?_
    refine zr_iald (pc' := 67) cx rfl 18 zkc_405 (by decide) (L := 80) rfl dX8_bringPart_66 ?_
    refine zr_bipush (pc' := 69) cx rfl dX8_bringPart_67 (by decide +kernel) ?_
    refine zr_icmp_ne (pc' := 72) cx rfl (tgt := 76) dX8_bringPart_69 rfl ?_ ?_
    · refine zr_iconst (pc' := 77) cx rfl dX8_bringPart_76 ?_
      refine zc_X8_141 (pc' := 80) cx rfl  ⟨Nat.le_of_ble_eq_true rfl, Nat.le_of_ble_eq_true rfl⟩ ⟨Nat.zero_le _, Nat.zero_le _⟩ (Nat.le_of_ble_eq_true rfl) dX8_bringPart_77 (fun g2 => ?_)
      refine zr_goto cx (tgt := 158) dX8_bringPart_80 rfl ?_
      exact zr_vretE cx dX8_bringPart_158
    · refine zr_iconst (pc' := 73) cx rfl dX8_bringPart_72 ?_
      refine zr_gotoS cx (tgt := 77) dX8_bringPart_73 rfl ?_
      refine zc_X8_141 (pc' := 80) cx rfl  ⟨Nat.le_of_ble_eq_true rfl, Nat.le_of_ble_eq_true rfl⟩ ⟨Nat.zero_le _, Nat.zero_le _⟩ (Nat.le_of_ble_eq_true rfl) dX8_bringPart_77 (fun g3 => ?_)
      refine zr_goto cx (tgt := 158) dX8_bringPart_80 rfl ?_
      exact zr_vretE cx dX8_bringPart_158
  · refine zr_case (fun h => ?_) (fun n1 => ?_)
    · refine zr_look cx (off := 73) (tgt := 83) dX8_bringPart_10 (by decide +kernel) (by rw [h]; decide +kernel) rfl ?_
      refine zr_aload_n (pc' := 84) cx rfl 1 dX8_bringPart_83 rfl rfl ?_
      refine zr_aload_n (pc' := 85) cx rfl 1 dX8_bringPart_84 rfl rfl ?_
      refine zg_X8_22 (pc' := 88) cx rfl zkc_400 dX8_bringPart_85 ?_
      refine zr_iload_n (pc' := 89) cx rfl 0 dX8_bringPart_88 rfl rfl ?_
      refine zr_iconst (pc' := 90) cx rfl dX8_bringPart_89 ?_
      refine zr_iadd (pc' := 91) cx rfl dX8_bringPart_90 ?_
      refine zr_iald (pc' := 92) cx rfl 18 zkc_405 (by decide) (L := 80) rfl dX8_bringPart_91 ?_
      refine zr_aload_n (pc' := 93) cx rfl 1 dX8_bringPart_92 rfl rfl ?_
      refine zg_X8_22 (pc' := 96) cx rfl zkc_400 dX8_bringPart_93 ?_
      refine zr_iload_n (pc' := 97) cx rfl 0 dX8_bringPart_96 rfl rfl ?_
      refine zr_iconst (pc' := 98) cx rfl dX8_bringPart_97 ?_
      refine zr_iadd (pc' := 99) cx rfl dX8_bringPart_98 ?_
      refine zr_iald (pc' := 100) cx rfl 18 zkc_405 (by decide) (L := 80) rfl dX8_bringPart_99 ?_
      refine zr_aload_n (pc' := 101) cx rfl 1 dX8_bringPart_100 rfl rfl ?_
      refine zg_X8_22 (pc' := 104) cx rfl zkc_400 dX8_bringPart_101 ?_
      refine zr_iload_n (pc' := 105) cx rfl 0 dX8_bringPart_104 rfl rfl ?_
      refine zr_iconst (pc' := 106) cx rfl dX8_bringPart_105 ?_
      refine zr_iadd (pc' := 107) cx rfl dX8_bringPart_106 ?_
      refine zr_iald (pc' := 108) cx rfl 18 zkc_405 (by decide) (L := 80) rfl dX8_bringPart_107 ?_
      refine zc_X8_151 (pc' := 111) cx rfl  ⟨Nat.le_of_ble_eq_true rfl, Nat.le_of_ble_eq_true rfl⟩ ⟨Nat.zero_le _, Nat.zero_le _⟩ (Nat.le_of_ble_eq_true rfl) dX8_bringPart_108 (fun g4 => ?_)
      refine zr_goto cx (tgt := 158) dX8_bringPart_111 rfl ?_
      exact zr_vretE cx dX8_bringPart_158
    · refine zr_case (fun h => ?_) (fun n2 => ?_)
      · refine zr_look cx (off := 34) (tgt := 44) dX8_bringPart_10 (by decide +kernel) (by rw [h]; decide +kernel) rfl ?_
        refine zr_aload_n (pc' := 45) cx rfl 1 dX8_bringPart_44 rfl rfl ?_
        refine zr_aload_n (pc' := 46) cx rfl 1 dX8_bringPart_45 rfl rfl ?_
        refine zg_X8_22 (pc' := 49) cx rfl zkc_400 dX8_bringPart_46 ?_
        refine zr_iload_n (pc' := 50) cx rfl 0 dX8_bringPart_49 rfl rfl ?_
        refine zr_iconst (pc' := 51) cx rfl dX8_bringPart_50 ?_
        refine zr_iadd (pc' := 52) cx rfl dX8_bringPart_51 ?_
        refine zr_iald (pc' := 53) cx rfl 18 zkc_405 (by decide) (L := 80) rfl dX8_bringPart_52 ?_
        refine zr_aload_n (pc' := 54) cx rfl 1 dX8_bringPart_53 rfl rfl ?_
        refine zg_X8_22 (pc' := 57) cx rfl zkc_400 dX8_bringPart_54 ?_
        refine zr_iload_n (pc' := 58) cx rfl 0 dX8_bringPart_57 rfl rfl ?_
        refine zr_iconst (pc' := 59) cx rfl dX8_bringPart_58 ?_
        refine zr_iadd (pc' := 60) cx rfl dX8_bringPart_59 ?_
        refine zr_iald (pc' := 61) cx rfl 18 zkc_405 (by decide) (L := 80) rfl dX8_bringPart_60 ?_
        refine zr_aload_n (pc' := 62) cx rfl 1 dX8_bringPart_61 rfl rfl ?_
        refine zg_X8_22 (pc' := 65) cx rfl zkc_400 dX8_bringPart_62 ?_
        refine zr_iload_n (pc' := 66) cx rfl 0 dX8_bringPart_65 rfl rfl ?_
        refine zr_iald (pc' := 67) cx rfl 18 zkc_405 (by decide) (L := 80) rfl dX8_bringPart_66 ?_
        refine zr_bipush (pc' := 69) cx rfl dX8_bringPart_67 (by decide +kernel) ?_
        refine zr_icmp_ne (pc' := 72) cx rfl (tgt := 76) dX8_bringPart_69 rfl ?_ ?_
        · refine zr_iconst (pc' := 77) cx rfl dX8_bringPart_76 ?_
          refine zc_X8_141 (pc' := 80) cx rfl  ⟨Nat.le_of_ble_eq_true rfl, Nat.le_of_ble_eq_true rfl⟩ ⟨Nat.zero_le _, Nat.zero_le _⟩ (Nat.le_of_ble_eq_true rfl) dX8_bringPart_77 (fun g5 => ?_)
          refine zr_goto cx (tgt := 158) dX8_bringPart_80 rfl ?_
          exact zr_vretE cx dX8_bringPart_158
        · refine zr_iconst (pc' := 73) cx rfl dX8_bringPart_72 ?_
          refine zr_gotoS cx (tgt := 77) dX8_bringPart_73 rfl ?_
          refine zc_X8_141 (pc' := 80) cx rfl  ⟨Nat.le_of_ble_eq_true rfl, Nat.le_of_ble_eq_true rfl⟩ ⟨Nat.zero_le _, Nat.zero_le _⟩ (Nat.le_of_ble_eq_true rfl) dX8_bringPart_77 (fun g6 => ?_)
          refine zr_goto cx (tgt := 158) dX8_bringPart_80 rfl ?_
          exact zr_vretE cx dX8_bringPart_158
      · refine zr_look cx (off := 104) (tgt := 114) dX8_bringPart_10 (by decide +kernel) ((lv_osw n0 (by decide +kernel)).trans ((lv_osw n1 (by decide +kernel)).trans ((lv_osw n2 (by decide +kernel)).trans (rfl)))) rfl ?_
        refine zr_aload_n (pc' := 115) cx rfl 1 dX8_bringPart_114 rfl rfl ?_
        refine zr_aload_n (pc' := 116) cx rfl 1 dX8_bringPart_115 rfl rfl ?_
        refine zg_X8_22 (pc' := 119) cx rfl zkc_400 dX8_bringPart_116 ?_
        refine zr_iload_n (pc' := 120) cx rfl 0 dX8_bringPart_119 rfl rfl ?_
        refine zr_iconst (pc' := 121) cx rfl dX8_bringPart_120 ?_
        refine zr_iadd (pc' := 122) cx rfl dX8_bringPart_121 ?_
        refine zr_iald (pc' := 123) cx rfl 18 zkc_405 (by decide) (L := 80) rfl dX8_bringPart_122 ?_
        refine zr_aload_n (pc' := 124) cx rfl 1 dX8_bringPart_123 rfl rfl ?_
        refine zg_X8_22 (pc' := 127) cx rfl zkc_400 dX8_bringPart_124 ?_
        refine zr_iload_n (pc' := 128) cx rfl 0 dX8_bringPart_127 rfl rfl ?_
        refine zr_iconst (pc' := 129) cx rfl dX8_bringPart_128 ?_
        refine zr_iadd (pc' := 130) cx rfl dX8_bringPart_129 ?_
        refine zr_iald (pc' := 131) cx rfl 18 zkc_405 (by decide) (L := 80) rfl dX8_bringPart_130 ?_
        refine zr_aload_n (pc' := 132) cx rfl 1 dX8_bringPart_131 rfl rfl ?_
        refine zg_X8_22 (pc' := 135) cx rfl zkc_400 dX8_bringPart_132 ?_
        refine zr_iload_n (pc' := 136) cx rfl 0 dX8_bringPart_135 rfl rfl ?_
        refine zr_iconst (pc' := 137) cx rfl dX8_bringPart_136 ?_
        refine zr_iadd (pc' := 138) cx rfl dX8_bringPart_137 ?_
        refine zr_iald (pc' := 139) cx rfl 18 zkc_405 (by decide) (L := 80) rfl dX8_bringPart_138 ?_
        refine zr_aload_n (pc' := 140) cx rfl 1 dX8_bringPart_139 rfl rfl ?_
        refine zg_X8_22 (pc' := 143) cx rfl zkc_400 dX8_bringPart_140 ?_
        refine zr_iload_n (pc' := 144) cx rfl 0 dX8_bringPart_143 rfl rfl ?_
        refine zr_iald (pc' := 145) cx rfl 18 zkc_405 (by decide) (L := 80) rfl dX8_bringPart_144 ?_
        refine zr_bipush (pc' := 147) cx rfl dX8_bringPart_145 (by decide +kernel) ?_
        refine zr_icmp_ne (pc' := 150) cx rfl (tgt := 154) dX8_bringPart_147 rfl ?_ ?_
        · refine zr_iconst (pc' := 155) cx rfl dX8_bringPart_154 ?_
          refine zc_X8_121 (pc' := 158) cx rfl  ⟨Nat.le_of_ble_eq_true rfl, Nat.le_of_ble_eq_true rfl⟩ ⟨Nat.zero_le _, Nat.zero_le _⟩ (Nat.le_of_ble_eq_true rfl) dX8_bringPart_155 (fun g7 => ?_)
          exact zr_vretE cx dX8_bringPart_158
        · refine zr_iconst (pc' := 151) cx rfl dX8_bringPart_150 ?_
          refine zr_gotoS cx (tgt := 155) dX8_bringPart_151 rfl ?_
          refine zc_X8_121 (pc' := 158) cx rfl  ⟨Nat.le_of_ble_eq_true rfl, Nat.le_of_ble_eq_true rfl⟩ ⟨Nat.zero_le _, Nat.zero_le _⟩ (Nat.le_of_ble_eq_true rfl) dX8_bringPart_155 (fun g8 => ?_)
          exact zr_vretE cx dX8_bringPart_158
theorem mX8_bringPart (l : Launch) (Y : zLy) (g : zSt) (a1 : Int)  : ∀ g2, fX8_bringPart g a1 = some g2 → zMt l yX8_bringPart cX8_bringPart 3 none 12 [.ref (zad Y 400), .int (i32 a1)] Y g (zQv Y g2) := by
  intro g2 hv
  refine zmet_of RX8 rfl (by decide +kernel) (Nat.le_of_ble_eq_true rfl) ?_
  intro p e s m below meth c cx H locs ls hH hS hl
  exact wX8_bringPart cx g a1  g2 hv H locs ls hH hS hl
theorem zc_X8_205 (cx : zCx Y p s m args meth c RX8 cc nl ret) (hpc : pc + 3 = pc') {g : zSt} {a1 : Int}  {fk : zSt → Option ρ} (hR : 12 + 1 ≤ R.frames ∧ 8 + (3 + 11) + 40 * 12 ≤ R.locals) (hkn : k ≤ R.cells ∧ n ≤ R.slots) (hrest : (rest.map fun v => v.category).sum ≤ 8) (hdg : decode cc pc = .ok (.invokevirtual 205, 3)) (kk : ∀ g2 : zSt, zWo Y p l e R s m args below meth c nl k n kq g2 lv (rest) pc' (fk g2)) : zWo Y p l e R s m args below meth c nl k n kq g lv (.int (i32 a1) :: .ref (zad Y 400) :: rest) pc (zbd (fX8_bringPart g a1) fk) := zr_callVvE cx (an := 1) (As := [.int (i32 a1)]) 9 zkc_400 (by decide) rfl (mX8_bringPart l Y g a1) (zG_V zw_1258 zw_1260 zw_81 zw_109 zw_1261) (by decide +kernel) hR hkn rfl rfl hrest hdg hpc kk
def fX8_load_p56  : Nat → zSt → Int → Option (Int × zSt)
  | 0, _, _ => none
  | fu + 1, g, a2 =>
    (if i32 a2 < i32 (g.1 400 12) then
    zbd (fX8_whyNoPart g a2) (fun v2 =>
    (if i32 v2 = i32 0 then
    zbd (fX8_bringPart g a2) (fun g4 =>
    fX8_load_p56 fu g4 (a2 + 1))
    else
    zlet (zwr g 400 4 0) (fun g3 =>
    some (a2, g3))))
    else
    zlet (zwr g 400 4 0) (fun g1 =>
    some (a2, g1)))
def fX8_load_p34  (g : zSt) (y1 : Int) : Option (Int × zSt) :=
    zlet (zwr g 400 0 y1) (fun g5 =>
    (if i32 0 < i32 (g5.1 400 0) then
    some (0, g5)
    else
    zbd (fX8_endPart g5) (fun g6 =>
    zbd (fX8_save g6) (fun g7 =>
    fX8_load_p56 zfu g7 0))))
def fX8_load (g : zSt) : Option (Int × zSt) :=
    zbe (fX8_readText g) (fun v8 g9 =>
    (if i32 v8 = i32 (g9.1 400 4) then
    zbd (fX8_isPartOver g9) (fun v10 =>
    (if i32 v10 = i32 0 then
    (if i32 0 = i32 0 then
    fX8_load_p34 g9 1
    else
    fX8_load_p34 g9 0)
    else
    (if i32 1 = i32 0 then
    fX8_load_p34 g9 1
    else
    fX8_load_p34 g9 0)))
    else
    (if i32 0 = i32 0 then
    fX8_load_p34 g9 1
    else
    fX8_load_p34 g9 0)))
theorem wX8_load_p56 (cx : zCx Y p s m args meth c RX8 cX8_load 3 (some .int))   : ∀ (fu : Nat) (g : zSt) (a2 : Int), zWo Y p l e (zrm 13) s m args below meth c 3 0 0 (fun q : Int × zSt => MQ below (zQi Y q.1 q.2) args s 0 0 (zA Y)) g [(0, .ref (zad Y 400)), (2, .int (i32 a2))] ([]) 56 (fX8_load_p56 fu g a2) := by
  intro fu
  induction fu with
  | zero => intro g a2; exact zr_none
  | succ fu ih =>
    intro g a2
    rw [fX8_load_p56]
    refine zr_iload_n (pc' := 57) cx rfl 1 dX8_load_56 rfl rfl ?_
    refine zr_aload_n (pc' := 58) cx rfl 0 dX8_load_57 rfl rfl ?_
    refine zg_X8_171 (pc' := 61) cx rfl zkc_400 dX8_load_58 ?_
    refine zr_icmp_ge (pc' := 64) cx rfl (tgt := 83) dX8_load_61 rfl ?_ ?_
    · refine zr_aload_n (pc' := 84) cx rfl 0 dX8_load_83 rfl rfl ?_
      refine zr_iconst (pc' := 85) cx rfl dX8_load_84 ?_
      refine zp_X8_162 (pc' := 88) cx rfl zkc_400 dX8_load_85 ?_
      refine zr_letS (fun g1 => ?_)
      refine zr_iload_n (pc' := 89) cx rfl 1 dX8_load_88 rfl rfl ?_
      exact zr_iretE cx dX8_load_89
    · refine zr_aload_n (pc' := 65) cx rfl 0 dX8_load_64 rfl rfl ?_
      refine zr_iload_n (pc' := 66) cx rfl 1 dX8_load_65 rfl rfl ?_
      refine zc_X8_202 (pc' := 69) cx rfl  ⟨Nat.le_of_ble_eq_true rfl, Nat.le_of_ble_eq_true rfl⟩ ⟨Nat.zero_le _, Nat.zero_le _⟩ (Nat.le_of_ble_eq_true rfl) dX8_load_66 (fun v2 => ?_)
      refine zr_if_ne (pc' := 72) cx rfl (tgt := 83) dX8_load_69 rfl ?_ ?_
      · refine zr_aload_n (pc' := 84) cx rfl 0 dX8_load_83 rfl rfl ?_
        refine zr_iconst (pc' := 85) cx rfl dX8_load_84 ?_
        refine zp_X8_162 (pc' := 88) cx rfl zkc_400 dX8_load_85 ?_
        refine zr_letS (fun g3 => ?_)
        refine zr_iload_n (pc' := 89) cx rfl 1 dX8_load_88 rfl rfl ?_
        exact zr_iretE cx dX8_load_89
      · refine zr_aload_n (pc' := 73) cx rfl 0 dX8_load_72 rfl rfl ?_
        refine zr_iload_n (pc' := 74) cx rfl 1 dX8_load_73 rfl rfl ?_
        refine zc_X8_205 (pc' := 77) cx rfl  ⟨Nat.le_of_ble_eq_true rfl, Nat.le_of_ble_eq_true rfl⟩ ⟨Nat.zero_le _, Nat.zero_le _⟩ (Nat.le_of_ble_eq_true rfl) dX8_load_74 (fun g4 => ?_)
        refine zr_iinc (pc' := 80) cx rfl (lv' := [(2, .int (i32 (a2 + 1))), (0, .ref (zad Y 400))]) 1 dX8_load_77 rfl (by decide) rfl ?_
        refine zr_goto cx (tgt := 56) dX8_load_80 rfl ?_
        refine zr_sub [1, 0] rfl ?_
        exact ih g4 (a2 + 1)
theorem wX8_load_p34 (cx : zCx Y p s m args meth c RX8 cX8_load 3 (some .int))   : ∀ (g : zSt) (y1 : Int), zWo Y p l e (zrm 13) s m args below meth c 3 0 0 (fun q : Int × zSt => MQ below (zQi Y q.1 q.2) args s 0 0 (zA Y)) g [(0, .ref (zad Y 400))] (.int (i32 y1) :: .ref (zad Y 400) :: []) 34 (fX8_load_p34 g y1) := by
  intro g y1
  unfold fX8_load_p34
  refine zp_X8_25 (pc' := 37) cx rfl zkc_400 dX8_load_34 ?_
  refine zr_letS (fun g5 => ?_)
  refine zr_aload_n (pc' := 38) cx rfl 0 dX8_load_37 rfl rfl ?_
  refine zg_X8_25 (pc' := 41) cx rfl zkc_400 dX8_load_38 ?_
  refine zr_if_le (pc' := 44) cx rfl (tgt := 46) dX8_load_41 rfl ?_ ?_
  · refine zr_aload_n (pc' := 47) cx rfl 0 dX8_load_46 rfl rfl ?_
    refine zc_X8_193 (pc' := 50) cx rfl  ⟨Nat.le_of_ble_eq_true rfl, Nat.le_of_ble_eq_true rfl⟩ ⟨Nat.zero_le _, Nat.zero_le _⟩ (Nat.le_of_ble_eq_true rfl) dX8_load_47 (fun g6 => ?_)
    refine zr_aload_n (pc' := 51) cx rfl 0 dX8_load_50 rfl rfl ?_
    refine zc_X8_118 (pc' := 54) cx rfl  ⟨Nat.le_of_ble_eq_true rfl, Nat.le_of_ble_eq_true rfl⟩ ⟨Nat.zero_le _, Nat.zero_le _⟩ (Nat.le_of_ble_eq_true rfl) dX8_load_51 (fun g7 => ?_)
    refine zr_iconst (pc' := 55) cx rfl dX8_load_54 ?_
    refine zr_istore_n (pc' := 56) cx rfl (lv' := [(2, .int (i32 0)), (0, .ref (zad Y 400))]) dX8_load_55 rfl (by decide) rfl ?_
    refine zr_sub [1, 0] rfl ?_
    exact wX8_load_p56 cx zfu g7 0
  · refine zr_iconst (pc' := 45) cx rfl dX8_load_44 ?_
    exact zr_iretE cx dX8_load_45
theorem wX8_load (cx : zCx Y p s m args meth c RX8 cX8_load 3 (some .int)) (g : zSt)  : zWo Y p l e (zrm 13) s m args below meth c 3 0 0 (fun q : Int × zSt => MQ below (zQi Y q.1 q.2) args s 0 0 (zA Y)) g [(0, .ref (zad Y 400))] ([]) 0 (fX8_load g) := by
  unfold fX8_load
  refine zr_aload_n (pc' := 1) cx rfl 0 dX8_load_0 rfl rfl ?_
  refine zc_X8_199 (pc' := 4) cx rfl  ⟨Nat.le_of_ble_eq_true rfl, Nat.le_of_ble_eq_true rfl⟩ ⟨Nat.zero_le _, Nat.zero_le _⟩ (Nat.le_of_ble_eq_true rfl) dX8_load_1 (fun v8 g9 => ?_)
  refine zr_aload_n (pc' := 5) cx rfl 0 dX8_load_4 rfl rfl ?_
  refine zg_X8_162 (pc' := 8) cx rfl zkc_400 dX8_load_5 ?_
  refine zr_icmp_ne (pc' := 11) cx rfl (tgt := 22) dX8_load_8 rfl ?_ ?_
  · refine zr_iconst (pc' := 23) cx rfl dX8_load_22 ?_
    refine zr_istore_n (pc' := 24) cx rfl (lv' := [(1, .int (i32 0)), (0, .ref (zad Y 400))]) dX8_load_23 rfl (by decide) rfl ?_
    refine zr_aload_n (pc' := 25) cx rfl 1 dX8_load_24 rfl rfl ?_
    refine zr_iload_n (pc' := 26) cx rfl 0 dX8_load_25 rfl rfl ?_
    refine zr_if_eq (pc' := 29) cx rfl (tgt := 33) dX8_load_26 rfl ?_ ?_
    · refine zr_iconst (pc' := 34) cx rfl dX8_load_33 ?_
      refine zr_sub [1] rfl ?_
      exact wX8_load_p34 cx g9 1
    · refine zr_iconst (pc' := 30) cx rfl dX8_load_29 ?_
      refine zr_gotoS cx (tgt := 34) dX8_load_30 rfl ?_
      refine zr_sub [1] rfl ?_
      exact wX8_load_p34 cx g9 0
  · refine zr_aload_n (pc' := 12) cx rfl 0 dX8_load_11 rfl rfl ?_
    refine zc_X8_189 (pc' := 15) cx rfl  ⟨Nat.le_of_ble_eq_true rfl, Nat.le_of_ble_eq_true rfl⟩ ⟨Nat.zero_le _, Nat.zero_le _⟩ (Nat.le_of_ble_eq_true rfl) dX8_load_12 (fun v10 => ?_)
    refine zr_if_eq (pc' := 18) cx rfl (tgt := 22) dX8_load_15 rfl ?_ ?_
    · refine zr_iconst (pc' := 23) cx rfl dX8_load_22 ?_
      refine zr_istore_n (pc' := 24) cx rfl (lv' := [(1, .int (i32 0)), (0, .ref (zad Y 400))]) dX8_load_23 rfl (by decide) rfl ?_
      refine zr_aload_n (pc' := 25) cx rfl 1 dX8_load_24 rfl rfl ?_
      refine zr_iload_n (pc' := 26) cx rfl 0 dX8_load_25 rfl rfl ?_
      refine zr_if_eq (pc' := 29) cx rfl (tgt := 33) dX8_load_26 rfl ?_ ?_
      · refine zr_iconst (pc' := 34) cx rfl dX8_load_33 ?_
        refine zr_sub [1] rfl ?_
        exact wX8_load_p34 cx g9 1
      · refine zr_iconst (pc' := 30) cx rfl dX8_load_29 ?_
        refine zr_gotoS cx (tgt := 34) dX8_load_30 rfl ?_
        refine zr_sub [1] rfl ?_
        exact wX8_load_p34 cx g9 0
    · refine zr_iconst (pc' := 19) cx rfl dX8_load_18 ?_
      refine zr_gotoS cx (tgt := 23) dX8_load_19 rfl ?_
      refine zr_istore_n (pc' := 24) cx rfl (lv' := [(1, .int (i32 1)), (0, .ref (zad Y 400))]) dX8_load_23 rfl (by decide) rfl ?_
      refine zr_aload_n (pc' := 25) cx rfl 1 dX8_load_24 rfl rfl ?_
      refine zr_iload_n (pc' := 26) cx rfl 0 dX8_load_25 rfl rfl ?_
      refine zr_if_eq (pc' := 29) cx rfl (tgt := 33) dX8_load_26 rfl ?_ ?_
      · refine zr_iconst (pc' := 34) cx rfl dX8_load_33 ?_
        refine zr_sub [1] rfl ?_
        exact wX8_load_p34 cx g9 1
      · refine zr_iconst (pc' := 30) cx rfl dX8_load_29 ?_
        refine zr_gotoS cx (tgt := 34) dX8_load_30 rfl ?_
        refine zr_sub [1] rfl ?_
        exact wX8_load_p34 cx g9 0
theorem mX8_load (l : Launch) (Y : zLy) (g : zSt)  : ∀ v g2, fX8_load g = some (v, g2) → zMt l yX8_load cX8_load 3 (some .int) 13 [.ref (zad Y 400)] Y g (zQi Y v g2) := by
  intro v g2 hv
  refine zmet_of RX8 rfl (by decide +kernel) (Nat.le_of_ble_eq_true rfl) ?_
  intro p e s m below meth c cx H locs ls hH hS hl
  exact wX8_load cx g   (v, g2) hv H locs ls hH hS hl
def fX8_behind_p6 (g : zSt)  : Nat → Int → Int → Int → Option Int
  | 0, _, _, _ => none
  | fu + 1, a1, a2, a3 =>
    zck ((0 : Int) ≤ 0 ∧ 0 < 168) (
    (if i32 a3 < i32 (g.1 401 (Int.toNat 0)) then
    zbd (fX8_isBehind g a3 a1) (fun v1 =>
    (if i32 v1 = i32 0 then
    zlet (a2 + 0) (fun x2 =>
    fX8_behind_p6 g fu a1 x2 (a3 + 1))
    else
    zlet (a2 + 1) (fun x3 =>
    fX8_behind_p6 g fu a1 x3 (a3 + 1))))
    else
    some a2))
def fX8_behind (g : zSt) (a1 : Int) : Option Int :=
    zlet (a1 + 1) (fun x4 =>
    fX8_behind_p6 g zfu a1 0 x4)
theorem wX8_behind_p6 (cx : zCx Y p s m args meth c RX8 cX8_behind 4 (some .int)) (g : zSt)   : ∀ (fu : Nat) (a1 : Int) (a2 : Int) (a3 : Int), zWo Y p l e (zrm 2) s m args below meth c 4 0 0 (fun v : Int => MQ below (zQi Y v g) args s 0 0 (zA Y)) g [(0, .ref (zad Y 400)), (1, .int (i32 a1)), (2, .int (i32 a2)), (3, .int (i32 a3))] ([]) 6 (fX8_behind_p6 g fu a1 a2 a3) := by
  intro fu
  induction fu with
  | zero => intro a1 a2 a3; exact zr_none
  | succ fu ih =>
    intro a1 a2 a3
    rw [fX8_behind_p6]
    refine zr_iload_n (pc' := 7) cx rfl 3 dX8_behind_6 rfl rfl ?_
    refine zr_aload_n (pc' := 8) cx rfl 0 dX8_behind_7 rfl rfl ?_
    refine zg_X8_7 (pc' := 11) cx rfl zkc_400 dX8_behind_8 ?_
    refine zr_iconst (pc' := 12) cx rfl dX8_behind_11 ?_
    refine zr_iald (pc' := 13) cx rfl 16 zkc_401 (by decide) (L := 168) rfl dX8_behind_12 ?_
    refine zr_icmp_ge (pc' := 16) cx rfl (tgt := 39) dX8_behind_13 rfl ?_ ?_
    · refine zr_iload_n (pc' := 40) cx rfl 2 dX8_behind_39 rfl rfl ?_
      exact zr_iretP cx dX8_behind_40
    · refine zr_iload_n (pc' := 17) cx rfl 2 dX8_behind_16 rfl rfl ?_
      refine zr_aload_n (pc' := 18) cx rfl 0 dX8_behind_17 rfl rfl ?_
      refine zr_iload_n (pc' := 19) cx rfl 3 dX8_behind_18 rfl rfl ?_
      refine zr_iload_n (pc' := 20) cx rfl 1 dX8_behind_19 rfl rfl ?_
      refine zc_X8_77 (pc' := 23) cx rfl  ⟨Nat.le_of_ble_eq_true rfl, Nat.le_of_ble_eq_true rfl⟩ ⟨Nat.zero_le _, Nat.zero_le _⟩ (Nat.le_of_ble_eq_true rfl) dX8_behind_20 (fun v1 => ?_)
      refine zr_if_eq (pc' := 26) cx rfl (tgt := 30) dX8_behind_23 rfl ?_ ?_
      · refine zr_iconst (pc' := 31) cx rfl dX8_behind_30 ?_
        refine zr_iadd (pc' := 32) cx rfl dX8_behind_31 ?_
        refine zr_leti (fun x2 => ?_)
        refine zr_istore_n (pc' := 33) cx rfl (lv' := [(2, .int (i32 x2)), (0, .ref (zad Y 400)), (1, .int (i32 a1)), (3, .int (i32 a3))]) dX8_behind_32 rfl (by decide) rfl ?_
        refine zr_iinc (pc' := 36) cx rfl (lv' := [(3, .int (i32 (a3 + 1))), (2, .int (i32 x2)), (0, .ref (zad Y 400)), (1, .int (i32 a1))]) 3 dX8_behind_33 rfl (by decide) rfl ?_
        refine zr_goto cx (tgt := 6) dX8_behind_36 rfl ?_
        refine zr_sub [2, 3, 1, 0] rfl ?_
        exact ih a1 x2 (a3 + 1)
      · refine zr_iconst (pc' := 27) cx rfl dX8_behind_26 ?_
        refine zr_gotoS cx (tgt := 31) dX8_behind_27 rfl ?_
        refine zr_iadd (pc' := 32) cx rfl dX8_behind_31 ?_
        refine zr_leti (fun x3 => ?_)
        refine zr_istore_n (pc' := 33) cx rfl (lv' := [(2, .int (i32 x3)), (0, .ref (zad Y 400)), (1, .int (i32 a1)), (3, .int (i32 a3))]) dX8_behind_32 rfl (by decide) rfl ?_
        refine zr_iinc (pc' := 36) cx rfl (lv' := [(3, .int (i32 (a3 + 1))), (2, .int (i32 x3)), (0, .ref (zad Y 400)), (1, .int (i32 a1))]) 3 dX8_behind_33 rfl (by decide) rfl ?_
        refine zr_goto cx (tgt := 6) dX8_behind_36 rfl ?_
        refine zr_sub [2, 3, 1, 0] rfl ?_
        exact ih a1 x3 (a3 + 1)
theorem wX8_behind (cx : zCx Y p s m args meth c RX8 cX8_behind 4 (some .int)) (g : zSt) (a1 : Int)  : zWo Y p l e (zrm 2) s m args below meth c 4 0 0 (fun v : Int => MQ below (zQi Y v g) args s 0 0 (zA Y)) g [(0, .ref (zad Y 400)), (1, .int (i32 a1))] ([]) 0 (fX8_behind g a1) := by
  unfold fX8_behind
  refine zr_iconst (pc' := 1) cx rfl dX8_behind_0 ?_
  refine zr_istore_n (pc' := 2) cx rfl (lv' := [(2, .int (i32 0)), (0, .ref (zad Y 400)), (1, .int (i32 a1))]) dX8_behind_1 rfl (by decide) rfl ?_
  refine zr_iload_n (pc' := 3) cx rfl 2 dX8_behind_2 rfl rfl ?_
  refine zr_iconst (pc' := 4) cx rfl dX8_behind_3 ?_
  refine zr_iadd (pc' := 5) cx rfl dX8_behind_4 ?_
  refine zr_leti (fun x4 => ?_)
  refine zr_istore_n (pc' := 6) cx rfl (lv' := [(3, .int (i32 x4)), (2, .int (i32 0)), (0, .ref (zad Y 400)), (1, .int (i32 a1))]) dX8_behind_5 rfl (by decide) rfl ?_
  refine zr_sub [2, 3, 1, 0] rfl ?_
  exact wX8_behind_p6 cx g zfu a1 0 x4
theorem mX8_behind (l : Launch) (Y : zLy) (g : zSt) (a1 : Int)  : ∀ v, fX8_behind g a1 = some v → zMt l yX8_behind cX8_behind 4 (some .int) 2 [.ref (zad Y 400), .int (i32 a1)] Y g (zQi Y v g) := by
  intro v hv
  refine zmet_of RX8 rfl (by decide +kernel) (Nat.le_of_ble_eq_true rfl) ?_
  intro p e s m below meth c cx H locs ls hH hS hl
  exact wX8_behind cx g a1  v hv H locs ls hH hS hl
theorem zc_X8_209 (cx : zCx Y p s m args meth c RX8 cc nl ret) (hpc : pc + 3 = pc') {g : zSt} {a1 : Int}  {fk : Int → Option ρ} (hR : 2 + 1 ≤ R.frames ∧ 8 + (4 + 11) + 40 * 2 ≤ R.locals) (hkn : k ≤ R.cells ∧ n ≤ R.slots) (hrest : (rest.map fun v => v.category).sum ≤ 8) (hdg : decode cc pc = .ok (.invokevirtual 209, 3)) (kk : ∀ v : Int, zWo Y p l e R s m args below meth c nl k n kq g lv (.int (i32 v) :: rest) pc' (fk v)) : zWo Y p l e R s m args below meth c nl k n kq g lv (.int (i32 a1) :: .ref (zad Y 400) :: rest) pc (zbd (fX8_behind g a1) fk) := zr_callViP cx (an := 1) (As := [.int (i32 a1)]) 9 zkc_400 (by decide) rfl (mX8_behind l Y g a1) (zG_V zw_1270 zw_1272 zw_83 zw_109 zw_1273) (by decide +kernel) hR hkn rfl rfl hrest hdg hpc kk
def fX8_lanternsAt_p45 (g : zSt) (k5 : Int → Int → Int → Int → Option Int) (y0 : Int) (a1 : Int) (a2 : Int) (a3 : Int) (a4 : Int) : Option Int :=
    zbd (fX8_ofLantern g a4 0) (fun v1 =>
    (if i32 v1 = i32 a1 then
    zlet (a3 + y0) (fun x3 =>
    k5 a1 a2 x3 (a4 + 1))
    else
    zlet (a3 + 0) (fun x2 =>
    k5 a1 a2 x2 (a4 + 1))))
def fX8_lanternsAt_p5 (g : zSt)  : Nat → Int → Int → Int → Int → Option Int
  | 0, _, _, _, _ => none
  | fu + 1, a1, a2, a3, a4 =>
    zck ((0 : Int) ≤ 85 ∧ 85 < 168) (
    (if i32 a4 < i32 (g.1 401 (Int.toNat 85)) then
    (if i32 a2 = i32 0 then
    zbd (fX8_dark g a4) (fun v4 =>
    (if i32 v4 = i32 0 then
    fX8_lanternsAt_p45 g (fX8_lanternsAt_p5 g fu) 1 a1 a2 a3 a4
    else
    fX8_lanternsAt_p45 g (fX8_lanternsAt_p5 g fu) 0 a1 a2 a3 a4))
    else
    zbd (fX8_ofLantern g a4 1) (fun v5 =>
    fX8_lanternsAt_p45 g (fX8_lanternsAt_p5 g fu) v5 a1 a2 a3 a4))
    else
    some a3))
def fX8_lanternsAt (g : zSt) (a1 : Int) (a2 : Int) : Option Int :=
    fX8_lanternsAt_p5 g zfu a1 a2 0 0
theorem wX8_lanternsAt_p45 (cx : zCx Y p s m args meth c RX8 cX8_lanternsAt 6 (some .int)) (g : zSt) {k5 : Int → Int → Int → Int → Option Int} (hk5 : ∀ (a1 : Int) (a2 : Int) (a3 : Int) (a4 : Int), zWo Y p l e (zrm 4) s m args below meth c 6 0 0 (fun v : Int => MQ below (zQi Y v g) args s 0 0 (zA Y)) g [(0, .ref (zad Y 400)), (1, .int (i32 a1)), (2, .int (i32 a2)), (3, .int (i32 a3)), (4, .int (i32 a4))] ([]) 5 (k5 a1 a2 a3 a4)) : ∀ (y0 : Int) (a1 : Int) (a2 : Int) (a3 : Int) (a4 : Int), zWo Y p l e (zrm 4) s m args below meth c 6 0 0 (fun v : Int => MQ below (zQi Y v g) args s 0 0 (zA Y)) g [(0, .ref (zad Y 400)), (1, .int (i32 a1)), (2, .int (i32 a2)), (3, .int (i32 a3)), (4, .int (i32 a4))] (.int (i32 y0) :: []) 45 (fX8_lanternsAt_p45 g k5 y0 a1 a2 a3 a4) := by
  intro y0 a1 a2 a3 a4
  unfold fX8_lanternsAt_p45
  refine zr_istore (pc' := 47) cx rfl (lv' := [(5, .int (i32 y0)), (0, .ref (zad Y 400)), (1, .int (i32 a1)), (2, .int (i32 a2)), (3, .int (i32 a3)), (4, .int (i32 a4))]) dX8_lanternsAt_45 (by decide) rfl ?_
  refine zr_iload_n (pc' := 48) cx rfl 4 dX8_lanternsAt_47 rfl rfl ?_
  refine zr_aload_n (pc' := 49) cx rfl 1 dX8_lanternsAt_48 rfl rfl ?_
  refine zr_iload (pc' := 51) cx rfl 5 dX8_lanternsAt_49 rfl ?_
  refine zr_iconst (pc' := 52) cx rfl dX8_lanternsAt_51 ?_
  refine zc_X8_48 (pc' := 55) cx rfl  ⟨Nat.le_of_ble_eq_true rfl, Nat.le_of_ble_eq_true rfl⟩ ⟨Nat.zero_le _, Nat.zero_le _⟩ (Nat.le_of_ble_eq_true rfl) dX8_lanternsAt_52 (fun v1 => ?_)
  refine zr_iload_n (pc' := 56) cx rfl 2 dX8_lanternsAt_55 rfl rfl ?_
  refine zr_icmp_ne (pc' := 59) cx rfl (tgt := 64) dX8_lanternsAt_56 rfl ?_ ?_
  · refine zr_iconst (pc' := 65) cx rfl dX8_lanternsAt_64 ?_
    refine zr_iadd (pc' := 66) cx rfl dX8_lanternsAt_65 ?_
    refine zr_leti (fun x2 => ?_)
    refine zr_istore_n (pc' := 67) cx rfl (lv' := [(3, .int (i32 x2)), (5, .int (i32 y0)), (0, .ref (zad Y 400)), (1, .int (i32 a1)), (2, .int (i32 a2)), (4, .int (i32 a4))]) dX8_lanternsAt_66 rfl (by decide) rfl ?_
    refine zr_iinc (pc' := 70) cx rfl (lv' := [(4, .int (i32 (a4 + 1))), (3, .int (i32 x2)), (5, .int (i32 y0)), (0, .ref (zad Y 400)), (1, .int (i32 a1)), (2, .int (i32 a2))]) 5 dX8_lanternsAt_67 rfl (by decide) rfl ?_
    refine zr_goto cx (tgt := 5) dX8_lanternsAt_70 rfl ?_
    refine zr_sub [3, 4, 5, 1, 0] rfl ?_
    exact hk5 a1 a2 x2 (a4 + 1)
  · refine zr_iload (pc' := 61) cx rfl 0 dX8_lanternsAt_59 rfl ?_
    refine zr_gotoS cx (tgt := 65) dX8_lanternsAt_61 rfl ?_
    refine zr_iadd (pc' := 66) cx rfl dX8_lanternsAt_65 ?_
    refine zr_leti (fun x3 => ?_)
    refine zr_istore_n (pc' := 67) cx rfl (lv' := [(3, .int (i32 x3)), (5, .int (i32 y0)), (0, .ref (zad Y 400)), (1, .int (i32 a1)), (2, .int (i32 a2)), (4, .int (i32 a4))]) dX8_lanternsAt_66 rfl (by decide) rfl ?_
    refine zr_iinc (pc' := 70) cx rfl (lv' := [(4, .int (i32 (a4 + 1))), (3, .int (i32 x3)), (5, .int (i32 y0)), (0, .ref (zad Y 400)), (1, .int (i32 a1)), (2, .int (i32 a2))]) 5 dX8_lanternsAt_67 rfl (by decide) rfl ?_
    refine zr_goto cx (tgt := 5) dX8_lanternsAt_70 rfl ?_
    refine zr_sub [3, 4, 5, 1, 0] rfl ?_
    exact hk5 a1 a2 x3 (a4 + 1)
theorem wX8_lanternsAt_p5 (cx : zCx Y p s m args meth c RX8 cX8_lanternsAt 6 (some .int)) (g : zSt)   : ∀ (fu : Nat) (a1 : Int) (a2 : Int) (a3 : Int) (a4 : Int), zWo Y p l e (zrm 4) s m args below meth c 6 0 0 (fun v : Int => MQ below (zQi Y v g) args s 0 0 (zA Y)) g [(0, .ref (zad Y 400)), (1, .int (i32 a1)), (2, .int (i32 a2)), (3, .int (i32 a3)), (4, .int (i32 a4))] ([]) 5 (fX8_lanternsAt_p5 g fu a1 a2 a3 a4) := by
  intro fu
  induction fu with
  | zero => intro a1 a2 a3 a4; exact zr_none
  | succ fu ih =>
    intro a1 a2 a3 a4
    rw [fX8_lanternsAt_p5]
    refine zr_iload (pc' := 7) cx rfl 4 dX8_lanternsAt_5 rfl ?_
    refine zr_aload_n (pc' := 8) cx rfl 0 dX8_lanternsAt_7 rfl rfl ?_
    refine zg_X8_7 (pc' := 11) cx rfl zkc_400 dX8_lanternsAt_8 ?_
    refine zr_bipush (pc' := 13) cx rfl dX8_lanternsAt_11 (by decide +kernel) ?_
    refine zr_iald (pc' := 14) cx rfl 16 zkc_401 (by decide) (L := 168) rfl dX8_lanternsAt_13 ?_
    refine zr_icmp_ge (pc' := 17) cx rfl (tgt := 73) dX8_lanternsAt_14 rfl ?_ ?_
    · refine zr_iload_n (pc' := 74) cx rfl 3 dX8_lanternsAt_73 rfl rfl ?_
      exact zr_iretP cx dX8_lanternsAt_74
    · refine zr_iload_n (pc' := 18) cx rfl 2 dX8_lanternsAt_17 rfl rfl ?_
      refine zr_if_eq (pc' := 21) cx rfl (tgt := 31) dX8_lanternsAt_18 rfl ?_ ?_
      · refine zr_aload_n (pc' := 32) cx rfl 0 dX8_lanternsAt_31 rfl rfl ?_
        refine zr_iload (pc' := 34) cx rfl 4 dX8_lanternsAt_32 rfl ?_
        refine zc_X8_54 (pc' := 37) cx rfl  ⟨Nat.le_of_ble_eq_true rfl, Nat.le_of_ble_eq_true rfl⟩ ⟨Nat.zero_le _, Nat.zero_le _⟩ (Nat.le_of_ble_eq_true rfl) dX8_lanternsAt_34 (fun v4 => ?_)
        refine zr_if_ne (pc' := 40) cx rfl (tgt := 44) dX8_lanternsAt_37 rfl ?_ ?_
        · refine zr_iconst (pc' := 45) cx rfl dX8_lanternsAt_44 ?_
          refine zr_sub [0, 1, 2, 3, 4] rfl ?_
          exact wX8_lanternsAt_p45 cx g ih 0 a1 a2 a3 a4
        · refine zr_iconst (pc' := 41) cx rfl dX8_lanternsAt_40 ?_
          refine zr_gotoS cx (tgt := 45) dX8_lanternsAt_41 rfl ?_
          refine zr_sub [0, 1, 2, 3, 4] rfl ?_
          exact wX8_lanternsAt_p45 cx g ih 1 a1 a2 a3 a4
      · refine zr_aload_n (pc' := 22) cx rfl 0 dX8_lanternsAt_21 rfl rfl ?_
        refine zr_iload (pc' := 24) cx rfl 4 dX8_lanternsAt_22 rfl ?_
        refine zr_iconst (pc' := 25) cx rfl dX8_lanternsAt_24 ?_
        refine zc_X8_48 (pc' := 28) cx rfl  ⟨Nat.le_of_ble_eq_true rfl, Nat.le_of_ble_eq_true rfl⟩ ⟨Nat.zero_le _, Nat.zero_le _⟩ (Nat.le_of_ble_eq_true rfl) dX8_lanternsAt_25 (fun v5 => ?_)
        refine zr_gotoS cx (tgt := 45) dX8_lanternsAt_28 rfl ?_
        refine zr_sub [0, 1, 2, 3, 4] rfl ?_
        exact wX8_lanternsAt_p45 cx g ih v5 a1 a2 a3 a4
theorem wX8_lanternsAt (cx : zCx Y p s m args meth c RX8 cX8_lanternsAt 6 (some .int)) (g : zSt) (a1 : Int) (a2 : Int)  : zWo Y p l e (zrm 4) s m args below meth c 6 0 0 (fun v : Int => MQ below (zQi Y v g) args s 0 0 (zA Y)) g [(0, .ref (zad Y 400)), (1, .int (i32 a1)), (2, .int (i32 a2))] ([]) 0 (fX8_lanternsAt g a1 a2) := by
  unfold fX8_lanternsAt
  refine zr_iconst (pc' := 1) cx rfl dX8_lanternsAt_0 ?_
  refine zr_istore_n (pc' := 2) cx rfl (lv' := [(3, .int (i32 0)), (0, .ref (zad Y 400)), (1, .int (i32 a1)), (2, .int (i32 a2))]) dX8_lanternsAt_1 rfl (by decide) rfl ?_
  refine zr_iconst (pc' := 3) cx rfl dX8_lanternsAt_2 ?_
  refine zr_istore (pc' := 5) cx rfl (lv' := [(4, .int (i32 0)), (3, .int (i32 0)), (0, .ref (zad Y 400)), (1, .int (i32 a1)), (2, .int (i32 a2))]) dX8_lanternsAt_3 (by decide) rfl ?_
  refine zr_sub [2, 3, 4, 1, 0] rfl ?_
  exact wX8_lanternsAt_p5 cx g zfu a1 a2 0 0
theorem mX8_lanternsAt (l : Launch) (Y : zLy) (g : zSt) (a1 : Int) (a2 : Int)  : ∀ v, fX8_lanternsAt g a1 a2 = some v → zMt l yX8_lanternsAt cX8_lanternsAt 6 (some .int) 4 [.ref (zad Y 400), .int (i32 a1), .int (i32 a2)] Y g (zQi Y v g) := by
  intro v hv
  refine zmet_of RX8 rfl (by decide +kernel) (Nat.le_of_ble_eq_true rfl) ?_
  intro p e s m below meth c cx H locs ls hH hS hl
  exact wX8_lanternsAt cx g a1 a2  v hv H locs ls hH hS hl
theorem zc_X8_212 (cx : zCx Y p s m args meth c RX8 cc nl ret) (hpc : pc + 3 = pc') {g : zSt} {a1 : Int} {a2 : Int}  {fk : Int → Option ρ} (hR : 4 + 1 ≤ R.frames ∧ 8 + (6 + 11) + 40 * 4 ≤ R.locals) (hkn : k ≤ R.cells ∧ n ≤ R.slots) (hrest : (rest.map fun v => v.category).sum ≤ 8) (hdg : decode cc pc = .ok (.invokevirtual 212, 3)) (kk : ∀ v : Int, zWo Y p l e R s m args below meth c nl k n kq g lv (.int (i32 v) :: rest) pc' (fk v)) : zWo Y p l e R s m args below meth c nl k n kq g lv (.int (i32 a2) :: .int (i32 a1) :: .ref (zad Y 400) :: rest) pc (zbd (fX8_lanternsAt g a1 a2) fk) := zr_callViP cx (an := 2) (As := [.int (i32 a1), .int (i32 a2)]) 9 zkc_400 (by decide) rfl (mX8_lanternsAt l Y g a1 a2) (zG_V zw_1274 zw_1276 zw_84 zw_109 zw_1277) (by decide +kernel) hR hkn rfl rfl hrest hdg hpc kk
def fX8_boxNow (g : zSt) (a1 : Int) (a2 : Int) : Option Int :=
    (if i32 a2 = i32 3 then
    zbd (fX8_depth g a1) (fun v1 =>
    some v1)
    else
    (if i32 a2 = i32 4 then
    zbd (fX8_behind g a1) (fun v2 =>
    some v2)
    else
    (if i32 a2 = i32 5 then
    zbd (fX8_lanternsAt g a1 0) (fun v3 =>
    some v3)
    else
    (if i32 a2 = i32 6 then
    zbd (fX8_lanternsAt g a1 1) (fun v4 =>
    some v4)
    else
    (if i32 a1 = i32 0 then
    some (-1)
    else
    zbd (fX8_ofBox g a1 a2) (fun v5 =>
    some v5))))))
theorem wX8_boxNow (cx : zCx Y p s m args meth c RX8 cX8_boxNow 3 (some .int)) (g : zSt) (a1 : Int) (a2 : Int)  : zWo Y p l e (zrm 5) s m args below meth c 3 0 0 (fun v : Int => MQ below (zQi Y v g) args s 0 0 (zA Y)) g [(0, .ref (zad Y 400)), (1, .int (i32 a1)), (2, .int (i32 a2))] ([]) 0 (fX8_boxNow g a1 a2) := by
  unfold fX8_boxNow
  refine zr_iload_n (pc' := 1) cx rfl 2 dX8_boxNow_0 rfl rfl ?_
  refine zr_case (fun h => ?_) (fun n0 => ?_)
  · refine zr_tabIn cx (off := 31) (tgt := 32) dX8_boxNow_1 (v := 3) (by rw [h]; decide +kernel) (by decide) rfl rfl ?_
    refine zr_aload_n (pc' := 33) cx rfl 0 dX8_boxNow_32 rfl rfl ?_
    refine zr_iload_n (pc' := 34) cx rfl 1 dX8_boxNow_33 rfl rfl ?_
    refine zc_X8_90 (pc' := 37) cx rfl  ⟨Nat.le_of_ble_eq_true rfl, Nat.le_of_ble_eq_true rfl⟩ ⟨Nat.zero_le _, Nat.zero_le _⟩ (Nat.le_of_ble_eq_true rfl) dX8_boxNow_34 (fun v1 => ?_)
    exact zr_iretP cx dX8_boxNow_37
  · refine zr_case (fun h => ?_) (fun n1 => ?_)
    · refine zr_tabIn cx (off := 37) (tgt := 38) dX8_boxNow_1 (v := 4) (by rw [h]; decide +kernel) (by decide) rfl rfl ?_
      refine zr_aload_n (pc' := 39) cx rfl 0 dX8_boxNow_38 rfl rfl ?_
      refine zr_iload_n (pc' := 40) cx rfl 1 dX8_boxNow_39 rfl rfl ?_
      refine zc_X8_209 (pc' := 43) cx rfl  ⟨Nat.le_of_ble_eq_true rfl, Nat.le_of_ble_eq_true rfl⟩ ⟨Nat.zero_le _, Nat.zero_le _⟩ (Nat.le_of_ble_eq_true rfl) dX8_boxNow_40 (fun v2 => ?_)
      exact zr_iretP cx dX8_boxNow_43
    · refine zr_case (fun h => ?_) (fun n2 => ?_)
      · refine zr_tabIn cx (off := 43) (tgt := 44) dX8_boxNow_1 (v := 5) (by rw [h]; decide +kernel) (by decide) rfl rfl ?_
        refine zr_aload_n (pc' := 45) cx rfl 0 dX8_boxNow_44 rfl rfl ?_
        refine zr_iload_n (pc' := 46) cx rfl 1 dX8_boxNow_45 rfl rfl ?_
        refine zr_iconst (pc' := 47) cx rfl dX8_boxNow_46 ?_
        refine zc_X8_212 (pc' := 50) cx rfl  ⟨Nat.le_of_ble_eq_true rfl, Nat.le_of_ble_eq_true rfl⟩ ⟨Nat.zero_le _, Nat.zero_le _⟩ (Nat.le_of_ble_eq_true rfl) dX8_boxNow_47 (fun v3 => ?_)
        exact zr_iretP cx dX8_boxNow_50
      · refine zr_case (fun h => ?_) (fun n3 => ?_)
        · refine zr_tabIn cx (off := 50) (tgt := 51) dX8_boxNow_1 (v := 6) (by rw [h]; decide +kernel) (by decide) rfl rfl ?_
          refine zr_aload_n (pc' := 52) cx rfl 0 dX8_boxNow_51 rfl rfl ?_
          refine zr_iload_n (pc' := 53) cx rfl 1 dX8_boxNow_52 rfl rfl ?_
          refine zr_iconst (pc' := 54) cx rfl dX8_boxNow_53 ?_
          refine zc_X8_212 (pc' := 57) cx rfl  ⟨Nat.le_of_ble_eq_true rfl, Nat.le_of_ble_eq_true rfl⟩ ⟨Nat.zero_le _, Nat.zero_le _⟩ (Nat.le_of_ble_eq_true rfl) dX8_boxNow_54 (fun v4 => ?_)
          exact zr_iretP cx dX8_boxNow_57
        · refine zr_tabOut cx (tgt := 58) dX8_boxNow_1 (by have := zne n0 (k := 3) (by decide +kernel); have := zne n1 (k := 4) (by decide +kernel); have := zne n2 (k := 5) (by decide +kernel); have := zne n3 (k := 6) (by decide +kernel); omega) rfl ?_
          refine zr_iload_n (pc' := 59) cx rfl 1 dX8_boxNow_58 rfl rfl ?_
          refine zr_if_ne (pc' := 62) cx rfl (tgt := 66) dX8_boxNow_59 rfl ?_ ?_
          · refine zr_aload_n (pc' := 67) cx rfl 0 dX8_boxNow_66 rfl rfl ?_
            refine zr_iload_n (pc' := 68) cx rfl 1 dX8_boxNow_67 rfl rfl ?_
            refine zr_iload_n (pc' := 69) cx rfl 2 dX8_boxNow_68 rfl rfl ?_
            refine zc_X8_33 (pc' := 72) cx rfl  ⟨Nat.le_of_ble_eq_true rfl, Nat.le_of_ble_eq_true rfl⟩ ⟨Nat.zero_le _, Nat.zero_le _⟩ (Nat.le_of_ble_eq_true rfl) dX8_boxNow_69 (fun v5 => ?_)
            exact zr_iretP cx dX8_boxNow_72
          · refine zr_iconst (pc' := 63) cx rfl dX8_boxNow_62 ?_
            refine zr_gotoS cx (tgt := 72) dX8_boxNow_63 rfl ?_
            exact zr_iretP cx dX8_boxNow_72
theorem mX8_boxNow (l : Launch) (Y : zLy) (g : zSt) (a1 : Int) (a2 : Int)  : ∀ v, fX8_boxNow g a1 a2 = some v → zMt l yX8_boxNow cX8_boxNow 3 (some .int) 5 [.ref (zad Y 400), .int (i32 a1), .int (i32 a2)] Y g (zQi Y v g) := by
  intro v hv
  refine zmet_of RX8 rfl (by decide +kernel) (Nat.le_of_ble_eq_true rfl) ?_
  intro p e s m below meth c cx H locs ls hH hS hl
  exact wX8_boxNow cx g a1 a2  v hv H locs ls hH hS hl
theorem zc_X8_216 (cx : zCx Y p s m args meth c RX8 cc nl ret) (hpc : pc + 3 = pc') {g : zSt} {a1 : Int} {a2 : Int}  {fk : Int → Option ρ} (hR : 5 + 1 ≤ R.frames ∧ 8 + (3 + 11) + 40 * 5 ≤ R.locals) (hkn : k ≤ R.cells ∧ n ≤ R.slots) (hrest : (rest.map fun v => v.category).sum ≤ 8) (hdg : decode cc pc = .ok (.invokevirtual 216, 3)) (kk : ∀ v : Int, zWo Y p l e R s m args below meth c nl k n kq g lv (.int (i32 v) :: rest) pc' (fk v)) : zWo Y p l e R s m args below meth c nl k n kq g lv (.int (i32 a2) :: .int (i32 a1) :: .ref (zad Y 400) :: rest) pc (zbd (fX8_boxNow g a1 a2) fk) := zr_callViP cx (an := 2) (As := [.int (i32 a1), .int (i32 a2)]) 9 zkc_400 (by decide) rfl (mX8_boxNow l Y g a1 a2) (zG_V zw_1266 zw_1268 zw_82 zw_109 zw_1269) (by decide +kernel) hR hkn rfl rfl hrest hdg hpc kk
def fX8_box_p28  (g : zSt) (y1 : Int) (a1 : Int) (a2 : Int) : Option (Int × zSt) :=
    zlet (zwr g 400 0 y1) (fun g1 =>
    (if i32 0 < i32 (g1.1 400 0) then
    some (0, g1)
    else
    zbd (fX8_boxNow g1 a1 a2) (fun v2 =>
    some (v2, g1))))
def fX8_box (g : zSt) (a1 : Int) (a2 : Int) : Option (Int × zSt) :=
    zbd (fX8_isBox g a1) (fun v3 =>
    (if i32 v3 = i32 0 then
    fX8_box_p28 g 1 a1 a2
    else
    zbd (fX8_within g a2 0 6) (fun v4 =>
    (if i32 v4 = i32 0 then
    fX8_box_p28 g 2 a1 a2
    else
    fX8_box_p28 g 0 a1 a2))))
theorem wX8_box_p28 (cx : zCx Y p s m args meth c RX8 cX8_box 3 (some .int))   : ∀ (g : zSt) (y1 : Int) (a1 : Int) (a2 : Int), zWo Y p l e (zrm 6) s m args below meth c 3 0 0 (fun q : Int × zSt => MQ below (zQi Y q.1 q.2) args s 0 0 (zA Y)) g [(0, .ref (zad Y 400)), (1, .int (i32 a1)), (2, .int (i32 a2))] (.int (i32 y1) :: .ref (zad Y 400) :: []) 28 (fX8_box_p28 g y1 a1 a2) := by
  intro g y1 a1 a2
  unfold fX8_box_p28
  refine zp_X8_25 (pc' := 31) cx rfl zkc_400 dX8_box_28 ?_
  refine zr_letS (fun g1 => ?_)
  refine zr_aload_n (pc' := 32) cx rfl 0 dX8_box_31 rfl rfl ?_
  refine zg_X8_25 (pc' := 35) cx rfl zkc_400 dX8_box_32 ?_
  refine zr_if_le (pc' := 38) cx rfl (tgt := 42) dX8_box_35 rfl ?_ ?_
  · refine zr_aload_n (pc' := 43) cx rfl 0 dX8_box_42 rfl rfl ?_
    refine zr_iload_n (pc' := 44) cx rfl 1 dX8_box_43 rfl rfl ?_
    refine zr_iload_n (pc' := 45) cx rfl 2 dX8_box_44 rfl rfl ?_
    refine zc_X8_216 (pc' := 48) cx rfl  ⟨Nat.le_of_ble_eq_true rfl, Nat.le_of_ble_eq_true rfl⟩ ⟨Nat.zero_le _, Nat.zero_le _⟩ (Nat.le_of_ble_eq_true rfl) dX8_box_45 (fun v2 => ?_)
    exact zr_iretE cx dX8_box_48
  · refine zr_iconst (pc' := 39) cx rfl dX8_box_38 ?_
    refine zr_gotoS cx (tgt := 48) dX8_box_39 rfl ?_
    exact zr_iretE cx dX8_box_48
theorem wX8_box (cx : zCx Y p s m args meth c RX8 cX8_box 3 (some .int)) (g : zSt) (a1 : Int) (a2 : Int)  : zWo Y p l e (zrm 6) s m args below meth c 3 0 0 (fun q : Int × zSt => MQ below (zQi Y q.1 q.2) args s 0 0 (zA Y)) g [(0, .ref (zad Y 400)), (1, .int (i32 a1)), (2, .int (i32 a2))] ([]) 0 (fX8_box g a1 a2) := by
  unfold fX8_box
  refine zr_aload_n (pc' := 1) cx rfl 0 dX8_box_0 rfl rfl ?_
  refine zr_aload_n (pc' := 2) cx rfl 0 dX8_box_1 rfl rfl ?_
  refine zr_iload_n (pc' := 3) cx rfl 1 dX8_box_2 rfl rfl ?_
  refine zc_X8_105 (pc' := 6) cx rfl  ⟨Nat.le_of_ble_eq_true rfl, Nat.le_of_ble_eq_true rfl⟩ ⟨Nat.zero_le _, Nat.zero_le _⟩ (Nat.le_of_ble_eq_true rfl) dX8_box_3 (fun v3 => ?_)
  refine zr_if_ne (pc' := 9) cx rfl (tgt := 13) dX8_box_6 rfl ?_ ?_
  · refine zr_iload_n (pc' := 14) cx rfl 2 dX8_box_13 rfl rfl ?_
    refine zr_iconst (pc' := 15) cx rfl dX8_box_14 ?_
    refine zr_bipush (pc' := 17) cx rfl dX8_box_15 (by decide +kernel) ?_
    refine zc_X8_29 (pc' := 20) cx rfl  ⟨Nat.le_of_ble_eq_true rfl, Nat.le_of_ble_eq_true rfl⟩ ⟨Nat.zero_le _, Nat.zero_le _⟩ (Nat.le_of_ble_eq_true rfl) dX8_box_17 (fun v4 => ?_)
    refine zr_if_eq (pc' := 23) cx rfl (tgt := 27) dX8_box_20 rfl ?_ ?_
    · refine zr_iconst (pc' := 28) cx rfl dX8_box_27 ?_
      refine zr_sub [0, 1, 2] rfl ?_
      exact wX8_box_p28 cx g 2 a1 a2
    · refine zr_iconst (pc' := 24) cx rfl dX8_box_23 ?_
      refine zr_gotoS cx (tgt := 28) dX8_box_24 rfl ?_
      refine zr_sub [0, 1, 2] rfl ?_
      exact wX8_box_p28 cx g 0 a1 a2
  · refine zr_iconst (pc' := 10) cx rfl dX8_box_9 ?_
    refine zr_gotoS cx (tgt := 28) dX8_box_10 rfl ?_
    refine zr_sub [0, 1, 2] rfl ?_
    exact wX8_box_p28 cx g 1 a1 a2
theorem mX8_box (l : Launch) (Y : zLy) (g : zSt) (a1 : Int) (a2 : Int)  : ∀ v g2, fX8_box g a1 a2 = some (v, g2) → zMt l yX8_box cX8_box 3 (some .int) 6 [.ref (zad Y 400), .int (i32 a1), .int (i32 a2)] Y g (zQi Y v g2) := by
  intro v g2 hv
  refine zmet_of RX8 rfl (by decide +kernel) (Nat.le_of_ble_eq_true rfl) ?_
  intro p e s m below meth c cx H locs ls hH hS hl
  exact wX8_box cx g a1 a2  (v, g2) hv H locs ls hH hS hl
def fX8_faultsAt_p5 (g : zSt)  : Nat → Int → Int → Int → Int → Option Int
  | 0, _, _, _, _ => none
  | fu + 1, a1, a2, a3, a4 =>
    zck ((0 : Int) ≤ 134 ∧ 134 < 168) (
    (if i32 a4 < i32 (g.1 401 (Int.toNat 134)) then
    zbd (fX8_ofFault g a4 0) (fun v1 =>
    (if i32 v1 = i32 a1 then
    zbd (fX8_ofFault g a4 1) (fun v3 =>
    (if i32 v3 = i32 a2 then
    zbd (fX8_ofFault g a4 2) (fun v5 =>
    zlet (a3 + v5) (fun x6 =>
    fX8_faultsAt_p5 g fu a1 a2 x6 (a4 + 1)))
    else
    zlet (a3 + 0) (fun x4 =>
    fX8_faultsAt_p5 g fu a1 a2 x4 (a4 + 1))))
    else
    zlet (a3 + 0) (fun x2 =>
    fX8_faultsAt_p5 g fu a1 a2 x2 (a4 + 1))))
    else
    some a3))
def fX8_faultsAt (g : zSt) (a1 : Int) (a2 : Int) : Option Int :=
    fX8_faultsAt_p5 g zfu a1 a2 0 0
theorem wX8_faultsAt_p5 (cx : zCx Y p s m args meth c RX8 cX8_faultsAt 5 (some .int)) (g : zSt)   : ∀ (fu : Nat) (a1 : Int) (a2 : Int) (a3 : Int) (a4 : Int), zWo Y p l e (zrm 1) s m args below meth c 5 0 0 (fun v : Int => MQ below (zQi Y v g) args s 0 0 (zA Y)) g [(0, .ref (zad Y 400)), (1, .int (i32 a1)), (2, .int (i32 a2)), (3, .int (i32 a3)), (4, .int (i32 a4))] ([]) 5 (fX8_faultsAt_p5 g fu a1 a2 a3 a4) := by
  intro fu
  induction fu with
  | zero => intro a1 a2 a3 a4; exact zr_none
  | succ fu ih =>
    intro a1 a2 a3 a4
    rw [fX8_faultsAt_p5]
    refine zr_iload (pc' := 7) cx rfl 4 dX8_faultsAt_5 rfl ?_
    refine zr_aload_n (pc' := 8) cx rfl 0 dX8_faultsAt_7 rfl rfl ?_
    refine zg_X8_7 (pc' := 11) cx rfl zkc_400 dX8_faultsAt_8 ?_
    refine zr_sipush (pc' := 14) cx rfl dX8_faultsAt_11 (by decide +kernel) ?_
    refine zr_iald (pc' := 15) cx rfl 16 zkc_401 (by decide) (L := 168) rfl dX8_faultsAt_14 ?_
    refine zr_icmp_ge (pc' := 18) cx rfl (tgt := 60) dX8_faultsAt_15 rfl ?_ ?_
    · refine zr_iload_n (pc' := 61) cx rfl 3 dX8_faultsAt_60 rfl rfl ?_
      exact zr_iretP cx dX8_faultsAt_61
    · refine zr_iload_n (pc' := 19) cx rfl 3 dX8_faultsAt_18 rfl rfl ?_
      refine zr_aload_n (pc' := 20) cx rfl 0 dX8_faultsAt_19 rfl rfl ?_
      refine zr_iload (pc' := 22) cx rfl 4 dX8_faultsAt_20 rfl ?_
      refine zr_iconst (pc' := 23) cx rfl dX8_faultsAt_22 ?_
      refine zc_X8_58 (pc' := 26) cx rfl  ⟨Nat.le_of_ble_eq_true rfl, Nat.le_of_ble_eq_true rfl⟩ ⟨Nat.zero_le _, Nat.zero_le _⟩ (Nat.le_of_ble_eq_true rfl) dX8_faultsAt_23 (fun v1 => ?_)
      refine zr_iload_n (pc' := 27) cx rfl 1 dX8_faultsAt_26 rfl rfl ?_
      refine zr_icmp_ne (pc' := 30) cx rfl (tgt := 51) dX8_faultsAt_27 rfl ?_ ?_
      · refine zr_iconst (pc' := 52) cx rfl dX8_faultsAt_51 ?_
        refine zr_iadd (pc' := 53) cx rfl dX8_faultsAt_52 ?_
        refine zr_leti (fun x2 => ?_)
        refine zr_istore_n (pc' := 54) cx rfl (lv' := [(3, .int (i32 x2)), (0, .ref (zad Y 400)), (1, .int (i32 a1)), (2, .int (i32 a2)), (4, .int (i32 a4))]) dX8_faultsAt_53 rfl (by decide) rfl ?_
        refine zr_iinc (pc' := 57) cx rfl (lv' := [(4, .int (i32 (a4 + 1))), (3, .int (i32 x2)), (0, .ref (zad Y 400)), (1, .int (i32 a1)), (2, .int (i32 a2))]) 4 dX8_faultsAt_54 rfl (by decide) rfl ?_
        refine zr_goto cx (tgt := 5) dX8_faultsAt_57 rfl ?_
        refine zr_sub [2, 3, 4, 1, 0] rfl ?_
        exact ih a1 a2 x2 (a4 + 1)
      · refine zr_aload_n (pc' := 31) cx rfl 0 dX8_faultsAt_30 rfl rfl ?_
        refine zr_iload (pc' := 33) cx rfl 4 dX8_faultsAt_31 rfl ?_
        refine zr_iconst (pc' := 34) cx rfl dX8_faultsAt_33 ?_
        refine zc_X8_58 (pc' := 37) cx rfl  ⟨Nat.le_of_ble_eq_true rfl, Nat.le_of_ble_eq_true rfl⟩ ⟨Nat.zero_le _, Nat.zero_le _⟩ (Nat.le_of_ble_eq_true rfl) dX8_faultsAt_34 (fun v3 => ?_)
        refine zr_iload_n (pc' := 38) cx rfl 2 dX8_faultsAt_37 rfl rfl ?_
        refine zr_icmp_ne (pc' := 41) cx rfl (tgt := 51) dX8_faultsAt_38 rfl ?_ ?_
        · refine zr_iconst (pc' := 52) cx rfl dX8_faultsAt_51 ?_
          refine zr_iadd (pc' := 53) cx rfl dX8_faultsAt_52 ?_
          refine zr_leti (fun x4 => ?_)
          refine zr_istore_n (pc' := 54) cx rfl (lv' := [(3, .int (i32 x4)), (0, .ref (zad Y 400)), (1, .int (i32 a1)), (2, .int (i32 a2)), (4, .int (i32 a4))]) dX8_faultsAt_53 rfl (by decide) rfl ?_
          refine zr_iinc (pc' := 57) cx rfl (lv' := [(4, .int (i32 (a4 + 1))), (3, .int (i32 x4)), (0, .ref (zad Y 400)), (1, .int (i32 a1)), (2, .int (i32 a2))]) 4 dX8_faultsAt_54 rfl (by decide) rfl ?_
          refine zr_goto cx (tgt := 5) dX8_faultsAt_57 rfl ?_
          refine zr_sub [2, 3, 4, 1, 0] rfl ?_
          exact ih a1 a2 x4 (a4 + 1)
        · refine zr_aload_n (pc' := 42) cx rfl 0 dX8_faultsAt_41 rfl rfl ?_
          refine zr_iload (pc' := 44) cx rfl 4 dX8_faultsAt_42 rfl ?_
          refine zr_iconst (pc' := 45) cx rfl dX8_faultsAt_44 ?_
          refine zc_X8_58 (pc' := 48) cx rfl  ⟨Nat.le_of_ble_eq_true rfl, Nat.le_of_ble_eq_true rfl⟩ ⟨Nat.zero_le _, Nat.zero_le _⟩ (Nat.le_of_ble_eq_true rfl) dX8_faultsAt_45 (fun v5 => ?_)
          refine zr_gotoS cx (tgt := 52) dX8_faultsAt_48 rfl ?_
          refine zr_iadd (pc' := 53) cx rfl dX8_faultsAt_52 ?_
          refine zr_leti (fun x6 => ?_)
          refine zr_istore_n (pc' := 54) cx rfl (lv' := [(3, .int (i32 x6)), (0, .ref (zad Y 400)), (1, .int (i32 a1)), (2, .int (i32 a2)), (4, .int (i32 a4))]) dX8_faultsAt_53 rfl (by decide) rfl ?_
          refine zr_iinc (pc' := 57) cx rfl (lv' := [(4, .int (i32 (a4 + 1))), (3, .int (i32 x6)), (0, .ref (zad Y 400)), (1, .int (i32 a1)), (2, .int (i32 a2))]) 4 dX8_faultsAt_54 rfl (by decide) rfl ?_
          refine zr_goto cx (tgt := 5) dX8_faultsAt_57 rfl ?_
          refine zr_sub [2, 3, 4, 1, 0] rfl ?_
          exact ih a1 a2 x6 (a4 + 1)
theorem wX8_faultsAt (cx : zCx Y p s m args meth c RX8 cX8_faultsAt 5 (some .int)) (g : zSt) (a1 : Int) (a2 : Int)  : zWo Y p l e (zrm 1) s m args below meth c 5 0 0 (fun v : Int => MQ below (zQi Y v g) args s 0 0 (zA Y)) g [(0, .ref (zad Y 400)), (1, .int (i32 a1)), (2, .int (i32 a2))] ([]) 0 (fX8_faultsAt g a1 a2) := by
  unfold fX8_faultsAt
  refine zr_iconst (pc' := 1) cx rfl dX8_faultsAt_0 ?_
  refine zr_istore_n (pc' := 2) cx rfl (lv' := [(3, .int (i32 0)), (0, .ref (zad Y 400)), (1, .int (i32 a1)), (2, .int (i32 a2))]) dX8_faultsAt_1 rfl (by decide) rfl ?_
  refine zr_iconst (pc' := 3) cx rfl dX8_faultsAt_2 ?_
  refine zr_istore (pc' := 5) cx rfl (lv' := [(4, .int (i32 0)), (3, .int (i32 0)), (0, .ref (zad Y 400)), (1, .int (i32 a1)), (2, .int (i32 a2))]) dX8_faultsAt_3 (by decide) rfl ?_
  refine zr_sub [2, 3, 4, 1, 0] rfl ?_
  exact wX8_faultsAt_p5 cx g zfu a1 a2 0 0
theorem mX8_faultsAt (l : Launch) (Y : zLy) (g : zSt) (a1 : Int) (a2 : Int)  : ∀ v, fX8_faultsAt g a1 a2 = some v → zMt l yX8_faultsAt cX8_faultsAt 5 (some .int) 1 [.ref (zad Y 400), .int (i32 a1), .int (i32 a2)] Y g (zQi Y v g) := by
  intro v hv
  refine zmet_of RX8 rfl (by decide +kernel) (Nat.le_of_ble_eq_true rfl) ?_
  intro p e s m below meth c cx H locs ls hH hS hl
  exact wX8_faultsAt cx g a1 a2  v hv H locs ls hH hS hl
theorem zc_X8_219 (cx : zCx Y p s m args meth c RX8 cc nl ret) (hpc : pc + 3 = pc') {g : zSt} {a1 : Int} {a2 : Int}  {fk : Int → Option ρ} (hR : 1 + 1 ≤ R.frames ∧ 8 + (5 + 11) + 40 * 1 ≤ R.locals) (hkn : k ≤ R.cells ∧ n ≤ R.slots) (hrest : (rest.map fun v => v.category).sum ≤ 8) (hdg : decode cc pc = .ok (.invokevirtual 219, 3)) (kk : ∀ v : Int, zWo Y p l e R s m args below meth c nl k n kq g lv (.int (i32 v) :: rest) pc' (fk v)) : zWo Y p l e R s m args below meth c nl k n kq g lv (.int (i32 a2) :: .int (i32 a1) :: .ref (zad Y 400) :: rest) pc (zbd (fX8_faultsAt g a1 a2) fk) := zr_callViP cx (an := 2) (As := [.int (i32 a1), .int (i32 a2)]) 9 zkc_400 (by decide) rfl (mX8_faultsAt l Y g a1 a2) (zG_V zw_1286 zw_1288 zw_86 zw_109 zw_1289) (by decide +kernel) hR hkn rfl rfl hrest hdg hpc kk
def fX8_terminalNow (g : zSt) (a1 : Int) (a2 : Int) (a3 : Int) : Option Int :=
    (if i32 a3 = i32 0 then
    zbd (fX8_pole g a1 a2) (fun v1 =>
    some v1)
    else
    (if i32 a3 = i32 1 then
    zbd (fX8_isAlive g a1 a2) (fun v2 =>
    (if i32 v2 = i32 0 then
    some 0
    else
    some 1))
    else
    (if i32 a3 = i32 2 then
    zbd (fX8_current g a1 a2) (fun v3 =>
    some v3)
    else
    (if i32 a3 = i32 3 then
    (if i32 a1 = i32 0 then
    some (-1)
    else
    zbd (fX8_ofBox g a1 (3 + a2)) (fun v4 =>
    some v4))
    else
    (if i32 a3 = i32 4 then
    (if i32 a1 = i32 0 then
    some (-1)
    else
    zbd (fX8_ofBox g a1 (5 + a2)) (fun v5 =>
    some v5))
    else
    zbd (fX8_faultsAt g a1 a2) (fun v6 =>
    some v6))))))
theorem wX8_terminalNow (cx : zCx Y p s m args meth c RX8 cX8_terminalNow 4 (some .int)) (g : zSt) (a1 : Int) (a2 : Int) (a3 : Int)  : zWo Y p l e (zrm 9) s m args below meth c 4 0 0 (fun v : Int => MQ below (zQi Y v g) args s 0 0 (zA Y)) g [(0, .ref (zad Y 400)), (1, .int (i32 a1)), (2, .int (i32 a2)), (3, .int (i32 a3))] ([]) 0 (fX8_terminalNow g a1 a2 a3) := by
  unfold fX8_terminalNow
  refine zr_iload_n (pc' := 1) cx rfl 3 dX8_terminalNow_0 rfl rfl ?_
  refine zr_case (fun h => ?_) (fun n0 => ?_)
  · refine zr_tabIn cx (off := 35) (tgt := 36) dX8_terminalNow_1 (v := 0) (by rw [h]; decide +kernel) (by decide) rfl rfl ?_
    refine zr_aload_n (pc' := 37) cx rfl 0 dX8_terminalNow_36 rfl rfl ?_
    refine zr_iload_n (pc' := 38) cx rfl 1 dX8_terminalNow_37 rfl rfl ?_
    refine zr_iload_n (pc' := 39) cx rfl 2 dX8_terminalNow_38 rfl rfl ?_
    refine zc_X8_51 (pc' := 42) cx rfl  ⟨Nat.le_of_ble_eq_true rfl, Nat.le_of_ble_eq_true rfl⟩ ⟨Nat.zero_le _, Nat.zero_le _⟩ (Nat.le_of_ble_eq_true rfl) dX8_terminalNow_39 (fun v1 => ?_)
    exact zr_iretP cx dX8_terminalNow_42
  · refine zr_case (fun h => ?_) (fun n1 => ?_)
    · refine zr_tabIn cx (off := 42) (tgt := 43) dX8_terminalNow_1 (v := 1) (by rw [h]; decide +kernel) (by decide) rfl rfl ?_
      refine zr_aload_n (pc' := 44) cx rfl 0 dX8_terminalNow_43 rfl rfl ?_
      refine zr_iload_n (pc' := 45) cx rfl 1 dX8_terminalNow_44 rfl rfl ?_
      refine zr_iload_n (pc' := 46) cx rfl 2 dX8_terminalNow_45 rfl rfl ?_
      refine zc_X8_61 (pc' := 49) cx rfl  ⟨Nat.le_of_ble_eq_true rfl, Nat.le_of_ble_eq_true rfl⟩ ⟨Nat.zero_le _, Nat.zero_le _⟩ (Nat.le_of_ble_eq_true rfl) dX8_terminalNow_46 (fun v2 => ?_)
      refine zr_if_eq (pc' := 52) cx rfl (tgt := 56) dX8_terminalNow_49 rfl ?_ ?_
      · refine zr_iconst (pc' := 57) cx rfl dX8_terminalNow_56 ?_
        exact zr_iretP cx dX8_terminalNow_57
      · refine zr_iconst (pc' := 53) cx rfl dX8_terminalNow_52 ?_
        refine zr_gotoS cx (tgt := 57) dX8_terminalNow_53 rfl ?_
        exact zr_iretP cx dX8_terminalNow_57
    · refine zr_case (fun h => ?_) (fun n2 => ?_)
      · refine zr_tabIn cx (off := 57) (tgt := 58) dX8_terminalNow_1 (v := 2) (by rw [h]; decide +kernel) (by decide) rfl rfl ?_
        refine zr_aload_n (pc' := 59) cx rfl 0 dX8_terminalNow_58 rfl rfl ?_
        refine zr_iload_n (pc' := 60) cx rfl 1 dX8_terminalNow_59 rfl rfl ?_
        refine zr_iload_n (pc' := 61) cx rfl 2 dX8_terminalNow_60 rfl rfl ?_
        refine zc_X8_87 (pc' := 64) cx rfl  ⟨Nat.le_of_ble_eq_true rfl, Nat.le_of_ble_eq_true rfl⟩ ⟨Nat.zero_le _, Nat.zero_le _⟩ (Nat.le_of_ble_eq_true rfl) dX8_terminalNow_61 (fun v3 => ?_)
        exact zr_iretP cx dX8_terminalNow_64
      · refine zr_case (fun h => ?_) (fun n3 => ?_)
        · refine zr_tabIn cx (off := 64) (tgt := 65) dX8_terminalNow_1 (v := 3) (by rw [h]; decide +kernel) (by decide) rfl rfl ?_
          refine zr_iload_n (pc' := 66) cx rfl 1 dX8_terminalNow_65 rfl rfl ?_
          refine zr_if_ne (pc' := 69) cx rfl (tgt := 73) dX8_terminalNow_66 rfl ?_ ?_
          · refine zr_aload_n (pc' := 74) cx rfl 0 dX8_terminalNow_73 rfl rfl ?_
            refine zr_iload_n (pc' := 75) cx rfl 1 dX8_terminalNow_74 rfl rfl ?_
            refine zr_iconst (pc' := 76) cx rfl dX8_terminalNow_75 ?_
            refine zr_iload_n (pc' := 77) cx rfl 2 dX8_terminalNow_76 rfl rfl ?_
            refine zr_iadd (pc' := 78) cx rfl dX8_terminalNow_77 ?_
            refine zc_X8_33 (pc' := 81) cx rfl  ⟨Nat.le_of_ble_eq_true rfl, Nat.le_of_ble_eq_true rfl⟩ ⟨Nat.zero_le _, Nat.zero_le _⟩ (Nat.le_of_ble_eq_true rfl) dX8_terminalNow_78 (fun v4 => ?_)
            exact zr_iretP cx dX8_terminalNow_81
          · refine zr_iconst (pc' := 70) cx rfl dX8_terminalNow_69 ?_
            refine zr_gotoS cx (tgt := 81) dX8_terminalNow_70 rfl ?_
            exact zr_iretP cx dX8_terminalNow_81
        · refine zr_case (fun h => ?_) (fun n4 => ?_)
          · refine zr_tabIn cx (off := 81) (tgt := 82) dX8_terminalNow_1 (v := 4) (by rw [h]; decide +kernel) (by decide) rfl rfl ?_
            refine zr_iload_n (pc' := 83) cx rfl 1 dX8_terminalNow_82 rfl rfl ?_
            refine zr_if_ne (pc' := 86) cx rfl (tgt := 90) dX8_terminalNow_83 rfl ?_ ?_
            · refine zr_aload_n (pc' := 91) cx rfl 0 dX8_terminalNow_90 rfl rfl ?_
              refine zr_iload_n (pc' := 92) cx rfl 1 dX8_terminalNow_91 rfl rfl ?_
              refine zr_iconst (pc' := 93) cx rfl dX8_terminalNow_92 ?_
              refine zr_iload_n (pc' := 94) cx rfl 2 dX8_terminalNow_93 rfl rfl ?_
              refine zr_iadd (pc' := 95) cx rfl dX8_terminalNow_94 ?_
              refine zc_X8_33 (pc' := 98) cx rfl  ⟨Nat.le_of_ble_eq_true rfl, Nat.le_of_ble_eq_true rfl⟩ ⟨Nat.zero_le _, Nat.zero_le _⟩ (Nat.le_of_ble_eq_true rfl) dX8_terminalNow_95 (fun v5 => ?_)
              exact zr_iretP cx dX8_terminalNow_98
            · refine zr_iconst (pc' := 87) cx rfl dX8_terminalNow_86 ?_
              refine zr_gotoS cx (tgt := 98) dX8_terminalNow_87 rfl ?_
              exact zr_iretP cx dX8_terminalNow_98
          · refine zr_tabOut cx (tgt := 99) dX8_terminalNow_1 (by have := zne n0 (k := 0) (by decide +kernel); have := zne n1 (k := 1) (by decide +kernel); have := zne n2 (k := 2) (by decide +kernel); have := zne n3 (k := 3) (by decide +kernel); have := zne n4 (k := 4) (by decide +kernel); omega) rfl ?_
            refine zr_aload_n (pc' := 100) cx rfl 0 dX8_terminalNow_99 rfl rfl ?_
            refine zr_iload_n (pc' := 101) cx rfl 1 dX8_terminalNow_100 rfl rfl ?_
            refine zr_iload_n (pc' := 102) cx rfl 2 dX8_terminalNow_101 rfl rfl ?_
            refine zc_X8_219 (pc' := 105) cx rfl  ⟨Nat.le_of_ble_eq_true rfl, Nat.le_of_ble_eq_true rfl⟩ ⟨Nat.zero_le _, Nat.zero_le _⟩ (Nat.le_of_ble_eq_true rfl) dX8_terminalNow_102 (fun v6 => ?_)
            exact zr_iretP cx dX8_terminalNow_105
theorem mX8_terminalNow (l : Launch) (Y : zLy) (g : zSt) (a1 : Int) (a2 : Int) (a3 : Int)  : ∀ v, fX8_terminalNow g a1 a2 a3 = some v → zMt l yX8_terminalNow cX8_terminalNow 4 (some .int) 9 [.ref (zad Y 400), .int (i32 a1), .int (i32 a2), .int (i32 a3)] Y g (zQi Y v g) := by
  intro v hv
  refine zmet_of RX8 rfl (by decide +kernel) (Nat.le_of_ble_eq_true rfl) ?_
  intro p e s m below meth c cx H locs ls hH hS hl
  exact wX8_terminalNow cx g a1 a2 a3  v hv H locs ls hH hS hl
theorem zc_X8_222 (cx : zCx Y p s m args meth c RX8 cc nl ret) (hpc : pc + 3 = pc') {g : zSt} {a1 : Int} {a2 : Int} {a3 : Int}  {fk : Int → Option ρ} (hR : 9 + 1 ≤ R.frames ∧ 8 + (4 + 11) + 40 * 9 ≤ R.locals) (hkn : k ≤ R.cells ∧ n ≤ R.slots) (hrest : (rest.map fun v => v.category).sum ≤ 8) (hdg : decode cc pc = .ok (.invokevirtual 222, 3)) (kk : ∀ v : Int, zWo Y p l e R s m args below meth c nl k n kq g lv (.int (i32 v) :: rest) pc' (fk v)) : zWo Y p l e R s m args below meth c nl k n kq g lv (.int (i32 a3) :: .int (i32 a2) :: .int (i32 a1) :: .ref (zad Y 400) :: rest) pc (zbd (fX8_terminalNow g a1 a2 a3) fk) := zr_callViP cx (an := 3) (As := [.int (i32 a1), .int (i32 a2), .int (i32 a3)]) 9 zkc_400 (by decide) rfl (mX8_terminalNow l Y g a1 a2 a3) (zG_V zw_1282 zw_1284 zw_85 zw_109 zw_1285) (by decide +kernel) hR hkn rfl rfl hrest hdg hpc kk
def fX8_terminal_p46  (g : zSt) (y1 : Int) (a1 : Int) (a2 : Int) (a3 : Int) : Option (Int × zSt) :=
    zlet (zwr g 400 0 y1) (fun g1 =>
    (if i32 0 < i32 (g1.1 400 0) then
    some (0, g1)
    else
    zbd (fX8_terminalNow g1 a1 a2 a3) (fun v2 =>
    some (v2, g1))))
def fX8_terminal_p20  (g : zSt) (y0 : Int) (a1 : Int) (a2 : Int) (a3 : Int) : Option (Int × zSt) :=
    (if i32 y0 = i32 0 then
    fX8_terminal_p46 g 1 a1 a2 a3
    else
    zbd (fX8_within g a3 0 5) (fun v3 =>
    (if i32 v3 = i32 0 then
    fX8_terminal_p46 g 2 a1 a2 a3
    else
    fX8_terminal_p46 g 0 a1 a2 a3)))
def fX8_terminal (g : zSt) (a1 : Int) (a2 : Int) (a3 : Int) : Option (Int × zSt) :=
    zbd (fX8_isBox g a1) (fun v4 =>
    (if i32 v4 = i32 0 then
    fX8_terminal_p20 g 0 a1 a2 a3
    else
    zbd (fX8_isTerminal g a2) (fun v5 =>
    (if i32 v5 = i32 0 then
    fX8_terminal_p20 g 0 a1 a2 a3
    else
    fX8_terminal_p20 g 1 a1 a2 a3))))
theorem wX8_terminal_p46 (cx : zCx Y p s m args meth c RX8 cX8_terminal 5 (some .int))   : ∀ (g : zSt) (y1 : Int) (a1 : Int) (a2 : Int) (a3 : Int), zWo Y p l e (zrm 10) s m args below meth c 5 0 0 (fun q : Int × zSt => MQ below (zQi Y q.1 q.2) args s 0 0 (zA Y)) g [(0, .ref (zad Y 400)), (1, .int (i32 a1)), (2, .int (i32 a2)), (3, .int (i32 a3))] (.int (i32 y1) :: .ref (zad Y 400) :: []) 46 (fX8_terminal_p46 g y1 a1 a2 a3) := by
  intro g y1 a1 a2 a3
  unfold fX8_terminal_p46
  refine zp_X8_25 (pc' := 49) cx rfl zkc_400 dX8_terminal_46 ?_
  refine zr_letS (fun g1 => ?_)
  refine zr_aload_n (pc' := 50) cx rfl 0 dX8_terminal_49 rfl rfl ?_
  refine zg_X8_25 (pc' := 53) cx rfl zkc_400 dX8_terminal_50 ?_
  refine zr_if_le (pc' := 56) cx rfl (tgt := 60) dX8_terminal_53 rfl ?_ ?_
  · refine zr_aload_n (pc' := 61) cx rfl 0 dX8_terminal_60 rfl rfl ?_
    refine zr_iload_n (pc' := 62) cx rfl 1 dX8_terminal_61 rfl rfl ?_
    refine zr_iload_n (pc' := 63) cx rfl 2 dX8_terminal_62 rfl rfl ?_
    refine zr_iload_n (pc' := 64) cx rfl 3 dX8_terminal_63 rfl rfl ?_
    refine zc_X8_222 (pc' := 67) cx rfl  ⟨Nat.le_of_ble_eq_true rfl, Nat.le_of_ble_eq_true rfl⟩ ⟨Nat.zero_le _, Nat.zero_le _⟩ (Nat.le_of_ble_eq_true rfl) dX8_terminal_64 (fun v2 => ?_)
    exact zr_iretE cx dX8_terminal_67
  · refine zr_iconst (pc' := 57) cx rfl dX8_terminal_56 ?_
    refine zr_gotoS cx (tgt := 67) dX8_terminal_57 rfl ?_
    exact zr_iretE cx dX8_terminal_67
theorem wX8_terminal_p20 (cx : zCx Y p s m args meth c RX8 cX8_terminal 5 (some .int))   : ∀ (g : zSt) (y0 : Int) (a1 : Int) (a2 : Int) (a3 : Int), zWo Y p l e (zrm 10) s m args below meth c 5 0 0 (fun q : Int × zSt => MQ below (zQi Y q.1 q.2) args s 0 0 (zA Y)) g [(0, .ref (zad Y 400)), (1, .int (i32 a1)), (2, .int (i32 a2)), (3, .int (i32 a3))] (.int (i32 y0) :: []) 20 (fX8_terminal_p20 g y0 a1 a2 a3) := by
  intro g y0 a1 a2 a3
  unfold fX8_terminal_p20
  refine zr_istore (pc' := 22) cx rfl (lv' := [(4, .int (i32 y0)), (0, .ref (zad Y 400)), (1, .int (i32 a1)), (2, .int (i32 a2)), (3, .int (i32 a3))]) dX8_terminal_20 (by decide) rfl ?_
  refine zr_aload_n (pc' := 23) cx rfl 1 dX8_terminal_22 rfl rfl ?_
  refine zr_iload (pc' := 25) cx rfl 0 dX8_terminal_23 rfl ?_
  refine zr_if_ne (pc' := 28) cx rfl (tgt := 32) dX8_terminal_25 rfl ?_ ?_
  · refine zr_iload_n (pc' := 33) cx rfl 4 dX8_terminal_32 rfl rfl ?_
    refine zr_iconst (pc' := 34) cx rfl dX8_terminal_33 ?_
    refine zr_iconst (pc' := 35) cx rfl dX8_terminal_34 ?_
    refine zc_X8_29 (pc' := 38) cx rfl  ⟨Nat.le_of_ble_eq_true rfl, Nat.le_of_ble_eq_true rfl⟩ ⟨Nat.zero_le _, Nat.zero_le _⟩ (Nat.le_of_ble_eq_true rfl) dX8_terminal_35 (fun v3 => ?_)
    refine zr_if_eq (pc' := 41) cx rfl (tgt := 45) dX8_terminal_38 rfl ?_ ?_
    · refine zr_iconst (pc' := 46) cx rfl dX8_terminal_45 ?_
      refine zr_sub [1, 2, 3, 4] rfl ?_
      exact wX8_terminal_p46 cx g 2 a1 a2 a3
    · refine zr_iconst (pc' := 42) cx rfl dX8_terminal_41 ?_
      refine zr_gotoS cx (tgt := 46) dX8_terminal_42 rfl ?_
      refine zr_sub [1, 2, 3, 4] rfl ?_
      exact wX8_terminal_p46 cx g 0 a1 a2 a3
  · refine zr_iconst (pc' := 29) cx rfl dX8_terminal_28 ?_
    refine zr_gotoS cx (tgt := 46) dX8_terminal_29 rfl ?_
    refine zr_sub [1, 2, 3, 4] rfl ?_
    exact wX8_terminal_p46 cx g 1 a1 a2 a3
theorem wX8_terminal (cx : zCx Y p s m args meth c RX8 cX8_terminal 5 (some .int)) (g : zSt) (a1 : Int) (a2 : Int) (a3 : Int)  : zWo Y p l e (zrm 10) s m args below meth c 5 0 0 (fun q : Int × zSt => MQ below (zQi Y q.1 q.2) args s 0 0 (zA Y)) g [(0, .ref (zad Y 400)), (1, .int (i32 a1)), (2, .int (i32 a2)), (3, .int (i32 a3))] ([]) 0 (fX8_terminal g a1 a2 a3) := by
  unfold fX8_terminal
  refine zr_aload_n (pc' := 1) cx rfl 0 dX8_terminal_0 rfl rfl ?_
  refine zr_iload_n (pc' := 2) cx rfl 1 dX8_terminal_1 rfl rfl ?_
  refine zc_X8_105 (pc' := 5) cx rfl  ⟨Nat.le_of_ble_eq_true rfl, Nat.le_of_ble_eq_true rfl⟩ ⟨Nat.zero_le _, Nat.zero_le _⟩ (Nat.le_of_ble_eq_true rfl) dX8_terminal_2 (fun v4 => ?_)
  refine zr_if_eq (pc' := 8) cx rfl (tgt := 19) dX8_terminal_5 rfl ?_ ?_
  · refine zr_iconst (pc' := 20) cx rfl dX8_terminal_19 ?_
    refine zr_sub [0, 1, 2, 3] rfl ?_
    exact wX8_terminal_p20 cx g 0 a1 a2 a3
  · refine zr_iload_n (pc' := 9) cx rfl 2 dX8_terminal_8 rfl rfl ?_
    refine zc_X8_135 (pc' := 12) cx rfl  ⟨Nat.le_of_ble_eq_true rfl, Nat.le_of_ble_eq_true rfl⟩ ⟨Nat.zero_le _, Nat.zero_le _⟩ (Nat.le_of_ble_eq_true rfl) dX8_terminal_9 (fun v5 => ?_)
    refine zr_if_eq (pc' := 15) cx rfl (tgt := 19) dX8_terminal_12 rfl ?_ ?_
    · refine zr_iconst (pc' := 20) cx rfl dX8_terminal_19 ?_
      refine zr_sub [0, 1, 2, 3] rfl ?_
      exact wX8_terminal_p20 cx g 0 a1 a2 a3
    · refine zr_iconst (pc' := 16) cx rfl dX8_terminal_15 ?_
      refine zr_gotoS cx (tgt := 20) dX8_terminal_16 rfl ?_
      refine zr_sub [0, 1, 2, 3] rfl ?_
      exact wX8_terminal_p20 cx g 1 a1 a2 a3
theorem mX8_terminal (l : Launch) (Y : zLy) (g : zSt) (a1 : Int) (a2 : Int) (a3 : Int)  : ∀ v g2, fX8_terminal g a1 a2 a3 = some (v, g2) → zMt l yX8_terminal cX8_terminal 5 (some .int) 10 [.ref (zad Y 400), .int (i32 a1), .int (i32 a2), .int (i32 a3)] Y g (zQi Y v g2) := by
  intro v g2 hv
  refine zmet_of RX8 rfl (by decide +kernel) (Nat.le_of_ble_eq_true rfl) ?_
  intro p e s m below meth c cx H locs ls hH hS hl
  exact wX8_terminal cx g a1 a2 a3  (v, g2) hv H locs ls hH hS hl
def fX8_lanternNow (g : zSt) (a1 : Int) (a2 : Int) : Option Int :=
    (if i32 a2 = i32 3 then
    zbd (fX8_dark g a1) (fun v2 =>
    some v2)
    else
    zbd (fX8_ofLantern g a1 a2) (fun v1 =>
    some v1))
theorem wX8_lanternNow (cx : zCx Y p s m args meth c RX8 cX8_lanternNow 3 (some .int)) (g : zSt) (a1 : Int) (a2 : Int)  : zWo Y p l e (zrm 4) s m args below meth c 3 0 0 (fun v : Int => MQ below (zQi Y v g) args s 0 0 (zA Y)) g [(0, .ref (zad Y 400)), (1, .int (i32 a1)), (2, .int (i32 a2))] ([]) 0 (fX8_lanternNow g a1 a2) := by
  unfold fX8_lanternNow
  refine zr_iload_n (pc' := 1) cx rfl 2 dX8_lanternNow_0 rfl rfl ?_
  refine zr_iconst (pc' := 2) cx rfl dX8_lanternNow_1 ?_
  refine zr_icmp_ne (pc' := 5) cx rfl (tgt := 13) dX8_lanternNow_2 rfl ?_ ?_
  · refine zr_aload_n (pc' := 14) cx rfl 0 dX8_lanternNow_13 rfl rfl ?_
    refine zr_iload_n (pc' := 15) cx rfl 1 dX8_lanternNow_14 rfl rfl ?_
    refine zr_iload_n (pc' := 16) cx rfl 2 dX8_lanternNow_15 rfl rfl ?_
    refine zc_X8_48 (pc' := 19) cx rfl  ⟨Nat.le_of_ble_eq_true rfl, Nat.le_of_ble_eq_true rfl⟩ ⟨Nat.zero_le _, Nat.zero_le _⟩ (Nat.le_of_ble_eq_true rfl) dX8_lanternNow_16 (fun v1 => ?_)
    exact zr_iretP cx dX8_lanternNow_19
  · refine zr_aload_n (pc' := 6) cx rfl 0 dX8_lanternNow_5 rfl rfl ?_
    refine zr_iload_n (pc' := 7) cx rfl 1 dX8_lanternNow_6 rfl rfl ?_
    refine zc_X8_54 (pc' := 10) cx rfl  ⟨Nat.le_of_ble_eq_true rfl, Nat.le_of_ble_eq_true rfl⟩ ⟨Nat.zero_le _, Nat.zero_le _⟩ (Nat.le_of_ble_eq_true rfl) dX8_lanternNow_7 (fun v2 => ?_)
    refine zr_gotoS cx (tgt := 19) dX8_lanternNow_10 rfl ?_
    exact zr_iretP cx dX8_lanternNow_19
theorem mX8_lanternNow (l : Launch) (Y : zLy) (g : zSt) (a1 : Int) (a2 : Int)  : ∀ v, fX8_lanternNow g a1 a2 = some v → zMt l yX8_lanternNow cX8_lanternNow 3 (some .int) 4 [.ref (zad Y 400), .int (i32 a1), .int (i32 a2)] Y g (zQi Y v g) := by
  intro v hv
  refine zmet_of RX8 rfl (by decide +kernel) (Nat.le_of_ble_eq_true rfl) ?_
  intro p e s m below meth c cx H locs ls hH hS hl
  exact wX8_lanternNow cx g a1 a2  v hv H locs ls hH hS hl
theorem zc_X8_225 (cx : zCx Y p s m args meth c RX8 cc nl ret) (hpc : pc + 3 = pc') {g : zSt} {a1 : Int} {a2 : Int}  {fk : Int → Option ρ} (hR : 4 + 1 ≤ R.frames ∧ 8 + (3 + 11) + 40 * 4 ≤ R.locals) (hkn : k ≤ R.cells ∧ n ≤ R.slots) (hrest : (rest.map fun v => v.category).sum ≤ 8) (hdg : decode cc pc = .ok (.invokevirtual 225, 3)) (kk : ∀ v : Int, zWo Y p l e R s m args below meth c nl k n kq g lv (.int (i32 v) :: rest) pc' (fk v)) : zWo Y p l e R s m args below meth c nl k n kq g lv (.int (i32 a2) :: .int (i32 a1) :: .ref (zad Y 400) :: rest) pc (zbd (fX8_lanternNow g a1 a2) fk) := zr_callViP cx (an := 2) (As := [.int (i32 a1), .int (i32 a2)]) 9 zkc_400 (by decide) rfl (mX8_lanternNow l Y g a1 a2) (zG_V zw_1294 zw_1296 zw_87 zw_109 zw_1297) (by decide +kernel) hR hkn rfl rfl hrest hdg hpc kk
def fX8_lantern_p27  (g : zSt) (y1 : Int) (a1 : Int) (a2 : Int) : Option (Int × zSt) :=
    zlet (zwr g 400 0 y1) (fun g1 =>
    (if i32 0 < i32 (g1.1 400 0) then
    some (0, g1)
    else
    zbd (fX8_lanternNow g1 a1 a2) (fun v2 =>
    some (v2, g1))))
def fX8_lantern (g : zSt) (a1 : Int) (a2 : Int) : Option (Int × zSt) :=
    zbd (fX8_isLantern g a1) (fun v3 =>
    (if i32 v3 = i32 0 then
    fX8_lantern_p27 g 1 a1 a2
    else
    zbd (fX8_within g a2 0 3) (fun v4 =>
    (if i32 v4 = i32 0 then
    fX8_lantern_p27 g 2 a1 a2
    else
    fX8_lantern_p27 g 0 a1 a2))))
theorem wX8_lantern_p27 (cx : zCx Y p s m args meth c RX8 cX8_lantern 3 (some .int))   : ∀ (g : zSt) (y1 : Int) (a1 : Int) (a2 : Int), zWo Y p l e (zrm 5) s m args below meth c 3 0 0 (fun q : Int × zSt => MQ below (zQi Y q.1 q.2) args s 0 0 (zA Y)) g [(0, .ref (zad Y 400)), (1, .int (i32 a1)), (2, .int (i32 a2))] (.int (i32 y1) :: .ref (zad Y 400) :: []) 27 (fX8_lantern_p27 g y1 a1 a2) := by
  intro g y1 a1 a2
  unfold fX8_lantern_p27
  refine zp_X8_25 (pc' := 30) cx rfl zkc_400 dX8_lantern_27 ?_
  refine zr_letS (fun g1 => ?_)
  refine zr_aload_n (pc' := 31) cx rfl 0 dX8_lantern_30 rfl rfl ?_
  refine zg_X8_25 (pc' := 34) cx rfl zkc_400 dX8_lantern_31 ?_
  refine zr_if_le (pc' := 37) cx rfl (tgt := 41) dX8_lantern_34 rfl ?_ ?_
  · refine zr_aload_n (pc' := 42) cx rfl 0 dX8_lantern_41 rfl rfl ?_
    refine zr_iload_n (pc' := 43) cx rfl 1 dX8_lantern_42 rfl rfl ?_
    refine zr_iload_n (pc' := 44) cx rfl 2 dX8_lantern_43 rfl rfl ?_
    refine zc_X8_225 (pc' := 47) cx rfl  ⟨Nat.le_of_ble_eq_true rfl, Nat.le_of_ble_eq_true rfl⟩ ⟨Nat.zero_le _, Nat.zero_le _⟩ (Nat.le_of_ble_eq_true rfl) dX8_lantern_44 (fun v2 => ?_)
    exact zr_iretE cx dX8_lantern_47
  · refine zr_iconst (pc' := 38) cx rfl dX8_lantern_37 ?_
    refine zr_gotoS cx (tgt := 47) dX8_lantern_38 rfl ?_
    exact zr_iretE cx dX8_lantern_47
theorem wX8_lantern (cx : zCx Y p s m args meth c RX8 cX8_lantern 3 (some .int)) (g : zSt) (a1 : Int) (a2 : Int)  : zWo Y p l e (zrm 5) s m args below meth c 3 0 0 (fun q : Int × zSt => MQ below (zQi Y q.1 q.2) args s 0 0 (zA Y)) g [(0, .ref (zad Y 400)), (1, .int (i32 a1)), (2, .int (i32 a2))] ([]) 0 (fX8_lantern g a1 a2) := by
  unfold fX8_lantern
  refine zr_aload_n (pc' := 1) cx rfl 0 dX8_lantern_0 rfl rfl ?_
  refine zr_aload_n (pc' := 2) cx rfl 0 dX8_lantern_1 rfl rfl ?_
  refine zr_iload_n (pc' := 3) cx rfl 1 dX8_lantern_2 rfl rfl ?_
  refine zc_X8_145 (pc' := 6) cx rfl  ⟨Nat.le_of_ble_eq_true rfl, Nat.le_of_ble_eq_true rfl⟩ ⟨Nat.zero_le _, Nat.zero_le _⟩ (Nat.le_of_ble_eq_true rfl) dX8_lantern_3 (fun v3 => ?_)
  refine zr_if_ne (pc' := 9) cx rfl (tgt := 13) dX8_lantern_6 rfl ?_ ?_
  · refine zr_iload_n (pc' := 14) cx rfl 2 dX8_lantern_13 rfl rfl ?_
    refine zr_iconst (pc' := 15) cx rfl dX8_lantern_14 ?_
    refine zr_iconst (pc' := 16) cx rfl dX8_lantern_15 ?_
    refine zc_X8_29 (pc' := 19) cx rfl  ⟨Nat.le_of_ble_eq_true rfl, Nat.le_of_ble_eq_true rfl⟩ ⟨Nat.zero_le _, Nat.zero_le _⟩ (Nat.le_of_ble_eq_true rfl) dX8_lantern_16 (fun v4 => ?_)
    refine zr_if_eq (pc' := 22) cx rfl (tgt := 26) dX8_lantern_19 rfl ?_ ?_
    · refine zr_iconst (pc' := 27) cx rfl dX8_lantern_26 ?_
      refine zr_sub [0, 1, 2] rfl ?_
      exact wX8_lantern_p27 cx g 2 a1 a2
    · refine zr_iconst (pc' := 23) cx rfl dX8_lantern_22 ?_
      refine zr_gotoS cx (tgt := 27) dX8_lantern_23 rfl ?_
      refine zr_sub [0, 1, 2] rfl ?_
      exact wX8_lantern_p27 cx g 0 a1 a2
  · refine zr_iconst (pc' := 10) cx rfl dX8_lantern_9 ?_
    refine zr_gotoS cx (tgt := 27) dX8_lantern_10 rfl ?_
    refine zr_sub [0, 1, 2] rfl ?_
    exact wX8_lantern_p27 cx g 1 a1 a2
theorem mX8_lantern (l : Launch) (Y : zLy) (g : zSt) (a1 : Int) (a2 : Int)  : ∀ v g2, fX8_lantern g a1 a2 = some (v, g2) → zMt l yX8_lantern cX8_lantern 3 (some .int) 5 [.ref (zad Y 400), .int (i32 a1), .int (i32 a2)] Y g (zQi Y v g2) := by
  intro v g2 hv
  refine zmet_of RX8 rfl (by decide +kernel) (Nat.le_of_ble_eq_true rfl) ?_
  intro p e s m below meth c cx H locs ls hH hS hl
  exact wX8_lantern cx g a1 a2  (v, g2) hv H locs ls hH hS hl
def fX8_faultNow (g : zSt) (a1 : Int) (a2 : Int) : Option Int :=
    (if i32 a2 < i32 3 then
    zbd (fX8_ofFault g a1 a2) (fun v3 =>
    some v3)
    else
    (if i32 a2 = i32 3 then
    zbd (fX8_faultPole g a1) (fun v2 =>
    some v2)
    else
    zbd (fX8_flow g a1) (fun v1 =>
    some v1)))
theorem wX8_faultNow (cx : zCx Y p s m args meth c RX8 cX8_faultNow 3 (some .int)) (g : zSt) (a1 : Int) (a2 : Int)  : zWo Y p l e (zrm 8) s m args below meth c 3 0 0 (fun v : Int => MQ below (zQi Y v g) args s 0 0 (zA Y)) g [(0, .ref (zad Y 400)), (1, .int (i32 a1)), (2, .int (i32 a2))] ([]) 0 (fX8_faultNow g a1 a2) := by
  unfold fX8_faultNow
  refine zr_iload_n (pc' := 1) cx rfl 2 dX8_faultNow_0 rfl rfl ?_
  refine zr_iconst (pc' := 2) cx rfl dX8_faultNow_1 ?_
  refine zr_icmp_ge (pc' := 5) cx rfl (tgt := 14) dX8_faultNow_2 rfl ?_ ?_
  · refine zr_iload_n (pc' := 15) cx rfl 2 dX8_faultNow_14 rfl rfl ?_
    refine zr_iconst (pc' := 16) cx rfl dX8_faultNow_15 ?_
    refine zr_icmp_ne (pc' := 19) cx rfl (tgt := 27) dX8_faultNow_16 rfl ?_ ?_
    · refine zr_aload_n (pc' := 28) cx rfl 0 dX8_faultNow_27 rfl rfl ?_
      refine zr_iload_n (pc' := 29) cx rfl 1 dX8_faultNow_28 rfl rfl ?_
      refine zc_X8_84 (pc' := 32) cx rfl  ⟨Nat.le_of_ble_eq_true rfl, Nat.le_of_ble_eq_true rfl⟩ ⟨Nat.zero_le _, Nat.zero_le _⟩ (Nat.le_of_ble_eq_true rfl) dX8_faultNow_29 (fun v1 => ?_)
      exact zr_iretP cx dX8_faultNow_32
    · refine zr_aload_n (pc' := 20) cx rfl 0 dX8_faultNow_19 rfl rfl ?_
      refine zr_iload_n (pc' := 21) cx rfl 1 dX8_faultNow_20 rfl rfl ?_
      refine zc_X8_67 (pc' := 24) cx rfl  ⟨Nat.le_of_ble_eq_true rfl, Nat.le_of_ble_eq_true rfl⟩ ⟨Nat.zero_le _, Nat.zero_le _⟩ (Nat.le_of_ble_eq_true rfl) dX8_faultNow_21 (fun v2 => ?_)
      refine zr_gotoS cx (tgt := 32) dX8_faultNow_24 rfl ?_
      exact zr_iretP cx dX8_faultNow_32
  · refine zr_aload_n (pc' := 6) cx rfl 0 dX8_faultNow_5 rfl rfl ?_
    refine zr_iload_n (pc' := 7) cx rfl 1 dX8_faultNow_6 rfl rfl ?_
    refine zr_iload_n (pc' := 8) cx rfl 2 dX8_faultNow_7 rfl rfl ?_
    refine zc_X8_58 (pc' := 11) cx rfl  ⟨Nat.le_of_ble_eq_true rfl, Nat.le_of_ble_eq_true rfl⟩ ⟨Nat.zero_le _, Nat.zero_le _⟩ (Nat.le_of_ble_eq_true rfl) dX8_faultNow_8 (fun v3 => ?_)
    refine zr_gotoS cx (tgt := 32) dX8_faultNow_11 rfl ?_
    exact zr_iretP cx dX8_faultNow_32
theorem mX8_faultNow (l : Launch) (Y : zLy) (g : zSt) (a1 : Int) (a2 : Int)  : ∀ v, fX8_faultNow g a1 a2 = some v → zMt l yX8_faultNow cX8_faultNow 3 (some .int) 8 [.ref (zad Y 400), .int (i32 a1), .int (i32 a2)] Y g (zQi Y v g) := by
  intro v hv
  refine zmet_of RX8 rfl (by decide +kernel) (Nat.le_of_ble_eq_true rfl) ?_
  intro p e s m below meth c cx H locs ls hH hS hl
  exact wX8_faultNow cx g a1 a2  v hv H locs ls hH hS hl
theorem zc_X8_228 (cx : zCx Y p s m args meth c RX8 cc nl ret) (hpc : pc + 3 = pc') {g : zSt} {a1 : Int} {a2 : Int}  {fk : Int → Option ρ} (hR : 8 + 1 ≤ R.frames ∧ 8 + (3 + 11) + 40 * 8 ≤ R.locals) (hkn : k ≤ R.cells ∧ n ≤ R.slots) (hrest : (rest.map fun v => v.category).sum ≤ 8) (hdg : decode cc pc = .ok (.invokevirtual 228, 3)) (kk : ∀ v : Int, zWo Y p l e R s m args below meth c nl k n kq g lv (.int (i32 v) :: rest) pc' (fk v)) : zWo Y p l e R s m args below meth c nl k n kq g lv (.int (i32 a2) :: .int (i32 a1) :: .ref (zad Y 400) :: rest) pc (zbd (fX8_faultNow g a1 a2) fk) := zr_callViP cx (an := 2) (As := [.int (i32 a1), .int (i32 a2)]) 9 zkc_400 (by decide) rfl (mX8_faultNow l Y g a1 a2) (zG_V zw_1302 zw_1304 zw_88 zw_109 zw_1305) (by decide +kernel) hR hkn rfl rfl hrest hdg hpc kk
def fX8_faultAt_p27  (g : zSt) (y1 : Int) (a1 : Int) (a2 : Int) : Option (Int × zSt) :=
    zlet (zwr g 400 0 y1) (fun g1 =>
    (if i32 0 < i32 (g1.1 400 0) then
    some (0, g1)
    else
    zbd (fX8_faultNow g1 a1 a2) (fun v2 =>
    some (v2, g1))))
def fX8_faultAt (g : zSt) (a1 : Int) (a2 : Int) : Option (Int × zSt) :=
    zbd (fX8_isFault g a1) (fun v3 =>
    (if i32 v3 = i32 0 then
    fX8_faultAt_p27 g 1 a1 a2
    else
    zbd (fX8_within g a2 0 4) (fun v4 =>
    (if i32 v4 = i32 0 then
    fX8_faultAt_p27 g 2 a1 a2
    else
    fX8_faultAt_p27 g 0 a1 a2))))
theorem wX8_faultAt_p27 (cx : zCx Y p s m args meth c RX8 cX8_faultAt 3 (some .int))   : ∀ (g : zSt) (y1 : Int) (a1 : Int) (a2 : Int), zWo Y p l e (zrm 9) s m args below meth c 3 0 0 (fun q : Int × zSt => MQ below (zQi Y q.1 q.2) args s 0 0 (zA Y)) g [(0, .ref (zad Y 400)), (1, .int (i32 a1)), (2, .int (i32 a2))] (.int (i32 y1) :: .ref (zad Y 400) :: []) 27 (fX8_faultAt_p27 g y1 a1 a2) := by
  intro g y1 a1 a2
  unfold fX8_faultAt_p27
  refine zp_X8_25 (pc' := 30) cx rfl zkc_400 dX8_faultAt_27 ?_
  refine zr_letS (fun g1 => ?_)
  refine zr_aload_n (pc' := 31) cx rfl 0 dX8_faultAt_30 rfl rfl ?_
  refine zg_X8_25 (pc' := 34) cx rfl zkc_400 dX8_faultAt_31 ?_
  refine zr_if_le (pc' := 37) cx rfl (tgt := 41) dX8_faultAt_34 rfl ?_ ?_
  · refine zr_aload_n (pc' := 42) cx rfl 0 dX8_faultAt_41 rfl rfl ?_
    refine zr_iload_n (pc' := 43) cx rfl 1 dX8_faultAt_42 rfl rfl ?_
    refine zr_iload_n (pc' := 44) cx rfl 2 dX8_faultAt_43 rfl rfl ?_
    refine zc_X8_228 (pc' := 47) cx rfl  ⟨Nat.le_of_ble_eq_true rfl, Nat.le_of_ble_eq_true rfl⟩ ⟨Nat.zero_le _, Nat.zero_le _⟩ (Nat.le_of_ble_eq_true rfl) dX8_faultAt_44 (fun v2 => ?_)
    exact zr_iretE cx dX8_faultAt_47
  · refine zr_iconst (pc' := 38) cx rfl dX8_faultAt_37 ?_
    refine zr_gotoS cx (tgt := 47) dX8_faultAt_38 rfl ?_
    exact zr_iretE cx dX8_faultAt_47
theorem wX8_faultAt (cx : zCx Y p s m args meth c RX8 cX8_faultAt 3 (some .int)) (g : zSt) (a1 : Int) (a2 : Int)  : zWo Y p l e (zrm 9) s m args below meth c 3 0 0 (fun q : Int × zSt => MQ below (zQi Y q.1 q.2) args s 0 0 (zA Y)) g [(0, .ref (zad Y 400)), (1, .int (i32 a1)), (2, .int (i32 a2))] ([]) 0 (fX8_faultAt g a1 a2) := by
  unfold fX8_faultAt
  refine zr_aload_n (pc' := 1) cx rfl 0 dX8_faultAt_0 rfl rfl ?_
  refine zr_aload_n (pc' := 2) cx rfl 0 dX8_faultAt_1 rfl rfl ?_
  refine zr_iload_n (pc' := 3) cx rfl 1 dX8_faultAt_2 rfl rfl ?_
  refine zc_X8_155 (pc' := 6) cx rfl  ⟨Nat.le_of_ble_eq_true rfl, Nat.le_of_ble_eq_true rfl⟩ ⟨Nat.zero_le _, Nat.zero_le _⟩ (Nat.le_of_ble_eq_true rfl) dX8_faultAt_3 (fun v3 => ?_)
  refine zr_if_ne (pc' := 9) cx rfl (tgt := 13) dX8_faultAt_6 rfl ?_ ?_
  · refine zr_iload_n (pc' := 14) cx rfl 2 dX8_faultAt_13 rfl rfl ?_
    refine zr_iconst (pc' := 15) cx rfl dX8_faultAt_14 ?_
    refine zr_iconst (pc' := 16) cx rfl dX8_faultAt_15 ?_
    refine zc_X8_29 (pc' := 19) cx rfl  ⟨Nat.le_of_ble_eq_true rfl, Nat.le_of_ble_eq_true rfl⟩ ⟨Nat.zero_le _, Nat.zero_le _⟩ (Nat.le_of_ble_eq_true rfl) dX8_faultAt_16 (fun v4 => ?_)
    refine zr_if_eq (pc' := 22) cx rfl (tgt := 26) dX8_faultAt_19 rfl ?_ ?_
    · refine zr_iconst (pc' := 27) cx rfl dX8_faultAt_26 ?_
      refine zr_sub [0, 1, 2] rfl ?_
      exact wX8_faultAt_p27 cx g 2 a1 a2
    · refine zr_iconst (pc' := 23) cx rfl dX8_faultAt_22 ?_
      refine zr_gotoS cx (tgt := 27) dX8_faultAt_23 rfl ?_
      refine zr_sub [0, 1, 2] rfl ?_
      exact wX8_faultAt_p27 cx g 0 a1 a2
  · refine zr_iconst (pc' := 10) cx rfl dX8_faultAt_9 ?_
    refine zr_gotoS cx (tgt := 27) dX8_faultAt_10 rfl ?_
    refine zr_sub [0, 1, 2] rfl ?_
    exact wX8_faultAt_p27 cx g 1 a1 a2
theorem mX8_faultAt (l : Launch) (Y : zLy) (g : zSt) (a1 : Int) (a2 : Int)  : ∀ v g2, fX8_faultAt g a1 a2 = some (v, g2) → zMt l yX8_faultAt cX8_faultAt 3 (some .int) 9 [.ref (zad Y 400), .int (i32 a1), .int (i32 a2)] Y g (zQi Y v g2) := by
  intro v g2 hv
  refine zmet_of RX8 rfl (by decide +kernel) (Nat.le_of_ble_eq_true rfl) ?_
  intro p e s m below meth c cx H locs ls hH hS hl
  exact wX8_faultAt cx g a1 a2  (v, g2) hv H locs ls hH hS hl
def fX8_blownNow_p4 (g : zSt)  : Nat → Int → Int → Option Int
  | 0, _, _ => none
  | fu + 1, a1, a2 =>
    zck ((0 : Int) ≤ 0 ∧ 0 < 168) (
    (if i32 a2 < i32 (2 * (g.1 401 (Int.toNat 0))) then
    zbd (fX8_ofBox g (zdv a2 2) (5 + (zmo a2 2))) (fun v1 =>
    zlet (a1 + v1) (fun x2 =>
    fX8_blownNow_p4 g fu x2 (a2 + 1)))
    else
    some a1))
def fX8_blownNow (g : zSt) : Option Int :=
    fX8_blownNow_p4 g zfu 0 2
theorem wX8_blownNow_p4 (cx : zCx Y p s m args meth c RX8 cX8_blownNow 3 (some .int)) (g : zSt)   : ∀ (fu : Nat) (a1 : Int) (a2 : Int), zWo Y p l e (zrm 1) s m args below meth c 3 0 0 (fun v : Int => MQ below (zQi Y v g) args s 0 0 (zA Y)) g [(0, .ref (zad Y 400)), (1, .int (i32 a1)), (2, .int (i32 a2))] ([]) 4 (fX8_blownNow_p4 g fu a1 a2) := by
  intro fu
  induction fu with
  | zero => intro a1 a2; exact zr_none
  | succ fu ih =>
    intro a1 a2
    rw [fX8_blownNow_p4]
    refine zr_iload_n (pc' := 5) cx rfl 2 dX8_blownNow_4 rfl rfl ?_
    refine zr_iconst (pc' := 6) cx rfl dX8_blownNow_5 ?_
    refine zr_aload_n (pc' := 7) cx rfl 0 dX8_blownNow_6 rfl rfl ?_
    refine zg_X8_7 (pc' := 10) cx rfl zkc_400 dX8_blownNow_7 ?_
    refine zr_iconst (pc' := 11) cx rfl dX8_blownNow_10 ?_
    refine zr_iald (pc' := 12) cx rfl 16 zkc_401 (by decide) (L := 168) rfl dX8_blownNow_11 ?_
    refine zr_imul (pc' := 13) cx rfl dX8_blownNow_12 ?_
    refine zr_icmp_ge (pc' := 16) cx rfl (tgt := 37) dX8_blownNow_13 rfl ?_ ?_
    · refine zr_iload_n (pc' := 38) cx rfl 1 dX8_blownNow_37 rfl rfl ?_
      exact zr_iretP cx dX8_blownNow_38
    · refine zr_iload_n (pc' := 17) cx rfl 1 dX8_blownNow_16 rfl rfl ?_
      refine zr_aload_n (pc' := 18) cx rfl 0 dX8_blownNow_17 rfl rfl ?_
      refine zr_iload_n (pc' := 19) cx rfl 2 dX8_blownNow_18 rfl rfl ?_
      refine zr_iconst (pc' := 20) cx rfl dX8_blownNow_19 ?_
      refine zr_idiv (pc' := 21) cx rfl (by decide +kernel) dX8_blownNow_20 ?_
      refine zr_iconst (pc' := 22) cx rfl dX8_blownNow_21 ?_
      refine zr_iload_n (pc' := 23) cx rfl 2 dX8_blownNow_22 rfl rfl ?_
      refine zr_iconst (pc' := 24) cx rfl dX8_blownNow_23 ?_
      refine zr_irem (pc' := 25) cx rfl (by decide +kernel) dX8_blownNow_24 ?_
      refine zr_iadd (pc' := 26) cx rfl dX8_blownNow_25 ?_
      refine zc_X8_33 (pc' := 29) cx rfl  ⟨Nat.le_of_ble_eq_true rfl, Nat.le_of_ble_eq_true rfl⟩ ⟨Nat.zero_le _, Nat.zero_le _⟩ (Nat.le_of_ble_eq_true rfl) dX8_blownNow_26 (fun v1 => ?_)
      refine zr_iadd (pc' := 30) cx rfl dX8_blownNow_29 ?_
      refine zr_leti (fun x2 => ?_)
      refine zr_istore_n (pc' := 31) cx rfl (lv' := [(1, .int (i32 x2)), (0, .ref (zad Y 400)), (2, .int (i32 a2))]) dX8_blownNow_30 rfl (by decide) rfl ?_
      refine zr_iinc (pc' := 34) cx rfl (lv' := [(2, .int (i32 (a2 + 1))), (1, .int (i32 x2)), (0, .ref (zad Y 400))]) 2 dX8_blownNow_31 rfl (by decide) rfl ?_
      refine zr_goto cx (tgt := 4) dX8_blownNow_34 rfl ?_
      refine zr_sub [2, 1, 0] rfl ?_
      exact ih x2 (a2 + 1)
theorem wX8_blownNow (cx : zCx Y p s m args meth c RX8 cX8_blownNow 3 (some .int)) (g : zSt)  : zWo Y p l e (zrm 1) s m args below meth c 3 0 0 (fun v : Int => MQ below (zQi Y v g) args s 0 0 (zA Y)) g [(0, .ref (zad Y 400))] ([]) 0 (fX8_blownNow g) := by
  unfold fX8_blownNow
  refine zr_iconst (pc' := 1) cx rfl dX8_blownNow_0 ?_
  refine zr_istore_n (pc' := 2) cx rfl (lv' := [(1, .int (i32 0)), (0, .ref (zad Y 400))]) dX8_blownNow_1 rfl (by decide) rfl ?_
  refine zr_iconst (pc' := 3) cx rfl dX8_blownNow_2 ?_
  refine zr_istore_n (pc' := 4) cx rfl (lv' := [(2, .int (i32 2)), (1, .int (i32 0)), (0, .ref (zad Y 400))]) dX8_blownNow_3 rfl (by decide) rfl ?_
  refine zr_sub [2, 1, 0] rfl ?_
  exact wX8_blownNow_p4 cx g zfu 0 2
theorem mX8_blownNow (l : Launch) (Y : zLy) (g : zSt)  : ∀ v, fX8_blownNow g = some v → zMt l yX8_blownNow cX8_blownNow 3 (some .int) 1 [.ref (zad Y 400)] Y g (zQi Y v g) := by
  intro v hv
  refine zmet_of RX8 rfl (by decide +kernel) (Nat.le_of_ble_eq_true rfl) ?_
  intro p e s m below meth c cx H locs ls hH hS hl
  exact wX8_blownNow cx g   v hv H locs ls hH hS hl
theorem zc_X8_231 (cx : zCx Y p s m args meth c RX8 cc nl ret) (hpc : pc + 3 = pc') {g : zSt}   {fk : Int → Option ρ} (hR : 1 + 1 ≤ R.frames ∧ 8 + (3 + 11) + 40 * 1 ≤ R.locals) (hkn : k ≤ R.cells ∧ n ≤ R.slots) (hrest : (rest.map fun v => v.category).sum ≤ 8) (hdg : decode cc pc = .ok (.invokevirtual 231, 3)) (kk : ∀ v : Int, zWo Y p l e R s m args below meth c nl k n kq g lv (.int (i32 v) :: rest) pc' (fk v)) : zWo Y p l e R s m args below meth c nl k n kq g lv (.ref (zad Y 400) :: rest) pc (zbd (fX8_blownNow g) fk) := zr_callViP cx (an := 0) (As := []) 9 zkc_400 (by decide) rfl (mX8_blownNow l Y g) (zG_V zw_1314 zw_1316 zw_90 zw_109 zw_1317) (by decide +kernel) hR hkn rfl rfl hrest hdg hpc kk
def fX8_counted (g : zSt) (a1 : Int) : Option Int :=
    (if i32 a1 = i32 0 then
    zck ((0 : Int) ≤ 0 ∧ 0 < 168) (
    some (g.1 401 (Int.toNat 0)))
    else
    (if i32 a1 = i32 1 then
    zck ((0 : Int) ≤ 85 ∧ 85 < 168) (
    some (g.1 401 (Int.toNat 85)))
    else
    (if i32 a1 = i32 2 then
    zbd (fX8_burning g) (fun v1 =>
    some v1)
    else
    (if i32 a1 = i32 3 then
    zck ((0 : Int) ≤ 134 ∧ 134 < 168) (
    some (g.1 401 (Int.toNat 134)))
    else
    (if i32 a1 = i32 4 then
    zbd (fX8_leak g) (fun v2 =>
    some v2)
    else
    (if i32 a1 = i32 5 then
    zbd (fX8_blownNow g) (fun v3 =>
    some v3)
    else
    (if i32 a1 = i32 6 then
    zck ((0 : Int) ≤ 162 ∧ 162 < 168) (
    some (g.1 401 (Int.toNat 162)))
    else
    (if i32 a1 = i32 7 then
    zck ((0 : Int) ≤ 163 ∧ 163 < 168) (
    some (g.1 401 (Int.toNat 163)))
    else
    (if i32 a1 = i32 8 then
    zck ((0 : Int) ≤ 164 ∧ 164 < 168) (
    some (g.1 401 (Int.toNat 164)))
    else
    (if i32 a1 = i32 9 then
    zck ((0 : Int) ≤ 165 ∧ 165 < 168) (
    some (g.1 401 (Int.toNat 165)))
    else
    (if i32 a1 = i32 10 then
    zck ((0 : Int) ≤ 166 ∧ 166 < 168) (
    some (g.1 401 (Int.toNat 166)))
    else
    some (g.1 400 2))))))))))))
theorem wX8_counted (cx : zCx Y p s m args meth c RX8 cX8_counted 2 (some .int)) (g : zSt) (a1 : Int)  : zWo Y p l e (zrm 7) s m args below meth c 2 0 0 (fun v : Int => MQ below (zQi Y v g) args s 0 0 (zA Y)) g [(0, .ref (zad Y 400)), (1, .int (i32 a1))] ([]) 0 (fX8_counted g a1) := by
  unfold fX8_counted
  refine zr_iload_n (pc' := 1) cx rfl 1 dX8_counted_0 rfl rfl ?_
  refine zr_case (fun h => ?_) (fun n0 => ?_)
  · refine zr_tabIn cx (off := 59) (tgt := 60) dX8_counted_1 (v := 0) (by rw [h]; decide +kernel) (by decide) rfl rfl ?_
    refine zr_aload_n (pc' := 61) cx rfl 0 dX8_counted_60 rfl rfl ?_
    refine zg_X8_7 (pc' := 64) cx rfl zkc_400 dX8_counted_61 ?_
    refine zr_iconst (pc' := 65) cx rfl dX8_counted_64 ?_
    refine zr_iald (pc' := 66) cx rfl 16 zkc_401 (by decide) (L := 168) rfl dX8_counted_65 ?_
    exact zr_iretP cx dX8_counted_66
  · refine zr_case (fun h => ?_) (fun n1 => ?_)
    · refine zr_tabIn cx (off := 66) (tgt := 67) dX8_counted_1 (v := 1) (by rw [h]; decide +kernel) (by decide) rfl rfl ?_
      refine zr_aload_n (pc' := 68) cx rfl 0 dX8_counted_67 rfl rfl ?_
      refine zg_X8_7 (pc' := 71) cx rfl zkc_400 dX8_counted_68 ?_
      refine zr_bipush (pc' := 73) cx rfl dX8_counted_71 (by decide +kernel) ?_
      refine zr_iald (pc' := 74) cx rfl 16 zkc_401 (by decide) (L := 168) rfl dX8_counted_73 ?_
      exact zr_iretP cx dX8_counted_74
    · refine zr_case (fun h => ?_) (fun n2 => ?_)
      · refine zr_tabIn cx (off := 74) (tgt := 75) dX8_counted_1 (v := 2) (by rw [h]; decide +kernel) (by decide) rfl rfl ?_
        refine zr_aload_n (pc' := 76) cx rfl 0 dX8_counted_75 rfl rfl ?_
        refine zc_X8_132 (pc' := 79) cx rfl  ⟨Nat.le_of_ble_eq_true rfl, Nat.le_of_ble_eq_true rfl⟩ ⟨Nat.zero_le _, Nat.zero_le _⟩ (Nat.le_of_ble_eq_true rfl) dX8_counted_76 (fun v1 => ?_)
        exact zr_iretP cx dX8_counted_79
      · refine zr_case (fun h => ?_) (fun n3 => ?_)
        · refine zr_tabIn cx (off := 79) (tgt := 80) dX8_counted_1 (v := 3) (by rw [h]; decide +kernel) (by decide) rfl rfl ?_
          refine zr_aload_n (pc' := 81) cx rfl 0 dX8_counted_80 rfl rfl ?_
          refine zg_X8_7 (pc' := 84) cx rfl zkc_400 dX8_counted_81 ?_
          refine zr_sipush (pc' := 87) cx rfl dX8_counted_84 (by decide +kernel) ?_
          refine zr_iald (pc' := 88) cx rfl 16 zkc_401 (by decide) (L := 168) rfl dX8_counted_87 ?_
          exact zr_iretP cx dX8_counted_88
        · refine zr_case (fun h => ?_) (fun n4 => ?_)
          · refine zr_tabIn cx (off := 88) (tgt := 89) dX8_counted_1 (v := 4) (by rw [h]; decide +kernel) (by decide) rfl rfl ?_
            refine zr_aload_n (pc' := 90) cx rfl 0 dX8_counted_89 rfl rfl ?_
            refine zc_X8_73 (pc' := 93) cx rfl  ⟨Nat.le_of_ble_eq_true rfl, Nat.le_of_ble_eq_true rfl⟩ ⟨Nat.zero_le _, Nat.zero_le _⟩ (Nat.le_of_ble_eq_true rfl) dX8_counted_90 (fun v2 => ?_)
            exact zr_iretP cx dX8_counted_93
          · refine zr_case (fun h => ?_) (fun n5 => ?_)
            · refine zr_tabIn cx (off := 93) (tgt := 94) dX8_counted_1 (v := 5) (by rw [h]; decide +kernel) (by decide) rfl rfl ?_
              refine zr_aload_n (pc' := 95) cx rfl 0 dX8_counted_94 rfl rfl ?_
              refine zc_X8_231 (pc' := 98) cx rfl  ⟨Nat.le_of_ble_eq_true rfl, Nat.le_of_ble_eq_true rfl⟩ ⟨Nat.zero_le _, Nat.zero_le _⟩ (Nat.le_of_ble_eq_true rfl) dX8_counted_95 (fun v3 => ?_)
              exact zr_iretP cx dX8_counted_98
            · refine zr_case (fun h => ?_) (fun n6 => ?_)
              · refine zr_tabIn cx (off := 98) (tgt := 99) dX8_counted_1 (v := 6) (by rw [h]; decide +kernel) (by decide) rfl rfl ?_
                refine zr_aload_n (pc' := 100) cx rfl 0 dX8_counted_99 rfl rfl ?_
                refine zg_X8_7 (pc' := 103) cx rfl zkc_400 dX8_counted_100 ?_
                refine zr_sipush (pc' := 106) cx rfl dX8_counted_103 (by decide +kernel) ?_
                refine zr_iald (pc' := 107) cx rfl 16 zkc_401 (by decide) (L := 168) rfl dX8_counted_106 ?_
                exact zr_iretP cx dX8_counted_107
              · refine zr_case (fun h => ?_) (fun n7 => ?_)
                · refine zr_tabIn cx (off := 107) (tgt := 108) dX8_counted_1 (v := 7) (by rw [h]; decide +kernel) (by decide) rfl rfl ?_
                  refine zr_aload_n (pc' := 109) cx rfl 0 dX8_counted_108 rfl rfl ?_
                  refine zg_X8_7 (pc' := 112) cx rfl zkc_400 dX8_counted_109 ?_
                  refine zr_sipush (pc' := 115) cx rfl dX8_counted_112 (by decide +kernel) ?_
                  refine zr_iald (pc' := 116) cx rfl 16 zkc_401 (by decide) (L := 168) rfl dX8_counted_115 ?_
                  exact zr_iretP cx dX8_counted_116
                · refine zr_case (fun h => ?_) (fun n8 => ?_)
                  · refine zr_tabIn cx (off := 116) (tgt := 117) dX8_counted_1 (v := 8) (by rw [h]; decide +kernel) (by decide) rfl rfl ?_
                    refine zr_aload_n (pc' := 118) cx rfl 0 dX8_counted_117 rfl rfl ?_
                    refine zg_X8_7 (pc' := 121) cx rfl zkc_400 dX8_counted_118 ?_
                    refine zr_sipush (pc' := 124) cx rfl dX8_counted_121 (by decide +kernel) ?_
                    refine zr_iald (pc' := 125) cx rfl 16 zkc_401 (by decide) (L := 168) rfl dX8_counted_124 ?_
                    exact zr_iretP cx dX8_counted_125
                  · refine zr_case (fun h => ?_) (fun n9 => ?_)
                    · refine zr_tabIn cx (off := 125) (tgt := 126) dX8_counted_1 (v := 9) (by rw [h]; decide +kernel) (by decide) rfl rfl ?_
                      refine zr_aload_n (pc' := 127) cx rfl 0 dX8_counted_126 rfl rfl ?_
                      refine zg_X8_7 (pc' := 130) cx rfl zkc_400 dX8_counted_127 ?_
                      refine zr_sipush (pc' := 133) cx rfl dX8_counted_130 (by decide +kernel) ?_
                      refine zr_iald (pc' := 134) cx rfl 16 zkc_401 (by decide) (L := 168) rfl dX8_counted_133 ?_
                      exact zr_iretP cx dX8_counted_134
                    · refine zr_case (fun h => ?_) (fun n10 => ?_)
                      · refine zr_tabIn cx (off := 134) (tgt := 135) dX8_counted_1 (v := 10) (by rw [h]; decide +kernel) (by decide) rfl rfl ?_
                        refine zr_aload_n (pc' := 136) cx rfl 0 dX8_counted_135 rfl rfl ?_
                        refine zg_X8_7 (pc' := 139) cx rfl zkc_400 dX8_counted_136 ?_
                        refine zr_sipush (pc' := 142) cx rfl dX8_counted_139 (by decide +kernel) ?_
                        refine zr_iald (pc' := 143) cx rfl 16 zkc_401 (by decide) (L := 168) rfl dX8_counted_142 ?_
                        exact zr_iretP cx dX8_counted_143
                      · refine zr_tabOut cx (tgt := 144) dX8_counted_1 (by have := zne n0 (k := 0) (by decide +kernel); have := zne n1 (k := 1) (by decide +kernel); have := zne n2 (k := 2) (by decide +kernel); have := zne n3 (k := 3) (by decide +kernel); have := zne n4 (k := 4) (by decide +kernel); have := zne n5 (k := 5) (by decide +kernel); have := zne n6 (k := 6) (by decide +kernel); have := zne n7 (k := 7) (by decide +kernel); have := zne n8 (k := 8) (by decide +kernel); have := zne n9 (k := 9) (by decide +kernel); have := zne n10 (k := 10) (by decide +kernel); omega) rfl ?_
                        refine zr_aload_n (pc' := 145) cx rfl 0 dX8_counted_144 rfl rfl ?_
                        refine zg_X8_102 (pc' := 148) cx rfl zkc_400 dX8_counted_145 ?_
                        exact zr_iretP cx dX8_counted_148
theorem mX8_counted (l : Launch) (Y : zLy) (g : zSt) (a1 : Int)  : ∀ v, fX8_counted g a1 = some v → zMt l yX8_counted cX8_counted 2 (some .int) 7 [.ref (zad Y 400), .int (i32 a1)] Y g (zQi Y v g) := by
  intro v hv
  refine zmet_of RX8 rfl (by decide +kernel) (Nat.le_of_ble_eq_true rfl) ?_
  intro p e s m below meth c cx H locs ls hH hS hl
  exact wX8_counted cx g a1  v hv H locs ls hH hS hl
theorem zc_X8_234 (cx : zCx Y p s m args meth c RX8 cc nl ret) (hpc : pc + 3 = pc') {g : zSt} {a1 : Int}  {fk : Int → Option ρ} (hR : 7 + 1 ≤ R.frames ∧ 8 + (2 + 11) + 40 * 7 ≤ R.locals) (hkn : k ≤ R.cells ∧ n ≤ R.slots) (hrest : (rest.map fun v => v.category).sum ≤ 8) (hdg : decode cc pc = .ok (.invokevirtual 234, 3)) (kk : ∀ v : Int, zWo Y p l e R s m args below meth c nl k n kq g lv (.int (i32 v) :: rest) pc' (fk v)) : zWo Y p l e R s m args below meth c nl k n kq g lv (.int (i32 a1) :: .ref (zad Y 400) :: rest) pc (zbd (fX8_counted g a1) fk) := zr_callViP cx (an := 1) (As := [.int (i32 a1)]) 9 zkc_400 (by decide) rfl (mX8_counted l Y g a1) (zG_V zw_1310 zw_1312 zw_89 zw_109 zw_1313) (by decide +kernel) hR hkn rfl rfl hrest hdg hpc kk
def fX8_count_p16  (g : zSt) (y1 : Int) (a1 : Int) : Option (Int × zSt) :=
    zlet (zwr g 400 0 y1) (fun g1 =>
    (if i32 0 < i32 (g1.1 400 0) then
    some (0, g1)
    else
    zbd (fX8_counted g1 a1) (fun v2 =>
    some (v2, g1))))
def fX8_count (g : zSt) (a1 : Int) : Option (Int × zSt) :=
    zbd (fX8_within g a1 0 11) (fun v3 =>
    (if i32 v3 = i32 0 then
    fX8_count_p16 g 1 a1
    else
    fX8_count_p16 g 0 a1))
theorem wX8_count_p16 (cx : zCx Y p s m args meth c RX8 cX8_count 2 (some .int))   : ∀ (g : zSt) (y1 : Int) (a1 : Int), zWo Y p l e (zrm 8) s m args below meth c 2 0 0 (fun q : Int × zSt => MQ below (zQi Y q.1 q.2) args s 0 0 (zA Y)) g [(0, .ref (zad Y 400)), (1, .int (i32 a1))] (.int (i32 y1) :: .ref (zad Y 400) :: []) 16 (fX8_count_p16 g y1 a1) := by
  intro g y1 a1
  unfold fX8_count_p16
  refine zp_X8_25 (pc' := 19) cx rfl zkc_400 dX8_count_16 ?_
  refine zr_letS (fun g1 => ?_)
  refine zr_aload_n (pc' := 20) cx rfl 0 dX8_count_19 rfl rfl ?_
  refine zg_X8_25 (pc' := 23) cx rfl zkc_400 dX8_count_20 ?_
  refine zr_if_le (pc' := 26) cx rfl (tgt := 30) dX8_count_23 rfl ?_ ?_
  · refine zr_aload_n (pc' := 31) cx rfl 0 dX8_count_30 rfl rfl ?_
    refine zr_iload_n (pc' := 32) cx rfl 1 dX8_count_31 rfl rfl ?_
    refine zc_X8_234 (pc' := 35) cx rfl  ⟨Nat.le_of_ble_eq_true rfl, Nat.le_of_ble_eq_true rfl⟩ ⟨Nat.zero_le _, Nat.zero_le _⟩ (Nat.le_of_ble_eq_true rfl) dX8_count_32 (fun v2 => ?_)
    exact zr_iretE cx dX8_count_35
  · refine zr_iconst (pc' := 27) cx rfl dX8_count_26 ?_
    refine zr_gotoS cx (tgt := 35) dX8_count_27 rfl ?_
    exact zr_iretE cx dX8_count_35
theorem wX8_count (cx : zCx Y p s m args meth c RX8 cX8_count 2 (some .int)) (g : zSt) (a1 : Int)  : zWo Y p l e (zrm 8) s m args below meth c 2 0 0 (fun q : Int × zSt => MQ below (zQi Y q.1 q.2) args s 0 0 (zA Y)) g [(0, .ref (zad Y 400)), (1, .int (i32 a1))] ([]) 0 (fX8_count g a1) := by
  unfold fX8_count
  refine zr_aload_n (pc' := 1) cx rfl 0 dX8_count_0 rfl rfl ?_
  refine zr_iload_n (pc' := 2) cx rfl 1 dX8_count_1 rfl rfl ?_
  refine zr_iconst (pc' := 3) cx rfl dX8_count_2 ?_
  refine zr_bipush (pc' := 5) cx rfl dX8_count_3 (by decide +kernel) ?_
  refine zc_X8_29 (pc' := 8) cx rfl  ⟨Nat.le_of_ble_eq_true rfl, Nat.le_of_ble_eq_true rfl⟩ ⟨Nat.zero_le _, Nat.zero_le _⟩ (Nat.le_of_ble_eq_true rfl) dX8_count_5 (fun v3 => ?_)
  refine zr_if_eq (pc' := 11) cx rfl (tgt := 15) dX8_count_8 rfl ?_ ?_
  · refine zr_iconst (pc' := 16) cx rfl dX8_count_15 ?_
    refine zr_sub [0, 1] rfl ?_
    exact wX8_count_p16 cx g 1 a1
  · refine zr_iconst (pc' := 12) cx rfl dX8_count_11 ?_
    refine zr_gotoS cx (tgt := 16) dX8_count_12 rfl ?_
    refine zr_sub [0, 1] rfl ?_
    exact wX8_count_p16 cx g 0 a1
theorem mX8_count (l : Launch) (Y : zLy) (g : zSt) (a1 : Int)  : ∀ v g2, fX8_count g a1 = some (v, g2) → zMt l yX8_count cX8_count 2 (some .int) 8 [.ref (zad Y 400), .int (i32 a1)] Y g (zQi Y v g2) := by
  intro v g2 hv
  refine zmet_of RX8 rfl (by decide +kernel) (Nat.le_of_ble_eq_true rfl) ?_
  intro p e s m below meth c cx H locs ls hH hS hl
  exact wX8_count cx g a1  (v, g2) hv H locs ls hH hS hl
def fX8_lamp_p13  (g : zSt) (y1 : Int) (a1 : Int) : Option (Int × zSt) :=
    zlet (zwr g 400 0 y1) (fun g1 =>
    (if i32 0 < i32 (g1.1 400 0) then
    some (0, g1)
    else
    zbd (fX8_lampOf g1 a1) (fun v2 =>
    some (v2, g1))))
def fX8_lamp (g : zSt) (a1 : Int) : Option (Int × zSt) :=
    zbd (fX8_isTerminal g a1) (fun v3 =>
    (if i32 v3 = i32 0 then
    fX8_lamp_p13 g 1 a1
    else
    fX8_lamp_p13 g 0 a1))
theorem wX8_lamp_p13 (cx : zCx Y p s m args meth c RX8 cX8_lamp 2 (some .int))   : ∀ (g : zSt) (y1 : Int) (a1 : Int), zWo Y p l e (zrm 6) s m args below meth c 2 0 0 (fun q : Int × zSt => MQ below (zQi Y q.1 q.2) args s 0 0 (zA Y)) g [(0, .ref (zad Y 400)), (1, .int (i32 a1))] (.int (i32 y1) :: .ref (zad Y 400) :: []) 13 (fX8_lamp_p13 g y1 a1) := by
  intro g y1 a1
  unfold fX8_lamp_p13
  refine zp_X8_25 (pc' := 16) cx rfl zkc_400 dX8_lamp_13 ?_
  refine zr_letS (fun g1 => ?_)
  refine zr_aload_n (pc' := 17) cx rfl 0 dX8_lamp_16 rfl rfl ?_
  refine zg_X8_25 (pc' := 20) cx rfl zkc_400 dX8_lamp_17 ?_
  refine zr_if_le (pc' := 23) cx rfl (tgt := 27) dX8_lamp_20 rfl ?_ ?_
  · refine zr_aload_n (pc' := 28) cx rfl 0 dX8_lamp_27 rfl rfl ?_
    refine zr_iload_n (pc' := 29) cx rfl 1 dX8_lamp_28 rfl rfl ?_
    refine zc_X8_70 (pc' := 32) cx rfl  ⟨Nat.le_of_ble_eq_true rfl, Nat.le_of_ble_eq_true rfl⟩ ⟨Nat.zero_le _, Nat.zero_le _⟩ (Nat.le_of_ble_eq_true rfl) dX8_lamp_29 (fun v2 => ?_)
    exact zr_iretE cx dX8_lamp_32
  · refine zr_iconst (pc' := 24) cx rfl dX8_lamp_23 ?_
    refine zr_gotoS cx (tgt := 32) dX8_lamp_24 rfl ?_
    exact zr_iretE cx dX8_lamp_32
theorem wX8_lamp (cx : zCx Y p s m args meth c RX8 cX8_lamp 2 (some .int)) (g : zSt) (a1 : Int)  : zWo Y p l e (zrm 6) s m args below meth c 2 0 0 (fun q : Int × zSt => MQ below (zQi Y q.1 q.2) args s 0 0 (zA Y)) g [(0, .ref (zad Y 400)), (1, .int (i32 a1))] ([]) 0 (fX8_lamp g a1) := by
  unfold fX8_lamp
  refine zr_aload_n (pc' := 1) cx rfl 0 dX8_lamp_0 rfl rfl ?_
  refine zr_iload_n (pc' := 2) cx rfl 1 dX8_lamp_1 rfl rfl ?_
  refine zc_X8_135 (pc' := 5) cx rfl  ⟨Nat.le_of_ble_eq_true rfl, Nat.le_of_ble_eq_true rfl⟩ ⟨Nat.zero_le _, Nat.zero_le _⟩ (Nat.le_of_ble_eq_true rfl) dX8_lamp_2 (fun v3 => ?_)
  refine zr_if_eq (pc' := 8) cx rfl (tgt := 12) dX8_lamp_5 rfl ?_ ?_
  · refine zr_iconst (pc' := 13) cx rfl dX8_lamp_12 ?_
    refine zr_sub [0, 1] rfl ?_
    exact wX8_lamp_p13 cx g 1 a1
  · refine zr_iconst (pc' := 9) cx rfl dX8_lamp_8 ?_
    refine zr_gotoS cx (tgt := 13) dX8_lamp_9 rfl ?_
    refine zr_sub [0, 1] rfl ?_
    exact wX8_lamp_p13 cx g 0 a1
theorem mX8_lamp (l : Launch) (Y : zLy) (g : zSt) (a1 : Int)  : ∀ v g2, fX8_lamp g a1 = some (v, g2) → zMt l yX8_lamp cX8_lamp 2 (some .int) 6 [.ref (zad Y 400), .int (i32 a1)] Y g (zQi Y v g2) := by
  intro v g2 hv
  refine zmet_of RX8 rfl (by decide +kernel) (Nat.le_of_ble_eq_true rfl) ?_
  intro p e s m below meth c cx H locs ls hH hS hl
  exact wX8_lamp cx g a1  (v, g2) hv H locs ls hH hS hl
def fX8_located_p66 (k11 : zSt → Int → Int → Int → Int → Option (Int × zSt)) (g : zSt) (y0 : Int) (y1 : Int) (a1 : Int) (a2 : Int) (a4 : Int) : Option (Int × zSt) :=
    zlet (zor y0 y1) (fun x1 =>
    zck ((0 : Int) ≤ ((1 + (7 * a4)) + 2) ∧ ((1 + (7 * a4)) + 2) < 168) (zlet (zwr g 401 (Int.toNat ((1 + (7 * a4)) + 2)) 1) (fun g2 =>
    k11 g2 a1 a2 x1 (a4 + 1))))
def fX8_located_p11  : Nat → zSt → Int → Int → Int → Int → Option (Int × zSt)
  | 0, _, _, _, _, _ => none
  | fu + 1, g, a1, a2, a3, a4 =>
    zck ((0 : Int) ≤ 0 ∧ 0 < 168) (
    (if i32 a4 < i32 (g.1 401 (Int.toNat 0)) then
    zbd (fX8_ofBox g a4 2) (fun v3 =>
    (if i32 v3 = i32 1 then
    zck ((0 : Int) ≤ ((1 + (7 * a4)) + 2) ∧ ((1 + (7 * a4)) + 2) < 168) (zlet (zwr g 401 (Int.toNat ((1 + (7 * a4)) + 2)) 0) (fun g4 =>
    zbd (fX8_lampOf g4 a1) (fun v5 =>
    (if i32 v5 = i32 a2 then
    fX8_located_p66 (fX8_located_p11 fu) g4 a3 0 a1 a2 a4
    else
    fX8_located_p66 (fX8_located_p11 fu) g4 a3 (zsl 1 a4) a1 a2 a4))))
    else
    fX8_located_p11 fu g a1 a2 a3 (a4 + 1)))
    else
    some (a3, g)))
def fX8_located (g : zSt) (a1 : Int) : Option (Int × zSt) :=
    zbd (fX8_lampOf g a1) (fun v6 =>
    fX8_located_p11 zfu g a1 v6 0 1)
theorem wX8_located_p66 (cx : zCx Y p s m args meth c RX8 cX8_located 5 (some .int)) {k11 : zSt → Int → Int → Int → Int → Option (Int × zSt)} (hk11 : ∀ (g : zSt) (a1 : Int) (a2 : Int) (a3 : Int) (a4 : Int), zWo Y p l e (zrm 6) s m args below meth c 5 0 0 (fun q : Int × zSt => MQ below (zQi Y q.1 q.2) args s 0 0 (zA Y)) g [(0, .ref (zad Y 400)), (1, .int (i32 a1)), (2, .int (i32 a2)), (3, .int (i32 a3)), (4, .int (i32 a4))] ([]) 11 (k11 g a1 a2 a3 a4)) : ∀ (g : zSt) (y0 : Int) (y1 : Int) (a1 : Int) (a2 : Int) (a4 : Int), zWo Y p l e (zrm 6) s m args below meth c 5 0 0 (fun q : Int × zSt => MQ below (zQi Y q.1 q.2) args s 0 0 (zA Y)) g [(0, .ref (zad Y 400)), (1, .int (i32 a1)), (2, .int (i32 a2)), (4, .int (i32 a4))] (.int (i32 y1) :: .int (i32 y0) :: []) 66 (fX8_located_p66 k11 g y0 y1 a1 a2 a4) := by
  intro g y0 y1 a1 a2 a4
  unfold fX8_located_p66
  refine zr_ior (pc' := 67) cx rfl dX8_located_66 ?_
  refine zr_leti (fun x1 => ?_)
  refine zr_istore_n (pc' := 68) cx rfl (lv' := [(3, .int (i32 x1)), (0, .ref (zad Y 400)), (1, .int (i32 a1)), (2, .int (i32 a2)), (4, .int (i32 a4))]) dX8_located_67 rfl (by decide) rfl ?_
  refine zr_aload_n (pc' := 69) cx rfl 1 dX8_located_68 rfl rfl ?_
  refine zg_X8_7 (pc' := 72) cx rfl zkc_400 dX8_located_69 ?_
  refine zr_iconst (pc' := 73) cx rfl dX8_located_72 ?_
  refine zr_bipush (pc' := 75) cx rfl dX8_located_73 (by decide +kernel) ?_
  refine zr_iload (pc' := 77) cx rfl 4 dX8_located_75 rfl ?_
  refine zr_imul (pc' := 78) cx rfl dX8_located_77 ?_
  refine zr_iadd (pc' := 79) cx rfl dX8_located_78 ?_
  refine zr_iconst (pc' := 80) cx rfl dX8_located_79 ?_
  refine zr_iadd (pc' := 81) cx rfl dX8_located_80 ?_
  refine zr_iconst (pc' := 82) cx rfl dX8_located_81 ?_
  refine zr_iast (pc' := 83) cx rfl 16 zkc_401 (by decide) (L := 168) rfl dX8_located_82 ?_
  refine zr_letS (fun g2 => ?_)
  refine zr_iinc (pc' := 86) cx rfl (lv' := [(4, .int (i32 (a4 + 1))), (3, .int (i32 x1)), (0, .ref (zad Y 400)), (1, .int (i32 a1)), (2, .int (i32 a2))]) 4 dX8_located_83 rfl (by decide) rfl ?_
  refine zr_goto cx (tgt := 11) dX8_located_86 rfl ?_
  refine zr_sub [2, 3, 4, 1, 0] rfl ?_
  exact hk11 g2 a1 a2 x1 (a4 + 1)
theorem wX8_located_p11 (cx : zCx Y p s m args meth c RX8 cX8_located 5 (some .int))   : ∀ (fu : Nat) (g : zSt) (a1 : Int) (a2 : Int) (a3 : Int) (a4 : Int), zWo Y p l e (zrm 6) s m args below meth c 5 0 0 (fun q : Int × zSt => MQ below (zQi Y q.1 q.2) args s 0 0 (zA Y)) g [(0, .ref (zad Y 400)), (1, .int (i32 a1)), (2, .int (i32 a2)), (3, .int (i32 a3)), (4, .int (i32 a4))] ([]) 11 (fX8_located_p11 fu g a1 a2 a3 a4) := by
  intro fu
  induction fu with
  | zero => intro g a1 a2 a3 a4; exact zr_none
  | succ fu ih =>
    intro g a1 a2 a3 a4
    rw [fX8_located_p11]
    refine zr_iload (pc' := 13) cx rfl 4 dX8_located_11 rfl ?_
    refine zr_aload_n (pc' := 14) cx rfl 0 dX8_located_13 rfl rfl ?_
    refine zg_X8_7 (pc' := 17) cx rfl zkc_400 dX8_located_14 ?_
    refine zr_iconst (pc' := 18) cx rfl dX8_located_17 ?_
    refine zr_iald (pc' := 19) cx rfl 16 zkc_401 (by decide) (L := 168) rfl dX8_located_18 ?_
    refine zr_icmp_ge (pc' := 22) cx rfl (tgt := 89) dX8_located_19 rfl ?_ ?_
    · refine zr_iload_n (pc' := 90) cx rfl 3 dX8_located_89 rfl rfl ?_
      exact zr_iretE cx dX8_located_90
    · refine zr_aload_n (pc' := 23) cx rfl 0 dX8_located_22 rfl rfl ?_
      refine zr_iload (pc' := 25) cx rfl 4 dX8_located_23 rfl ?_
      refine zr_iconst (pc' := 26) cx rfl dX8_located_25 ?_
      refine zc_X8_33 (pc' := 29) cx rfl  ⟨Nat.le_of_ble_eq_true rfl, Nat.le_of_ble_eq_true rfl⟩ ⟨Nat.zero_le _, Nat.zero_le _⟩ (Nat.le_of_ble_eq_true rfl) dX8_located_26 (fun v3 => ?_)
      refine zr_iconst (pc' := 30) cx rfl dX8_located_29 ?_
      refine zr_icmp_ne (pc' := 33) cx rfl (tgt := 83) dX8_located_30 rfl ?_ ?_
      · refine zr_iinc (pc' := 86) cx rfl (lv' := [(4, .int (i32 (a4 + 1))), (0, .ref (zad Y 400)), (1, .int (i32 a1)), (2, .int (i32 a2)), (3, .int (i32 a3))]) 4 dX8_located_83 rfl (by decide) rfl ?_
        refine zr_goto cx (tgt := 11) dX8_located_86 rfl ?_
        refine zr_sub [1, 2, 3, 4, 0] rfl ?_
        exact ih g a1 a2 a3 (a4 + 1)
      · refine zr_aload_n (pc' := 34) cx rfl 0 dX8_located_33 rfl rfl ?_
        refine zg_X8_7 (pc' := 37) cx rfl zkc_400 dX8_located_34 ?_
        refine zr_iconst (pc' := 38) cx rfl dX8_located_37 ?_
        refine zr_bipush (pc' := 40) cx rfl dX8_located_38 (by decide +kernel) ?_
        refine zr_iload (pc' := 42) cx rfl 4 dX8_located_40 rfl ?_
        refine zr_imul (pc' := 43) cx rfl dX8_located_42 ?_
        refine zr_iadd (pc' := 44) cx rfl dX8_located_43 ?_
        refine zr_iconst (pc' := 45) cx rfl dX8_located_44 ?_
        refine zr_iadd (pc' := 46) cx rfl dX8_located_45 ?_
        refine zr_iconst (pc' := 47) cx rfl dX8_located_46 ?_
        refine zr_iast (pc' := 48) cx rfl 16 zkc_401 (by decide) (L := 168) rfl dX8_located_47 ?_
        refine zr_letS (fun g4 => ?_)
        refine zr_iload_n (pc' := 49) cx rfl 3 dX8_located_48 rfl rfl ?_
        refine zr_aload_n (pc' := 50) cx rfl 0 dX8_located_49 rfl rfl ?_
        refine zr_iload_n (pc' := 51) cx rfl 1 dX8_located_50 rfl rfl ?_
        refine zc_X8_70 (pc' := 54) cx rfl  ⟨Nat.le_of_ble_eq_true rfl, Nat.le_of_ble_eq_true rfl⟩ ⟨Nat.zero_le _, Nat.zero_le _⟩ (Nat.le_of_ble_eq_true rfl) dX8_located_51 (fun v5 => ?_)
        refine zr_iload_n (pc' := 55) cx rfl 2 dX8_located_54 rfl rfl ?_
        refine zr_icmp_eq (pc' := 58) cx rfl (tgt := 65) dX8_located_55 rfl ?_ ?_
        · refine zr_iconst (pc' := 66) cx rfl dX8_located_65 ?_
          refine zr_sub [0, 1, 2, 4] rfl ?_
          exact wX8_located_p66 cx ih g4 a3 0 a1 a2 a4
        · refine zr_iconst (pc' := 59) cx rfl dX8_located_58 ?_
          refine zr_iload (pc' := 61) cx rfl 4 dX8_located_59 rfl ?_
          refine zr_ishl (pc' := 62) cx rfl dX8_located_61 ?_
          refine zr_gotoS cx (tgt := 66) dX8_located_62 rfl ?_
          refine zr_sub [0, 1, 2, 4] rfl ?_
          exact wX8_located_p66 cx ih g4 a3 (zsl 1 a4) a1 a2 a4
theorem wX8_located (cx : zCx Y p s m args meth c RX8 cX8_located 5 (some .int)) (g : zSt) (a1 : Int)  : zWo Y p l e (zrm 6) s m args below meth c 5 0 0 (fun q : Int × zSt => MQ below (zQi Y q.1 q.2) args s 0 0 (zA Y)) g [(0, .ref (zad Y 400)), (1, .int (i32 a1))] ([]) 0 (fX8_located g a1) := by
  unfold fX8_located
  refine zr_aload_n (pc' := 1) cx rfl 0 dX8_located_0 rfl rfl ?_
  refine zr_iload_n (pc' := 2) cx rfl 1 dX8_located_1 rfl rfl ?_
  refine zc_X8_70 (pc' := 5) cx rfl  ⟨Nat.le_of_ble_eq_true rfl, Nat.le_of_ble_eq_true rfl⟩ ⟨Nat.zero_le _, Nat.zero_le _⟩ (Nat.le_of_ble_eq_true rfl) dX8_located_2 (fun v6 => ?_)
  refine zr_istore_n (pc' := 6) cx rfl (lv' := [(2, .int (i32 v6)), (0, .ref (zad Y 400)), (1, .int (i32 a1))]) dX8_located_5 rfl (by decide) rfl ?_
  refine zr_iconst (pc' := 7) cx rfl dX8_located_6 ?_
  refine zr_istore_n (pc' := 8) cx rfl (lv' := [(3, .int (i32 0)), (2, .int (i32 v6)), (0, .ref (zad Y 400)), (1, .int (i32 a1))]) dX8_located_7 rfl (by decide) rfl ?_
  refine zr_iconst (pc' := 9) cx rfl dX8_located_8 ?_
  refine zr_istore (pc' := 11) cx rfl (lv' := [(4, .int (i32 1)), (3, .int (i32 0)), (2, .int (i32 v6)), (0, .ref (zad Y 400)), (1, .int (i32 a1))]) dX8_located_9 (by decide) rfl ?_
  refine zr_sub [3, 4, 2, 1, 0] rfl ?_
  exact wX8_located_p11 cx zfu g a1 v6 0 1
theorem mX8_located (l : Launch) (Y : zLy) (g : zSt) (a1 : Int)  : ∀ v g2, fX8_located g a1 = some (v, g2) → zMt l yX8_located cX8_located 5 (some .int) 6 [.ref (zad Y 400), .int (i32 a1)] Y g (zQi Y v g2) := by
  intro v g2 hv
  refine zmet_of RX8 rfl (by decide +kernel) (Nat.le_of_ble_eq_true rfl) ?_
  intro p e s m below meth c cx H locs ls hH hS hl
  exact wX8_located cx g a1  (v, g2) hv H locs ls hH hS hl
theorem zc_X8_237 (cx : zCx Y p s m args meth c RX8 cc nl ret) (hpc : pc + 3 = pc') {g : zSt} {a1 : Int}  {fk : Int → zSt → Option ρ} (hR : 6 + 1 ≤ R.frames ∧ 8 + (5 + 11) + 40 * 6 ≤ R.locals) (hkn : k ≤ R.cells ∧ n ≤ R.slots) (hrest : (rest.map fun v => v.category).sum ≤ 8) (hdg : decode cc pc = .ok (.invokevirtual 237, 3)) (kk : ∀ (v : Int) (g2 : zSt), zWo Y p l e R s m args below meth c nl k n kq g2 lv (.int (i32 v) :: rest) pc' (fk v g2)) : zWo Y p l e R s m args below meth c nl k n kq g lv (.int (i32 a1) :: .ref (zad Y 400) :: rest) pc (zbe (fX8_located g a1) fk) := zr_callViE cx (an := 1) (As := [.int (i32 a1)]) 9 zkc_400 (by decide) rfl (mX8_located l Y g a1) (zG_V zw_1326 zw_1328 zw_91 zw_109 zw_1329) (by decide +kernel) hR hkn rfl rfl hrest hdg hpc kk
def fX8_locate_p13  (g : zSt) (y1 : Int) (a1 : Int) : Option (Int × zSt) :=
    zlet (zwr g 400 0 y1) (fun g1 =>
    (if i32 0 < i32 (g1.1 400 0) then
    some (0, g1)
    else
    zbe (fX8_located g1 a1) (fun v2 g3 =>
    some (v2, g3))))
def fX8_locate (g : zSt) (a1 : Int) : Option (Int × zSt) :=
    zbd (fX8_isTerminal g a1) (fun v4 =>
    (if i32 v4 = i32 0 then
    fX8_locate_p13 g 1 a1
    else
    fX8_locate_p13 g 0 a1))
theorem wX8_locate_p13 (cx : zCx Y p s m args meth c RX8 cX8_locate 2 (some .int))   : ∀ (g : zSt) (y1 : Int) (a1 : Int), zWo Y p l e (zrm 7) s m args below meth c 2 0 0 (fun q : Int × zSt => MQ below (zQi Y q.1 q.2) args s 0 0 (zA Y)) g [(0, .ref (zad Y 400)), (1, .int (i32 a1))] (.int (i32 y1) :: .ref (zad Y 400) :: []) 13 (fX8_locate_p13 g y1 a1) := by
  intro g y1 a1
  unfold fX8_locate_p13
  refine zp_X8_25 (pc' := 16) cx rfl zkc_400 dX8_locate_13 ?_
  refine zr_letS (fun g1 => ?_)
  refine zr_aload_n (pc' := 17) cx rfl 0 dX8_locate_16 rfl rfl ?_
  refine zg_X8_25 (pc' := 20) cx rfl zkc_400 dX8_locate_17 ?_
  refine zr_if_le (pc' := 23) cx rfl (tgt := 27) dX8_locate_20 rfl ?_ ?_
  · refine zr_aload_n (pc' := 28) cx rfl 0 dX8_locate_27 rfl rfl ?_
    refine zr_iload_n (pc' := 29) cx rfl 1 dX8_locate_28 rfl rfl ?_
    refine zc_X8_237 (pc' := 32) cx rfl  ⟨Nat.le_of_ble_eq_true rfl, Nat.le_of_ble_eq_true rfl⟩ ⟨Nat.zero_le _, Nat.zero_le _⟩ (Nat.le_of_ble_eq_true rfl) dX8_locate_29 (fun v2 g3 => ?_)
    exact zr_iretE cx dX8_locate_32
  · refine zr_iconst (pc' := 24) cx rfl dX8_locate_23 ?_
    refine zr_gotoS cx (tgt := 32) dX8_locate_24 rfl ?_
    exact zr_iretE cx dX8_locate_32
theorem wX8_locate (cx : zCx Y p s m args meth c RX8 cX8_locate 2 (some .int)) (g : zSt) (a1 : Int)  : zWo Y p l e (zrm 7) s m args below meth c 2 0 0 (fun q : Int × zSt => MQ below (zQi Y q.1 q.2) args s 0 0 (zA Y)) g [(0, .ref (zad Y 400)), (1, .int (i32 a1))] ([]) 0 (fX8_locate g a1) := by
  unfold fX8_locate
  refine zr_aload_n (pc' := 1) cx rfl 0 dX8_locate_0 rfl rfl ?_
  refine zr_iload_n (pc' := 2) cx rfl 1 dX8_locate_1 rfl rfl ?_
  refine zc_X8_135 (pc' := 5) cx rfl  ⟨Nat.le_of_ble_eq_true rfl, Nat.le_of_ble_eq_true rfl⟩ ⟨Nat.zero_le _, Nat.zero_le _⟩ (Nat.le_of_ble_eq_true rfl) dX8_locate_2 (fun v4 => ?_)
  refine zr_if_eq (pc' := 8) cx rfl (tgt := 12) dX8_locate_5 rfl ?_ ?_
  · refine zr_iconst (pc' := 13) cx rfl dX8_locate_12 ?_
    refine zr_sub [0, 1] rfl ?_
    exact wX8_locate_p13 cx g 1 a1
  · refine zr_iconst (pc' := 9) cx rfl dX8_locate_8 ?_
    refine zr_gotoS cx (tgt := 13) dX8_locate_9 rfl ?_
    refine zr_sub [0, 1] rfl ?_
    exact wX8_locate_p13 cx g 0 a1
theorem mX8_locate (l : Launch) (Y : zLy) (g : zSt) (a1 : Int)  : ∀ v g2, fX8_locate g a1 = some (v, g2) → zMt l yX8_locate cX8_locate 2 (some .int) 7 [.ref (zad Y 400), .int (i32 a1)] Y g (zQi Y v g2) := by
  intro v g2 hv
  refine zmet_of RX8 rfl (by decide +kernel) (Nat.le_of_ble_eq_true rfl) ?_
  intro p e s m below meth c cx H locs ls hH hS hl
  exact wX8_locate cx g a1  (v, g2) hv H locs ls hH hS hl
def fX8_faultAnswer (g : zSt) (a1 : Int) : Option Int :=
    (if i32 a1 = i32 0 then
    some (g.1 400 6)
    else
    (if i32 a1 = i32 1 then
    zbd (fX8_burning g) (fun v1 =>
    some v1)
    else
    (if i32 a1 = i32 2 then
    zbd (fX8_leak g) (fun v2 =>
    some v2)
    else
    (if i32 (g.1 400 7) = i32 (-1) then
    some (-1)
    else
    some ((100 * (zdv (g.1 400 7) 2)) + (10 * (zmo (g.1 400 7) 2)))))))
theorem wX8_faultAnswer (cx : zCx Y p s m args meth c RX8 cX8_faultAnswer 2 (some .int)) (g : zSt) (a1 : Int)  : zWo Y p l e (zrm 7) s m args below meth c 2 0 0 (fun v : Int => MQ below (zQi Y v g) args s 0 0 (zA Y)) g [(0, .ref (zad Y 400)), (1, .int (i32 a1))] ([]) 0 (fX8_faultAnswer g a1) := by
  unfold fX8_faultAnswer
  refine zr_iload_n (pc' := 1) cx rfl 1 dX8_faultAnswer_0 rfl rfl ?_
  refine zr_case (fun h => ?_) (fun n0 => ?_)
  · refine zr_tabIn cx (off := 27) (tgt := 28) dX8_faultAnswer_1 (v := 0) (by rw [h]; decide +kernel) (by decide) rfl rfl ?_
    refine zr_aload_n (pc' := 29) cx rfl 0 dX8_faultAnswer_28 rfl rfl ?_
    refine zg_X8_93 (pc' := 32) cx rfl zkc_400 dX8_faultAnswer_29 ?_
    exact zr_iretP cx dX8_faultAnswer_32
  · refine zr_case (fun h => ?_) (fun n1 => ?_)
    · refine zr_tabIn cx (off := 32) (tgt := 33) dX8_faultAnswer_1 (v := 1) (by rw [h]; decide +kernel) (by decide) rfl rfl ?_
      refine zr_aload_n (pc' := 34) cx rfl 0 dX8_faultAnswer_33 rfl rfl ?_
      refine zc_X8_132 (pc' := 37) cx rfl  ⟨Nat.le_of_ble_eq_true rfl, Nat.le_of_ble_eq_true rfl⟩ ⟨Nat.zero_le _, Nat.zero_le _⟩ (Nat.le_of_ble_eq_true rfl) dX8_faultAnswer_34 (fun v1 => ?_)
      exact zr_iretP cx dX8_faultAnswer_37
    · refine zr_case (fun h => ?_) (fun n2 => ?_)
      · refine zr_tabIn cx (off := 37) (tgt := 38) dX8_faultAnswer_1 (v := 2) (by rw [h]; decide +kernel) (by decide) rfl rfl ?_
        refine zr_aload_n (pc' := 39) cx rfl 0 dX8_faultAnswer_38 rfl rfl ?_
        refine zc_X8_73 (pc' := 42) cx rfl  ⟨Nat.le_of_ble_eq_true rfl, Nat.le_of_ble_eq_true rfl⟩ ⟨Nat.zero_le _, Nat.zero_le _⟩ (Nat.le_of_ble_eq_true rfl) dX8_faultAnswer_39 (fun v2 => ?_)
        exact zr_iretP cx dX8_faultAnswer_42
      · refine zr_tabOut cx (tgt := 43) dX8_faultAnswer_1 (by have := zne n0 (k := 0) (by decide +kernel); have := zne n1 (k := 1) (by decide +kernel); have := zne n2 (k := 2) (by decide +kernel); omega) rfl ?_
        refine zr_aload_n (pc' := 44) cx rfl 0 dX8_faultAnswer_43 rfl rfl ?_
        refine zg_X8_96 (pc' := 47) cx rfl zkc_400 dX8_faultAnswer_44 ?_
        refine zr_iconst (pc' := 48) cx rfl dX8_faultAnswer_47 ?_
        refine zr_icmp_ne (pc' := 51) cx rfl (tgt := 55) dX8_faultAnswer_48 rfl ?_ ?_
        · refine zr_bipush (pc' := 57) cx rfl dX8_faultAnswer_55 (by decide +kernel) ?_
          refine zr_aload_n (pc' := 58) cx rfl 0 dX8_faultAnswer_57 rfl rfl ?_
          refine zg_X8_96 (pc' := 61) cx rfl zkc_400 dX8_faultAnswer_58 ?_
          refine zr_iconst (pc' := 62) cx rfl dX8_faultAnswer_61 ?_
          refine zr_idiv (pc' := 63) cx rfl (by decide +kernel) dX8_faultAnswer_62 ?_
          refine zr_imul (pc' := 64) cx rfl dX8_faultAnswer_63 ?_
          refine zr_bipush (pc' := 66) cx rfl dX8_faultAnswer_64 (by decide +kernel) ?_
          refine zr_aload_n (pc' := 67) cx rfl 0 dX8_faultAnswer_66 rfl rfl ?_
          refine zg_X8_96 (pc' := 70) cx rfl zkc_400 dX8_faultAnswer_67 ?_
          refine zr_iconst (pc' := 71) cx rfl dX8_faultAnswer_70 ?_
          refine zr_irem (pc' := 72) cx rfl (by decide +kernel) dX8_faultAnswer_71 ?_
          refine zr_imul (pc' := 73) cx rfl dX8_faultAnswer_72 ?_
          refine zr_iadd (pc' := 74) cx rfl dX8_faultAnswer_73 ?_
          exact zr_iretP cx dX8_faultAnswer_74
        · refine zr_iconst (pc' := 52) cx rfl dX8_faultAnswer_51 ?_
          refine zr_gotoS cx (tgt := 74) dX8_faultAnswer_52 rfl ?_
          exact zr_iretP cx dX8_faultAnswer_74
theorem mX8_faultAnswer (l : Launch) (Y : zLy) (g : zSt) (a1 : Int)  : ∀ v, fX8_faultAnswer g a1 = some v → zMt l yX8_faultAnswer cX8_faultAnswer 2 (some .int) 7 [.ref (zad Y 400), .int (i32 a1)] Y g (zQi Y v g) := by
  intro v hv
  refine zmet_of RX8 rfl (by decide +kernel) (Nat.le_of_ble_eq_true rfl) ?_
  intro p e s m below meth c cx H locs ls hH hS hl
  exact wX8_faultAnswer cx g a1  v hv H locs ls hH hS hl
theorem zc_X8_243 (cx : zCx Y p s m args meth c RX8 cc nl ret) (hpc : pc + 3 = pc') {g : zSt} {a1 : Int}  {fk : Int → Option ρ} (hR : 7 + 1 ≤ R.frames ∧ 8 + (2 + 11) + 40 * 7 ≤ R.locals) (hkn : k ≤ R.cells ∧ n ≤ R.slots) (hrest : (rest.map fun v => v.category).sum ≤ 8) (hdg : decode cc pc = .ok (.invokevirtual 243, 3)) (kk : ∀ v : Int, zWo Y p l e R s m args below meth c nl k n kq g lv (.int (i32 v) :: rest) pc' (fk v)) : zWo Y p l e R s m args below meth c nl k n kq g lv (.int (i32 a1) :: .ref (zad Y 400) :: rest) pc (zbd (fX8_faultAnswer g a1) fk) := zr_callViP cx (an := 1) (As := [.int (i32 a1)]) 9 zkc_400 (by decide) rfl (mX8_faultAnswer l Y g a1) (zG_V zw_1338 zw_1340 zw_93 zw_109 zw_1341) (by decide +kernel) hR hkn rfl rfl hrest hdg hpc kk
def fX8_ifFault_p57  (g : zSt) (y1 : Int) (a1 : Int) (a2 : Int) (a3 : Int) (a4 : Int) : Option (Int × zSt) :=
    zlet (zwr g 400 0 y1) (fun g1 =>
    (if i32 0 < i32 (g1.1 400 0) then
    some (0, g1)
    else
    zbd (fX8_keepAside g1) (fun g2 =>
    zbd (fX8_bringFault g2 a1 a2 a3) (fun g3 =>
    zbd (fX8_faultAnswer g3 a4) (fun v4 =>
    zbd (fX8_takeBack g3) (fun g5 =>
    some (v4, g5)))))))
def fX8_ifFault_p20  (g : zSt) (y0 : Int) (a1 : Int) (a2 : Int) (a3 : Int) (a4 : Int) : Option (Int × zSt) :=
    (if i32 y0 = i32 0 then
    fX8_ifFault_p57 g 1 a1 a2 a3 a4
    else
    zbd (fX8_within g a3 1 30) (fun v6 =>
    (if i32 v6 = i32 0 then
    fX8_ifFault_p57 g 2 a1 a2 a3 a4
    else
    zbd (fX8_within g a4 0 3) (fun v7 =>
    (if i32 v7 = i32 0 then
    fX8_ifFault_p57 g 2 a1 a2 a3 a4
    else
    fX8_ifFault_p57 g 0 a1 a2 a3 a4)))))
def fX8_ifFault (g : zSt) (a1 : Int) (a2 : Int) (a3 : Int) (a4 : Int) : Option (Int × zSt) :=
    zbd (fX8_isBox g a1) (fun v8 =>
    (if i32 v8 = i32 0 then
    fX8_ifFault_p20 g 0 a1 a2 a3 a4
    else
    zbd (fX8_isTerminal g a2) (fun v9 =>
    (if i32 v9 = i32 0 then
    fX8_ifFault_p20 g 0 a1 a2 a3 a4
    else
    fX8_ifFault_p20 g 1 a1 a2 a3 a4))))
theorem wX8_ifFault_p57 (cx : zCx Y p s m args meth c RX8 cX8_ifFault 7 (some .int))   : ∀ (g : zSt) (y1 : Int) (a1 : Int) (a2 : Int) (a3 : Int) (a4 : Int), zWo Y p l e (zrm 12) s m args below meth c 7 0 0 (fun q : Int × zSt => MQ below (zQi Y q.1 q.2) args s 0 0 (zA Y)) g [(0, .ref (zad Y 400)), (1, .int (i32 a1)), (2, .int (i32 a2)), (3, .int (i32 a3)), (4, .int (i32 a4))] (.int (i32 y1) :: .ref (zad Y 400) :: []) 57 (fX8_ifFault_p57 g y1 a1 a2 a3 a4) := by
  intro g y1 a1 a2 a3 a4
  unfold fX8_ifFault_p57
  refine zp_X8_25 (pc' := 60) cx rfl zkc_400 dX8_ifFault_57 ?_
  refine zr_letS (fun g1 => ?_)
  refine zr_aload_n (pc' := 61) cx rfl 0 dX8_ifFault_60 rfl rfl ?_
  refine zg_X8_25 (pc' := 64) cx rfl zkc_400 dX8_ifFault_61 ?_
  refine zr_if_le (pc' := 67) cx rfl (tgt := 69) dX8_ifFault_64 rfl ?_ ?_
  · refine zr_aload_n (pc' := 70) cx rfl 0 dX8_ifFault_69 rfl rfl ?_
    refine zc_X8_240 (pc' := 73) cx rfl  ⟨Nat.le_of_ble_eq_true rfl, Nat.le_of_ble_eq_true rfl⟩ ⟨Nat.zero_le _, Nat.zero_le _⟩ (Nat.le_of_ble_eq_true rfl) dX8_ifFault_70 (fun g2 => ?_)
    refine zr_aload_n (pc' := 74) cx rfl 0 dX8_ifFault_73 rfl rfl ?_
    refine zr_iload_n (pc' := 75) cx rfl 1 dX8_ifFault_74 rfl rfl ?_
    refine zr_iload_n (pc' := 76) cx rfl 2 dX8_ifFault_75 rfl rfl ?_
    refine zr_iload_n (pc' := 77) cx rfl 3 dX8_ifFault_76 rfl rfl ?_
    refine zc_X8_151 (pc' := 80) cx rfl  ⟨Nat.le_of_ble_eq_true rfl, Nat.le_of_ble_eq_true rfl⟩ ⟨Nat.zero_le _, Nat.zero_le _⟩ (Nat.le_of_ble_eq_true rfl) dX8_ifFault_77 (fun g3 => ?_)
    refine zr_aload_n (pc' := 81) cx rfl 0 dX8_ifFault_80 rfl rfl ?_
    refine zr_iload (pc' := 83) cx rfl 4 dX8_ifFault_81 rfl ?_
    refine zc_X8_243 (pc' := 86) cx rfl  ⟨Nat.le_of_ble_eq_true rfl, Nat.le_of_ble_eq_true rfl⟩ ⟨Nat.zero_le _, Nat.zero_le _⟩ (Nat.le_of_ble_eq_true rfl) dX8_ifFault_83 (fun v4 => ?_)
    refine zr_istore (pc' := 88) cx rfl (lv' := [(6, .int (i32 v4)), (0, .ref (zad Y 400)), (1, .int (i32 a1)), (2, .int (i32 a2)), (3, .int (i32 a3)), (4, .int (i32 a4))]) dX8_ifFault_86 (by decide) rfl ?_
    refine zr_aload_n (pc' := 89) cx rfl 1 dX8_ifFault_88 rfl rfl ?_
    refine zc_X8_246 (pc' := 92) cx rfl  ⟨Nat.le_of_ble_eq_true rfl, Nat.le_of_ble_eq_true rfl⟩ ⟨Nat.zero_le _, Nat.zero_le _⟩ (Nat.le_of_ble_eq_true rfl) dX8_ifFault_89 (fun g5 => ?_)
    refine zr_iload (pc' := 94) cx rfl 0 dX8_ifFault_92 rfl ?_
    exact zr_iretE cx dX8_ifFault_94
  · refine zr_iconst (pc' := 68) cx rfl dX8_ifFault_67 ?_
    exact zr_iretE cx dX8_ifFault_68
theorem wX8_ifFault_p20 (cx : zCx Y p s m args meth c RX8 cX8_ifFault 7 (some .int))   : ∀ (g : zSt) (y0 : Int) (a1 : Int) (a2 : Int) (a3 : Int) (a4 : Int), zWo Y p l e (zrm 12) s m args below meth c 7 0 0 (fun q : Int × zSt => MQ below (zQi Y q.1 q.2) args s 0 0 (zA Y)) g [(0, .ref (zad Y 400)), (1, .int (i32 a1)), (2, .int (i32 a2)), (3, .int (i32 a3)), (4, .int (i32 a4))] (.int (i32 y0) :: []) 20 (fX8_ifFault_p20 g y0 a1 a2 a3 a4) := by
  intro g y0 a1 a2 a3 a4
  unfold fX8_ifFault_p20
  refine zr_istore (pc' := 22) cx rfl (lv' := [(5, .int (i32 y0)), (0, .ref (zad Y 400)), (1, .int (i32 a1)), (2, .int (i32 a2)), (3, .int (i32 a3)), (4, .int (i32 a4))]) dX8_ifFault_20 (by decide) rfl ?_
  refine zr_aload_n (pc' := 23) cx rfl 1 dX8_ifFault_22 rfl rfl ?_
  refine zr_iload (pc' := 25) cx rfl 0 dX8_ifFault_23 rfl ?_
  refine zr_if_ne (pc' := 28) cx rfl (tgt := 32) dX8_ifFault_25 rfl ?_ ?_
  · refine zr_iload_n (pc' := 33) cx rfl 4 dX8_ifFault_32 rfl rfl ?_
    refine zr_iconst (pc' := 34) cx rfl dX8_ifFault_33 ?_
    refine zr_bipush (pc' := 36) cx rfl dX8_ifFault_34 (by decide +kernel) ?_
    refine zc_X8_29 (pc' := 39) cx rfl  ⟨Nat.le_of_ble_eq_true rfl, Nat.le_of_ble_eq_true rfl⟩ ⟨Nat.zero_le _, Nat.zero_le _⟩ (Nat.le_of_ble_eq_true rfl) dX8_ifFault_36 (fun v6 => ?_)
    refine zr_if_eq (pc' := 42) cx rfl (tgt := 56) dX8_ifFault_39 rfl ?_ ?_
    · refine zr_iconst (pc' := 57) cx rfl dX8_ifFault_56 ?_
      refine zr_sub [1, 2, 3, 4, 5] rfl ?_
      exact wX8_ifFault_p57 cx g 2 a1 a2 a3 a4
    · refine zr_iload (pc' := 44) cx rfl 5 dX8_ifFault_42 rfl ?_
      refine zr_iconst (pc' := 45) cx rfl dX8_ifFault_44 ?_
      refine zr_iconst (pc' := 46) cx rfl dX8_ifFault_45 ?_
      refine zc_X8_29 (pc' := 49) cx rfl  ⟨Nat.le_of_ble_eq_true rfl, Nat.le_of_ble_eq_true rfl⟩ ⟨Nat.zero_le _, Nat.zero_le _⟩ (Nat.le_of_ble_eq_true rfl) dX8_ifFault_46 (fun v7 => ?_)
      refine zr_if_eq (pc' := 52) cx rfl (tgt := 56) dX8_ifFault_49 rfl ?_ ?_
      · refine zr_iconst (pc' := 57) cx rfl dX8_ifFault_56 ?_
        refine zr_sub [1, 2, 3, 4, 5] rfl ?_
        exact wX8_ifFault_p57 cx g 2 a1 a2 a3 a4
      · refine zr_iconst (pc' := 53) cx rfl dX8_ifFault_52 ?_
        refine zr_gotoS cx (tgt := 57) dX8_ifFault_53 rfl ?_
        refine zr_sub [1, 2, 3, 4, 5] rfl ?_
        exact wX8_ifFault_p57 cx g 0 a1 a2 a3 a4
  · refine zr_iconst (pc' := 29) cx rfl dX8_ifFault_28 ?_
    refine zr_gotoS cx (tgt := 57) dX8_ifFault_29 rfl ?_
    refine zr_sub [1, 2, 3, 4, 5] rfl ?_
    exact wX8_ifFault_p57 cx g 1 a1 a2 a3 a4
theorem wX8_ifFault (cx : zCx Y p s m args meth c RX8 cX8_ifFault 7 (some .int)) (g : zSt) (a1 : Int) (a2 : Int) (a3 : Int) (a4 : Int)  : zWo Y p l e (zrm 12) s m args below meth c 7 0 0 (fun q : Int × zSt => MQ below (zQi Y q.1 q.2) args s 0 0 (zA Y)) g [(0, .ref (zad Y 400)), (1, .int (i32 a1)), (2, .int (i32 a2)), (3, .int (i32 a3)), (4, .int (i32 a4))] ([]) 0 (fX8_ifFault g a1 a2 a3 a4) := by
  unfold fX8_ifFault
  refine zr_aload_n (pc' := 1) cx rfl 0 dX8_ifFault_0 rfl rfl ?_
  refine zr_iload_n (pc' := 2) cx rfl 1 dX8_ifFault_1 rfl rfl ?_
  refine zc_X8_105 (pc' := 5) cx rfl  ⟨Nat.le_of_ble_eq_true rfl, Nat.le_of_ble_eq_true rfl⟩ ⟨Nat.zero_le _, Nat.zero_le _⟩ (Nat.le_of_ble_eq_true rfl) dX8_ifFault_2 (fun v8 => ?_)
  refine zr_if_eq (pc' := 8) cx rfl (tgt := 19) dX8_ifFault_5 rfl ?_ ?_
  · refine zr_iconst (pc' := 20) cx rfl dX8_ifFault_19 ?_
    refine zr_sub [0, 1, 2, 3, 4] rfl ?_
    exact wX8_ifFault_p20 cx g 0 a1 a2 a3 a4
  · refine zr_iload_n (pc' := 9) cx rfl 2 dX8_ifFault_8 rfl rfl ?_
    refine zc_X8_135 (pc' := 12) cx rfl  ⟨Nat.le_of_ble_eq_true rfl, Nat.le_of_ble_eq_true rfl⟩ ⟨Nat.zero_le _, Nat.zero_le _⟩ (Nat.le_of_ble_eq_true rfl) dX8_ifFault_9 (fun v9 => ?_)
    refine zr_if_eq (pc' := 15) cx rfl (tgt := 19) dX8_ifFault_12 rfl ?_ ?_
    · refine zr_iconst (pc' := 20) cx rfl dX8_ifFault_19 ?_
      refine zr_sub [0, 1, 2, 3, 4] rfl ?_
      exact wX8_ifFault_p20 cx g 0 a1 a2 a3 a4
    · refine zr_iconst (pc' := 16) cx rfl dX8_ifFault_15 ?_
      refine zr_gotoS cx (tgt := 20) dX8_ifFault_16 rfl ?_
      refine zr_sub [0, 1, 2, 3, 4] rfl ?_
      exact wX8_ifFault_p20 cx g 1 a1 a2 a3 a4
theorem mX8_ifFault (l : Launch) (Y : zLy) (g : zSt) (a1 : Int) (a2 : Int) (a3 : Int) (a4 : Int)  : ∀ v g2, fX8_ifFault g a1 a2 a3 a4 = some (v, g2) → zMt l yX8_ifFault cX8_ifFault 7 (some .int) 12 [.ref (zad Y 400), .int (i32 a1), .int (i32 a2), .int (i32 a3), .int (i32 a4)] Y g (zQi Y v g2) := by
  intro v g2 hv
  refine zmet_of RX8 rfl (by decide +kernel) (Nat.le_of_ble_eq_true rfl) ?_
  intro p e s m below meth c cx H locs ls hH hS hl
  exact wX8_ifFault cx g a1 a2 a3 a4  (v, g2) hv H locs ls hH hS hl
def fX8_toggledAnswer (g : zSt) (a1 : Int) : Option (Int × zSt) :=
    zbd (fX8_keepAside g) (fun g1 =>
    zbd (fX8_turn g1 a1 2) (fun g2 =>
    zbd (fX8_burning g2) (fun v3 =>
    zbd (fX8_takeBack g2) (fun g4 =>
    some (v3, g4)))))
theorem wX8_toggledAnswer (cx : zCx Y p s m args meth c RX8 cX8_toggledAnswer 3 (some .int)) (g : zSt) (a1 : Int)  : zWo Y p l e (zrm 12) s m args below meth c 3 0 0 (fun q : Int × zSt => MQ below (zQi Y q.1 q.2) args s 0 0 (zA Y)) g [(0, .ref (zad Y 400)), (1, .int (i32 a1))] ([]) 0 (fX8_toggledAnswer g a1) := by
  unfold fX8_toggledAnswer
  refine zr_aload_n (pc' := 1) cx rfl 0 dX8_toggledAnswer_0 rfl rfl ?_
  refine zc_X8_240 (pc' := 4) cx rfl  ⟨Nat.le_of_ble_eq_true rfl, Nat.le_of_ble_eq_true rfl⟩ ⟨Nat.zero_le _, Nat.zero_le _⟩ (Nat.le_of_ble_eq_true rfl) dX8_toggledAnswer_1 (fun g1 => ?_)
  refine zr_aload_n (pc' := 5) cx rfl 0 dX8_toggledAnswer_4 rfl rfl ?_
  refine zr_iload_n (pc' := 6) cx rfl 1 dX8_toggledAnswer_5 rfl rfl ?_
  refine zr_iconst (pc' := 7) cx rfl dX8_toggledAnswer_6 ?_
  refine zc_X8_128 (pc' := 10) cx rfl  ⟨Nat.le_of_ble_eq_true rfl, Nat.le_of_ble_eq_true rfl⟩ ⟨Nat.zero_le _, Nat.zero_le _⟩ (Nat.le_of_ble_eq_true rfl) dX8_toggledAnswer_7 (fun g2 => ?_)
  refine zr_aload_n (pc' := 11) cx rfl 0 dX8_toggledAnswer_10 rfl rfl ?_
  refine zc_X8_132 (pc' := 14) cx rfl  ⟨Nat.le_of_ble_eq_true rfl, Nat.le_of_ble_eq_true rfl⟩ ⟨Nat.zero_le _, Nat.zero_le _⟩ (Nat.le_of_ble_eq_true rfl) dX8_toggledAnswer_11 (fun v3 => ?_)
  refine zr_istore_n (pc' := 15) cx rfl (lv' := [(2, .int (i32 v3)), (0, .ref (zad Y 400)), (1, .int (i32 a1))]) dX8_toggledAnswer_14 rfl (by decide) rfl ?_
  refine zr_aload_n (pc' := 16) cx rfl 1 dX8_toggledAnswer_15 rfl rfl ?_
  refine zc_X8_246 (pc' := 19) cx rfl  ⟨Nat.le_of_ble_eq_true rfl, Nat.le_of_ble_eq_true rfl⟩ ⟨Nat.zero_le _, Nat.zero_le _⟩ (Nat.le_of_ble_eq_true rfl) dX8_toggledAnswer_16 (fun g4 => ?_)
  refine zr_iload_n (pc' := 20) cx rfl 0 dX8_toggledAnswer_19 rfl rfl ?_
  exact zr_iretE cx dX8_toggledAnswer_20
theorem mX8_toggledAnswer (l : Launch) (Y : zLy) (g : zSt) (a1 : Int)  : ∀ v g2, fX8_toggledAnswer g a1 = some (v, g2) → zMt l yX8_toggledAnswer cX8_toggledAnswer 3 (some .int) 12 [.ref (zad Y 400), .int (i32 a1)] Y g (zQi Y v g2) := by
  intro v g2 hv
  refine zmet_of RX8 rfl (by decide +kernel) (Nat.le_of_ble_eq_true rfl) ?_
  intro p e s m below meth c cx H locs ls hH hS hl
  exact wX8_toggledAnswer cx g a1  (v, g2) hv H locs ls hH hS hl
theorem zc_X8_249 (cx : zCx Y p s m args meth c RX8 cc nl ret) (hpc : pc + 3 = pc') {g : zSt} {a1 : Int}  {fk : Int → zSt → Option ρ} (hR : 12 + 1 ≤ R.frames ∧ 8 + (3 + 11) + 40 * 12 ≤ R.locals) (hkn : k ≤ R.cells ∧ n ≤ R.slots) (hrest : (rest.map fun v => v.category).sum ≤ 8) (hdg : decode cc pc = .ok (.invokevirtual 249, 3)) (kk : ∀ (v : Int) (g2 : zSt), zWo Y p l e R s m args below meth c nl k n kq g2 lv (.int (i32 v) :: rest) pc' (fk v g2)) : zWo Y p l e R s m args below meth c nl k n kq g lv (.int (i32 a1) :: .ref (zad Y 400) :: rest) pc (zbe (fX8_toggledAnswer g a1) fk) := zr_callViE cx (an := 1) (As := [.int (i32 a1)]) 9 zkc_400 (by decide) rfl (mX8_toggledAnswer l Y g a1) (zG_V zw_1350 zw_1352 zw_95 zw_109 zw_1353) (by decide +kernel) hR hkn rfl rfl hrest hdg hpc kk
def fX8_ifToggled_p14  (g : zSt) (y1 : Int) (a1 : Int) : Option (Int × zSt) :=
    zlet (zwr g 400 0 y1) (fun g1 =>
    (if i32 0 < i32 (g1.1 400 0) then
    some (0, g1)
    else
    zbe (fX8_toggledAnswer g1 a1) (fun v2 g3 =>
    some (v2, g3))))
def fX8_ifToggled (g : zSt) (a1 : Int) : Option (Int × zSt) :=
    zbd (fX8_isFed g a1) (fun v4 =>
    (if i32 v4 = i32 0 then
    fX8_ifToggled_p14 g 1 a1
    else
    fX8_ifToggled_p14 g 0 a1))
theorem wX8_ifToggled_p14 (cx : zCx Y p s m args meth c RX8 cX8_ifToggled 2 (some .int))   : ∀ (g : zSt) (y1 : Int) (a1 : Int), zWo Y p l e (zrm 13) s m args below meth c 2 0 0 (fun q : Int × zSt => MQ below (zQi Y q.1 q.2) args s 0 0 (zA Y)) g [(0, .ref (zad Y 400)), (1, .int (i32 a1))] (.int (i32 y1) :: .ref (zad Y 400) :: []) 14 (fX8_ifToggled_p14 g y1 a1) := by
  intro g y1 a1
  unfold fX8_ifToggled_p14
  refine zp_X8_25 (pc' := 17) cx rfl zkc_400 dX8_ifToggled_14 ?_
  refine zr_letS (fun g1 => ?_)
  refine zr_aload_n (pc' := 18) cx rfl 0 dX8_ifToggled_17 rfl rfl ?_
  refine zg_X8_25 (pc' := 21) cx rfl zkc_400 dX8_ifToggled_18 ?_
  refine zr_if_le (pc' := 24) cx rfl (tgt := 28) dX8_ifToggled_21 rfl ?_ ?_
  · refine zr_aload_n (pc' := 29) cx rfl 0 dX8_ifToggled_28 rfl rfl ?_
    refine zr_iload_n (pc' := 30) cx rfl 1 dX8_ifToggled_29 rfl rfl ?_
    refine zc_X8_249 (pc' := 33) cx rfl  ⟨Nat.le_of_ble_eq_true rfl, Nat.le_of_ble_eq_true rfl⟩ ⟨Nat.zero_le _, Nat.zero_le _⟩ (Nat.le_of_ble_eq_true rfl) dX8_ifToggled_30 (fun v2 g3 => ?_)
    exact zr_iretE cx dX8_ifToggled_33
  · refine zr_iconst (pc' := 25) cx rfl dX8_ifToggled_24 ?_
    refine zr_gotoS cx (tgt := 33) dX8_ifToggled_25 rfl ?_
    exact zr_iretE cx dX8_ifToggled_33
theorem wX8_ifToggled (cx : zCx Y p s m args meth c RX8 cX8_ifToggled 2 (some .int)) (g : zSt) (a1 : Int)  : zWo Y p l e (zrm 13) s m args below meth c 2 0 0 (fun q : Int × zSt => MQ below (zQi Y q.1 q.2) args s 0 0 (zA Y)) g [(0, .ref (zad Y 400)), (1, .int (i32 a1))] ([]) 0 (fX8_ifToggled g a1) := by
  unfold fX8_ifToggled
  refine zr_aload_n (pc' := 1) cx rfl 0 dX8_ifToggled_0 rfl rfl ?_
  refine zr_aload_n (pc' := 2) cx rfl 0 dX8_ifToggled_1 rfl rfl ?_
  refine zr_iload_n (pc' := 3) cx rfl 1 dX8_ifToggled_2 rfl rfl ?_
  refine zc_X8_125 (pc' := 6) cx rfl  ⟨Nat.le_of_ble_eq_true rfl, Nat.le_of_ble_eq_true rfl⟩ ⟨Nat.zero_le _, Nat.zero_le _⟩ (Nat.le_of_ble_eq_true rfl) dX8_ifToggled_3 (fun v4 => ?_)
  refine zr_if_eq (pc' := 9) cx rfl (tgt := 13) dX8_ifToggled_6 rfl ?_ ?_
  · refine zr_iconst (pc' := 14) cx rfl dX8_ifToggled_13 ?_
    refine zr_sub [0, 1] rfl ?_
    exact wX8_ifToggled_p14 cx g 1 a1
  · refine zr_iconst (pc' := 10) cx rfl dX8_ifToggled_9 ?_
    refine zr_gotoS cx (tgt := 14) dX8_ifToggled_10 rfl ?_
    refine zr_sub [0, 1] rfl ?_
    exact wX8_ifToggled_p14 cx g 0 a1
theorem mX8_ifToggled (l : Launch) (Y : zLy) (g : zSt) (a1 : Int)  : ∀ v g2, fX8_ifToggled g a1 = some (v, g2) → zMt l yX8_ifToggled cX8_ifToggled 2 (some .int) 13 [.ref (zad Y 400), .int (i32 a1)] Y g (zQi Y v g2) := by
  intro v g2 hv
  refine zmet_of RX8 rfl (by decide +kernel) (Nat.le_of_ble_eq_true rfl) ?_
  intro p e s m below meth c cx H locs ls hH hS hl
  exact wX8_ifToggled cx g a1  (v, g2) hv H locs ls hH hS hl
def fX8_ratingAnswer_p6  : Nat → zSt → Int → Int → Int → Option (Int × zSt)
  | 0, _, _, _, _ => none
  | fu + 1, g, a1, a2, a3 =>
    zck ((0 : Int) ≤ 0 ∧ 0 < 168) (
    (if i32 a3 < i32 (2 * (g.1 401 (Int.toNat 0))) then
    zck ((0 : Int) ≤ (((1 + (7 * (zdv a3 2))) + 5) + (zmo a3 2)) ∧ (((1 + (7 * (zdv a3 2))) + 5) + (zmo a3 2)) < 168) (zlet (zwr g 401 (Int.toNat (((1 + (7 * (zdv a3 2))) + 5) + (zmo a3 2))) 0) (fun g3 =>
    fX8_ratingAnswer_p6 fu g3 a1 a2 (a3 + 1)))
    else
    zbd (fX8_current g a1 a2) (fun v1 =>
    zbd (fX8_takeBack g) (fun g2 =>
    some (v1, g2)))))
def fX8_ratingAnswer (g : zSt) (a1 : Int) (a2 : Int) : Option (Int × zSt) :=
    zbd (fX8_keepAside g) (fun g4 =>
    fX8_ratingAnswer_p6 zfu g4 a1 a2 2)
theorem wX8_ratingAnswer_p6 (cx : zCx Y p s m args meth c RX8 cX8_ratingAnswer 4 (some .int))   : ∀ (fu : Nat) (g : zSt) (a1 : Int) (a2 : Int) (a3 : Int), zWo Y p l e (zrm 9) s m args below meth c 4 0 0 (fun q : Int × zSt => MQ below (zQi Y q.1 q.2) args s 0 0 (zA Y)) g [(0, .ref (zad Y 400)), (1, .int (i32 a1)), (2, .int (i32 a2)), (3, .int (i32 a3))] ([]) 6 (fX8_ratingAnswer_p6 fu g a1 a2 a3) := by
  intro fu
  induction fu with
  | zero => intro g a1 a2 a3; exact zr_none
  | succ fu ih =>
    intro g a1 a2 a3
    rw [fX8_ratingAnswer_p6]
    refine zr_iload_n (pc' := 7) cx rfl 3 dX8_ratingAnswer_6 rfl rfl ?_
    refine zr_iconst (pc' := 8) cx rfl dX8_ratingAnswer_7 ?_
    refine zr_aload_n (pc' := 9) cx rfl 0 dX8_ratingAnswer_8 rfl rfl ?_
    refine zg_X8_7 (pc' := 12) cx rfl zkc_400 dX8_ratingAnswer_9 ?_
    refine zr_iconst (pc' := 13) cx rfl dX8_ratingAnswer_12 ?_
    refine zr_iald (pc' := 14) cx rfl 16 zkc_401 (by decide) (L := 168) rfl dX8_ratingAnswer_13 ?_
    refine zr_imul (pc' := 15) cx rfl dX8_ratingAnswer_14 ?_
    refine zr_icmp_ge (pc' := 18) cx rfl (tgt := 44) dX8_ratingAnswer_15 rfl ?_ ?_
    · refine zr_aload_n (pc' := 45) cx rfl 0 dX8_ratingAnswer_44 rfl rfl ?_
      refine zr_iload_n (pc' := 46) cx rfl 1 dX8_ratingAnswer_45 rfl rfl ?_
      refine zr_iload_n (pc' := 47) cx rfl 2 dX8_ratingAnswer_46 rfl rfl ?_
      refine zc_X8_87 (pc' := 50) cx rfl  ⟨Nat.le_of_ble_eq_true rfl, Nat.le_of_ble_eq_true rfl⟩ ⟨Nat.zero_le _, Nat.zero_le _⟩ (Nat.le_of_ble_eq_true rfl) dX8_ratingAnswer_47 (fun v1 => ?_)
      refine zr_istore_n (pc' := 51) cx rfl (lv' := [(3, .int (i32 v1)), (0, .ref (zad Y 400)), (1, .int (i32 a1)), (2, .int (i32 a2))]) dX8_ratingAnswer_50 rfl (by decide) rfl ?_
      refine zr_aload_n (pc' := 52) cx rfl 1 dX8_ratingAnswer_51 rfl rfl ?_
      refine zc_X8_246 (pc' := 55) cx rfl  ⟨Nat.le_of_ble_eq_true rfl, Nat.le_of_ble_eq_true rfl⟩ ⟨Nat.zero_le _, Nat.zero_le _⟩ (Nat.le_of_ble_eq_true rfl) dX8_ratingAnswer_52 (fun g2 => ?_)
      refine zr_iload_n (pc' := 56) cx rfl 0 dX8_ratingAnswer_55 rfl rfl ?_
      exact zr_iretE cx dX8_ratingAnswer_56
    · refine zr_aload_n (pc' := 19) cx rfl 0 dX8_ratingAnswer_18 rfl rfl ?_
      refine zg_X8_7 (pc' := 22) cx rfl zkc_400 dX8_ratingAnswer_19 ?_
      refine zr_iconst (pc' := 23) cx rfl dX8_ratingAnswer_22 ?_
      refine zr_bipush (pc' := 25) cx rfl dX8_ratingAnswer_23 (by decide +kernel) ?_
      refine zr_iload_n (pc' := 26) cx rfl 3 dX8_ratingAnswer_25 rfl rfl ?_
      refine zr_iconst (pc' := 27) cx rfl dX8_ratingAnswer_26 ?_
      refine zr_idiv (pc' := 28) cx rfl (by decide +kernel) dX8_ratingAnswer_27 ?_
      refine zr_imul (pc' := 29) cx rfl dX8_ratingAnswer_28 ?_
      refine zr_iadd (pc' := 30) cx rfl dX8_ratingAnswer_29 ?_
      refine zr_iconst (pc' := 31) cx rfl dX8_ratingAnswer_30 ?_
      refine zr_iadd (pc' := 32) cx rfl dX8_ratingAnswer_31 ?_
      refine zr_iload_n (pc' := 33) cx rfl 3 dX8_ratingAnswer_32 rfl rfl ?_
      refine zr_iconst (pc' := 34) cx rfl dX8_ratingAnswer_33 ?_
      refine zr_irem (pc' := 35) cx rfl (by decide +kernel) dX8_ratingAnswer_34 ?_
      refine zr_iadd (pc' := 36) cx rfl dX8_ratingAnswer_35 ?_
      refine zr_iconst (pc' := 37) cx rfl dX8_ratingAnswer_36 ?_
      refine zr_iast (pc' := 38) cx rfl 16 zkc_401 (by decide) (L := 168) rfl dX8_ratingAnswer_37 ?_
      refine zr_letS (fun g3 => ?_)
      refine zr_iinc (pc' := 41) cx rfl (lv' := [(3, .int (i32 (a3 + 1))), (0, .ref (zad Y 400)), (1, .int (i32 a1)), (2, .int (i32 a2))]) 3 dX8_ratingAnswer_38 rfl (by decide) rfl ?_
      refine zr_goto cx (tgt := 6) dX8_ratingAnswer_41 rfl ?_
      refine zr_sub [1, 2, 3, 0] rfl ?_
      exact ih g3 a1 a2 (a3 + 1)
theorem wX8_ratingAnswer (cx : zCx Y p s m args meth c RX8 cX8_ratingAnswer 4 (some .int)) (g : zSt) (a1 : Int) (a2 : Int)  : zWo Y p l e (zrm 9) s m args below meth c 4 0 0 (fun q : Int × zSt => MQ below (zQi Y q.1 q.2) args s 0 0 (zA Y)) g [(0, .ref (zad Y 400)), (1, .int (i32 a1)), (2, .int (i32 a2))] ([]) 0 (fX8_ratingAnswer g a1 a2) := by
  unfold fX8_ratingAnswer
  refine zr_aload_n (pc' := 1) cx rfl 0 dX8_ratingAnswer_0 rfl rfl ?_
  refine zc_X8_240 (pc' := 4) cx rfl  ⟨Nat.le_of_ble_eq_true rfl, Nat.le_of_ble_eq_true rfl⟩ ⟨Nat.zero_le _, Nat.zero_le _⟩ (Nat.le_of_ble_eq_true rfl) dX8_ratingAnswer_1 (fun g4 => ?_)
  refine zr_iconst (pc' := 5) cx rfl dX8_ratingAnswer_4 ?_
  refine zr_istore_n (pc' := 6) cx rfl (lv' := [(3, .int (i32 2)), (0, .ref (zad Y 400)), (1, .int (i32 a1)), (2, .int (i32 a2))]) dX8_ratingAnswer_5 rfl (by decide) rfl ?_
  refine zr_sub [1, 2, 3, 0] rfl ?_
  exact wX8_ratingAnswer_p6 cx zfu g4 a1 a2 2
theorem mX8_ratingAnswer (l : Launch) (Y : zLy) (g : zSt) (a1 : Int) (a2 : Int)  : ∀ v g2, fX8_ratingAnswer g a1 a2 = some (v, g2) → zMt l yX8_ratingAnswer cX8_ratingAnswer 4 (some .int) 9 [.ref (zad Y 400), .int (i32 a1), .int (i32 a2)] Y g (zQi Y v g2) := by
  intro v g2 hv
  refine zmet_of RX8 rfl (by decide +kernel) (Nat.le_of_ble_eq_true rfl) ?_
  intro p e s m below meth c cx H locs ls hH hS hl
  exact wX8_ratingAnswer cx g a1 a2  (v, g2) hv H locs ls hH hS hl
theorem zc_X8_252 (cx : zCx Y p s m args meth c RX8 cc nl ret) (hpc : pc + 3 = pc') {g : zSt} {a1 : Int} {a2 : Int}  {fk : Int → zSt → Option ρ} (hR : 9 + 1 ≤ R.frames ∧ 8 + (4 + 11) + 40 * 9 ≤ R.locals) (hkn : k ≤ R.cells ∧ n ≤ R.slots) (hrest : (rest.map fun v => v.category).sum ≤ 8) (hdg : decode cc pc = .ok (.invokevirtual 252, 3)) (kk : ∀ (v : Int) (g2 : zSt), zWo Y p l e R s m args below meth c nl k n kq g2 lv (.int (i32 v) :: rest) pc' (fk v g2)) : zWo Y p l e R s m args below meth c nl k n kq g lv (.int (i32 a2) :: .int (i32 a1) :: .ref (zad Y 400) :: rest) pc (zbe (fX8_ratingAnswer g a1 a2) fk) := zr_callViE cx (an := 2) (As := [.int (i32 a1), .int (i32 a2)]) 9 zkc_400 (by decide) rfl (mX8_ratingAnswer l Y g a1 a2) (zG_V zw_1358 zw_1360 zw_96 zw_109 zw_1361) (by decide +kernel) hR hkn rfl rfl hrest hdg hpc kk
def fX8_neededRating_p21  (g : zSt) (y1 : Int) (a1 : Int) (a2 : Int) : Option (Int × zSt) :=
    zlet (zwr g 400 0 y1) (fun g1 =>
    (if i32 0 < i32 (g1.1 400 0) then
    some (0, g1)
    else
    zbe (fX8_ratingAnswer g1 a1 a2) (fun v2 g3 =>
    some (v2, g3))))
def fX8_neededRating (g : zSt) (a1 : Int) (a2 : Int) : Option (Int × zSt) :=
    zbd (fX8_isFed g a1) (fun v4 =>
    (if i32 v4 = i32 0 then
    fX8_neededRating_p21 g 1 a1 a2
    else
    zbd (fX8_isTerminal g a2) (fun v5 =>
    (if i32 v5 = i32 0 then
    fX8_neededRating_p21 g 1 a1 a2
    else
    fX8_neededRating_p21 g 0 a1 a2))))
theorem wX8_neededRating_p21 (cx : zCx Y p s m args meth c RX8 cX8_neededRating 3 (some .int))   : ∀ (g : zSt) (y1 : Int) (a1 : Int) (a2 : Int), zWo Y p l e (zrm 10) s m args below meth c 3 0 0 (fun q : Int × zSt => MQ below (zQi Y q.1 q.2) args s 0 0 (zA Y)) g [(0, .ref (zad Y 400)), (1, .int (i32 a1)), (2, .int (i32 a2))] (.int (i32 y1) :: .ref (zad Y 400) :: []) 21 (fX8_neededRating_p21 g y1 a1 a2) := by
  intro g y1 a1 a2
  unfold fX8_neededRating_p21
  refine zp_X8_25 (pc' := 24) cx rfl zkc_400 dX8_neededRating_21 ?_
  refine zr_letS (fun g1 => ?_)
  refine zr_aload_n (pc' := 25) cx rfl 0 dX8_neededRating_24 rfl rfl ?_
  refine zg_X8_25 (pc' := 28) cx rfl zkc_400 dX8_neededRating_25 ?_
  refine zr_if_le (pc' := 31) cx rfl (tgt := 35) dX8_neededRating_28 rfl ?_ ?_
  · refine zr_aload_n (pc' := 36) cx rfl 0 dX8_neededRating_35 rfl rfl ?_
    refine zr_iload_n (pc' := 37) cx rfl 1 dX8_neededRating_36 rfl rfl ?_
    refine zr_iload_n (pc' := 38) cx rfl 2 dX8_neededRating_37 rfl rfl ?_
    refine zc_X8_252 (pc' := 41) cx rfl  ⟨Nat.le_of_ble_eq_true rfl, Nat.le_of_ble_eq_true rfl⟩ ⟨Nat.zero_le _, Nat.zero_le _⟩ (Nat.le_of_ble_eq_true rfl) dX8_neededRating_38 (fun v2 g3 => ?_)
    exact zr_iretE cx dX8_neededRating_41
  · refine zr_iconst (pc' := 32) cx rfl dX8_neededRating_31 ?_
    refine zr_gotoS cx (tgt := 41) dX8_neededRating_32 rfl ?_
    exact zr_iretE cx dX8_neededRating_41
theorem wX8_neededRating (cx : zCx Y p s m args meth c RX8 cX8_neededRating 3 (some .int)) (g : zSt) (a1 : Int) (a2 : Int)  : zWo Y p l e (zrm 10) s m args below meth c 3 0 0 (fun q : Int × zSt => MQ below (zQi Y q.1 q.2) args s 0 0 (zA Y)) g [(0, .ref (zad Y 400)), (1, .int (i32 a1)), (2, .int (i32 a2))] ([]) 0 (fX8_neededRating g a1 a2) := by
  unfold fX8_neededRating
  refine zr_aload_n (pc' := 1) cx rfl 0 dX8_neededRating_0 rfl rfl ?_
  refine zr_aload_n (pc' := 2) cx rfl 0 dX8_neededRating_1 rfl rfl ?_
  refine zr_iload_n (pc' := 3) cx rfl 1 dX8_neededRating_2 rfl rfl ?_
  refine zc_X8_125 (pc' := 6) cx rfl  ⟨Nat.le_of_ble_eq_true rfl, Nat.le_of_ble_eq_true rfl⟩ ⟨Nat.zero_le _, Nat.zero_le _⟩ (Nat.le_of_ble_eq_true rfl) dX8_neededRating_3 (fun v4 => ?_)
  refine zr_if_eq (pc' := 9) cx rfl (tgt := 20) dX8_neededRating_6 rfl ?_ ?_
  · refine zr_iconst (pc' := 21) cx rfl dX8_neededRating_20 ?_
    refine zr_sub [0, 1, 2] rfl ?_
    exact wX8_neededRating_p21 cx g 1 a1 a2
  · refine zr_iload_n (pc' := 10) cx rfl 2 dX8_neededRating_9 rfl rfl ?_
    refine zc_X8_135 (pc' := 13) cx rfl  ⟨Nat.le_of_ble_eq_true rfl, Nat.le_of_ble_eq_true rfl⟩ ⟨Nat.zero_le _, Nat.zero_le _⟩ (Nat.le_of_ble_eq_true rfl) dX8_neededRating_10 (fun v5 => ?_)
    refine zr_if_eq (pc' := 16) cx rfl (tgt := 20) dX8_neededRating_13 rfl ?_ ?_
    · refine zr_iconst (pc' := 21) cx rfl dX8_neededRating_20 ?_
      refine zr_sub [0, 1, 2] rfl ?_
      exact wX8_neededRating_p21 cx g 1 a1 a2
    · refine zr_iconst (pc' := 17) cx rfl dX8_neededRating_16 ?_
      refine zr_gotoS cx (tgt := 21) dX8_neededRating_17 rfl ?_
      refine zr_sub [0, 1, 2] rfl ?_
      exact wX8_neededRating_p21 cx g 0 a1 a2
theorem mX8_neededRating (l : Launch) (Y : zLy) (g : zSt) (a1 : Int) (a2 : Int)  : ∀ v g2, fX8_neededRating g a1 a2 = some (v, g2) → zMt l yX8_neededRating cX8_neededRating 3 (some .int) 10 [.ref (zad Y 400), .int (i32 a1), .int (i32 a2)] Y g (zQi Y v g2) := by
  intro v g2 hv
  refine zmet_of RX8 rfl (by decide +kernel) (Nat.le_of_ble_eq_true rfl) ?_
  intro p e s m below meth c cx H locs ls hH hS hl
  exact wX8_neededRating cx g a1 a2  (v, g2) hv H locs ls hH hS hl
def fX8_shareNow (g : zSt) : Option UInt64 :=
    zck ((0 : Int) ≤ 165 ∧ 165 < 168) (
    zck ((0 : Int) ≤ 166 ∧ 166 < 168) (
    zlet ((g.1 401 (Int.toNat 165)) + (g.1 401 (Int.toNat 166))) (fun x1 =>
    (if i32 x1 = i32 0 then
    some (FP.dconst0)
    else
    zck ((0 : Int) ≤ 166 ∧ 166 < 168) (
    zck (znb (FP.dmul (FP.dconst1) (FP.i2d (i32 (g.1 401 (Int.toNat 166))))) = true) (
    zck (znb (FP.ddiv (FP.dmul (FP.dconst1) (FP.i2d (i32 (g.1 401 (Int.toNat 166))))) (FP.i2d (i32 x1))) = true) (
    some (FP.ddiv (FP.dmul (FP.dconst1) (FP.i2d (i32 (g.1 401 (Int.toNat 166))))) (FP.i2d (i32 x1))))))))))
theorem wX8_shareNow (cx : zCx Y p s m args meth c RX8 cX8_shareNow 2 (some .double)) (g : zSt)  : zWo Y p l e (zrm 0) s m args below meth c 2 0 0 (fun v : UInt64 => MQ below (zQd Y v g) args s 0 0 (zA Y)) g [(0, .ref (zad Y 400))] ([]) 0 (fX8_shareNow g) := by
  unfold fX8_shareNow
  refine zr_aload_n (pc' := 1) cx rfl 0 dX8_shareNow_0 rfl rfl ?_
  refine zg_X8_7 (pc' := 4) cx rfl zkc_400 dX8_shareNow_1 ?_
  refine zr_sipush (pc' := 7) cx rfl dX8_shareNow_4 (by decide +kernel) ?_
  refine zr_iald (pc' := 8) cx rfl 16 zkc_401 (by decide) (L := 168) rfl dX8_shareNow_7 ?_
  refine zr_aload_n (pc' := 9) cx rfl 0 dX8_shareNow_8 rfl rfl ?_
  refine zg_X8_7 (pc' := 12) cx rfl zkc_400 dX8_shareNow_9 ?_
  refine zr_sipush (pc' := 15) cx rfl dX8_shareNow_12 (by decide +kernel) ?_
  refine zr_iald (pc' := 16) cx rfl 16 zkc_401 (by decide) (L := 168) rfl dX8_shareNow_15 ?_
  refine zr_iadd (pc' := 17) cx rfl dX8_shareNow_16 ?_
  refine zr_leti (fun x1 => ?_)
  refine zr_istore_n (pc' := 18) cx rfl (lv' := [(1, .int (i32 x1)), (0, .ref (zad Y 400))]) dX8_shareNow_17 rfl (by decide) rfl ?_
  refine zr_iload_n (pc' := 19) cx rfl 0 dX8_shareNow_18 rfl rfl ?_
  refine zr_if_ne (pc' := 22) cx rfl (tgt := 26) dX8_shareNow_19 rfl ?_ ?_
  · refine zr_dconst1 (pc' := 27) cx rfl dX8_shareNow_26 ?_
    refine zr_aload_n (pc' := 28) cx rfl 1 dX8_shareNow_27 rfl rfl ?_
    refine zg_X8_7 (pc' := 31) cx rfl zkc_400 dX8_shareNow_28 ?_
    refine zr_sipush (pc' := 34) cx rfl dX8_shareNow_31 (by decide +kernel) ?_
    refine zr_iald (pc' := 35) cx rfl 16 zkc_401 (by decide) (L := 168) rfl dX8_shareNow_34 ?_
    refine zr_i2d (pc' := 36) cx rfl dX8_shareNow_35 ?_
    refine zr_dmul (pc' := 37) cx rfl dX8_shareNow_36 ?_
    refine zr_iload_n (pc' := 38) cx rfl 0 dX8_shareNow_37 rfl rfl ?_
    refine zr_i2d (pc' := 39) cx rfl dX8_shareNow_38 ?_
    refine zr_ddiv (pc' := 40) cx rfl dX8_shareNow_39 ?_
    exact zr_dretP cx dX8_shareNow_40
  · refine zr_dconst0 (pc' := 23) cx rfl dX8_shareNow_22 ?_
    refine zr_gotoS cx (tgt := 40) dX8_shareNow_23 rfl ?_
    exact zr_dretP cx dX8_shareNow_40
theorem mX8_shareNow (l : Launch) (Y : zLy) (g : zSt)  : ∀ v, fX8_shareNow g = some v → zMt l yX8_shareNow cX8_shareNow 2 (some .double) 0 [.ref (zad Y 400)] Y g (zQd Y v g) := by
  intro v hv
  refine zmet_of RX8 rfl (by decide +kernel) (Nat.le_of_ble_eq_true rfl) ?_
  intro p e s m below meth c cx H locs ls hH hS hl
  exact wX8_shareNow cx g   v hv H locs ls hH hS hl
theorem zc_X8_255 (cx : zCx Y p s m args meth c RX8 cc nl ret) (hpc : pc + 3 = pc') {g : zSt}   {fk : UInt64 → Option ρ} (hR : 0 + 1 ≤ R.frames ∧ 8 + (2 + 11) + 40 * 0 ≤ R.locals) (hkn : k ≤ R.cells ∧ n ≤ R.slots) (hrest : (rest.map fun v => v.category).sum ≤ 8) (hdg : decode cc pc = .ok (.invokevirtual 255, 3)) (kk : ∀ v : UInt64, zWo Y p l e R s m args below meth c nl k n kq g lv (.double v :: rest) pc' (fk v)) : zWo Y p l e R s m args below meth c nl k n kq g lv (.ref (zad Y 400) :: rest) pc (zbd (fX8_shareNow g) fk) := zr_callVdP cx (an := 0) (As := []) 9 zkc_400 (by decide) rfl (mX8_shareNow l Y g) (zG_V zw_1366 zw_1368 zw_97 zw_109 zw_1369) (by decide +kernel) hR hkn rfl rfl hrest hdg hpc kk
def fX8_lossShare (g : zSt) : Option (UInt64 × zSt) :=
    zlet (zwr g 400 0 0) (fun g1 =>
    zbd (fX8_shareNow g1) (fun u2 =>
    some (u2, g1)))
theorem wX8_lossShare (cx : zCx Y p s m args meth c RX8 cX8_lossShare 1 (some .double)) (g : zSt)  : zWo Y p l e (zrm 1) s m args below meth c 1 0 0 (fun q : UInt64 × zSt => MQ below (zQd Y q.1 q.2) args s 0 0 (zA Y)) g [(0, .ref (zad Y 400))] ([]) 0 (fX8_lossShare g) := by
  unfold fX8_lossShare
  refine zr_aload_n (pc' := 1) cx rfl 0 dX8_lossShare_0 rfl rfl ?_
  refine zr_iconst (pc' := 2) cx rfl dX8_lossShare_1 ?_
  refine zp_X8_25 (pc' := 5) cx rfl zkc_400 dX8_lossShare_2 ?_
  refine zr_letS (fun g1 => ?_)
  refine zr_aload_n (pc' := 6) cx rfl 0 dX8_lossShare_5 rfl rfl ?_
  refine zc_X8_255 (pc' := 9) cx rfl  ⟨Nat.le_of_ble_eq_true rfl, Nat.le_of_ble_eq_true rfl⟩ ⟨Nat.zero_le _, Nat.zero_le _⟩ (Nat.le_of_ble_eq_true rfl) dX8_lossShare_6 (fun u2 => ?_)
  exact zr_dretE cx dX8_lossShare_9
theorem mX8_lossShare (l : Launch) (Y : zLy) (g : zSt)  : ∀ v g2, fX8_lossShare g = some (v, g2) → zMt l yX8_lossShare cX8_lossShare 1 (some .double) 1 [.ref (zad Y 400)] Y g (zQd Y v g2) := by
  intro v g2 hv
  refine zmet_of RX8 rfl (by decide +kernel) (Nat.le_of_ble_eq_true rfl) ?_
  intro p e s m below meth c cx H locs ls hH hS hl
  exact wX8_lossShare cx g   (v, g2) hv H locs ls hH hS hl
def fX8_mix (g : zSt) (b1 : Int64) : Option zSt :=
    zlet (zwl g 0 (((31 : Int64) * (g.2.2 0)) + b1)) (fun g1 =>
    some g1)
theorem wX8_mix (cx : zCx Y p s m args meth c RX8 cX8_mix 3 none) (g : zSt) (b1 : Int64)  : zWo Y p l e (zrm 0) s m args below meth c 3 0 0 (fun g9 : zSt => MQ below (zQv Y g9) args s 0 0 (zA Y)) g [(0, .ref (zad Y 400)), (1, .long b1)] ([]) 0 (fX8_mix g b1) := by
  unfold fX8_mix
  refine zr_aload_n (pc' := 1) cx rfl 0 dX8_mix_0 rfl rfl ?_
  refine zr_ldc2 (pc' := 4) cx rfl dX8_mix_1 zw_1379 ?_
  refine zr_aload_n (pc' := 5) cx rfl 0 dX8_mix_4 rfl rfl ?_
  refine zg_X8_261 (pc' := 8) cx rfl zkc_400 dX8_mix_5 ?_
  refine zr_lmul (pc' := 9) cx rfl dX8_mix_8 ?_
  refine zr_lload_n (pc' := 10) cx rfl 1 dX8_mix_9 rfl rfl ?_
  refine zr_ladd (pc' := 11) cx rfl dX8_mix_10 ?_
  refine zp_X8_261 (pc' := 14) cx rfl zkc_400 dX8_mix_11 ?_
  refine zr_letS (fun g1 => ?_)
  exact zr_vretE cx dX8_mix_14
theorem mX8_mix (l : Launch) (Y : zLy) (g : zSt) (b1 : Int64)  : ∀ g2, fX8_mix g b1 = some g2 → zMt l yX8_mix cX8_mix 3 none 0 [.ref (zad Y 400), .long b1] Y g (zQv Y g2) := by
  intro g2 hv
  refine zmet_of RX8 rfl (by decide +kernel) (Nat.le_of_ble_eq_true rfl) ?_
  intro p e s m below meth c cx H locs ls hH hS hl
  exact wX8_mix cx g b1  g2 hv H locs ls hH hS hl
theorem zc_X8_265 (cx : zCx Y p s m args meth c RX8 cc nl ret) (hpc : pc + 3 = pc') {g : zSt} {b1 : Int64}  {fk : zSt → Option ρ} (hR : 0 + 1 ≤ R.frames ∧ 8 + (3 + 11) + 40 * 0 ≤ R.locals) (hkn : k ≤ R.cells ∧ n ≤ R.slots) (hrest : (rest.map fun v => v.category).sum ≤ 8) (hdg : decode cc pc = .ok (.invokevirtual 265, 3)) (kk : ∀ g2 : zSt, zWo Y p l e R s m args below meth c nl k n kq g2 lv (rest) pc' (fk g2)) : zWo Y p l e R s m args below meth c nl k n kq g lv (.long b1 :: .ref (zad Y 400) :: rest) pc (zbd (fX8_mix g b1) fk) := zr_callVvE cx (an := 1) (As := [.long b1]) 9 zkc_400 (by decide) rfl (mX8_mix l Y g b1) (zG_V zw_1375 zw_1377 zw_98 zw_109 zw_1378) (by decide +kernel) hR hkn rfl rfl hrest hdg hpc kk
def fX8_mixBox_p27  : Nat → zSt → Int → Int → Option zSt
  | 0, _, _, _ => none
  | fu + 1, g, a1, a2 =>
    (if i32 a2 < i32 12 then
    zbd (fX8_terminalNow g a1 (zdv a2 6) (zmo a2 6)) (fun v1 =>
    zbd (fX8_mix g ((i32 v1).toInt64)) (fun g2 =>
    fX8_mixBox_p27 fu g2 a1 (a2 + 1)))
    else
    some g)
def fX8_mixBox_p2  : Nat → zSt → Int → Int → Option zSt
  | 0, _, _, _ => none
  | fu + 1, g, a1, a2 =>
    (if i32 a2 < i32 7 then
    zbd (fX8_boxNow g a1 a2) (fun v3 =>
    zbd (fX8_mix g ((i32 v3).toInt64)) (fun g4 =>
    fX8_mixBox_p2 fu g4 a1 (a2 + 1)))
    else
    fX8_mixBox_p27 zfu g a1 0)
def fX8_mixBox (g : zSt) (a1 : Int) : Option zSt :=
    fX8_mixBox_p2 zfu g a1 0
theorem wX8_mixBox_p27 (cx : zCx Y p s m args meth c RX8 cX8_mixBox 3 none)   : ∀ (fu : Nat) (g : zSt) (a1 : Int) (a2 : Int), zWo Y p l e (zrm 10) s m args below meth c 3 0 0 (fun g9 : zSt => MQ below (zQv Y g9) args s 0 0 (zA Y)) g [(0, .ref (zad Y 400)), (1, .int (i32 a1)), (2, .int (i32 a2))] ([]) 27 (fX8_mixBox_p27 fu g a1 a2) := by
  intro fu
  induction fu with
  | zero => intro g a1 a2; exact zr_none
  | succ fu ih =>
    intro g a1 a2
    rw [fX8_mixBox_p27]
    refine zr_iload_n (pc' := 28) cx rfl 2 dX8_mixBox_27 rfl rfl ?_
    refine zr_bipush (pc' := 30) cx rfl dX8_mixBox_28 (by decide +kernel) ?_
    refine zr_icmp_ge (pc' := 33) cx rfl (tgt := 57) dX8_mixBox_30 rfl ?_ ?_
    · exact zr_vretE cx dX8_mixBox_57
    · refine zr_aload_n (pc' := 34) cx rfl 0 dX8_mixBox_33 rfl rfl ?_
      refine zr_aload_n (pc' := 35) cx rfl 0 dX8_mixBox_34 rfl rfl ?_
      refine zr_iload_n (pc' := 36) cx rfl 1 dX8_mixBox_35 rfl rfl ?_
      refine zr_iload_n (pc' := 37) cx rfl 2 dX8_mixBox_36 rfl rfl ?_
      refine zr_bipush (pc' := 39) cx rfl dX8_mixBox_37 (by decide +kernel) ?_
      refine zr_idiv (pc' := 40) cx rfl (by decide +kernel) dX8_mixBox_39 ?_
      refine zr_iload_n (pc' := 41) cx rfl 2 dX8_mixBox_40 rfl rfl ?_
      refine zr_bipush (pc' := 43) cx rfl dX8_mixBox_41 (by decide +kernel) ?_
      refine zr_irem (pc' := 44) cx rfl (by decide +kernel) dX8_mixBox_43 ?_
      refine zc_X8_222 (pc' := 47) cx rfl  ⟨Nat.le_of_ble_eq_true rfl, Nat.le_of_ble_eq_true rfl⟩ ⟨Nat.zero_le _, Nat.zero_le _⟩ (Nat.le_of_ble_eq_true rfl) dX8_mixBox_44 (fun v1 => ?_)
      refine zr_i2l (pc' := 48) cx rfl dX8_mixBox_47 ?_
      refine zc_X8_265 (pc' := 51) cx rfl  ⟨Nat.le_of_ble_eq_true rfl, Nat.le_of_ble_eq_true rfl⟩ ⟨Nat.zero_le _, Nat.zero_le _⟩ (Nat.le_of_ble_eq_true rfl) dX8_mixBox_48 (fun g2 => ?_)
      refine zr_iinc (pc' := 54) cx rfl (lv' := [(2, .int (i32 (a2 + 1))), (0, .ref (zad Y 400)), (1, .int (i32 a1))]) 2 dX8_mixBox_51 rfl (by decide) rfl ?_
      refine zr_goto cx (tgt := 27) dX8_mixBox_54 rfl ?_
      refine zr_sub [1, 2, 0] rfl ?_
      exact ih g2 a1 (a2 + 1)
theorem wX8_mixBox_p2 (cx : zCx Y p s m args meth c RX8 cX8_mixBox 3 none)   : ∀ (fu : Nat) (g : zSt) (a1 : Int) (a2 : Int), zWo Y p l e (zrm 10) s m args below meth c 3 0 0 (fun g9 : zSt => MQ below (zQv Y g9) args s 0 0 (zA Y)) g [(0, .ref (zad Y 400)), (1, .int (i32 a1)), (2, .int (i32 a2))] ([]) 2 (fX8_mixBox_p2 fu g a1 a2) := by
  intro fu
  induction fu with
  | zero => intro g a1 a2; exact zr_none
  | succ fu ih =>
    intro g a1 a2
    rw [fX8_mixBox_p2]
    refine zr_iload_n (pc' := 3) cx rfl 2 dX8_mixBox_2 rfl rfl ?_
    refine zr_bipush (pc' := 5) cx rfl dX8_mixBox_3 (by decide +kernel) ?_
    refine zr_icmp_ge (pc' := 8) cx rfl (tgt := 25) dX8_mixBox_5 rfl ?_ ?_
    · refine zr_iconst (pc' := 26) cx rfl dX8_mixBox_25 ?_
      refine zr_istore_n (pc' := 27) cx rfl (lv' := [(2, .int (i32 0)), (0, .ref (zad Y 400)), (1, .int (i32 a1))]) dX8_mixBox_26 rfl (by decide) rfl ?_
      refine zr_sub [1, 2, 0] rfl ?_
      exact wX8_mixBox_p27 cx zfu g a1 0
    · refine zr_aload_n (pc' := 9) cx rfl 0 dX8_mixBox_8 rfl rfl ?_
      refine zr_aload_n (pc' := 10) cx rfl 0 dX8_mixBox_9 rfl rfl ?_
      refine zr_iload_n (pc' := 11) cx rfl 1 dX8_mixBox_10 rfl rfl ?_
      refine zr_iload_n (pc' := 12) cx rfl 2 dX8_mixBox_11 rfl rfl ?_
      refine zc_X8_216 (pc' := 15) cx rfl  ⟨Nat.le_of_ble_eq_true rfl, Nat.le_of_ble_eq_true rfl⟩ ⟨Nat.zero_le _, Nat.zero_le _⟩ (Nat.le_of_ble_eq_true rfl) dX8_mixBox_12 (fun v3 => ?_)
      refine zr_i2l (pc' := 16) cx rfl dX8_mixBox_15 ?_
      refine zc_X8_265 (pc' := 19) cx rfl  ⟨Nat.le_of_ble_eq_true rfl, Nat.le_of_ble_eq_true rfl⟩ ⟨Nat.zero_le _, Nat.zero_le _⟩ (Nat.le_of_ble_eq_true rfl) dX8_mixBox_16 (fun g4 => ?_)
      refine zr_iinc (pc' := 22) cx rfl (lv' := [(2, .int (i32 (a2 + 1))), (0, .ref (zad Y 400)), (1, .int (i32 a1))]) 2 dX8_mixBox_19 rfl (by decide) rfl ?_
      refine zr_goto cx (tgt := 2) dX8_mixBox_22 rfl ?_
      refine zr_sub [1, 2, 0] rfl ?_
      exact ih g4 a1 (a2 + 1)
theorem wX8_mixBox (cx : zCx Y p s m args meth c RX8 cX8_mixBox 3 none) (g : zSt) (a1 : Int)  : zWo Y p l e (zrm 10) s m args below meth c 3 0 0 (fun g9 : zSt => MQ below (zQv Y g9) args s 0 0 (zA Y)) g [(0, .ref (zad Y 400)), (1, .int (i32 a1))] ([]) 0 (fX8_mixBox g a1) := by
  unfold fX8_mixBox
  refine zr_iconst (pc' := 1) cx rfl dX8_mixBox_0 ?_
  refine zr_istore_n (pc' := 2) cx rfl (lv' := [(2, .int (i32 0)), (0, .ref (zad Y 400)), (1, .int (i32 a1))]) dX8_mixBox_1 rfl (by decide) rfl ?_
  refine zr_sub [1, 2, 0] rfl ?_
  exact wX8_mixBox_p2 cx zfu g a1 0
theorem mX8_mixBox (l : Launch) (Y : zLy) (g : zSt) (a1 : Int)  : ∀ g2, fX8_mixBox g a1 = some g2 → zMt l yX8_mixBox cX8_mixBox 3 none 10 [.ref (zad Y 400), .int (i32 a1)] Y g (zQv Y g2) := by
  intro g2 hv
  refine zmet_of RX8 rfl (by decide +kernel) (Nat.le_of_ble_eq_true rfl) ?_
  intro p e s m below meth c cx H locs ls hH hS hl
  exact wX8_mixBox cx g a1  g2 hv H locs ls hH hS hl
theorem zc_X8_271 (cx : zCx Y p s m args meth c RX8 cc nl ret) (hpc : pc + 3 = pc') {g : zSt} {a1 : Int}  {fk : zSt → Option ρ} (hR : 10 + 1 ≤ R.frames ∧ 8 + (3 + 11) + 40 * 10 ≤ R.locals) (hkn : k ≤ R.cells ∧ n ≤ R.slots) (hrest : (rest.map fun v => v.category).sum ≤ 8) (hdg : decode cc pc = .ok (.invokevirtual 271, 3)) (kk : ∀ g2 : zSt, zWo Y p l e R s m args below meth c nl k n kq g2 lv (rest) pc' (fk g2)) : zWo Y p l e R s m args below meth c nl k n kq g lv (.int (i32 a1) :: .ref (zad Y 400) :: rest) pc (zbd (fX8_mixBox g a1) fk) := zr_callVvE cx (an := 1) (As := [.int (i32 a1)]) 9 zkc_400 (by decide) rfl (mX8_mixBox l Y g a1) (zG_V zw_1380 zw_1382 zw_99 zw_109 zw_1383) (by decide +kernel) hR hkn rfl rfl hrest hdg hpc kk
def fJxe99ae_isNaN_b9ae7 (g : zSt) (d0 : UInt64) : Option Int :=
    (if i32 (zdc d0 d0 .l) = i32 0 then
    zck ((0 : Int) = 0 ∨ (0 : Int) = 1) (some 0)
    else
    zck ((1 : Int) = 0 ∨ (1 : Int) = 1) (some 1))
theorem wJxe99ae_isNaN_b9ae7 (cx : zCx Y p s m args meth c RJxe99ae cJxe99ae_isNaN_b9ae7 2 (some .boolean)) (g : zSt) (d0 : UInt64)  : zWo Y p l e (zrm 0) s m args below meth c 2 0 0 (fun v : Int => MQ below (zQi Y v g) args s 0 0 (zA Y)) g [(0, .double d0)] ([]) 0 (fJxe99ae_isNaN_b9ae7 g d0) := by
  unfold fJxe99ae_isNaN_b9ae7
  refine zr_dload_n (pc' := 1) cx rfl 0 dJxe99ae_isNaN_b9ae7_0 rfl rfl ?_
  refine zr_dload_n (pc' := 2) cx rfl 0 dJxe99ae_isNaN_b9ae7_1 rfl rfl ?_
  refine zr_dcmp (pc' := 3) cx rfl dJxe99ae_isNaN_b9ae7_2 ?_
  refine zr_if_eq (pc' := 6) cx rfl (tgt := 10) dJxe99ae_isNaN_b9ae7_3 rfl ?_ ?_
  · refine zr_iconst (pc' := 11) cx rfl dJxe99ae_isNaN_b9ae7_10 ?_
    exact zr_zretP cx dJxe99ae_isNaN_b9ae7_11
  · refine zr_iconst (pc' := 7) cx rfl dJxe99ae_isNaN_b9ae7_6 ?_
    refine zr_gotoS cx (tgt := 11) dJxe99ae_isNaN_b9ae7_7 rfl ?_
    exact zr_zretP cx dJxe99ae_isNaN_b9ae7_11
theorem mJxe99ae_isNaN_b9ae7 (l : Launch) (Y : zLy) (g : zSt) (d0 : UInt64)  : ∀ v, fJxe99ae_isNaN_b9ae7 g d0 = some v → zMt l yJxe99ae_isNaN_b9ae7 cJxe99ae_isNaN_b9ae7 2 (some .boolean) 0 [.double d0] Y g (zQi Y v g) := by
  intro v hv
  refine zmet_of RJxe99ae rfl (by decide +kernel) (Nat.le_of_ble_eq_true rfl) ?_
  intro p e s m below meth c cx H locs ls hH hS hl
  exact wJxe99ae_isNaN_b9ae7 cx g d0  v hv H locs ls hH hS hl
theorem zc_Jxe99ae_122 (cx : zCx Y p s m args meth c RJxe99ae cc nl ret) (hpc : pc + 3 = pc') {g : zSt} {d0 : UInt64}  {fk : Int → Option ρ} (hR : 0 + 1 ≤ R.frames ∧ 8 + (2 + 11) + 40 * 0 ≤ R.locals) (hkn : k ≤ R.cells ∧ n ≤ R.slots) (hrest : (rest.map fun v => v.category).sum ≤ 8) (hdg : decode cc pc = .ok (.invokestatic 122, 3)) (kk : ∀ v : Int, zWo Y p l e R s m args below meth c nl k n kq g lv (.int (i32 v) :: rest) pc' (fk v)) : zWo Y p l e R s m args below meth c nl k n kq g lv (.double d0 :: rest) pc (zbd (fJxe99ae_isNaN_b9ae7 g d0) fk) := zr_callSiP cx (an := 1) (As := [.double d0])  (mJxe99ae_isNaN_b9ae7 l Y g d0) (zG_S zw_1387 zw_1388 zw_117 zw_1389) (by decide +kernel) hR hkn rfl rfl hrest hdg hpc kk
def fJxe99ae_doubleToLongBits_ccdee (g : zSt) (d0 : UInt64) : Option Int64 :=
    zbd (fJxe99ae_isNaN_b9ae7 g d0) (fun v1 =>
    (if i32 v1 = i32 0 then
    some (d0.toInt64)
    else
    some (9221120237041090560 : Int64)))
theorem wJxe99ae_doubleToLongBits_ccdee (cx : zCx Y p s m args meth c RJxe99ae cJxe99ae_doubleToLongBits_ccdee 2 (some .long)) (g : zSt) (d0 : UInt64)  : zWo Y p l e (zrm 1) s m args below meth c 2 0 0 (fun v : Int64 => MQ below (zQl Y v g) args s 0 0 (zA Y)) g [(0, .double d0)] ([]) 0 (fJxe99ae_doubleToLongBits_ccdee g d0) := by
  unfold fJxe99ae_doubleToLongBits_ccdee
  refine zr_dload_n (pc' := 1) cx rfl 0 dJxe99ae_doubleToLongBits_ccdee_0 rfl rfl ?_
  refine zc_Jxe99ae_122 (pc' := 4) cx rfl  ⟨Nat.le_of_ble_eq_true rfl, Nat.le_of_ble_eq_true rfl⟩ ⟨Nat.zero_le _, Nat.zero_le _⟩ (Nat.le_of_ble_eq_true rfl) dJxe99ae_doubleToLongBits_ccdee_1 (fun v1 => ?_)
  refine zr_if_ne (pc' := 7) cx rfl (tgt := 12) dJxe99ae_doubleToLongBits_ccdee_4 rfl ?_ ?_
  · refine zr_ldc2 (pc' := 15) cx rfl dJxe99ae_doubleToLongBits_ccdee_12 zw_1393 ?_
    exact zr_lretP cx dJxe99ae_doubleToLongBits_ccdee_15
  · refine zr_dload_n (pc' := 8) cx rfl 0 dJxe99ae_doubleToLongBits_ccdee_7 rfl rfl ?_
    refine zr_d2bits (pc' := 11) cx rfl (Nat.le_of_ble_eq_true rfl) (Nat.le_of_ble_eq_true rfl) dJxe99ae_doubleToLongBits_ccdee_8 ?_
    exact zr_lretP cx dJxe99ae_doubleToLongBits_ccdee_11
theorem mJxe99ae_doubleToLongBits_ccdee (l : Launch) (Y : zLy) (g : zSt) (d0 : UInt64)  : ∀ v, fJxe99ae_doubleToLongBits_ccdee g d0 = some v → zMt l yJxe99ae_doubleToLongBits_ccdee cJxe99ae_doubleToLongBits_ccdee 2 (some .long) 1 [.double d0] Y g (zQl Y v g) := by
  intro v hv
  refine zmet_of RJxe99ae rfl (by decide +kernel) (Nat.le_of_ble_eq_true rfl) ?_
  intro p e s m below meth c cx H locs ls hH hS hl
  exact wJxe99ae_doubleToLongBits_ccdee cx g d0  v hv H locs ls hH hS hl
theorem zc_X8_274 (cx : zCx Y p s m args meth c RX8 cc nl ret) (hpc : pc + 3 = pc') {g : zSt} {d0 : UInt64}  {fk : Int64 → Option ρ} (hR : 1 + 1 ≤ R.frames ∧ 8 + (2 + 11) + 40 * 1 ≤ R.locals) (hkn : k ≤ R.cells ∧ n ≤ R.slots) (hrest : (rest.map fun v => v.category).sum ≤ 8) (hdg : decode cc pc = .ok (.invokestatic 274, 3)) (kk : ∀ v : Int64, zWo Y p l e R s m args below meth c nl k n kq g lv (.long v :: rest) pc' (fk v)) : zWo Y p l e R s m args below meth c nl k n kq g lv (.double d0 :: rest) pc (zbd (fJxe99ae_doubleToLongBits_ccdee g d0) fk) := zr_callSlP cx (an := 1) (As := [.double d0])  (mJxe99ae_doubleToLongBits_ccdee l Y g d0) (zG_S zw_1384 zw_1385 zw_117 zw_1386) (by decide +kernel) hR hkn rfl rfl hrest hdg hpc kk
def fX8_digest_p237  : Nat → zSt → Int → Option (Int64 × zSt)
  | 0, _, _ => none
  | fu + 1, g, a1 =>
    (if i32 a1 < i32 (g.1 400 4) then
    zck ((0 : Int) ≤ a1 ∧ a1 < 60) (
    zbd (fX8_mix g ((i32 (g.1 403 (Int.toNat a1))).toInt64)) (fun g1 =>
    fX8_digest_p237 fu g1 (a1 + 1)))
    else
    some ((g.2.2 0), g))
def fX8_digest_p167  : Nat → zSt → Int → Option (Int64 × zSt)
  | 0, _, _ => none
  | fu + 1, g, a1 =>
    zck ((0 : Int) ≤ 0 ∧ 0 < 168) (
    (if i32 a1 < i32 (g.1 401 (Int.toNat 0)) then
    zbe (fX8_toggledAnswer g a1) (fun v6 g7 =>
    zbd (fX8_mix g7 ((i32 v6).toInt64)) (fun g8 =>
    zbe (fX8_ratingAnswer g8 a1 0) (fun v9 g10 =>
    zbd (fX8_mix g10 ((i32 v9).toInt64)) (fun g11 =>
    zbe (fX8_ratingAnswer g11 a1 1) (fun v12 g13 =>
    zbd (fX8_mix g13 ((i32 v12).toInt64)) (fun g14 =>
    fX8_digest_p167 fu g14 (a1 + 1)))))))
    else
    zbd (fX8_shareNow g) (fun u2 =>
    zbd (fJxe99ae_doubleToLongBits_ccdee g u2) (fun h3 =>
    zbd (fX8_mix g h3) (fun g4 =>
    zbd (fX8_mix g4 ((i32 (g4.1 400 4)).toInt64)) (fun g5 =>
    fX8_digest_p237 zfu g5 0))))))
def fX8_digest_p134  : Nat → zSt → Int → Option (Int64 × zSt)
  | 0, _, _ => none
  | fu + 1, g, a1 =>
    (if i32 a1 < i32 2 then
    zbd (fX8_lampOf g a1) (fun v15 =>
    zbd (fX8_mix g ((i32 v15).toInt64)) (fun g16 =>
    zbe (fX8_located g16 a1) (fun v17 g18 =>
    zbd (fX8_mix g18 ((i32 v17).toInt64)) (fun g19 =>
    fX8_digest_p134 fu g19 (a1 + 1)))))
    else
    fX8_digest_p167 zfu g 1)
def fX8_digest_p97  : Nat → zSt → Int → Option (Int64 × zSt)
  | 0, _, _ => none
  | fu + 1, g, a1 =>
    zck ((0 : Int) ≤ 134 ∧ 134 < 168) (
    (if i32 a1 < i32 (5 * (g.1 401 (Int.toNat 134))) then
    zbd (fX8_faultNow g (zdv a1 5) (zmo a1 5)) (fun v20 =>
    zbd (fX8_mix g ((i32 v20).toInt64)) (fun g21 =>
    fX8_digest_p97 fu g21 (a1 + 1)))
    else
    fX8_digest_p134 zfu g 0))
def fX8_digest_p61  : Nat → zSt → Int → Option (Int64 × zSt)
  | 0, _, _ => none
  | fu + 1, g, a1 =>
    zck ((0 : Int) ≤ 85 ∧ 85 < 168) (
    (if i32 a1 < i32 (4 * (g.1 401 (Int.toNat 85))) then
    zbd (fX8_lanternNow g (zdv a1 4) (zmo a1 4)) (fun v22 =>
    zbd (fX8_mix g ((i32 v22).toInt64)) (fun g23 =>
    fX8_digest_p61 fu g23 (a1 + 1)))
    else
    fX8_digest_p97 zfu g 0))
def fX8_digest_p38  : Nat → zSt → Int → Option (Int64 × zSt)
  | 0, _, _ => none
  | fu + 1, g, a1 =>
    zck ((0 : Int) ≤ 0 ∧ 0 < 168) (
    (if i32 a1 < i32 (g.1 401 (Int.toNat 0)) then
    zbd (fX8_mixBox g a1) (fun g24 =>
    fX8_digest_p38 fu g24 (a1 + 1))
    else
    fX8_digest_p61 zfu g 0))
def fX8_digest_p14  : Nat → zSt → Int → Option (Int64 × zSt)
  | 0, _, _ => none
  | fu + 1, g, a1 =>
    (if i32 a1 < i32 12 then
    zbd (fX8_counted g a1) (fun v25 =>
    zbd (fX8_mix g ((i32 v25).toInt64)) (fun g26 =>
    fX8_digest_p14 fu g26 (a1 + 1)))
    else
    fX8_digest_p38 zfu g 0)
def fX8_digest (g : zSt) : Option (Int64 × zSt) :=
    zlet (zwr g 400 0 0) (fun g27 =>
    zlet (zwl g27 0 (2141 : Int64)) (fun g28 =>
    fX8_digest_p14 zfu g28 0))
theorem wX8_digest_p237 (cx : zCx Y p s m args meth c RX8 cX8_digest 2 (some .long))   : ∀ (fu : Nat) (g : zSt) (a1 : Int), zWo Y p l e (zrm 13) s m args below meth c 2 0 0 (fun q : Int64 × zSt => MQ below (zQl Y q.1 q.2) args s 0 0 (zA Y)) g [(0, .ref (zad Y 400)), (1, .int (i32 a1))] ([]) 237 (fX8_digest_p237 fu g a1) := by
  intro fu
  induction fu with
  | zero => intro g a1; exact zr_none
  | succ fu ih =>
    intro g a1
    rw [fX8_digest_p237]
    refine zr_iload_n (pc' := 238) cx rfl 1 dX8_digest_237 rfl rfl ?_
    refine zr_aload_n (pc' := 239) cx rfl 0 dX8_digest_238 rfl rfl ?_
    refine zg_X8_162 (pc' := 242) cx rfl zkc_400 dX8_digest_239 ?_
    refine zr_icmp_ge (pc' := 245) cx rfl (tgt := 262) dX8_digest_242 rfl ?_ ?_
    · refine zr_aload_n (pc' := 263) cx rfl 0 dX8_digest_262 rfl rfl ?_
      refine zg_X8_261 (pc' := 266) cx rfl zkc_400 dX8_digest_263 ?_
      exact zr_lretE cx dX8_digest_266
    · refine zr_aload_n (pc' := 246) cx rfl 0 dX8_digest_245 rfl rfl ?_
      refine zr_aload_n (pc' := 247) cx rfl 0 dX8_digest_246 rfl rfl ?_
      refine zg_X8_16 (pc' := 250) cx rfl zkc_400 dX8_digest_247 ?_
      refine zr_iload_n (pc' := 251) cx rfl 1 dX8_digest_250 rfl rfl ?_
      refine zr_iald (pc' := 252) cx rfl 15 zkc_403 (by decide) (L := 60) rfl dX8_digest_251 ?_
      refine zr_i2l (pc' := 253) cx rfl dX8_digest_252 ?_
      refine zc_X8_265 (pc' := 256) cx rfl  ⟨Nat.le_of_ble_eq_true rfl, Nat.le_of_ble_eq_true rfl⟩ ⟨Nat.zero_le _, Nat.zero_le _⟩ (Nat.le_of_ble_eq_true rfl) dX8_digest_253 (fun g1 => ?_)
      refine zr_iinc (pc' := 259) cx rfl (lv' := [(1, .int (i32 (a1 + 1))), (0, .ref (zad Y 400))]) 1 dX8_digest_256 rfl (by decide) rfl ?_
      refine zr_goto cx (tgt := 237) dX8_digest_259 rfl ?_
      refine zr_sub [1, 0] rfl ?_
      exact ih g1 (a1 + 1)
theorem wX8_digest_p167 (cx : zCx Y p s m args meth c RX8 cX8_digest 2 (some .long))   : ∀ (fu : Nat) (g : zSt) (a1 : Int), zWo Y p l e (zrm 13) s m args below meth c 2 0 0 (fun q : Int64 × zSt => MQ below (zQl Y q.1 q.2) args s 0 0 (zA Y)) g [(0, .ref (zad Y 400)), (1, .int (i32 a1))] ([]) 167 (fX8_digest_p167 fu g a1) := by
  intro fu
  induction fu with
  | zero => intro g a1; exact zr_none
  | succ fu ih =>
    intro g a1
    rw [fX8_digest_p167]
    refine zr_iload_n (pc' := 168) cx rfl 1 dX8_digest_167 rfl rfl ?_
    refine zr_aload_n (pc' := 169) cx rfl 0 dX8_digest_168 rfl rfl ?_
    refine zg_X8_7 (pc' := 172) cx rfl zkc_400 dX8_digest_169 ?_
    refine zr_iconst (pc' := 173) cx rfl dX8_digest_172 ?_
    refine zr_iald (pc' := 174) cx rfl 16 zkc_401 (by decide) (L := 168) rfl dX8_digest_173 ?_
    refine zr_icmp_ge (pc' := 177) cx rfl (tgt := 215) dX8_digest_174 rfl ?_ ?_
    · refine zr_aload_n (pc' := 216) cx rfl 0 dX8_digest_215 rfl rfl ?_
      refine zr_aload_n (pc' := 217) cx rfl 0 dX8_digest_216 rfl rfl ?_
      refine zc_X8_255 (pc' := 220) cx rfl  ⟨Nat.le_of_ble_eq_true rfl, Nat.le_of_ble_eq_true rfl⟩ ⟨Nat.zero_le _, Nat.zero_le _⟩ (Nat.le_of_ble_eq_true rfl) dX8_digest_217 (fun u2 => ?_)
      refine zc_X8_274 (pc' := 223) cx rfl  ⟨Nat.le_of_ble_eq_true rfl, Nat.le_of_ble_eq_true rfl⟩ ⟨Nat.zero_le _, Nat.zero_le _⟩ (Nat.le_of_ble_eq_true rfl) dX8_digest_220 (fun h3 => ?_)
      refine zc_X8_265 (pc' := 226) cx rfl  ⟨Nat.le_of_ble_eq_true rfl, Nat.le_of_ble_eq_true rfl⟩ ⟨Nat.zero_le _, Nat.zero_le _⟩ (Nat.le_of_ble_eq_true rfl) dX8_digest_223 (fun g4 => ?_)
      refine zr_aload_n (pc' := 227) cx rfl 0 dX8_digest_226 rfl rfl ?_
      refine zr_aload_n (pc' := 228) cx rfl 0 dX8_digest_227 rfl rfl ?_
      refine zg_X8_162 (pc' := 231) cx rfl zkc_400 dX8_digest_228 ?_
      refine zr_i2l (pc' := 232) cx rfl dX8_digest_231 ?_
      refine zc_X8_265 (pc' := 235) cx rfl  ⟨Nat.le_of_ble_eq_true rfl, Nat.le_of_ble_eq_true rfl⟩ ⟨Nat.zero_le _, Nat.zero_le _⟩ (Nat.le_of_ble_eq_true rfl) dX8_digest_232 (fun g5 => ?_)
      refine zr_iconst (pc' := 236) cx rfl dX8_digest_235 ?_
      refine zr_istore_n (pc' := 237) cx rfl (lv' := [(1, .int (i32 0)), (0, .ref (zad Y 400))]) dX8_digest_236 rfl (by decide) rfl ?_
      refine zr_sub [1, 0] rfl ?_
      exact wX8_digest_p237 cx zfu g5 0
    · refine zr_aload_n (pc' := 178) cx rfl 0 dX8_digest_177 rfl rfl ?_
      refine zr_aload_n (pc' := 179) cx rfl 0 dX8_digest_178 rfl rfl ?_
      refine zr_iload_n (pc' := 180) cx rfl 1 dX8_digest_179 rfl rfl ?_
      refine zc_X8_249 (pc' := 183) cx rfl  ⟨Nat.le_of_ble_eq_true rfl, Nat.le_of_ble_eq_true rfl⟩ ⟨Nat.zero_le _, Nat.zero_le _⟩ (Nat.le_of_ble_eq_true rfl) dX8_digest_180 (fun v6 g7 => ?_)
      refine zr_i2l (pc' := 184) cx rfl dX8_digest_183 ?_
      refine zc_X8_265 (pc' := 187) cx rfl  ⟨Nat.le_of_ble_eq_true rfl, Nat.le_of_ble_eq_true rfl⟩ ⟨Nat.zero_le _, Nat.zero_le _⟩ (Nat.le_of_ble_eq_true rfl) dX8_digest_184 (fun g8 => ?_)
      refine zr_aload_n (pc' := 188) cx rfl 0 dX8_digest_187 rfl rfl ?_
      refine zr_aload_n (pc' := 189) cx rfl 0 dX8_digest_188 rfl rfl ?_
      refine zr_iload_n (pc' := 190) cx rfl 1 dX8_digest_189 rfl rfl ?_
      refine zr_iconst (pc' := 191) cx rfl dX8_digest_190 ?_
      refine zc_X8_252 (pc' := 194) cx rfl  ⟨Nat.le_of_ble_eq_true rfl, Nat.le_of_ble_eq_true rfl⟩ ⟨Nat.zero_le _, Nat.zero_le _⟩ (Nat.le_of_ble_eq_true rfl) dX8_digest_191 (fun v9 g10 => ?_)
      refine zr_i2l (pc' := 195) cx rfl dX8_digest_194 ?_
      refine zc_X8_265 (pc' := 198) cx rfl  ⟨Nat.le_of_ble_eq_true rfl, Nat.le_of_ble_eq_true rfl⟩ ⟨Nat.zero_le _, Nat.zero_le _⟩ (Nat.le_of_ble_eq_true rfl) dX8_digest_195 (fun g11 => ?_)
      refine zr_aload_n (pc' := 199) cx rfl 0 dX8_digest_198 rfl rfl ?_
      refine zr_aload_n (pc' := 200) cx rfl 0 dX8_digest_199 rfl rfl ?_
      refine zr_iload_n (pc' := 201) cx rfl 1 dX8_digest_200 rfl rfl ?_
      refine zr_iconst (pc' := 202) cx rfl dX8_digest_201 ?_
      refine zc_X8_252 (pc' := 205) cx rfl  ⟨Nat.le_of_ble_eq_true rfl, Nat.le_of_ble_eq_true rfl⟩ ⟨Nat.zero_le _, Nat.zero_le _⟩ (Nat.le_of_ble_eq_true rfl) dX8_digest_202 (fun v12 g13 => ?_)
      refine zr_i2l (pc' := 206) cx rfl dX8_digest_205 ?_
      refine zc_X8_265 (pc' := 209) cx rfl  ⟨Nat.le_of_ble_eq_true rfl, Nat.le_of_ble_eq_true rfl⟩ ⟨Nat.zero_le _, Nat.zero_le _⟩ (Nat.le_of_ble_eq_true rfl) dX8_digest_206 (fun g14 => ?_)
      refine zr_iinc (pc' := 212) cx rfl (lv' := [(1, .int (i32 (a1 + 1))), (0, .ref (zad Y 400))]) 1 dX8_digest_209 rfl (by decide) rfl ?_
      refine zr_goto cx (tgt := 167) dX8_digest_212 rfl ?_
      refine zr_sub [1, 0] rfl ?_
      exact ih g14 (a1 + 1)
theorem wX8_digest_p134 (cx : zCx Y p s m args meth c RX8 cX8_digest 2 (some .long))   : ∀ (fu : Nat) (g : zSt) (a1 : Int), zWo Y p l e (zrm 13) s m args below meth c 2 0 0 (fun q : Int64 × zSt => MQ below (zQl Y q.1 q.2) args s 0 0 (zA Y)) g [(0, .ref (zad Y 400)), (1, .int (i32 a1))] ([]) 134 (fX8_digest_p134 fu g a1) := by
  intro fu
  induction fu with
  | zero => intro g a1; exact zr_none
  | succ fu ih =>
    intro g a1
    rw [fX8_digest_p134]
    refine zr_iload_n (pc' := 135) cx rfl 1 dX8_digest_134 rfl rfl ?_
    refine zr_iconst (pc' := 136) cx rfl dX8_digest_135 ?_
    refine zr_icmp_ge (pc' := 139) cx rfl (tgt := 165) dX8_digest_136 rfl ?_ ?_
    · refine zr_iconst (pc' := 166) cx rfl dX8_digest_165 ?_
      refine zr_istore_n (pc' := 167) cx rfl (lv' := [(1, .int (i32 1)), (0, .ref (zad Y 400))]) dX8_digest_166 rfl (by decide) rfl ?_
      refine zr_sub [1, 0] rfl ?_
      exact wX8_digest_p167 cx zfu g 1
    · refine zr_aload_n (pc' := 140) cx rfl 0 dX8_digest_139 rfl rfl ?_
      refine zr_aload_n (pc' := 141) cx rfl 0 dX8_digest_140 rfl rfl ?_
      refine zr_iload_n (pc' := 142) cx rfl 1 dX8_digest_141 rfl rfl ?_
      refine zc_X8_70 (pc' := 145) cx rfl  ⟨Nat.le_of_ble_eq_true rfl, Nat.le_of_ble_eq_true rfl⟩ ⟨Nat.zero_le _, Nat.zero_le _⟩ (Nat.le_of_ble_eq_true rfl) dX8_digest_142 (fun v15 => ?_)
      refine zr_i2l (pc' := 146) cx rfl dX8_digest_145 ?_
      refine zc_X8_265 (pc' := 149) cx rfl  ⟨Nat.le_of_ble_eq_true rfl, Nat.le_of_ble_eq_true rfl⟩ ⟨Nat.zero_le _, Nat.zero_le _⟩ (Nat.le_of_ble_eq_true rfl) dX8_digest_146 (fun g16 => ?_)
      refine zr_aload_n (pc' := 150) cx rfl 0 dX8_digest_149 rfl rfl ?_
      refine zr_aload_n (pc' := 151) cx rfl 0 dX8_digest_150 rfl rfl ?_
      refine zr_iload_n (pc' := 152) cx rfl 1 dX8_digest_151 rfl rfl ?_
      refine zc_X8_237 (pc' := 155) cx rfl  ⟨Nat.le_of_ble_eq_true rfl, Nat.le_of_ble_eq_true rfl⟩ ⟨Nat.zero_le _, Nat.zero_le _⟩ (Nat.le_of_ble_eq_true rfl) dX8_digest_152 (fun v17 g18 => ?_)
      refine zr_i2l (pc' := 156) cx rfl dX8_digest_155 ?_
      refine zc_X8_265 (pc' := 159) cx rfl  ⟨Nat.le_of_ble_eq_true rfl, Nat.le_of_ble_eq_true rfl⟩ ⟨Nat.zero_le _, Nat.zero_le _⟩ (Nat.le_of_ble_eq_true rfl) dX8_digest_156 (fun g19 => ?_)
      refine zr_iinc (pc' := 162) cx rfl (lv' := [(1, .int (i32 (a1 + 1))), (0, .ref (zad Y 400))]) 1 dX8_digest_159 rfl (by decide) rfl ?_
      refine zr_goto cx (tgt := 134) dX8_digest_162 rfl ?_
      refine zr_sub [1, 0] rfl ?_
      exact ih g19 (a1 + 1)
theorem wX8_digest_p97 (cx : zCx Y p s m args meth c RX8 cX8_digest 2 (some .long))   : ∀ (fu : Nat) (g : zSt) (a1 : Int), zWo Y p l e (zrm 13) s m args below meth c 2 0 0 (fun q : Int64 × zSt => MQ below (zQl Y q.1 q.2) args s 0 0 (zA Y)) g [(0, .ref (zad Y 400)), (1, .int (i32 a1))] ([]) 97 (fX8_digest_p97 fu g a1) := by
  intro fu
  induction fu with
  | zero => intro g a1; exact zr_none
  | succ fu ih =>
    intro g a1
    rw [fX8_digest_p97]
    refine zr_iload_n (pc' := 98) cx rfl 1 dX8_digest_97 rfl rfl ?_
    refine zr_iconst (pc' := 99) cx rfl dX8_digest_98 ?_
    refine zr_aload_n (pc' := 100) cx rfl 0 dX8_digest_99 rfl rfl ?_
    refine zg_X8_7 (pc' := 103) cx rfl zkc_400 dX8_digest_100 ?_
    refine zr_sipush (pc' := 106) cx rfl dX8_digest_103 (by decide +kernel) ?_
    refine zr_iald (pc' := 107) cx rfl 16 zkc_401 (by decide) (L := 168) rfl dX8_digest_106 ?_
    refine zr_imul (pc' := 108) cx rfl dX8_digest_107 ?_
    refine zr_icmp_ge (pc' := 111) cx rfl (tgt := 132) dX8_digest_108 rfl ?_ ?_
    · refine zr_iconst (pc' := 133) cx rfl dX8_digest_132 ?_
      refine zr_istore_n (pc' := 134) cx rfl (lv' := [(1, .int (i32 0)), (0, .ref (zad Y 400))]) dX8_digest_133 rfl (by decide) rfl ?_
      refine zr_sub [1, 0] rfl ?_
      exact wX8_digest_p134 cx zfu g 0
    · refine zr_aload_n (pc' := 112) cx rfl 0 dX8_digest_111 rfl rfl ?_
      refine zr_aload_n (pc' := 113) cx rfl 0 dX8_digest_112 rfl rfl ?_
      refine zr_iload_n (pc' := 114) cx rfl 1 dX8_digest_113 rfl rfl ?_
      refine zr_iconst (pc' := 115) cx rfl dX8_digest_114 ?_
      refine zr_idiv (pc' := 116) cx rfl (by decide +kernel) dX8_digest_115 ?_
      refine zr_iload_n (pc' := 117) cx rfl 1 dX8_digest_116 rfl rfl ?_
      refine zr_iconst (pc' := 118) cx rfl dX8_digest_117 ?_
      refine zr_irem (pc' := 119) cx rfl (by decide +kernel) dX8_digest_118 ?_
      refine zc_X8_228 (pc' := 122) cx rfl  ⟨Nat.le_of_ble_eq_true rfl, Nat.le_of_ble_eq_true rfl⟩ ⟨Nat.zero_le _, Nat.zero_le _⟩ (Nat.le_of_ble_eq_true rfl) dX8_digest_119 (fun v20 => ?_)
      refine zr_i2l (pc' := 123) cx rfl dX8_digest_122 ?_
      refine zc_X8_265 (pc' := 126) cx rfl  ⟨Nat.le_of_ble_eq_true rfl, Nat.le_of_ble_eq_true rfl⟩ ⟨Nat.zero_le _, Nat.zero_le _⟩ (Nat.le_of_ble_eq_true rfl) dX8_digest_123 (fun g21 => ?_)
      refine zr_iinc (pc' := 129) cx rfl (lv' := [(1, .int (i32 (a1 + 1))), (0, .ref (zad Y 400))]) 1 dX8_digest_126 rfl (by decide) rfl ?_
      refine zr_goto cx (tgt := 97) dX8_digest_129 rfl ?_
      refine zr_sub [1, 0] rfl ?_
      exact ih g21 (a1 + 1)
theorem wX8_digest_p61 (cx : zCx Y p s m args meth c RX8 cX8_digest 2 (some .long))   : ∀ (fu : Nat) (g : zSt) (a1 : Int), zWo Y p l e (zrm 13) s m args below meth c 2 0 0 (fun q : Int64 × zSt => MQ below (zQl Y q.1 q.2) args s 0 0 (zA Y)) g [(0, .ref (zad Y 400)), (1, .int (i32 a1))] ([]) 61 (fX8_digest_p61 fu g a1) := by
  intro fu
  induction fu with
  | zero => intro g a1; exact zr_none
  | succ fu ih =>
    intro g a1
    rw [fX8_digest_p61]
    refine zr_iload_n (pc' := 62) cx rfl 1 dX8_digest_61 rfl rfl ?_
    refine zr_iconst (pc' := 63) cx rfl dX8_digest_62 ?_
    refine zr_aload_n (pc' := 64) cx rfl 0 dX8_digest_63 rfl rfl ?_
    refine zg_X8_7 (pc' := 67) cx rfl zkc_400 dX8_digest_64 ?_
    refine zr_bipush (pc' := 69) cx rfl dX8_digest_67 (by decide +kernel) ?_
    refine zr_iald (pc' := 70) cx rfl 16 zkc_401 (by decide) (L := 168) rfl dX8_digest_69 ?_
    refine zr_imul (pc' := 71) cx rfl dX8_digest_70 ?_
    refine zr_icmp_ge (pc' := 74) cx rfl (tgt := 95) dX8_digest_71 rfl ?_ ?_
    · refine zr_iconst (pc' := 96) cx rfl dX8_digest_95 ?_
      refine zr_istore_n (pc' := 97) cx rfl (lv' := [(1, .int (i32 0)), (0, .ref (zad Y 400))]) dX8_digest_96 rfl (by decide) rfl ?_
      refine zr_sub [1, 0] rfl ?_
      exact wX8_digest_p97 cx zfu g 0
    · refine zr_aload_n (pc' := 75) cx rfl 0 dX8_digest_74 rfl rfl ?_
      refine zr_aload_n (pc' := 76) cx rfl 0 dX8_digest_75 rfl rfl ?_
      refine zr_iload_n (pc' := 77) cx rfl 1 dX8_digest_76 rfl rfl ?_
      refine zr_iconst (pc' := 78) cx rfl dX8_digest_77 ?_
      refine zr_idiv (pc' := 79) cx rfl (by decide +kernel) dX8_digest_78 ?_
      refine zr_iload_n (pc' := 80) cx rfl 1 dX8_digest_79 rfl rfl ?_
      refine zr_iconst (pc' := 81) cx rfl dX8_digest_80 ?_
      refine zr_irem (pc' := 82) cx rfl (by decide +kernel) dX8_digest_81 ?_
      refine zc_X8_225 (pc' := 85) cx rfl  ⟨Nat.le_of_ble_eq_true rfl, Nat.le_of_ble_eq_true rfl⟩ ⟨Nat.zero_le _, Nat.zero_le _⟩ (Nat.le_of_ble_eq_true rfl) dX8_digest_82 (fun v22 => ?_)
      refine zr_i2l (pc' := 86) cx rfl dX8_digest_85 ?_
      refine zc_X8_265 (pc' := 89) cx rfl  ⟨Nat.le_of_ble_eq_true rfl, Nat.le_of_ble_eq_true rfl⟩ ⟨Nat.zero_le _, Nat.zero_le _⟩ (Nat.le_of_ble_eq_true rfl) dX8_digest_86 (fun g23 => ?_)
      refine zr_iinc (pc' := 92) cx rfl (lv' := [(1, .int (i32 (a1 + 1))), (0, .ref (zad Y 400))]) 1 dX8_digest_89 rfl (by decide) rfl ?_
      refine zr_goto cx (tgt := 61) dX8_digest_92 rfl ?_
      refine zr_sub [1, 0] rfl ?_
      exact ih g23 (a1 + 1)
theorem wX8_digest_p38 (cx : zCx Y p s m args meth c RX8 cX8_digest 2 (some .long))   : ∀ (fu : Nat) (g : zSt) (a1 : Int), zWo Y p l e (zrm 13) s m args below meth c 2 0 0 (fun q : Int64 × zSt => MQ below (zQl Y q.1 q.2) args s 0 0 (zA Y)) g [(0, .ref (zad Y 400)), (1, .int (i32 a1))] ([]) 38 (fX8_digest_p38 fu g a1) := by
  intro fu
  induction fu with
  | zero => intro g a1; exact zr_none
  | succ fu ih =>
    intro g a1
    rw [fX8_digest_p38]
    refine zr_iload_n (pc' := 39) cx rfl 1 dX8_digest_38 rfl rfl ?_
    refine zr_aload_n (pc' := 40) cx rfl 0 dX8_digest_39 rfl rfl ?_
    refine zg_X8_7 (pc' := 43) cx rfl zkc_400 dX8_digest_40 ?_
    refine zr_iconst (pc' := 44) cx rfl dX8_digest_43 ?_
    refine zr_iald (pc' := 45) cx rfl 16 zkc_401 (by decide) (L := 168) rfl dX8_digest_44 ?_
    refine zr_icmp_ge (pc' := 48) cx rfl (tgt := 59) dX8_digest_45 rfl ?_ ?_
    · refine zr_iconst (pc' := 60) cx rfl dX8_digest_59 ?_
      refine zr_istore_n (pc' := 61) cx rfl (lv' := [(1, .int (i32 0)), (0, .ref (zad Y 400))]) dX8_digest_60 rfl (by decide) rfl ?_
      refine zr_sub [1, 0] rfl ?_
      exact wX8_digest_p61 cx zfu g 0
    · refine zr_aload_n (pc' := 49) cx rfl 0 dX8_digest_48 rfl rfl ?_
      refine zr_iload_n (pc' := 50) cx rfl 1 dX8_digest_49 rfl rfl ?_
      refine zc_X8_271 (pc' := 53) cx rfl  ⟨Nat.le_of_ble_eq_true rfl, Nat.le_of_ble_eq_true rfl⟩ ⟨Nat.zero_le _, Nat.zero_le _⟩ (Nat.le_of_ble_eq_true rfl) dX8_digest_50 (fun g24 => ?_)
      refine zr_iinc (pc' := 56) cx rfl (lv' := [(1, .int (i32 (a1 + 1))), (0, .ref (zad Y 400))]) 1 dX8_digest_53 rfl (by decide) rfl ?_
      refine zr_goto cx (tgt := 38) dX8_digest_56 rfl ?_
      refine zr_sub [1, 0] rfl ?_
      exact ih g24 (a1 + 1)
theorem wX8_digest_p14 (cx : zCx Y p s m args meth c RX8 cX8_digest 2 (some .long))   : ∀ (fu : Nat) (g : zSt) (a1 : Int), zWo Y p l e (zrm 13) s m args below meth c 2 0 0 (fun q : Int64 × zSt => MQ below (zQl Y q.1 q.2) args s 0 0 (zA Y)) g [(0, .ref (zad Y 400)), (1, .int (i32 a1))] ([]) 14 (fX8_digest_p14 fu g a1) := by
  intro fu
  induction fu with
  | zero => intro g a1; exact zr_none
  | succ fu ih =>
    intro g a1
    rw [fX8_digest_p14]
    refine zr_iload_n (pc' := 15) cx rfl 1 dX8_digest_14 rfl rfl ?_
    refine zr_bipush (pc' := 17) cx rfl dX8_digest_15 (by decide +kernel) ?_
    refine zr_icmp_ge (pc' := 20) cx rfl (tgt := 36) dX8_digest_17 rfl ?_ ?_
    · refine zr_iconst (pc' := 37) cx rfl dX8_digest_36 ?_
      refine zr_istore_n (pc' := 38) cx rfl (lv' := [(1, .int (i32 0)), (0, .ref (zad Y 400))]) dX8_digest_37 rfl (by decide) rfl ?_
      refine zr_sub [1, 0] rfl ?_
      exact wX8_digest_p38 cx zfu g 0
    · refine zr_aload_n (pc' := 21) cx rfl 0 dX8_digest_20 rfl rfl ?_
      refine zr_aload_n (pc' := 22) cx rfl 0 dX8_digest_21 rfl rfl ?_
      refine zr_iload_n (pc' := 23) cx rfl 1 dX8_digest_22 rfl rfl ?_
      refine zc_X8_234 (pc' := 26) cx rfl  ⟨Nat.le_of_ble_eq_true rfl, Nat.le_of_ble_eq_true rfl⟩ ⟨Nat.zero_le _, Nat.zero_le _⟩ (Nat.le_of_ble_eq_true rfl) dX8_digest_23 (fun v25 => ?_)
      refine zr_i2l (pc' := 27) cx rfl dX8_digest_26 ?_
      refine zc_X8_265 (pc' := 30) cx rfl  ⟨Nat.le_of_ble_eq_true rfl, Nat.le_of_ble_eq_true rfl⟩ ⟨Nat.zero_le _, Nat.zero_le _⟩ (Nat.le_of_ble_eq_true rfl) dX8_digest_27 (fun g26 => ?_)
      refine zr_iinc (pc' := 33) cx rfl (lv' := [(1, .int (i32 (a1 + 1))), (0, .ref (zad Y 400))]) 1 dX8_digest_30 rfl (by decide) rfl ?_
      refine zr_goto cx (tgt := 14) dX8_digest_33 rfl ?_
      refine zr_sub [1, 0] rfl ?_
      exact ih g26 (a1 + 1)
theorem wX8_digest (cx : zCx Y p s m args meth c RX8 cX8_digest 2 (some .long)) (g : zSt)  : zWo Y p l e (zrm 13) s m args below meth c 2 0 0 (fun q : Int64 × zSt => MQ below (zQl Y q.1 q.2) args s 0 0 (zA Y)) g [(0, .ref (zad Y 400))] ([]) 0 (fX8_digest g) := by
  unfold fX8_digest
  refine zr_aload_n (pc' := 1) cx rfl 0 dX8_digest_0 rfl rfl ?_
  refine zr_iconst (pc' := 2) cx rfl dX8_digest_1 ?_
  refine zp_X8_25 (pc' := 5) cx rfl zkc_400 dX8_digest_2 ?_
  refine zr_letS (fun g27 => ?_)
  refine zr_aload_n (pc' := 6) cx rfl 0 dX8_digest_5 rfl rfl ?_
  refine zr_ldc2 (pc' := 9) cx rfl dX8_digest_6 zw_1374 ?_
  refine zp_X8_261 (pc' := 12) cx rfl zkc_400 dX8_digest_9 ?_
  refine zr_letS (fun g28 => ?_)
  refine zr_iconst (pc' := 13) cx rfl dX8_digest_12 ?_
  refine zr_istore_n (pc' := 14) cx rfl (lv' := [(1, .int (i32 0)), (0, .ref (zad Y 400))]) dX8_digest_13 rfl (by decide) rfl ?_
  refine zr_sub [1, 0] rfl ?_
  exact wX8_digest_p14 cx zfu g28 0
theorem mX8_digest (l : Launch) (Y : zLy) (g : zSt)  : ∀ v g2, fX8_digest g = some (v, g2) → zMt l yX8_digest cX8_digest 2 (some .long) 13 [.ref (zad Y 400)] Y g (zQl Y v g2) := by
  intro v g2 hv
  refine zmet_of RX8 rfl (by decide +kernel) (Nat.le_of_ble_eq_true rfl) ?_
  intro p e s m below meth c cx H locs ls hH hS hl
  exact wX8_digest cx g   (v, g2) hv H locs ls hH hS hl
end ZmX8a
