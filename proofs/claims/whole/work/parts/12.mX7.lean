section ZmX7
variable {ρ : Type} {Y : zLy} {p : Program} {l : Launch} {e : Env} {R : Room} {s : State} {m : MethodId} {args : Array Value} {below : List Frame} {meth : Method} {c : Code} {nl k n : Nat} {kq : ρ → State → Prop} {lv : List (Nat × Value)} {rest : List Value} {pc pc' : Nat} {cc : ByteArray} {ret : Option FieldType}
def fX7_isBox (g : zSt) (a1 : Int) : Option Int :=
    (if i32 a1 < i32 0 then
    zck ((0 : Int) = 0 ∨ (0 : Int) = 1) (some 0)
    else
    (if i32 a1 < i32 (g.1 11 0) then
    zck ((1 : Int) = 0 ∨ (1 : Int) = 1) (some 1)
    else
    zck ((0 : Int) = 0 ∨ (0 : Int) = 1) (some 0)))
theorem wX7_isBox (cx : zCx Y p s m args meth c RX7 cX7_isBox 2 (some .boolean)) (g : zSt) (a1 : Int)  : zWo Y p l e (zrm 0) s m args below meth c 2 0 0 (fun v : Int => MQ below (zQi Y v g) args s 0 0 (zA Y)) g [(0, .ref (zad Y 0)), (1, .int (i32 a1))] ([]) 0 (fX7_isBox g a1) := by
  unfold fX7_isBox
  refine zr_iload_n (pc' := 1) cx rfl 1 dX7_isBox_0 rfl rfl ?_
  refine zr_if_lt (pc' := 4) cx rfl (tgt := 22) dX7_isBox_1 rfl ?_ ?_
  · refine zr_iconst (pc' := 23) cx rfl dX7_isBox_22 ?_
    exact zr_zretP cx dX7_isBox_23
  · refine zr_iload_n (pc' := 5) cx rfl 1 dX7_isBox_4 rfl rfl ?_
    refine zr_aload_n (pc' := 6) cx rfl 0 dX7_isBox_5 rfl rfl ?_
    refine zg_X7_12 (pc' := 9) cx rfl zkc_0 dX7_isBox_6 ?_
    refine zg_X7_73 (pc' := 12) cx rfl (c2 := 11) zkc_10 rfl dX7_isBox_9 ?_
    refine zg_X7_77 (pc' := 15) cx rfl zkc_11 dX7_isBox_12 ?_
    refine zr_icmp_ge (pc' := 18) cx rfl (tgt := 22) dX7_isBox_15 rfl ?_ ?_
    · refine zr_iconst (pc' := 23) cx rfl dX7_isBox_22 ?_
      exact zr_zretP cx dX7_isBox_23
    · refine zr_iconst (pc' := 19) cx rfl dX7_isBox_18 ?_
      refine zr_gotoS cx (tgt := 23) dX7_isBox_19 rfl ?_
      exact zr_zretP cx dX7_isBox_23
theorem mX7_isBox (l : Launch) (Y : zLy) (g : zSt) (a1 : Int)  : ∀ v, fX7_isBox g a1 = some v → zMt l yX7_isBox cX7_isBox 2 (some .boolean) 0 [.ref (zad Y 0), .int (i32 a1)] Y g (zQi Y v g) := by
  intro v hv
  refine zmet_of RX7 rfl (by decide +kernel) (Nat.le_of_ble_eq_true rfl) ?_
  intro p e s m below meth c cx H locs ls hH hS hl
  exact wX7_isBox cx g a1  v hv H locs ls hH hS hl
theorem zc_X7_54 (cx : zCx Y p s m args meth c RX7 cc nl ret) (hpc : pc + 3 = pc') {g : zSt} {a1 : Int}  {fk : Int → Option ρ} (hR : 0 + 1 ≤ R.frames ∧ 8 + (2 + 11) + 40 * 0 ≤ R.locals) (hkn : k ≤ R.cells ∧ n ≤ R.slots) (hrest : (rest.map fun v => v.category).sum ≤ 8) (hdg : decode cc pc = .ok (.invokevirtual 54, 3)) (kk : ∀ v : Int, zWo Y p l e R s m args below meth c nl k n kq g lv (.int (i32 v) :: rest) pc' (fk v)) : zWo Y p l e R s m args below meth c nl k n kq g lv (.int (i32 a1) :: .ref (zad Y 0) :: rest) pc (zbd (fX7_isBox g a1) fk) := zr_callViP cx (an := 1) (As := [.int (i32 a1)]) 8 zkc_0 (by decide) rfl (mX7_isBox l Y g a1) (zG_V zw_601 zw_603 zw_30 zw_101 zw_604) (by decide +kernel) hR hkn rfl rfl hrest hdg hpc kk
def fX7_isRating (g : zSt) (a0 : Int) : Option Int :=
    (if i32 a0 < i32 1 then
    zck ((0 : Int) = 0 ∨ (0 : Int) = 1) (some 0)
    else
    (if i32 60 < i32 a0 then
    zck ((0 : Int) = 0 ∨ (0 : Int) = 1) (some 0)
    else
    zck ((1 : Int) = 0 ∨ (1 : Int) = 1) (some 1)))
theorem wX7_isRating (cx : zCx Y p s m args meth c RX7 cX7_isRating 1 (some .boolean)) (g : zSt) (a0 : Int)  : zWo Y p l e (zrm 0) s m args below meth c 1 0 0 (fun v : Int => MQ below (zQi Y v g) args s 0 0 (zA Y)) g [(0, .int (i32 a0))] ([]) 0 (fX7_isRating g a0) := by
  unfold fX7_isRating
  refine zr_iload_n (pc' := 1) cx rfl 0 dX7_isRating_0 rfl rfl ?_
  refine zr_iconst (pc' := 2) cx rfl dX7_isRating_1 ?_
  refine zr_icmp_lt (pc' := 5) cx rfl (tgt := 15) dX7_isRating_2 rfl ?_ ?_
  · refine zr_iconst (pc' := 16) cx rfl dX7_isRating_15 ?_
    exact zr_zretP cx dX7_isRating_16
  · refine zr_iload_n (pc' := 6) cx rfl 0 dX7_isRating_5 rfl rfl ?_
    refine zr_bipush (pc' := 8) cx rfl dX7_isRating_6 (by decide +kernel) ?_
    refine zr_icmp_gt (pc' := 11) cx rfl (tgt := 15) dX7_isRating_8 rfl ?_ ?_
    · refine zr_iconst (pc' := 16) cx rfl dX7_isRating_15 ?_
      exact zr_zretP cx dX7_isRating_16
    · refine zr_iconst (pc' := 12) cx rfl dX7_isRating_11 ?_
      refine zr_gotoS cx (tgt := 16) dX7_isRating_12 rfl ?_
      exact zr_zretP cx dX7_isRating_16
theorem mX7_isRating (l : Launch) (Y : zLy) (g : zSt) (a0 : Int)  : ∀ v, fX7_isRating g a0 = some v → zMt l yX7_isRating cX7_isRating 1 (some .boolean) 0 [.int (i32 a0)] Y g (zQi Y v g) := by
  intro v hv
  refine zmet_of RX7 rfl (by decide +kernel) (Nat.le_of_ble_eq_true rfl) ?_
  intro p e s m below meth c cx H locs ls hH hS hl
  exact wX7_isRating cx g a0  v hv H locs ls hH hS hl
theorem zc_X7_65 (cx : zCx Y p s m args meth c RX7 cc nl ret) (hpc : pc + 3 = pc') {g : zSt} {a0 : Int}  {fk : Int → Option ρ} (hR : 0 + 1 ≤ R.frames ∧ 8 + (1 + 11) + 40 * 0 ≤ R.locals) (hkn : k ≤ R.cells ∧ n ≤ R.slots) (hrest : (rest.map fun v => v.category).sum ≤ 8) (hdg : decode cc pc = .ok (.invokestatic 65, 3)) (kk : ∀ v : Int, zWo Y p l e R s m args below meth c nl k n kq g lv (.int (i32 v) :: rest) pc' (fk v)) : zWo Y p l e R s m args below meth c nl k n kq g lv (.int (i32 a0) :: rest) pc (zbd (fX7_isRating g a0) fk) := zr_callSiP cx (an := 1) (As := [.int (i32 a0)])  (mX7_isRating l Y g a0) (zG_S zw_673 zw_674 zw_101 zw_675) (by decide +kernel) hR hkn rfl rfl hrest hdg hpc kk
def fX7_settle_p7  : Nat → zSt → Nat → Nat → Int → Option (Int × zSt)
  | 0, _, _, _, _ => none
  | fu + 1, g, c0, c1, a2 =>
    (if i32 a2 < i32 24 then
    zbd (fX6_fuseToBlow g c1 (c0 + 1)) (fun v1 =>
    (if i32 v1 = i32 (-1) then
    some (a2, g)
    else
    zck ((0 : Int) ≤ v1 ∧ v1 < 24) (zck ((1 : Int) = 0 ∨ (1 : Int) = 1) (zlet (zwr g (c0 + 6) (Int.toNat v1) 1) (fun g2 =>
    zlet (zwr g2 c0 4 ((g2.1 c0 4) + 1)) (fun g3 =>
    zbd (fX6_take g3 c1 c0) (fun g4 =>
    fX7_settle_p7 fu g4 c0 c1 (a2 + 1))))))))
    else
    some (a2, g))
def fX7_settle (g : zSt) (c0 : Nat) (c1 : Nat) : Option (Int × zSt) :=
    zbd (fX6_take g c1 c0) (fun g5 =>
    fX7_settle_p7 zfu g5 c0 c1 0)
theorem wX7_settle_p7 (cx : zCx Y p s m args meth c RX7 cX7_settle 4 (some .int))   : ∀ (fu : Nat) (g : zSt) (c0 : Nat) (c1 : Nat) (a2 : Int) (hc0 : zK c0 = 6) (hc1 : zK c1 = 7), zWo Y p l e (zrm 3) s m args below meth c 4 0 0 (fun q : Int × zSt => MQ below (zQi Y q.1 q.2) args s 0 0 (zA Y)) g [(0, .ref (zad Y c0)), (1, .ref (zad Y c1)), (2, .int (i32 a2))] ([]) 7 (fX7_settle_p7 fu g c0 c1 a2) := by
  intro fu
  induction fu with
  | zero => intro g c0 c1 a2 hc0 hc1; exact zr_none
  | succ fu ih =>
    intro g c0 c1 a2 hc0 hc1
    rw [fX7_settle_p7]
    refine zr_iload_n (pc' := 8) cx rfl 2 dX7_settle_7 rfl rfl ?_
    refine zr_bipush (pc' := 10) cx rfl dX7_settle_8 (by decide +kernel) ?_
    refine zr_icmp_ge (pc' := 13) cx rfl (tgt := 60) dX7_settle_10 rfl ?_ ?_
    · refine zr_iload_n (pc' := 61) cx rfl 2 dX7_settle_60 rfl rfl ?_
      exact zr_iretE cx dX7_settle_61
    · refine zr_aload_n (pc' := 14) cx rfl 1 dX7_settle_13 rfl rfl ?_
      refine zr_aload_n (pc' := 15) cx rfl 0 dX7_settle_14 rfl rfl ?_
      refine zg_X7_73 (pc' := 18) cx rfl (c2 := (c0 + 1)) hc0 rfl dX7_settle_15 ?_
      refine zc_X7_286 (pc' := 21) cx rfl hc1 (zk6_1 hc0) ⟨Nat.le_of_ble_eq_true rfl, Nat.le_of_ble_eq_true rfl⟩ ⟨Nat.zero_le _, Nat.zero_le _⟩ (Nat.le_of_ble_eq_true rfl) dX7_settle_18 (fun v1 => ?_)
      refine zr_istore_n (pc' := 22) cx rfl (lv' := [(3, .int (i32 v1)), (0, .ref (zad Y c0)), (1, .ref (zad Y c1)), (2, .int (i32 a2))]) dX7_settle_21 rfl (by decide) rfl ?_
      refine zr_iload_n (pc' := 23) cx rfl 0 dX7_settle_22 rfl rfl ?_
      refine zr_iconst (pc' := 24) cx rfl dX7_settle_23 ?_
      refine zr_icmp_ne (pc' := 27) cx rfl (tgt := 29) dX7_settle_24 rfl ?_ ?_
      · refine zr_aload_n (pc' := 30) cx rfl 1 dX7_settle_29 rfl rfl ?_
        refine zg_X7_73 (pc' := 33) cx rfl (c2 := (c0 + 1)) hc0 rfl dX7_settle_30 ?_
        refine zg_X7_131 (pc' := 36) cx rfl (c2 := (c0 + 6)) (zk6_1 hc0) rfl dX7_settle_33 ?_
        refine zr_iload_n (pc' := 37) cx rfl 0 dX7_settle_36 rfl rfl ?_
        refine zr_iconst (pc' := 38) cx rfl dX7_settle_37 ?_
        refine zr_bast (pc' := 39) cx rfl 21 (zk6_6 hc0) (by decide) (L := 24) rfl dX7_settle_38 ?_
        refine zr_letS (fun g2 => ?_)
        refine zr_aload_n (pc' := 40) cx rfl 1 dX7_settle_39 rfl rfl ?_
        refine zr_dup (pc' := 41) cx rfl dX7_settle_40 rfl ?_
        refine zg_X7_324 (pc' := 44) cx rfl hc0 dX7_settle_41 ?_
        refine zr_iconst (pc' := 45) cx rfl dX7_settle_44 ?_
        refine zr_iadd (pc' := 46) cx rfl dX7_settle_45 ?_
        refine zp_X7_324 (pc' := 49) cx rfl hc0 dX7_settle_46 ?_
        refine zr_letS (fun g3 => ?_)
        refine zr_iinc (pc' := 52) cx rfl (lv' := [(2, .int (i32 (a2 + 1))), (3, .int (i32 v1)), (0, .ref (zad Y c0)), (1, .ref (zad Y c1))]) 3 dX7_settle_49 rfl (by decide) rfl ?_
        refine zr_aload_n (pc' := 53) cx rfl 3 dX7_settle_52 rfl rfl ?_
        refine zr_aload_n (pc' := 54) cx rfl 2 dX7_settle_53 rfl rfl ?_
        refine zc_X7_239 (pc' := 57) cx rfl hc1 hc0 ⟨Nat.le_of_ble_eq_true rfl, Nat.le_of_ble_eq_true rfl⟩ ⟨Nat.zero_le _, Nat.zero_le _⟩ (Nat.le_of_ble_eq_true rfl) dX7_settle_54 (fun g4 => ?_)
        refine zr_goto cx (tgt := 7) dX7_settle_57 rfl ?_
        refine zr_sub [2, 3, 0] rfl ?_
        exact ih g4 c0 c1 (a2 + 1) hc0 hc1
      · refine zr_iload_n (pc' := 28) cx rfl 3 dX7_settle_27 rfl rfl ?_
        exact zr_iretE cx dX7_settle_28
theorem wX7_settle (cx : zCx Y p s m args meth c RX7 cX7_settle 4 (some .int)) (g : zSt) (c0 : Nat) (c1 : Nat) (hc0 : zK c0 = 6) (hc1 : zK c1 = 7) : zWo Y p l e (zrm 3) s m args below meth c 4 0 0 (fun q : Int × zSt => MQ below (zQi Y q.1 q.2) args s 0 0 (zA Y)) g [(0, .ref (zad Y c0)), (1, .ref (zad Y c1))] ([]) 0 (fX7_settle g c0 c1) := by
  unfold fX7_settle
  refine zr_aload_n (pc' := 1) cx rfl 1 dX7_settle_0 rfl rfl ?_
  refine zr_aload_n (pc' := 2) cx rfl 0 dX7_settle_1 rfl rfl ?_
  refine zc_X7_239 (pc' := 5) cx rfl hc1 hc0 ⟨Nat.le_of_ble_eq_true rfl, Nat.le_of_ble_eq_true rfl⟩ ⟨Nat.zero_le _, Nat.zero_le _⟩ (Nat.le_of_ble_eq_true rfl) dX7_settle_2 (fun g5 => ?_)
  refine zr_iconst (pc' := 6) cx rfl dX7_settle_5 ?_
  refine zr_istore_n (pc' := 7) cx rfl (lv' := [(2, .int (i32 0)), (0, .ref (zad Y c0)), (1, .ref (zad Y c1))]) dX7_settle_6 rfl (by decide) rfl ?_
  refine zr_sub [1, 2, 0] rfl ?_
  exact wX7_settle_p7 cx zfu g5 c0 c1 0 hc0 hc1
theorem mX7_settle (l : Launch) (Y : zLy) (g : zSt) (c0 : Nat) (c1 : Nat) (hc0 : zK c0 = 6) (hc1 : zK c1 = 7) : ∀ v g2, fX7_settle g c0 c1 = some (v, g2) → zMt l yX7_settle cX7_settle 4 (some .int) 3 [.ref (zad Y c0), .ref (zad Y c1)] Y g (zQi Y v g2) := by
  intro v g2 hv
  refine zmet_of RX7 rfl (by decide +kernel) (Nat.le_of_ble_eq_true rfl) ?_
  intro p e s m below meth c cx H locs ls hH hS hl
  exact wX7_settle cx g c0 c1 hc0 hc1 (v, g2) hv H locs ls hH hS hl
theorem zc_X7_95 (cx : zCx Y p s m args meth c RX7 cc nl ret) (hpc : pc + 3 = pc') {g : zSt} {c0 : Nat} {c1 : Nat} (hc0 : zK c0 = 6) (hc1 : zK c1 = 7) {fk : Int → zSt → Option ρ} (hR : 3 + 1 ≤ R.frames ∧ 8 + (4 + 11) + 40 * 3 ≤ R.locals) (hkn : k ≤ R.cells ∧ n ≤ R.slots) (hrest : (rest.map fun v => v.category).sum ≤ 8) (hdg : decode cc pc = .ok (.invokestatic 95, 3)) (kk : ∀ (v : Int) (g2 : zSt), zWo Y p l e R s m args below meth c nl k n kq g2 lv (.int (i32 v) :: rest) pc' (fk v g2)) : zWo Y p l e R s m args below meth c nl k n kq g lv (.ref (zad Y c1) :: .ref (zad Y c0) :: rest) pc (zbe (fX7_settle g c0 c1) fk) := zr_callSiE cx (an := 2) (As := [.ref (zad Y c0), .ref (zad Y c1)])  (mX7_settle l Y g c0 c1 hc0 hc1) (zG_S zw_572 zw_573 zw_101 zw_574) (by decide +kernel) hR hkn rfl rfl hrest hdg hpc kk
def fX7_isFedBox (g : zSt) (a1 : Int) : Option Int :=
    (if i32 0 < i32 a1 then
    (if i32 a1 < i32 (g.1 11 0) then
    zck ((1 : Int) = 0 ∨ (1 : Int) = 1) (some 1)
    else
    zck ((0 : Int) = 0 ∨ (0 : Int) = 1) (some 0))
    else
    zck ((0 : Int) = 0 ∨ (0 : Int) = 1) (some 0))
theorem wX7_isFedBox (cx : zCx Y p s m args meth c RX7 cX7_isFedBox 2 (some .boolean)) (g : zSt) (a1 : Int)  : zWo Y p l e (zrm 0) s m args below meth c 2 0 0 (fun v : Int => MQ below (zQi Y v g) args s 0 0 (zA Y)) g [(0, .ref (zad Y 0)), (1, .int (i32 a1))] ([]) 0 (fX7_isFedBox g a1) := by
  unfold fX7_isFedBox
  refine zr_iload_n (pc' := 1) cx rfl 1 dX7_isFedBox_0 rfl rfl ?_
  refine zr_if_le (pc' := 4) cx rfl (tgt := 22) dX7_isFedBox_1 rfl ?_ ?_
  · refine zr_iconst (pc' := 23) cx rfl dX7_isFedBox_22 ?_
    exact zr_zretP cx dX7_isFedBox_23
  · refine zr_iload_n (pc' := 5) cx rfl 1 dX7_isFedBox_4 rfl rfl ?_
    refine zr_aload_n (pc' := 6) cx rfl 0 dX7_isFedBox_5 rfl rfl ?_
    refine zg_X7_12 (pc' := 9) cx rfl zkc_0 dX7_isFedBox_6 ?_
    refine zg_X7_73 (pc' := 12) cx rfl (c2 := 11) zkc_10 rfl dX7_isFedBox_9 ?_
    refine zg_X7_77 (pc' := 15) cx rfl zkc_11 dX7_isFedBox_12 ?_
    refine zr_icmp_ge (pc' := 18) cx rfl (tgt := 22) dX7_isFedBox_15 rfl ?_ ?_
    · refine zr_iconst (pc' := 23) cx rfl dX7_isFedBox_22 ?_
      exact zr_zretP cx dX7_isFedBox_23
    · refine zr_iconst (pc' := 19) cx rfl dX7_isFedBox_18 ?_
      refine zr_gotoS cx (tgt := 23) dX7_isFedBox_19 rfl ?_
      exact zr_zretP cx dX7_isFedBox_23
theorem mX7_isFedBox (l : Launch) (Y : zLy) (g : zSt) (a1 : Int)  : ∀ v, fX7_isFedBox g a1 = some v → zMt l yX7_isFedBox cX7_isFedBox 2 (some .boolean) 0 [.ref (zad Y 0), .int (i32 a1)] Y g (zQi Y v g) := by
  intro v hv
  refine zmet_of RX7 rfl (by decide +kernel) (Nat.le_of_ble_eq_true rfl) ?_
  intro p e s m below meth c cx H locs ls hH hS hl
  exact wX7_isFedBox cx g a1  v hv H locs ls hH hS hl
theorem zc_X7_99 (cx : zCx Y p s m args meth c RX7 cc nl ret) (hpc : pc + 3 = pc') {g : zSt} {a1 : Int}  {fk : Int → Option ρ} (hR : 0 + 1 ≤ R.frames ∧ 8 + (2 + 11) + 40 * 0 ≤ R.locals) (hkn : k ≤ R.cells ∧ n ≤ R.slots) (hrest : (rest.map fun v => v.category).sum ≤ 8) (hdg : decode cc pc = .ok (.invokevirtual 99, 3)) (kk : ∀ v : Int, zWo Y p l e R s m args below meth c nl k n kq g lv (.int (i32 v) :: rest) pc' (fk v)) : zWo Y p l e R s m args below meth c nl k n kq g lv (.int (i32 a1) :: .ref (zad Y 0) :: rest) pc (zbd (fX7_isFedBox g a1) fk) := zr_callViP cx (an := 1) (As := [.int (i32 a1)]) 8 zkc_0 (by decide) rfl (mX7_isFedBox l Y g a1) (zG_V zw_728 zw_730 zw_33 zw_101 zw_731) (by decide +kernel) hR hkn rfl rfl hrest hdg hpc kk
def fX7_oneIf (g : zSt) (a0 : Int) : Option Int :=
    (if i32 a0 = i32 0 then
    some 0
    else
    some 1)
theorem wX7_oneIf (cx : zCx Y p s m args meth c RX7 cX7_oneIf 1 (some .int)) (g : zSt) (a0 : Int)  : zWo Y p l e (zrm 0) s m args below meth c 1 0 0 (fun v : Int => MQ below (zQi Y v g) args s 0 0 (zA Y)) g [(0, .int (i32 a0))] ([]) 0 (fX7_oneIf g a0) := by
  unfold fX7_oneIf
  refine zr_iload_n (pc' := 1) cx rfl 0 dX7_oneIf_0 rfl rfl ?_
  refine zr_if_eq (pc' := 4) cx rfl (tgt := 8) dX7_oneIf_1 rfl ?_ ?_
  · refine zr_iconst (pc' := 9) cx rfl dX7_oneIf_8 ?_
    exact zr_iretP cx dX7_oneIf_9
  · refine zr_iconst (pc' := 5) cx rfl dX7_oneIf_4 ?_
    refine zr_gotoS cx (tgt := 9) dX7_oneIf_5 rfl ?_
    exact zr_iretP cx dX7_oneIf_9
theorem mX7_oneIf (l : Launch) (Y : zLy) (g : zSt) (a0 : Int)  : ∀ v, fX7_oneIf g a0 = some v → zMt l yX7_oneIf cX7_oneIf 1 (some .int) 0 [.int (i32 a0)] Y g (zQi Y v g) := by
  intro v hv
  refine zmet_of RX7 rfl (by decide +kernel) (Nat.le_of_ble_eq_true rfl) ?_
  intro p e s m below meth c cx H locs ls hH hS hl
  exact wX7_oneIf cx g a0  v hv H locs ls hH hS hl
theorem zc_X7_108 (cx : zCx Y p s m args meth c RX7 cc nl ret) (hpc : pc + 3 = pc') {g : zSt} {a0 : Int}  {fk : Int → Option ρ} (hR : 0 + 1 ≤ R.frames ∧ 8 + (1 + 11) + 40 * 0 ≤ R.locals) (hkn : k ≤ R.cells ∧ n ≤ R.slots) (hrest : (rest.map fun v => v.category).sum ≤ 8) (hdg : decode cc pc = .ok (.invokestatic 108, 3)) (kk : ∀ v : Int, zWo Y p l e R s m args below meth c nl k n kq g lv (.int (i32 v) :: rest) pc' (fk v)) : zWo Y p l e R s m args below meth c nl k n kq g lv (.int (i32 a0) :: rest) pc (zbd (fX7_oneIf g a0) fk) := zr_callSiP cx (an := 1) (As := [.int (i32 a0)])  (mX7_oneIf l Y g a0) (zG_S zw_452 zw_453 zw_101 zw_454) (by decide +kernel) hR hkn rfl rfl hrest hdg hpc kk
def fX7_isTerminal (g : zSt) (a0 : Int) : Option Int :=
    (if i32 a0 = i32 0 then
    zck ((1 : Int) = 0 ∨ (1 : Int) = 1) (some 1)
    else
    (if i32 a0 = i32 1 then
    zck ((1 : Int) = 0 ∨ (1 : Int) = 1) (some 1)
    else
    zck ((0 : Int) = 0 ∨ (0 : Int) = 1) (some 0)))
theorem wX7_isTerminal (cx : zCx Y p s m args meth c RX7 cX7_isTerminal 1 (some .boolean)) (g : zSt) (a0 : Int)  : zWo Y p l e (zrm 0) s m args below meth c 1 0 0 (fun v : Int => MQ below (zQi Y v g) args s 0 0 (zA Y)) g [(0, .int (i32 a0))] ([]) 0 (fX7_isTerminal g a0) := by
  unfold fX7_isTerminal
  refine zr_iload_n (pc' := 1) cx rfl 0 dX7_isTerminal_0 rfl rfl ?_
  refine zr_if_eq (pc' := 4) cx rfl (tgt := 9) dX7_isTerminal_1 rfl ?_ ?_
  · refine zr_iconst (pc' := 10) cx rfl dX7_isTerminal_9 ?_
    refine zr_gotoS cx (tgt := 14) dX7_isTerminal_10 rfl ?_
    exact zr_zretP cx dX7_isTerminal_14
  · refine zr_iload_n (pc' := 5) cx rfl 0 dX7_isTerminal_4 rfl rfl ?_
    refine zr_iconst (pc' := 6) cx rfl dX7_isTerminal_5 ?_
    refine zr_icmp_ne (pc' := 9) cx rfl (tgt := 13) dX7_isTerminal_6 rfl ?_ ?_
    · refine zr_iconst (pc' := 14) cx rfl dX7_isTerminal_13 ?_
      exact zr_zretP cx dX7_isTerminal_14
    · refine zr_iconst (pc' := 10) cx rfl dX7_isTerminal_9 ?_
      refine zr_gotoS cx (tgt := 14) dX7_isTerminal_10 rfl ?_
      exact zr_zretP cx dX7_isTerminal_14
theorem mX7_isTerminal (l : Launch) (Y : zLy) (g : zSt) (a0 : Int)  : ∀ v, fX7_isTerminal g a0 = some v → zMt l yX7_isTerminal cX7_isTerminal 1 (some .boolean) 0 [.int (i32 a0)] Y g (zQi Y v g) := by
  intro v hv
  refine zmet_of RX7 rfl (by decide +kernel) (Nat.le_of_ble_eq_true rfl) ?_
  intro p e s m below meth c cx H locs ls hH hS hl
  exact wX7_isTerminal cx g a0  v hv H locs ls hH hS hl
theorem zc_X7_118 (cx : zCx Y p s m args meth c RX7 cc nl ret) (hpc : pc + 3 = pc') {g : zSt} {a0 : Int}  {fk : Int → Option ρ} (hR : 0 + 1 ≤ R.frames ∧ 8 + (1 + 11) + 40 * 0 ≤ R.locals) (hkn : k ≤ R.cells ∧ n ≤ R.slots) (hrest : (rest.map fun v => v.category).sum ≤ 8) (hdg : decode cc pc = .ok (.invokestatic 118, 3)) (kk : ∀ v : Int, zWo Y p l e R s m args below meth c nl k n kq g lv (.int (i32 v) :: rest) pc' (fk v)) : zWo Y p l e R s m args below meth c nl k n kq g lv (.int (i32 a0) :: rest) pc (zbd (fX7_isTerminal g a0) fk) := zr_callSiP cx (an := 1) (As := [.int (i32 a0)])  (mX7_isTerminal l Y g a0) (zG_S zw_747 zw_748 zw_101 zw_749) (by decide +kernel) hR hkn rfl rfl hrest hdg hpc kk
def fX7_isLantern (g : zSt) (a1 : Int) : Option Int :=
    (if i32 a1 < i32 0 then
    zck ((0 : Int) = 0 ∨ (0 : Int) = 1) (some 0)
    else
    (if i32 a1 < i32 (g.1 17 0) then
    zck ((1 : Int) = 0 ∨ (1 : Int) = 1) (some 1)
    else
    zck ((0 : Int) = 0 ∨ (0 : Int) = 1) (some 0)))
theorem wX7_isLantern (cx : zCx Y p s m args meth c RX7 cX7_isLantern 2 (some .boolean)) (g : zSt) (a1 : Int)  : zWo Y p l e (zrm 0) s m args below meth c 2 0 0 (fun v : Int => MQ below (zQi Y v g) args s 0 0 (zA Y)) g [(0, .ref (zad Y 0)), (1, .int (i32 a1))] ([]) 0 (fX7_isLantern g a1) := by
  unfold fX7_isLantern
  refine zr_iload_n (pc' := 1) cx rfl 1 dX7_isLantern_0 rfl rfl ?_
  refine zr_if_lt (pc' := 4) cx rfl (tgt := 22) dX7_isLantern_1 rfl ?_ ?_
  · refine zr_iconst (pc' := 23) cx rfl dX7_isLantern_22 ?_
    exact zr_zretP cx dX7_isLantern_23
  · refine zr_iload_n (pc' := 5) cx rfl 1 dX7_isLantern_4 rfl rfl ?_
    refine zr_aload_n (pc' := 6) cx rfl 0 dX7_isLantern_5 rfl rfl ?_
    refine zg_X7_12 (pc' := 9) cx rfl zkc_0 dX7_isLantern_6 ?_
    refine zg_X7_142 (pc' := 12) cx rfl (c2 := 17) zkc_10 rfl dX7_isLantern_9 ?_
    refine zg_X7_146 (pc' := 15) cx rfl zkc_17 dX7_isLantern_12 ?_
    refine zr_icmp_ge (pc' := 18) cx rfl (tgt := 22) dX7_isLantern_15 rfl ?_ ?_
    · refine zr_iconst (pc' := 23) cx rfl dX7_isLantern_22 ?_
      exact zr_zretP cx dX7_isLantern_23
    · refine zr_iconst (pc' := 19) cx rfl dX7_isLantern_18 ?_
      refine zr_gotoS cx (tgt := 23) dX7_isLantern_19 rfl ?_
      exact zr_zretP cx dX7_isLantern_23
theorem mX7_isLantern (l : Launch) (Y : zLy) (g : zSt) (a1 : Int)  : ∀ v, fX7_isLantern g a1 = some v → zMt l yX7_isLantern cX7_isLantern 2 (some .boolean) 0 [.ref (zad Y 0), .int (i32 a1)] Y g (zQi Y v g) := by
  intro v hv
  refine zmet_of RX7 rfl (by decide +kernel) (Nat.le_of_ble_eq_true rfl) ?_
  intro p e s m below meth c cx H locs ls hH hS hl
  exact wX7_isLantern cx g a1  v hv H locs ls hH hS hl
theorem zc_X7_156 (cx : zCx Y p s m args meth c RX7 cc nl ret) (hpc : pc + 3 = pc') {g : zSt} {a1 : Int}  {fk : Int → Option ρ} (hR : 0 + 1 ≤ R.frames ∧ 8 + (2 + 11) + 40 * 0 ≤ R.locals) (hkn : k ≤ R.cells ∧ n ≤ R.slots) (hrest : (rest.map fun v => v.category).sum ≤ 8) (hdg : decode cc pc = .ok (.invokevirtual 156, 3)) (kk : ∀ v : Int, zWo Y p l e R s m args below meth c nl k n kq g lv (.int (i32 v) :: rest) pc' (fk v)) : zWo Y p l e R s m args below meth c nl k n kq g lv (.int (i32 a1) :: .ref (zad Y 0) :: rest) pc (zbd (fX7_isLantern g a1) fk) := zr_callViP cx (an := 1) (As := [.int (i32 a1)]) 8 zkc_0 (by decide) rfl (mX7_isLantern l Y g a1) (zG_V zw_782 zw_784 zw_34 zw_101 zw_785) (by decide +kernel) hR hkn rfl rfl hrest hdg hpc kk
def fX7_isStrength (g : zSt) (a0 : Int) : Option Int :=
    (if i32 a0 < i32 1 then
    zck ((0 : Int) = 0 ∨ (0 : Int) = 1) (some 0)
    else
    (if i32 30 < i32 a0 then
    zck ((0 : Int) = 0 ∨ (0 : Int) = 1) (some 0)
    else
    zck ((1 : Int) = 0 ∨ (1 : Int) = 1) (some 1)))
theorem wX7_isStrength (cx : zCx Y p s m args meth c RX7 cX7_isStrength 1 (some .boolean)) (g : zSt) (a0 : Int)  : zWo Y p l e (zrm 0) s m args below meth c 1 0 0 (fun v : Int => MQ below (zQi Y v g) args s 0 0 (zA Y)) g [(0, .int (i32 a0))] ([]) 0 (fX7_isStrength g a0) := by
  unfold fX7_isStrength
  refine zr_iload_n (pc' := 1) cx rfl 0 dX7_isStrength_0 rfl rfl ?_
  refine zr_iconst (pc' := 2) cx rfl dX7_isStrength_1 ?_
  refine zr_icmp_lt (pc' := 5) cx rfl (tgt := 15) dX7_isStrength_2 rfl ?_ ?_
  · refine zr_iconst (pc' := 16) cx rfl dX7_isStrength_15 ?_
    exact zr_zretP cx dX7_isStrength_16
  · refine zr_iload_n (pc' := 6) cx rfl 0 dX7_isStrength_5 rfl rfl ?_
    refine zr_bipush (pc' := 8) cx rfl dX7_isStrength_6 (by decide +kernel) ?_
    refine zr_icmp_gt (pc' := 11) cx rfl (tgt := 15) dX7_isStrength_8 rfl ?_ ?_
    · refine zr_iconst (pc' := 16) cx rfl dX7_isStrength_15 ?_
      exact zr_zretP cx dX7_isStrength_16
    · refine zr_iconst (pc' := 12) cx rfl dX7_isStrength_11 ?_
      refine zr_gotoS cx (tgt := 16) dX7_isStrength_12 rfl ?_
      exact zr_zretP cx dX7_isStrength_16
theorem mX7_isStrength (l : Launch) (Y : zLy) (g : zSt) (a0 : Int)  : ∀ v, fX7_isStrength g a0 = some v → zMt l yX7_isStrength cX7_isStrength 1 (some .boolean) 0 [.int (i32 a0)] Y g (zQi Y v g) := by
  intro v hv
  refine zmet_of RX7 rfl (by decide +kernel) (Nat.le_of_ble_eq_true rfl) ?_
  intro p e s m below meth c cx H locs ls hH hS hl
  exact wX7_isStrength cx g a0  v hv H locs ls hH hS hl
theorem zc_X7_170 (cx : zCx Y p s m args meth c RX7 cc nl ret) (hpc : pc + 3 = pc') {g : zSt} {a0 : Int}  {fk : Int → Option ρ} (hR : 0 + 1 ≤ R.frames ∧ 8 + (1 + 11) + 40 * 0 ≤ R.locals) (hkn : k ≤ R.cells ∧ n ≤ R.slots) (hrest : (rest.map fun v => v.category).sum ≤ 8) (hdg : decode cc pc = .ok (.invokestatic 170, 3)) (kk : ∀ v : Int, zWo Y p l e R s m args below meth c nl k n kq g lv (.int (i32 v) :: rest) pc' (fk v)) : zWo Y p l e R s m args below meth c nl k n kq g lv (.int (i32 a0) :: rest) pc (zbd (fX7_isStrength g a0) fk) := zr_callSiP cx (an := 1) (As := [.int (i32 a0)])  (mX7_isStrength l Y g a0) (zG_S zw_799 zw_800 zw_101 zw_801) (by decide +kernel) hR hkn rfl rfl hrest hdg hpc kk
def fX7_isFault (g : zSt) (a1 : Int) : Option Int :=
    (if i32 a1 < i32 0 then
    zck ((0 : Int) = 0 ∨ (0 : Int) = 1) (some 0)
    else
    (if i32 a1 < i32 (g.1 21 0) then
    zck ((1 : Int) = 0 ∨ (1 : Int) = 1) (some 1)
    else
    zck ((0 : Int) = 0 ∨ (0 : Int) = 1) (some 0)))
theorem wX7_isFault (cx : zCx Y p s m args meth c RX7 cX7_isFault 2 (some .boolean)) (g : zSt) (a1 : Int)  : zWo Y p l e (zrm 0) s m args below meth c 2 0 0 (fun v : Int => MQ below (zQi Y v g) args s 0 0 (zA Y)) g [(0, .ref (zad Y 0)), (1, .int (i32 a1))] ([]) 0 (fX7_isFault g a1) := by
  unfold fX7_isFault
  refine zr_iload_n (pc' := 1) cx rfl 1 dX7_isFault_0 rfl rfl ?_
  refine zr_if_lt (pc' := 4) cx rfl (tgt := 22) dX7_isFault_1 rfl ?_ ?_
  · refine zr_iconst (pc' := 23) cx rfl dX7_isFault_22 ?_
    exact zr_zretP cx dX7_isFault_23
  · refine zr_iload_n (pc' := 5) cx rfl 1 dX7_isFault_4 rfl rfl ?_
    refine zr_aload_n (pc' := 6) cx rfl 0 dX7_isFault_5 rfl rfl ?_
    refine zg_X7_12 (pc' := 9) cx rfl zkc_0 dX7_isFault_6 ?_
    refine zg_X7_175 (pc' := 12) cx rfl (c2 := 21) zkc_10 rfl dX7_isFault_9 ?_
    refine zg_X7_179 (pc' := 15) cx rfl zkc_21 dX7_isFault_12 ?_
    refine zr_icmp_ge (pc' := 18) cx rfl (tgt := 22) dX7_isFault_15 rfl ?_ ?_
    · refine zr_iconst (pc' := 23) cx rfl dX7_isFault_22 ?_
      exact zr_zretP cx dX7_isFault_23
    · refine zr_iconst (pc' := 19) cx rfl dX7_isFault_18 ?_
      refine zr_gotoS cx (tgt := 23) dX7_isFault_19 rfl ?_
      exact zr_zretP cx dX7_isFault_23
theorem mX7_isFault (l : Launch) (Y : zLy) (g : zSt) (a1 : Int)  : ∀ v, fX7_isFault g a1 = some v → zMt l yX7_isFault cX7_isFault 2 (some .boolean) 0 [.ref (zad Y 0), .int (i32 a1)] Y g (zQi Y v g) := by
  intro v hv
  refine zmet_of RX7 rfl (by decide +kernel) (Nat.le_of_ble_eq_true rfl) ?_
  intro p e s m below meth c cx H locs ls hH hS hl
  exact wX7_isFault cx g a1  v hv H locs ls hH hS hl
theorem zc_X7_187 (cx : zCx Y p s m args meth c RX7 cc nl ret) (hpc : pc + 3 = pc') {g : zSt} {a1 : Int}  {fk : Int → Option ρ} (hR : 0 + 1 ≤ R.frames ∧ 8 + (2 + 11) + 40 * 0 ≤ R.locals) (hkn : k ≤ R.cells ∧ n ≤ R.slots) (hrest : (rest.map fun v => v.category).sum ≤ 8) (hdg : decode cc pc = .ok (.invokevirtual 187, 3)) (kk : ∀ v : Int, zWo Y p l e R s m args below meth c nl k n kq g lv (.int (i32 v) :: rest) pc' (fk v)) : zWo Y p l e R s m args below meth c nl k n kq g lv (.int (i32 a1) :: .ref (zad Y 0) :: rest) pc (zbd (fX7_isFault g a1) fk) := zr_callViP cx (an := 1) (As := [.int (i32 a1)]) 8 zkc_0 (by decide) rfl (mX7_isFault l Y g a1) (zG_V zw_815 zw_817 zw_35 zw_101 zw_818) (by decide +kernel) hR hkn rfl rfl hrest hdg hpc kk
def fX7_clearBuffer (g : zSt) : Option (Int × zSt) :=
    zlet (g.1 0 8) (fun x1 =>
    zlet (zwr g 0 8 0) (fun g2 =>
    some (x1, g2)))
theorem wX7_clearBuffer (cx : zCx Y p s m args meth c RX7 cX7_clearBuffer 2 (some .int)) (g : zSt)  : zWo Y p l e (zrm 0) s m args below meth c 2 0 0 (fun q : Int × zSt => MQ below (zQi Y q.1 q.2) args s 0 0 (zA Y)) g [(0, .ref (zad Y 0))] ([]) 0 (fX7_clearBuffer g) := by
  unfold fX7_clearBuffer
  refine zr_aload_n (pc' := 1) cx rfl 0 dX7_clearBuffer_0 rfl rfl ?_
  refine zg_X7_50 (pc' := 4) cx rfl zkc_0 dX7_clearBuffer_1 ?_
  refine zr_leti (fun x1 => ?_)
  refine zr_istore_n (pc' := 5) cx rfl (lv' := [(1, .int (i32 x1)), (0, .ref (zad Y 0))]) dX7_clearBuffer_4 rfl (by decide) rfl ?_
  refine zr_aload_n (pc' := 6) cx rfl 1 dX7_clearBuffer_5 rfl rfl ?_
  refine zr_iconst (pc' := 7) cx rfl dX7_clearBuffer_6 ?_
  refine zp_X7_50 (pc' := 10) cx rfl zkc_0 dX7_clearBuffer_7 ?_
  refine zr_letS (fun g2 => ?_)
  refine zr_iload_n (pc' := 11) cx rfl 0 dX7_clearBuffer_10 rfl rfl ?_
  exact zr_iretE cx dX7_clearBuffer_11
theorem mX7_clearBuffer (l : Launch) (Y : zLy) (g : zSt)  : ∀ v g2, fX7_clearBuffer g = some (v, g2) → zMt l yX7_clearBuffer cX7_clearBuffer 2 (some .int) 0 [.ref (zad Y 0)] Y g (zQi Y v g2) := by
  intro v g2 hv
  refine zmet_of RX7 rfl (by decide +kernel) (Nat.le_of_ble_eq_true rfl) ?_
  intro p e s m below meth c cx H locs ls hH hS hl
  exact wX7_clearBuffer cx g   (v, g2) hv H locs ls hH hS hl
def fX7_readSigns_p9  : Nat → zSt → Int → Option (Int × zSt)
  | 0, _, _ => none
  | fu + 1, g, a1 =>
    (if i32 a1 < i32 (g.1 0 8) then
    zck ((0 : Int) ≤ a1 ∧ a1 < 60) (
    zbe (fX4_takes g (g.1 320 (Int.toNat a1))) (fun v1 g2 =>
    (if i32 v1 = i32 0 then
    some (a1, g2)
    else
    fX7_readSigns_p9 fu g2 (a1 + 1))))
    else
    some ((g.1 0 8), g))
def fX7_readSigns (g : zSt) : Option (Int × zSt) :=
    zbd (fX4_restart g) (fun g3 =>
    fX7_readSigns_p9 zfu g3 0)
theorem wX7_readSigns_p9 (cx : zCx Y p s m args meth c RX7 cX7_readSigns 2 (some .int))   : ∀ (fu : Nat) (g : zSt) (a1 : Int), zWo Y p l e (zrm 4) s m args below meth c 2 0 0 (fun q : Int × zSt => MQ below (zQi Y q.1 q.2) args s 0 0 (zA Y)) g [(0, .ref (zad Y 0)), (1, .int (i32 a1))] ([]) 9 (fX7_readSigns_p9 fu g a1) := by
  intro fu
  induction fu with
  | zero => intro g a1; exact zr_none
  | succ fu ih =>
    intro g a1
    rw [fX7_readSigns_p9]
    refine zr_iload_n (pc' := 10) cx rfl 1 dX7_readSigns_9 rfl rfl ?_
    refine zr_aload_n (pc' := 11) cx rfl 0 dX7_readSigns_10 rfl rfl ?_
    refine zg_X7_50 (pc' := 14) cx rfl zkc_0 dX7_readSigns_11 ?_
    refine zr_icmp_ge (pc' := 17) cx rfl (tgt := 41) dX7_readSigns_14 rfl ?_ ?_
    · refine zr_aload_n (pc' := 42) cx rfl 0 dX7_readSigns_41 rfl rfl ?_
      refine zg_X7_50 (pc' := 45) cx rfl zkc_0 dX7_readSigns_42 ?_
      exact zr_iretE cx dX7_readSigns_45
    · refine zr_aload_n (pc' := 18) cx rfl 0 dX7_readSigns_17 rfl rfl ?_
      refine zg_X7_42 (pc' := 21) cx rfl zkc_0 dX7_readSigns_18 ?_
      refine zr_aload_n (pc' := 22) cx rfl 0 dX7_readSigns_21 rfl rfl ?_
      refine zg_X7_46 (pc' := 25) cx rfl zkc_0 dX7_readSigns_22 ?_
      refine zr_iload_n (pc' := 26) cx rfl 1 dX7_readSigns_25 rfl rfl ?_
      refine zr_iald (pc' := 27) cx rfl 15 zkc_320 (by decide) (L := 60) rfl dX7_readSigns_26 ?_
      refine zc_X7_333 (pc' := 30) cx rfl  ⟨Nat.le_of_ble_eq_true rfl, Nat.le_of_ble_eq_true rfl⟩ ⟨Nat.zero_le _, Nat.zero_le _⟩ (Nat.le_of_ble_eq_true rfl) dX7_readSigns_27 (fun v1 g2 => ?_)
      refine zr_if_ne (pc' := 33) cx rfl (tgt := 35) dX7_readSigns_30 rfl ?_ ?_
      · refine zr_iinc (pc' := 38) cx rfl (lv' := [(1, .int (i32 (a1 + 1))), (0, .ref (zad Y 0))]) 1 dX7_readSigns_35 rfl (by decide) rfl ?_
        refine zr_goto cx (tgt := 9) dX7_readSigns_38 rfl ?_
        refine zr_sub [1, 0] rfl ?_
        exact ih g2 (a1 + 1)
      · refine zr_iload_n (pc' := 34) cx rfl 1 dX7_readSigns_33 rfl rfl ?_
        exact zr_iretE cx dX7_readSigns_34
theorem wX7_readSigns (cx : zCx Y p s m args meth c RX7 cX7_readSigns 2 (some .int)) (g : zSt)  : zWo Y p l e (zrm 4) s m args below meth c 2 0 0 (fun q : Int × zSt => MQ below (zQi Y q.1 q.2) args s 0 0 (zA Y)) g [(0, .ref (zad Y 0))] ([]) 0 (fX7_readSigns g) := by
  unfold fX7_readSigns
  refine zr_aload_n (pc' := 1) cx rfl 0 dX7_readSigns_0 rfl rfl ?_
  refine zg_X7_42 (pc' := 4) cx rfl zkc_0 dX7_readSigns_1 ?_
  refine zc_X7_330 (pc' := 7) cx rfl  ⟨Nat.le_of_ble_eq_true rfl, Nat.le_of_ble_eq_true rfl⟩ ⟨Nat.zero_le _, Nat.zero_le _⟩ (Nat.le_of_ble_eq_true rfl) dX7_readSigns_4 (fun g3 => ?_)
  refine zr_iconst (pc' := 8) cx rfl dX7_readSigns_7 ?_
  refine zr_istore_n (pc' := 9) cx rfl (lv' := [(1, .int (i32 0)), (0, .ref (zad Y 0))]) dX7_readSigns_8 rfl (by decide) rfl ?_
  refine zr_sub [1, 0] rfl ?_
  exact wX7_readSigns_p9 cx zfu g3 0
theorem mX7_readSigns (l : Launch) (Y : zLy) (g : zSt)  : ∀ v g2, fX7_readSigns g = some (v, g2) → zMt l yX7_readSigns cX7_readSigns 2 (some .int) 4 [.ref (zad Y 0)] Y g (zQi Y v g2) := by
  intro v g2 hv
  refine zmet_of RX7 rfl (by decide +kernel) (Nat.le_of_ble_eq_true rfl) ?_
  intro p e s m below meth c cx H locs ls hH hS hl
  exact wX7_readSigns cx g   (v, g2) hv H locs ls hH hS hl
theorem zc_X7_220 (cx : zCx Y p s m args meth c RX7 cc nl ret) (hpc : pc + 3 = pc') {g : zSt}   {fk : Int → zSt → Option ρ} (hR : 4 + 1 ≤ R.frames ∧ 8 + (2 + 11) + 40 * 4 ≤ R.locals) (hkn : k ≤ R.cells ∧ n ≤ R.slots) (hrest : (rest.map fun v => v.category).sum ≤ 8) (hdg : decode cc pc = .ok (.invokevirtual 220, 3)) (kk : ∀ (v : Int) (g2 : zSt), zWo Y p l e R s m args below meth c nl k n kq g2 lv (.int (i32 v) :: rest) pc' (fk v g2)) : zWo Y p l e R s m args below meth c nl k n kq g lv (.ref (zad Y 0) :: rest) pc (zbe (fX7_readSigns g) fk) := zr_callViE cx (an := 0) (As := []) 8 zkc_0 (by decide) rfl (mX7_readSigns l Y g) (zG_V zw_385 zw_387 zw_0 zw_101 zw_388) (by decide +kernel) hR hkn rfl rfl hrest hdg hpc kk
def fX7_firstError (g : zSt) : Option (Int × zSt) :=
    zbe (fX7_readSigns g) (fun v1 g2 =>
    some (v1, g2))
theorem wX7_firstError (cx : zCx Y p s m args meth c RX7 cX7_firstError 1 (some .int)) (g : zSt)  : zWo Y p l e (zrm 5) s m args below meth c 1 0 0 (fun q : Int × zSt => MQ below (zQi Y q.1 q.2) args s 0 0 (zA Y)) g [(0, .ref (zad Y 0))] ([]) 0 (fX7_firstError g) := by
  unfold fX7_firstError
  refine zr_aload_n (pc' := 1) cx rfl 0 dX7_firstError_0 rfl rfl ?_
  refine zc_X7_220 (pc' := 4) cx rfl  ⟨Nat.le_of_ble_eq_true rfl, Nat.le_of_ble_eq_true rfl⟩ ⟨Nat.zero_le _, Nat.zero_le _⟩ (Nat.le_of_ble_eq_true rfl) dX7_firstError_1 (fun v1 g2 => ?_)
  exact zr_iretE cx dX7_firstError_4
theorem mX7_firstError (l : Launch) (Y : zLy) (g : zSt)  : ∀ v g2, fX7_firstError g = some (v, g2) → zMt l yX7_firstError cX7_firstError 1 (some .int) 5 [.ref (zad Y 0)] Y g (zQi Y v g2) := by
  intro v g2 hv
  refine zmet_of RX7 rfl (by decide +kernel) (Nat.le_of_ble_eq_true rfl) ?_
  intro p e s m below meth c cx H locs ls hH hS hl
  exact wX7_firstError cx g   (v, g2) hv H locs ls hH hS hl
def fX7_addPart (g : zSt) : Option (Int × zSt) :=
    zck ((0 : Int) ≤ 0 ∧ 0 < 3) (
    zlet (g.1 311 (Int.toNat 0)) (fun x1 =>
    zbd (fX7_isBox g x1) (fun v2 =>
    (if i32 v2 = i32 0 then
    zck ((0 : Int) = 0 ∨ (0 : Int) = 1) (some (0, g))
    else
    zbd (fX4_holdsBox g) (fun v3 =>
    (if i32 v3 = i32 0 then
    zbd (fX4_holdsLantern g) (fun v4 =>
    (if i32 v4 = i32 0 then
    (if i32 (g.1 21 0) < i32 8 then
    zck ((0 : Int) ≤ 1 ∧ 1 < 3) (
    zck ((0 : Int) ≤ 2 ∧ 2 < 3) (
    zbd (fX1_add g 21 x1 (g.1 311 (Int.toNat 1)) (g.1 311 (Int.toNat 2))) (fun g5 =>
    zbe (fX7_settle g5 10 200) (fun v6 g7 =>
    zck ((1 : Int) = 0 ∨ (1 : Int) = 1) (some (1, g7))))))
    else
    zck ((0 : Int) = 0 ∨ (0 : Int) = 1) (some (0, g)))
    else
    (if i32 (g.1 17 0) < i32 16 then
    zck ((0 : Int) ≤ 1 ∧ 1 < 3) (
    (if i32 (g.1 310 1) = i32 33 then
    zbd (fX3_add g 17 x1 (g.1 311 (Int.toNat 1)) 1) (fun g11 =>
    zbe (fX7_settle g11 10 200) (fun v12 g13 =>
    zck ((1 : Int) = 0 ∨ (1 : Int) = 1) (some (1, g13))))
    else
    zbd (fX3_add g 17 x1 (g.1 311 (Int.toNat 1)) 0) (fun g8 =>
    zbe (fX7_settle g8 10 200) (fun v9 g10 =>
    zck ((1 : Int) = 0 ∨ (1 : Int) = 1) (some (1, g10))))))
    else
    zck ((0 : Int) = 0 ∨ (0 : Int) = 1) (some (0, g)))))
    else
    (if i32 (g.1 11 0) < i32 12 then
    zck ((0 : Int) ≤ 1 ∧ 1 < 3) (
    zck ((0 : Int) ≤ 2 ∧ 2 < 3) (
    (if i32 (g.1 310 1) = i32 37 then
    zbd (fX0_add g 11 x1 (g.1 311 (Int.toNat 1)) (g.1 311 (Int.toNat 2)) 1) (fun g17 =>
    zbe (fX7_settle g17 10 200) (fun v18 g19 =>
    zck ((1 : Int) = 0 ∨ (1 : Int) = 1) (some (1, g19))))
    else
    zbd (fX0_add g 11 x1 (g.1 311 (Int.toNat 1)) (g.1 311 (Int.toNat 2)) 0) (fun g14 =>
    zbe (fX7_settle g14 10 200) (fun v15 g16 =>
    zck ((1 : Int) = 0 ∨ (1 : Int) = 1) (some (1, g16)))))))
    else
    zck ((0 : Int) = 0 ∨ (0 : Int) = 1) (some (0, g)))))))))
theorem wX7_addPart (cx : zCx Y p s m args meth c RX7 cX7_addPart 2 (some .boolean)) (g : zSt)  : zWo Y p l e (zrm 4) s m args below meth c 2 0 0 (fun q : Int × zSt => MQ below (zQi Y q.1 q.2) args s 0 0 (zA Y)) g [(0, .ref (zad Y 0))] ([]) 0 (fX7_addPart g) := by
  unfold fX7_addPart
  refine zr_aload_n (pc' := 1) cx rfl 0 dX7_addPart_0 rfl rfl ?_
  refine zg_X7_42 (pc' := 4) cx rfl zkc_0 dX7_addPart_1 ?_
  refine zg_X7_339 (pc' := 7) cx rfl (c2 := 311) zkc_310 rfl dX7_addPart_4 ?_
  refine zr_iconst (pc' := 8) cx rfl dX7_addPart_7 ?_
  refine zr_iald (pc' := 9) cx rfl 14 zkc_311 (by decide) (L := 3) rfl dX7_addPart_8 ?_
  refine zr_leti (fun x1 => ?_)
  refine zr_istore_n (pc' := 10) cx rfl (lv' := [(1, .int (i32 x1)), (0, .ref (zad Y 0))]) dX7_addPart_9 rfl (by decide) rfl ?_
  refine zr_aload_n (pc' := 11) cx rfl 1 dX7_addPart_10 rfl rfl ?_
  refine zr_iload_n (pc' := 12) cx rfl 0 dX7_addPart_11 rfl rfl ?_
  refine zc_X7_54 (pc' := 15) cx rfl  ⟨Nat.le_of_ble_eq_true rfl, Nat.le_of_ble_eq_true rfl⟩ ⟨Nat.zero_le _, Nat.zero_le _⟩ (Nat.le_of_ble_eq_true rfl) dX7_addPart_12 (fun v2 => ?_)
  refine zr_if_ne (pc' := 18) cx rfl (tgt := 20) dX7_addPart_15 rfl ?_ ?_
  · refine zr_aload_n (pc' := 21) cx rfl 1 dX7_addPart_20 rfl rfl ?_
    refine zg_X7_42 (pc' := 24) cx rfl zkc_0 dX7_addPart_21 ?_
    refine zc_X7_342 (pc' := 27) cx rfl  ⟨Nat.le_of_ble_eq_true rfl, Nat.le_of_ble_eq_true rfl⟩ ⟨Nat.zero_le _, Nat.zero_le _⟩ (Nat.le_of_ble_eq_true rfl) dX7_addPart_24 (fun v3 => ?_)
    refine zr_if_eq (pc' := 30) cx rfl (tgt := 96) dX7_addPart_27 rfl ?_ ?_
    · refine zr_aload_n (pc' := 97) cx rfl 1 dX7_addPart_96 rfl rfl ?_
      refine zg_X7_42 (pc' := 100) cx rfl zkc_0 dX7_addPart_97 ?_
      refine zc_X7_348 (pc' := 103) cx rfl  ⟨Nat.le_of_ble_eq_true rfl, Nat.le_of_ble_eq_true rfl⟩ ⟨Nat.zero_le _, Nat.zero_le _⟩ (Nat.le_of_ble_eq_true rfl) dX7_addPart_100 (fun v4 => ?_)
      refine zr_if_eq (pc' := 106) cx rfl (tgt := 163) dX7_addPart_103 rfl ?_ ?_
      · refine zr_aload_n (pc' := 164) cx rfl 1 dX7_addPart_163 rfl rfl ?_
        refine zg_X7_12 (pc' := 167) cx rfl zkc_0 dX7_addPart_164 ?_
        refine zg_X7_175 (pc' := 170) cx rfl (c2 := 21) zkc_10 rfl dX7_addPart_167 ?_
        refine zg_X7_179 (pc' := 173) cx rfl zkc_21 dX7_addPart_170 ?_
        refine zr_bipush (pc' := 175) cx rfl dX7_addPart_173 (by decide +kernel) ?_
        refine zr_icmp_lt (pc' := 178) cx rfl (tgt := 180) dX7_addPart_175 rfl ?_ ?_
        · refine zr_aload_n (pc' := 181) cx rfl 1 dX7_addPart_180 rfl rfl ?_
          refine zg_X7_12 (pc' := 184) cx rfl zkc_0 dX7_addPart_181 ?_
          refine zg_X7_175 (pc' := 187) cx rfl (c2 := 21) zkc_10 rfl dX7_addPart_184 ?_
          refine zr_iload_n (pc' := 188) cx rfl 0 dX7_addPart_187 rfl rfl ?_
          refine zr_aload_n (pc' := 189) cx rfl 1 dX7_addPart_188 rfl rfl ?_
          refine zg_X7_42 (pc' := 192) cx rfl zkc_0 dX7_addPart_189 ?_
          refine zg_X7_339 (pc' := 195) cx rfl (c2 := 311) zkc_310 rfl dX7_addPart_192 ?_
          refine zr_iconst (pc' := 196) cx rfl dX7_addPart_195 ?_
          refine zr_iald (pc' := 197) cx rfl 14 zkc_311 (by decide) (L := 3) rfl dX7_addPart_196 ?_
          refine zr_aload_n (pc' := 198) cx rfl 1 dX7_addPart_197 rfl rfl ?_
          refine zg_X7_42 (pc' := 201) cx rfl zkc_0 dX7_addPart_198 ?_
          refine zg_X7_339 (pc' := 204) cx rfl (c2 := 311) zkc_310 rfl dX7_addPart_201 ?_
          refine zr_iconst (pc' := 205) cx rfl dX7_addPart_204 ?_
          refine zr_iald (pc' := 206) cx rfl 14 zkc_311 (by decide) (L := 3) rfl dX7_addPart_205 ?_
          refine zc_X7_184 (pc' := 209) cx rfl zkc_21 ⟨Nat.le_of_ble_eq_true rfl, Nat.le_of_ble_eq_true rfl⟩ ⟨Nat.zero_le _, Nat.zero_le _⟩ (Nat.le_of_ble_eq_true rfl) dX7_addPart_206 (fun g5 => ?_)
          refine zr_aload_n (pc' := 210) cx rfl 1 dX7_addPart_209 rfl rfl ?_
          refine zg_X7_12 (pc' := 213) cx rfl zkc_0 dX7_addPart_210 ?_
          refine zr_aload_n (pc' := 214) cx rfl 1 dX7_addPart_213 rfl rfl ?_
          refine zg_X7_19 (pc' := 217) cx rfl zkc_0 dX7_addPart_214 ?_
          refine zc_X7_95 (pc' := 220) cx rfl zkc_10 zkc_200 ⟨Nat.le_of_ble_eq_true rfl, Nat.le_of_ble_eq_true rfl⟩ ⟨Nat.zero_le _, Nat.zero_le _⟩ (Nat.le_of_ble_eq_true rfl) dX7_addPart_217 (fun v6 g7 => ?_)
          refine zr_pop (pc' := 221) cx rfl dX7_addPart_220 rfl ?_
          refine zr_iconst (pc' := 222) cx rfl dX7_addPart_221 ?_
          exact zr_zretE cx dX7_addPart_222
        · refine zr_iconst (pc' := 179) cx rfl dX7_addPart_178 ?_
          exact zr_zretE cx dX7_addPart_179
      · refine zr_aload_n (pc' := 107) cx rfl 1 dX7_addPart_106 rfl rfl ?_
        refine zg_X7_12 (pc' := 110) cx rfl zkc_0 dX7_addPart_107 ?_
        refine zg_X7_142 (pc' := 113) cx rfl (c2 := 17) zkc_10 rfl dX7_addPart_110 ?_
        refine zg_X7_146 (pc' := 116) cx rfl zkc_17 dX7_addPart_113 ?_
        refine zr_bipush (pc' := 118) cx rfl dX7_addPart_116 (by decide +kernel) ?_
        refine zr_icmp_lt (pc' := 121) cx rfl (tgt := 123) dX7_addPart_118 rfl ?_ ?_
        · refine zr_aload_n (pc' := 124) cx rfl 1 dX7_addPart_123 rfl rfl ?_
          refine zg_X7_12 (pc' := 127) cx rfl zkc_0 dX7_addPart_124 ?_
          refine zg_X7_142 (pc' := 130) cx rfl (c2 := 17) zkc_10 rfl dX7_addPart_127 ?_
          refine zr_iload_n (pc' := 131) cx rfl 0 dX7_addPart_130 rfl rfl ?_
          refine zr_aload_n (pc' := 132) cx rfl 1 dX7_addPart_131 rfl rfl ?_
          refine zg_X7_42 (pc' := 135) cx rfl zkc_0 dX7_addPart_132 ?_
          refine zg_X7_339 (pc' := 138) cx rfl (c2 := 311) zkc_310 rfl dX7_addPart_135 ?_
          refine zr_iconst (pc' := 139) cx rfl dX7_addPart_138 ?_
          refine zr_iald (pc' := 140) cx rfl 14 zkc_311 (by decide) (L := 3) rfl dX7_addPart_139 ?_
          refine zr_aload_n (pc' := 141) cx rfl 1 dX7_addPart_140 rfl rfl ?_
          refine zg_X7_42 (pc' := 144) cx rfl zkc_0 dX7_addPart_141 ?_
          refine zg_X7_345 (pc' := 147) cx rfl zkc_310 dX7_addPart_144 ?_
          refine zr_bipush (pc' := 149) cx rfl dX7_addPart_147 (by decide +kernel) ?_
          refine zr_icmp_ne (pc' := 152) cx rfl (tgt := 156) dX7_addPart_149 rfl ?_ ?_
          · refine zr_iconst (pc' := 157) cx rfl dX7_addPart_156 ?_
            refine zc_X7_153 (pc' := 160) cx rfl zkc_17 ⟨Nat.le_of_ble_eq_true rfl, Nat.le_of_ble_eq_true rfl⟩ ⟨Nat.zero_le _, Nat.zero_le _⟩ (Nat.le_of_ble_eq_true rfl) dX7_addPart_157 (fun g8 => ?_)
            refine zr_goto cx (tgt := 209) dX7_addPart_160 rfl ?_
            refine zr_aload_n (pc' := 210) cx rfl 1 dX7_addPart_209 rfl rfl ?_
            refine zg_X7_12 (pc' := 213) cx rfl zkc_0 dX7_addPart_210 ?_
            refine zr_aload_n (pc' := 214) cx rfl 1 dX7_addPart_213 rfl rfl ?_
            refine zg_X7_19 (pc' := 217) cx rfl zkc_0 dX7_addPart_214 ?_
            refine zc_X7_95 (pc' := 220) cx rfl zkc_10 zkc_200 ⟨Nat.le_of_ble_eq_true rfl, Nat.le_of_ble_eq_true rfl⟩ ⟨Nat.zero_le _, Nat.zero_le _⟩ (Nat.le_of_ble_eq_true rfl) dX7_addPart_217 (fun v9 g10 => ?_)
            refine zr_pop (pc' := 221) cx rfl dX7_addPart_220 rfl ?_
            refine zr_iconst (pc' := 222) cx rfl dX7_addPart_221 ?_
            exact zr_zretE cx dX7_addPart_222
          · refine zr_iconst (pc' := 153) cx rfl dX7_addPart_152 ?_
            refine zr_gotoS cx (tgt := 157) dX7_addPart_153 rfl ?_
            refine zc_X7_153 (pc' := 160) cx rfl zkc_17 ⟨Nat.le_of_ble_eq_true rfl, Nat.le_of_ble_eq_true rfl⟩ ⟨Nat.zero_le _, Nat.zero_le _⟩ (Nat.le_of_ble_eq_true rfl) dX7_addPart_157 (fun g11 => ?_)
            refine zr_goto cx (tgt := 209) dX7_addPart_160 rfl ?_
            refine zr_aload_n (pc' := 210) cx rfl 1 dX7_addPart_209 rfl rfl ?_
            refine zg_X7_12 (pc' := 213) cx rfl zkc_0 dX7_addPart_210 ?_
            refine zr_aload_n (pc' := 214) cx rfl 1 dX7_addPart_213 rfl rfl ?_
            refine zg_X7_19 (pc' := 217) cx rfl zkc_0 dX7_addPart_214 ?_
            refine zc_X7_95 (pc' := 220) cx rfl zkc_10 zkc_200 ⟨Nat.le_of_ble_eq_true rfl, Nat.le_of_ble_eq_true rfl⟩ ⟨Nat.zero_le _, Nat.zero_le _⟩ (Nat.le_of_ble_eq_true rfl) dX7_addPart_217 (fun v12 g13 => ?_)
            refine zr_pop (pc' := 221) cx rfl dX7_addPart_220 rfl ?_
            refine zr_iconst (pc' := 222) cx rfl dX7_addPart_221 ?_
            exact zr_zretE cx dX7_addPart_222
        · refine zr_iconst (pc' := 122) cx rfl dX7_addPart_121 ?_
          exact zr_zretE cx dX7_addPart_122
    · refine zr_aload_n (pc' := 31) cx rfl 1 dX7_addPart_30 rfl rfl ?_
      refine zg_X7_12 (pc' := 34) cx rfl zkc_0 dX7_addPart_31 ?_
      refine zg_X7_73 (pc' := 37) cx rfl (c2 := 11) zkc_10 rfl dX7_addPart_34 ?_
      refine zg_X7_77 (pc' := 40) cx rfl zkc_11 dX7_addPart_37 ?_
      refine zr_bipush (pc' := 42) cx rfl dX7_addPart_40 (by decide +kernel) ?_
      refine zr_icmp_lt (pc' := 45) cx rfl (tgt := 47) dX7_addPart_42 rfl ?_ ?_
      · refine zr_aload_n (pc' := 48) cx rfl 1 dX7_addPart_47 rfl rfl ?_
        refine zg_X7_12 (pc' := 51) cx rfl zkc_0 dX7_addPart_48 ?_
        refine zg_X7_73 (pc' := 54) cx rfl (c2 := 11) zkc_10 rfl dX7_addPart_51 ?_
        refine zr_iload_n (pc' := 55) cx rfl 0 dX7_addPart_54 rfl rfl ?_
        refine zr_aload_n (pc' := 56) cx rfl 1 dX7_addPart_55 rfl rfl ?_
        refine zg_X7_42 (pc' := 59) cx rfl zkc_0 dX7_addPart_56 ?_
        refine zg_X7_339 (pc' := 62) cx rfl (c2 := 311) zkc_310 rfl dX7_addPart_59 ?_
        refine zr_iconst (pc' := 63) cx rfl dX7_addPart_62 ?_
        refine zr_iald (pc' := 64) cx rfl 14 zkc_311 (by decide) (L := 3) rfl dX7_addPart_63 ?_
        refine zr_aload_n (pc' := 65) cx rfl 1 dX7_addPart_64 rfl rfl ?_
        refine zg_X7_42 (pc' := 68) cx rfl zkc_0 dX7_addPart_65 ?_
        refine zg_X7_339 (pc' := 71) cx rfl (c2 := 311) zkc_310 rfl dX7_addPart_68 ?_
        refine zr_iconst (pc' := 72) cx rfl dX7_addPart_71 ?_
        refine zr_iald (pc' := 73) cx rfl 14 zkc_311 (by decide) (L := 3) rfl dX7_addPart_72 ?_
        refine zr_aload_n (pc' := 74) cx rfl 1 dX7_addPart_73 rfl rfl ?_
        refine zg_X7_42 (pc' := 77) cx rfl zkc_0 dX7_addPart_74 ?_
        refine zg_X7_345 (pc' := 80) cx rfl zkc_310 dX7_addPart_77 ?_
        refine zr_bipush (pc' := 82) cx rfl dX7_addPart_80 (by decide +kernel) ?_
        refine zr_icmp_ne (pc' := 85) cx rfl (tgt := 89) dX7_addPart_82 rfl ?_ ?_
        · refine zr_iconst (pc' := 90) cx rfl dX7_addPart_89 ?_
          refine zc_X7_91 (pc' := 93) cx rfl zkc_11 ⟨Nat.le_of_ble_eq_true rfl, Nat.le_of_ble_eq_true rfl⟩ ⟨Nat.zero_le _, Nat.zero_le _⟩ (Nat.le_of_ble_eq_true rfl) dX7_addPart_90 (fun g14 => ?_)
          refine zr_goto cx (tgt := 209) dX7_addPart_93 rfl ?_
          refine zr_aload_n (pc' := 210) cx rfl 1 dX7_addPart_209 rfl rfl ?_
          refine zg_X7_12 (pc' := 213) cx rfl zkc_0 dX7_addPart_210 ?_
          refine zr_aload_n (pc' := 214) cx rfl 1 dX7_addPart_213 rfl rfl ?_
          refine zg_X7_19 (pc' := 217) cx rfl zkc_0 dX7_addPart_214 ?_
          refine zc_X7_95 (pc' := 220) cx rfl zkc_10 zkc_200 ⟨Nat.le_of_ble_eq_true rfl, Nat.le_of_ble_eq_true rfl⟩ ⟨Nat.zero_le _, Nat.zero_le _⟩ (Nat.le_of_ble_eq_true rfl) dX7_addPart_217 (fun v15 g16 => ?_)
          refine zr_pop (pc' := 221) cx rfl dX7_addPart_220 rfl ?_
          refine zr_iconst (pc' := 222) cx rfl dX7_addPart_221 ?_
          exact zr_zretE cx dX7_addPart_222
        · refine zr_iconst (pc' := 86) cx rfl dX7_addPart_85 ?_
          refine zr_gotoS cx (tgt := 90) dX7_addPart_86 rfl ?_
          refine zc_X7_91 (pc' := 93) cx rfl zkc_11 ⟨Nat.le_of_ble_eq_true rfl, Nat.le_of_ble_eq_true rfl⟩ ⟨Nat.zero_le _, Nat.zero_le _⟩ (Nat.le_of_ble_eq_true rfl) dX7_addPart_90 (fun g17 => ?_)
          refine zr_goto cx (tgt := 209) dX7_addPart_93 rfl ?_
          refine zr_aload_n (pc' := 210) cx rfl 1 dX7_addPart_209 rfl rfl ?_
          refine zg_X7_12 (pc' := 213) cx rfl zkc_0 dX7_addPart_210 ?_
          refine zr_aload_n (pc' := 214) cx rfl 1 dX7_addPart_213 rfl rfl ?_
          refine zg_X7_19 (pc' := 217) cx rfl zkc_0 dX7_addPart_214 ?_
          refine zc_X7_95 (pc' := 220) cx rfl zkc_10 zkc_200 ⟨Nat.le_of_ble_eq_true rfl, Nat.le_of_ble_eq_true rfl⟩ ⟨Nat.zero_le _, Nat.zero_le _⟩ (Nat.le_of_ble_eq_true rfl) dX7_addPart_217 (fun v18 g19 => ?_)
          refine zr_pop (pc' := 221) cx rfl dX7_addPart_220 rfl ?_
          refine zr_iconst (pc' := 222) cx rfl dX7_addPart_221 ?_
          exact zr_zretE cx dX7_addPart_222
      · refine zr_iconst (pc' := 46) cx rfl dX7_addPart_45 ?_
        exact zr_zretE cx dX7_addPart_46
  · refine zr_iconst (pc' := 19) cx rfl dX7_addPart_18 ?_
    exact zr_zretE cx dX7_addPart_19
theorem mX7_addPart (l : Launch) (Y : zLy) (g : zSt)  : ∀ v g2, fX7_addPart g = some (v, g2) → zMt l yX7_addPart cX7_addPart 2 (some .boolean) 4 [.ref (zad Y 0)] Y g (zQi Y v g2) := by
  intro v g2 hv
  refine zmet_of RX7 rfl (by decide +kernel) (Nat.le_of_ble_eq_true rfl) ?_
  intro p e s m below meth c cx H locs ls hH hS hl
  exact wX7_addPart cx g   (v, g2) hv H locs ls hH hS hl
theorem zc_X7_336 (cx : zCx Y p s m args meth c RX7 cc nl ret) (hpc : pc + 3 = pc') {g : zSt}   {fk : Int → zSt → Option ρ} (hR : 4 + 1 ≤ R.frames ∧ 8 + (2 + 11) + 40 * 4 ≤ R.locals) (hkn : k ≤ R.cells ∧ n ≤ R.slots) (hrest : (rest.map fun v => v.category).sum ≤ 8) (hdg : decode cc pc = .ok (.invokevirtual 336, 3)) (kk : ∀ (v : Int) (g2 : zSt), zWo Y p l e R s m args below meth c nl k n kq g2 lv (.int (i32 v) :: rest) pc' (fk v g2)) : zWo Y p l e R s m args below meth c nl k n kq g lv (.ref (zad Y 0) :: rest) pc (zbe (fX7_addPart g) fk) := zr_callViE cx (an := 0) (As := []) 8 zkc_0 (by decide) rfl (mX7_addPart l Y g) (zG_V zw_859 zw_861 zw_37 zw_101 zw_862) (by decide +kernel) hR hkn rfl rfl hrest hdg hpc kk
def fX7_addParts_p11  : Nat → zSt → Int → Int → Option (Int × zSt)
  | 0, _, _, _ => none
  | fu + 1, g, a1, a2 =>
    (if i32 a2 < i32 (g.1 0 8) then
    zck ((0 : Int) ≤ a2 ∧ a2 < 60) (
    (if i32 (g.1 320 (Int.toNat a2)) = i32 59 then
    zbe (fX7_addPart g) (fun v5 g6 =>
    (if i32 v5 = i32 0 then
    some (a1, g6)
    else
    zck ((0 : Int) ≤ a2 ∧ a2 < 60) (
    zbe (fX4_takes g6 (g6.1 320 (Int.toNat a2))) (fun v7 g8 =>
    fX7_addParts_p11 fu g8 (a1 + 1) (a2 + 1)))))
    else
    zck ((0 : Int) ≤ a2 ∧ a2 < 60) (
    zbe (fX4_takes g (g.1 320 (Int.toNat a2))) (fun v3 g4 =>
    fX7_addParts_p11 fu g4 a1 (a2 + 1)))))
    else
    zbe (fX7_addPart g) (fun v1 g2 =>
    (if i32 v1 = i32 0 then
    some (a1, g2)
    else
    some ((a1 + 1), g2))))
def fX7_addParts (g : zSt) : Option (Int × zSt) :=
    zbd (fX4_restart g) (fun g9 =>
    fX7_addParts_p11 zfu g9 0 0)
theorem wX7_addParts_p11 (cx : zCx Y p s m args meth c RX7 cX7_addParts 3 (some .int))   : ∀ (fu : Nat) (g : zSt) (a1 : Int) (a2 : Int), zWo Y p l e (zrm 5) s m args below meth c 3 0 0 (fun q : Int × zSt => MQ below (zQi Y q.1 q.2) args s 0 0 (zA Y)) g [(0, .ref (zad Y 0)), (1, .int (i32 a1)), (2, .int (i32 a2))] ([]) 11 (fX7_addParts_p11 fu g a1 a2) := by
  intro fu
  induction fu with
  | zero => intro g a1 a2; exact zr_none
  | succ fu ih =>
    intro g a1 a2
    rw [fX7_addParts_p11]
    refine zr_iload_n (pc' := 12) cx rfl 2 dX7_addParts_11 rfl rfl ?_
    refine zr_aload_n (pc' := 13) cx rfl 0 dX7_addParts_12 rfl rfl ?_
    refine zg_X7_50 (pc' := 16) cx rfl zkc_0 dX7_addParts_13 ?_
    refine zr_icmp_ge (pc' := 19) cx rfl (tgt := 62) dX7_addParts_16 rfl ?_ ?_
    · refine zr_aload_n (pc' := 63) cx rfl 0 dX7_addParts_62 rfl rfl ?_
      refine zc_X7_336 (pc' := 66) cx rfl  ⟨Nat.le_of_ble_eq_true rfl, Nat.le_of_ble_eq_true rfl⟩ ⟨Nat.zero_le _, Nat.zero_le _⟩ (Nat.le_of_ble_eq_true rfl) dX7_addParts_63 (fun v1 g2 => ?_)
      refine zr_if_eq (pc' := 69) cx rfl (tgt := 75) dX7_addParts_66 rfl ?_ ?_
      · refine zr_iload_n (pc' := 76) cx rfl 1 dX7_addParts_75 rfl rfl ?_
        exact zr_iretE cx dX7_addParts_76
      · refine zr_iload_n (pc' := 70) cx rfl 1 dX7_addParts_69 rfl rfl ?_
        refine zr_iconst (pc' := 71) cx rfl dX7_addParts_70 ?_
        refine zr_iadd (pc' := 72) cx rfl dX7_addParts_71 ?_
        refine zr_gotoS cx (tgt := 76) dX7_addParts_72 rfl ?_
        exact zr_iretE cx dX7_addParts_76
    · refine zr_aload_n (pc' := 20) cx rfl 0 dX7_addParts_19 rfl rfl ?_
      refine zg_X7_46 (pc' := 23) cx rfl zkc_0 dX7_addParts_20 ?_
      refine zr_iload_n (pc' := 24) cx rfl 2 dX7_addParts_23 rfl rfl ?_
      refine zr_iald (pc' := 25) cx rfl 15 zkc_320 (by decide) (L := 60) rfl dX7_addParts_24 ?_
      refine zr_bipush (pc' := 27) cx rfl dX7_addParts_25 (by decide +kernel) ?_
      refine zr_icmp_ne (pc' := 30) cx rfl (tgt := 42) dX7_addParts_27 rfl ?_ ?_
      · refine zr_aload_n (pc' := 43) cx rfl 0 dX7_addParts_42 rfl rfl ?_
        refine zg_X7_42 (pc' := 46) cx rfl zkc_0 dX7_addParts_43 ?_
        refine zr_aload_n (pc' := 47) cx rfl 0 dX7_addParts_46 rfl rfl ?_
        refine zg_X7_46 (pc' := 50) cx rfl zkc_0 dX7_addParts_47 ?_
        refine zr_iload_n (pc' := 51) cx rfl 2 dX7_addParts_50 rfl rfl ?_
        refine zr_iald (pc' := 52) cx rfl 15 zkc_320 (by decide) (L := 60) rfl dX7_addParts_51 ?_
        refine zc_X7_333 (pc' := 55) cx rfl  ⟨Nat.le_of_ble_eq_true rfl, Nat.le_of_ble_eq_true rfl⟩ ⟨Nat.zero_le _, Nat.zero_le _⟩ (Nat.le_of_ble_eq_true rfl) dX7_addParts_52 (fun v3 g4 => ?_)
        refine zr_pop (pc' := 56) cx rfl dX7_addParts_55 rfl ?_
        refine zr_iinc (pc' := 59) cx rfl (lv' := [(2, .int (i32 (a2 + 1))), (0, .ref (zad Y 0)), (1, .int (i32 a1))]) 2 dX7_addParts_56 rfl (by decide) rfl ?_
        refine zr_goto cx (tgt := 11) dX7_addParts_59 rfl ?_
        refine zr_sub [1, 2, 0] rfl ?_
        exact ih g4 a1 (a2 + 1)
      · refine zr_aload_n (pc' := 31) cx rfl 0 dX7_addParts_30 rfl rfl ?_
        refine zc_X7_336 (pc' := 34) cx rfl  ⟨Nat.le_of_ble_eq_true rfl, Nat.le_of_ble_eq_true rfl⟩ ⟨Nat.zero_le _, Nat.zero_le _⟩ (Nat.le_of_ble_eq_true rfl) dX7_addParts_31 (fun v5 g6 => ?_)
        refine zr_if_ne (pc' := 37) cx rfl (tgt := 39) dX7_addParts_34 rfl ?_ ?_
        · refine zr_iinc (pc' := 42) cx rfl (lv' := [(1, .int (i32 (a1 + 1))), (0, .ref (zad Y 0)), (2, .int (i32 a2))]) 1 dX7_addParts_39 rfl (by decide) rfl ?_
          refine zr_aload_n (pc' := 43) cx rfl 1 dX7_addParts_42 rfl rfl ?_
          refine zg_X7_42 (pc' := 46) cx rfl zkc_0 dX7_addParts_43 ?_
          refine zr_aload_n (pc' := 47) cx rfl 1 dX7_addParts_46 rfl rfl ?_
          refine zg_X7_46 (pc' := 50) cx rfl zkc_0 dX7_addParts_47 ?_
          refine zr_iload_n (pc' := 51) cx rfl 2 dX7_addParts_50 rfl rfl ?_
          refine zr_iald (pc' := 52) cx rfl 15 zkc_320 (by decide) (L := 60) rfl dX7_addParts_51 ?_
          refine zc_X7_333 (pc' := 55) cx rfl  ⟨Nat.le_of_ble_eq_true rfl, Nat.le_of_ble_eq_true rfl⟩ ⟨Nat.zero_le _, Nat.zero_le _⟩ (Nat.le_of_ble_eq_true rfl) dX7_addParts_52 (fun v7 g8 => ?_)
          refine zr_pop (pc' := 56) cx rfl dX7_addParts_55 rfl ?_
          refine zr_iinc (pc' := 59) cx rfl (lv' := [(2, .int (i32 (a2 + 1))), (1, .int (i32 (a1 + 1))), (0, .ref (zad Y 0))]) 2 dX7_addParts_56 rfl (by decide) rfl ?_
          refine zr_goto cx (tgt := 11) dX7_addParts_59 rfl ?_
          refine zr_sub [2, 1, 0] rfl ?_
          exact ih g8 (a1 + 1) (a2 + 1)
        · refine zr_iload_n (pc' := 38) cx rfl 1 dX7_addParts_37 rfl rfl ?_
          exact zr_iretE cx dX7_addParts_38
theorem wX7_addParts (cx : zCx Y p s m args meth c RX7 cX7_addParts 3 (some .int)) (g : zSt)  : zWo Y p l e (zrm 5) s m args below meth c 3 0 0 (fun q : Int × zSt => MQ below (zQi Y q.1 q.2) args s 0 0 (zA Y)) g [(0, .ref (zad Y 0))] ([]) 0 (fX7_addParts g) := by
  unfold fX7_addParts
  refine zr_iconst (pc' := 1) cx rfl dX7_addParts_0 ?_
  refine zr_istore_n (pc' := 2) cx rfl (lv' := [(1, .int (i32 0)), (0, .ref (zad Y 0))]) dX7_addParts_1 rfl (by decide) rfl ?_
  refine zr_aload_n (pc' := 3) cx rfl 1 dX7_addParts_2 rfl rfl ?_
  refine zg_X7_42 (pc' := 6) cx rfl zkc_0 dX7_addParts_3 ?_
  refine zc_X7_330 (pc' := 9) cx rfl  ⟨Nat.le_of_ble_eq_true rfl, Nat.le_of_ble_eq_true rfl⟩ ⟨Nat.zero_le _, Nat.zero_le _⟩ (Nat.le_of_ble_eq_true rfl) dX7_addParts_6 (fun g9 => ?_)
  refine zr_iconst (pc' := 10) cx rfl dX7_addParts_9 ?_
  refine zr_istore_n (pc' := 11) cx rfl (lv' := [(2, .int (i32 0)), (1, .int (i32 0)), (0, .ref (zad Y 0))]) dX7_addParts_10 rfl (by decide) rfl ?_
  refine zr_sub [2, 1, 0] rfl ?_
  exact wX7_addParts_p11 cx zfu g9 0 0
theorem mX7_addParts (l : Launch) (Y : zLy) (g : zSt)  : ∀ v g2, fX7_addParts g = some (v, g2) → zMt l yX7_addParts cX7_addParts 3 (some .int) 5 [.ref (zad Y 0)] Y g (zQi Y v g2) := by
  intro v g2 hv
  refine zmet_of RX7 rfl (by decide +kernel) (Nat.le_of_ble_eq_true rfl) ?_
  intro p e s m below meth c cx H locs ls hH hS hl
  exact wX7_addParts cx g   (v, g2) hv H locs ls hH hS hl
theorem zc_X7_230 (cx : zCx Y p s m args meth c RX7 cc nl ret) (hpc : pc + 3 = pc') {g : zSt}   {fk : Int → zSt → Option ρ} (hR : 5 + 1 ≤ R.frames ∧ 8 + (3 + 11) + 40 * 5 ≤ R.locals) (hkn : k ≤ R.cells ∧ n ≤ R.slots) (hrest : (rest.map fun v => v.category).sum ≤ 8) (hdg : decode cc pc = .ok (.invokevirtual 230, 3)) (kk : ∀ (v : Int) (g2 : zSt), zWo Y p l e R s m args below meth c nl k n kq g2 lv (.int (i32 v) :: rest) pc' (fk v g2)) : zWo Y p l e R s m args below meth c nl k n kq g lv (.ref (zad Y 0) :: rest) pc (zbe (fX7_addParts g) fk) := zr_callViE cx (an := 0) (As := []) 8 zkc_0 (by decide) rfl (mX7_addParts l Y g) (zG_V zw_855 zw_857 zw_36 zw_101 zw_858) (by decide +kernel) hR hkn rfl rfl hrest hdg hpc kk
def fX7_lanternsBurningAt_p4 (g : zSt)  : Nat → Int → Int → Int → Option Int
  | 0, _, _, _ => none
  | fu + 1, a1, a2, a3 =>
    (if i32 a3 < i32 (g.1 17 0) then
    zck ((0 : Int) ≤ a3 ∧ a3 < 16) (
    (if i32 (g.1 18 (Int.toNat a3)) = i32 a1 then
    zck ((0 : Int) ≤ a3 ∧ a3 < 16) (
    (if i32 (g.1 206 (Int.toNat a3)) = i32 0 then
    fX7_lanternsBurningAt_p4 g fu a1 a2 (a3 + 1)
    else
    fX7_lanternsBurningAt_p4 g fu a1 (a2 + 1) (a3 + 1)))
    else
    fX7_lanternsBurningAt_p4 g fu a1 a2 (a3 + 1)))
    else
    some a2)
def fX7_lanternsBurningAt (g : zSt) (a1 : Int) : Option Int :=
    fX7_lanternsBurningAt_p4 g zfu a1 0 0
theorem wX7_lanternsBurningAt_p4 (cx : zCx Y p s m args meth c RX7 cX7_lanternsBurningAt 4 (some .int)) (g : zSt)   : ∀ (fu : Nat) (a1 : Int) (a2 : Int) (a3 : Int), zWo Y p l e (zrm 0) s m args below meth c 4 0 0 (fun v : Int => MQ below (zQi Y v g) args s 0 0 (zA Y)) g [(0, .ref (zad Y 0)), (1, .int (i32 a1)), (2, .int (i32 a2)), (3, .int (i32 a3))] ([]) 4 (fX7_lanternsBurningAt_p4 g fu a1 a2 a3) := by
  intro fu
  induction fu with
  | zero => intro a1 a2 a3; exact zr_none
  | succ fu ih =>
    intro a1 a2 a3
    rw [fX7_lanternsBurningAt_p4]
    refine zr_iload_n (pc' := 5) cx rfl 3 dX7_lanternsBurningAt_4 rfl rfl ?_
    refine zr_aload_n (pc' := 6) cx rfl 0 dX7_lanternsBurningAt_5 rfl rfl ?_
    refine zg_X7_12 (pc' := 9) cx rfl zkc_0 dX7_lanternsBurningAt_6 ?_
    refine zg_X7_142 (pc' := 12) cx rfl (c2 := 17) zkc_10 rfl dX7_lanternsBurningAt_9 ?_
    refine zg_X7_146 (pc' := 15) cx rfl zkc_17 dX7_lanternsBurningAt_12 ?_
    refine zr_icmp_ge (pc' := 18) cx rfl (tgt := 55) dX7_lanternsBurningAt_15 rfl ?_ ?_
    · refine zr_iload_n (pc' := 56) cx rfl 2 dX7_lanternsBurningAt_55 rfl rfl ?_
      exact zr_iretP cx dX7_lanternsBurningAt_56
    · refine zr_aload_n (pc' := 19) cx rfl 0 dX7_lanternsBurningAt_18 rfl rfl ?_
      refine zg_X7_12 (pc' := 22) cx rfl zkc_0 dX7_lanternsBurningAt_19 ?_
      refine zg_X7_142 (pc' := 25) cx rfl (c2 := 17) zkc_10 rfl dX7_lanternsBurningAt_22 ?_
      refine zg_X7_366 (pc' := 28) cx rfl (c2 := 18) zkc_17 rfl dX7_lanternsBurningAt_25 ?_
      refine zr_iload_n (pc' := 29) cx rfl 3 dX7_lanternsBurningAt_28 rfl rfl ?_
      refine zr_iald (pc' := 30) cx rfl 12 zkc_18 (by decide) (L := 16) rfl dX7_lanternsBurningAt_29 ?_
      refine zr_iload_n (pc' := 31) cx rfl 1 dX7_lanternsBurningAt_30 rfl rfl ?_
      refine zr_icmp_ne (pc' := 34) cx rfl (tgt := 49) dX7_lanternsBurningAt_31 rfl ?_ ?_
      · refine zr_iinc (pc' := 52) cx rfl (lv' := [(3, .int (i32 (a3 + 1))), (0, .ref (zad Y 0)), (1, .int (i32 a1)), (2, .int (i32 a2))]) 3 dX7_lanternsBurningAt_49 rfl (by decide) rfl ?_
        refine zr_goto cx (tgt := 4) dX7_lanternsBurningAt_52 rfl ?_
        refine zr_sub [1, 2, 3, 0] rfl ?_
        exact ih a1 a2 (a3 + 1)
      · refine zr_aload_n (pc' := 35) cx rfl 0 dX7_lanternsBurningAt_34 rfl rfl ?_
        refine zg_X7_19 (pc' := 38) cx rfl zkc_0 dX7_lanternsBurningAt_35 ?_
        refine zg_X7_161 (pc' := 41) cx rfl (c2 := 206) zkc_200 rfl dX7_lanternsBurningAt_38 ?_
        refine zr_iload_n (pc' := 42) cx rfl 3 dX7_lanternsBurningAt_41 rfl rfl ?_
        refine zr_bald (pc' := 43) cx rfl 22 zkc_206 (by decide) (L := 16) rfl dX7_lanternsBurningAt_42 ?_
        refine zr_if_eq (pc' := 46) cx rfl (tgt := 49) dX7_lanternsBurningAt_43 rfl ?_ ?_
        · refine zr_iinc (pc' := 52) cx rfl (lv' := [(3, .int (i32 (a3 + 1))), (0, .ref (zad Y 0)), (1, .int (i32 a1)), (2, .int (i32 a2))]) 3 dX7_lanternsBurningAt_49 rfl (by decide) rfl ?_
          refine zr_goto cx (tgt := 4) dX7_lanternsBurningAt_52 rfl ?_
          refine zr_sub [1, 2, 3, 0] rfl ?_
          exact ih a1 a2 (a3 + 1)
        · refine zr_iinc (pc' := 49) cx rfl (lv' := [(2, .int (i32 (a2 + 1))), (0, .ref (zad Y 0)), (1, .int (i32 a1)), (3, .int (i32 a3))]) 2 dX7_lanternsBurningAt_46 rfl (by decide) rfl ?_
          refine zr_iinc (pc' := 52) cx rfl (lv' := [(3, .int (i32 (a3 + 1))), (2, .int (i32 (a2 + 1))), (0, .ref (zad Y 0)), (1, .int (i32 a1))]) 3 dX7_lanternsBurningAt_49 rfl (by decide) rfl ?_
          refine zr_goto cx (tgt := 4) dX7_lanternsBurningAt_52 rfl ?_
          refine zr_sub [2, 3, 1, 0] rfl ?_
          exact ih a1 (a2 + 1) (a3 + 1)
theorem wX7_lanternsBurningAt (cx : zCx Y p s m args meth c RX7 cX7_lanternsBurningAt 4 (some .int)) (g : zSt) (a1 : Int)  : zWo Y p l e (zrm 0) s m args below meth c 4 0 0 (fun v : Int => MQ below (zQi Y v g) args s 0 0 (zA Y)) g [(0, .ref (zad Y 0)), (1, .int (i32 a1))] ([]) 0 (fX7_lanternsBurningAt g a1) := by
  unfold fX7_lanternsBurningAt
  refine zr_iconst (pc' := 1) cx rfl dX7_lanternsBurningAt_0 ?_
  refine zr_istore_n (pc' := 2) cx rfl (lv' := [(2, .int (i32 0)), (0, .ref (zad Y 0)), (1, .int (i32 a1))]) dX7_lanternsBurningAt_1 rfl (by decide) rfl ?_
  refine zr_iconst (pc' := 3) cx rfl dX7_lanternsBurningAt_2 ?_
  refine zr_istore_n (pc' := 4) cx rfl (lv' := [(3, .int (i32 0)), (2, .int (i32 0)), (0, .ref (zad Y 0)), (1, .int (i32 a1))]) dX7_lanternsBurningAt_3 rfl (by decide) rfl ?_
  refine zr_sub [2, 3, 1, 0] rfl ?_
  exact wX7_lanternsBurningAt_p4 cx g zfu a1 0 0
theorem mX7_lanternsBurningAt (l : Launch) (Y : zLy) (g : zSt) (a1 : Int)  : ∀ v, fX7_lanternsBurningAt g a1 = some v → zMt l yX7_lanternsBurningAt cX7_lanternsBurningAt 4 (some .int) 0 [.ref (zad Y 0), .int (i32 a1)] Y g (zQi Y v g) := by
  intro v hv
  refine zmet_of RX7 rfl (by decide +kernel) (Nat.le_of_ble_eq_true rfl) ?_
  intro p e s m below meth c cx H locs ls hH hS hl
  exact wX7_lanternsBurningAt cx g a1  v hv H locs ls hH hS hl
theorem zc_X7_360 (cx : zCx Y p s m args meth c RX7 cc nl ret) (hpc : pc + 3 = pc') {g : zSt} {a1 : Int}  {fk : Int → Option ρ} (hR : 0 + 1 ≤ R.frames ∧ 8 + (4 + 11) + 40 * 0 ≤ R.locals) (hkn : k ≤ R.cells ∧ n ≤ R.slots) (hrest : (rest.map fun v => v.category).sum ≤ 8) (hdg : decode cc pc = .ok (.invokevirtual 360, 3)) (kk : ∀ v : Int, zWo Y p l e R s m args below meth c nl k n kq g lv (.int (i32 v) :: rest) pc' (fk v)) : zWo Y p l e R s m args below meth c nl k n kq g lv (.int (i32 a1) :: .ref (zad Y 0) :: rest) pc (zbd (fX7_lanternsBurningAt g a1) fk) := zr_callViP cx (an := 1) (As := [.int (i32 a1)]) 8 zkc_0 (by decide) rfl (mX7_lanternsBurningAt l Y g a1) (zG_V zw_455 zw_457 zw_10 zw_101 zw_458) (by decide +kernel) hR hkn rfl rfl hrest hdg hpc kk
def fX7_unitsAt_p4 (g : zSt)  : Nat → Int → Int → Int → Option Int
  | 0, _, _, _ => none
  | fu + 1, a1, a2, a3 =>
    (if i32 a3 < i32 (g.1 17 0) then
    zck ((0 : Int) ≤ a3 ∧ a3 < 16) (
    (if i32 (g.1 18 (Int.toNat a3)) = i32 a1 then
    zck ((0 : Int) ≤ a3 ∧ a3 < 16) (
    zlet (a2 + (g.1 19 (Int.toNat a3))) (fun x1 =>
    fX7_unitsAt_p4 g fu a1 x1 (a3 + 1)))
    else
    fX7_unitsAt_p4 g fu a1 a2 (a3 + 1)))
    else
    some a2)
def fX7_unitsAt (g : zSt) (a1 : Int) : Option Int :=
    fX7_unitsAt_p4 g zfu a1 0 0
theorem wX7_unitsAt_p4 (cx : zCx Y p s m args meth c RX7 cX7_unitsAt 4 (some .int)) (g : zSt)   : ∀ (fu : Nat) (a1 : Int) (a2 : Int) (a3 : Int), zWo Y p l e (zrm 0) s m args below meth c 4 0 0 (fun v : Int => MQ below (zQi Y v g) args s 0 0 (zA Y)) g [(0, .ref (zad Y 0)), (1, .int (i32 a1)), (2, .int (i32 a2)), (3, .int (i32 a3))] ([]) 4 (fX7_unitsAt_p4 g fu a1 a2 a3) := by
  intro fu
  induction fu with
  | zero => intro a1 a2 a3; exact zr_none
  | succ fu ih =>
    intro a1 a2 a3
    rw [fX7_unitsAt_p4]
    refine zr_iload_n (pc' := 5) cx rfl 3 dX7_unitsAt_4 rfl rfl ?_
    refine zr_aload_n (pc' := 6) cx rfl 0 dX7_unitsAt_5 rfl rfl ?_
    refine zg_X7_12 (pc' := 9) cx rfl zkc_0 dX7_unitsAt_6 ?_
    refine zg_X7_142 (pc' := 12) cx rfl (c2 := 17) zkc_10 rfl dX7_unitsAt_9 ?_
    refine zg_X7_146 (pc' := 15) cx rfl zkc_17 dX7_unitsAt_12 ?_
    refine zr_icmp_ge (pc' := 18) cx rfl (tgt := 55) dX7_unitsAt_15 rfl ?_ ?_
    · refine zr_iload_n (pc' := 56) cx rfl 2 dX7_unitsAt_55 rfl rfl ?_
      exact zr_iretP cx dX7_unitsAt_56
    · refine zr_aload_n (pc' := 19) cx rfl 0 dX7_unitsAt_18 rfl rfl ?_
      refine zg_X7_12 (pc' := 22) cx rfl zkc_0 dX7_unitsAt_19 ?_
      refine zg_X7_142 (pc' := 25) cx rfl (c2 := 17) zkc_10 rfl dX7_unitsAt_22 ?_
      refine zg_X7_366 (pc' := 28) cx rfl (c2 := 18) zkc_17 rfl dX7_unitsAt_25 ?_
      refine zr_iload_n (pc' := 29) cx rfl 3 dX7_unitsAt_28 rfl rfl ?_
      refine zr_iald (pc' := 30) cx rfl 12 zkc_18 (by decide) (L := 16) rfl dX7_unitsAt_29 ?_
      refine zr_iload_n (pc' := 31) cx rfl 1 dX7_unitsAt_30 rfl rfl ?_
      refine zr_icmp_ne (pc' := 34) cx rfl (tgt := 49) dX7_unitsAt_31 rfl ?_ ?_
      · refine zr_iinc (pc' := 52) cx rfl (lv' := [(3, .int (i32 (a3 + 1))), (0, .ref (zad Y 0)), (1, .int (i32 a1)), (2, .int (i32 a2))]) 3 dX7_unitsAt_49 rfl (by decide) rfl ?_
        refine zr_goto cx (tgt := 4) dX7_unitsAt_52 rfl ?_
        refine zr_sub [1, 2, 3, 0] rfl ?_
        exact ih a1 a2 (a3 + 1)
      · refine zr_iload_n (pc' := 35) cx rfl 2 dX7_unitsAt_34 rfl rfl ?_
        refine zr_aload_n (pc' := 36) cx rfl 0 dX7_unitsAt_35 rfl rfl ?_
        refine zg_X7_12 (pc' := 39) cx rfl zkc_0 dX7_unitsAt_36 ?_
        refine zg_X7_142 (pc' := 42) cx rfl (c2 := 17) zkc_10 rfl dX7_unitsAt_39 ?_
        refine zg_X7_369 (pc' := 45) cx rfl (c2 := 19) zkc_17 rfl dX7_unitsAt_42 ?_
        refine zr_iload_n (pc' := 46) cx rfl 3 dX7_unitsAt_45 rfl rfl ?_
        refine zr_iald (pc' := 47) cx rfl 12 zkc_19 (by decide) (L := 16) rfl dX7_unitsAt_46 ?_
        refine zr_iadd (pc' := 48) cx rfl dX7_unitsAt_47 ?_
        refine zr_leti (fun x1 => ?_)
        refine zr_istore_n (pc' := 49) cx rfl (lv' := [(2, .int (i32 x1)), (0, .ref (zad Y 0)), (1, .int (i32 a1)), (3, .int (i32 a3))]) dX7_unitsAt_48 rfl (by decide) rfl ?_
        refine zr_iinc (pc' := 52) cx rfl (lv' := [(3, .int (i32 (a3 + 1))), (2, .int (i32 x1)), (0, .ref (zad Y 0)), (1, .int (i32 a1))]) 3 dX7_unitsAt_49 rfl (by decide) rfl ?_
        refine zr_goto cx (tgt := 4) dX7_unitsAt_52 rfl ?_
        refine zr_sub [2, 3, 1, 0] rfl ?_
        exact ih a1 x1 (a3 + 1)
theorem wX7_unitsAt (cx : zCx Y p s m args meth c RX7 cX7_unitsAt 4 (some .int)) (g : zSt) (a1 : Int)  : zWo Y p l e (zrm 0) s m args below meth c 4 0 0 (fun v : Int => MQ below (zQi Y v g) args s 0 0 (zA Y)) g [(0, .ref (zad Y 0)), (1, .int (i32 a1))] ([]) 0 (fX7_unitsAt g a1) := by
  unfold fX7_unitsAt
  refine zr_iconst (pc' := 1) cx rfl dX7_unitsAt_0 ?_
  refine zr_istore_n (pc' := 2) cx rfl (lv' := [(2, .int (i32 0)), (0, .ref (zad Y 0)), (1, .int (i32 a1))]) dX7_unitsAt_1 rfl (by decide) rfl ?_
  refine zr_iconst (pc' := 3) cx rfl dX7_unitsAt_2 ?_
  refine zr_istore_n (pc' := 4) cx rfl (lv' := [(3, .int (i32 0)), (2, .int (i32 0)), (0, .ref (zad Y 0)), (1, .int (i32 a1))]) dX7_unitsAt_3 rfl (by decide) rfl ?_
  refine zr_sub [2, 3, 1, 0] rfl ?_
  exact wX7_unitsAt_p4 cx g zfu a1 0 0
theorem mX7_unitsAt (l : Launch) (Y : zLy) (g : zSt) (a1 : Int)  : ∀ v, fX7_unitsAt g a1 = some v → zMt l yX7_unitsAt cX7_unitsAt 4 (some .int) 0 [.ref (zad Y 0), .int (i32 a1)] Y g (zQi Y v g) := by
  intro v hv
  refine zmet_of RX7 rfl (by decide +kernel) (Nat.le_of_ble_eq_true rfl) ?_
  intro p e s m below meth c cx H locs ls hH hS hl
  exact wX7_unitsAt cx g a1  v hv H locs ls hH hS hl
theorem zc_X7_363 (cx : zCx Y p s m args meth c RX7 cc nl ret) (hpc : pc + 3 = pc') {g : zSt} {a1 : Int}  {fk : Int → Option ρ} (hR : 0 + 1 ≤ R.frames ∧ 8 + (4 + 11) + 40 * 0 ≤ R.locals) (hkn : k ≤ R.cells ∧ n ≤ R.slots) (hrest : (rest.map fun v => v.category).sum ≤ 8) (hdg : decode cc pc = .ok (.invokevirtual 363, 3)) (kk : ∀ v : Int, zWo Y p l e R s m args below meth c nl k n kq g lv (.int (i32 v) :: rest) pc' (fk v)) : zWo Y p l e R s m args below meth c nl k n kq g lv (.int (i32 a1) :: .ref (zad Y 0) :: rest) pc (zbd (fX7_unitsAt g a1) fk) := zr_callViP cx (an := 1) (As := [.int (i32 a1)]) 8 zkc_0 (by decide) rfl (mX7_unitsAt l Y g a1) (zG_V zw_459 zw_461 zw_11 zw_101 zw_462) (by decide +kernel) hR hkn rfl rfl hrest hdg hpc kk
def fX7_boxProperty (g : zSt) (a1 : Int) (a2 : Int) : Option Int :=
    (if i32 a2 = i32 0 then
    zck ((0 : Int) ≤ a1 ∧ a1 < 12) (
    some (g.1 12 (Int.toNat a1)))
    else
    (if i32 a2 = i32 1 then
    (if i32 a1 = i32 0 then
    some (-1)
    else
    zck ((0 : Int) ≤ a1 ∧ a1 < 12) (
    zbd (fX7_oneIf g (g.1 13 (Int.toNat a1))) (fun v1 =>
    some v1)))
    else
    (if i32 a2 = i32 2 then
    (if i32 a1 = i32 0 then
    some (-1)
    else
    zck ((0 : Int) ≤ a1 ∧ a1 < 12) (
    zbd (fX7_oneIf g (g.1 14 (Int.toNat a1))) (fun v2 =>
    some v2)))
    else
    (if i32 a2 = i32 3 then
    zck ((0 : Int) ≤ a1 ∧ a1 < 12) (
    some (g.1 201 (Int.toNat a1)))
    else
    (if i32 a2 = i32 4 then
    zck ((0 : Int) ≤ a1 ∧ a1 < 12) (
    some (g.1 202 (Int.toNat a1)))
    else
    (if i32 a2 = i32 5 then
    zbd (fX7_lanternsBurningAt g a1) (fun v3 =>
    some v3)
    else
    zbd (fX7_unitsAt g a1) (fun v4 =>
    some v4)))))))
theorem wX7_boxProperty (cx : zCx Y p s m args meth c RX7 cX7_boxProperty 4 (some .int)) (g : zSt) (a1 : Int) (a2 : Int)  : zWo Y p l e (zrm 1) s m args below meth c 4 0 0 (fun v : Int => MQ below (zQi Y v g) args s 0 0 (zA Y)) g [(0, .ref (zad Y 0)), (1, .int (i32 a1)), (2, .int (i32 a2))] ([]) 0 (fX7_boxProperty g a1 a2) := by
  unfold fX7_boxProperty
  refine zr_aload_n (pc' := 1) cx rfl 0 dX7_boxProperty_0 rfl rfl ?_
  refine zg_X7_12 (pc' := 4) cx rfl zkc_0 dX7_boxProperty_1 ?_
  refine zg_X7_73 (pc' := 7) cx rfl (c2 := 11) zkc_10 rfl dX7_boxProperty_4 ?_
  refine zr_astore_n (pc' := 8) cx rfl (lv' := [(3, .ref (zad Y 11)), (0, .ref (zad Y 0)), (1, .int (i32 a1)), (2, .int (i32 a2))]) dX7_boxProperty_7 rfl (by decide) rfl ?_
  refine zr_iload_n (pc' := 9) cx rfl 3 dX7_boxProperty_8 rfl rfl ?_
  refine zr_case (fun h => ?_) (fun n0 => ?_)
  · refine zr_tabIn cx (off := 39) (tgt := 48) dX7_boxProperty_9 (v := 0) (by rw [h]; decide +kernel) (by decide) rfl rfl ?_
    refine zr_aload_n (pc' := 49) cx rfl 0 dX7_boxProperty_48 rfl rfl ?_
    refine zg_X7_351 (pc' := 52) cx rfl (c2 := 12) zkc_11 rfl dX7_boxProperty_49 ?_
    refine zr_iload_n (pc' := 53) cx rfl 2 dX7_boxProperty_52 rfl rfl ?_
    refine zr_iald (pc' := 54) cx rfl 10 zkc_12 (by decide) (L := 12) rfl dX7_boxProperty_53 ?_
    exact zr_iretP cx dX7_boxProperty_54
  · refine zr_case (fun h => ?_) (fun n1 => ?_)
    · refine zr_tabIn cx (off := 46) (tgt := 55) dX7_boxProperty_9 (v := 1) (by rw [h]; decide +kernel) (by decide) rfl rfl ?_
      refine zr_iload_n (pc' := 56) cx rfl 2 dX7_boxProperty_55 rfl rfl ?_
      refine zr_if_ne (pc' := 59) cx rfl (tgt := 63) dX7_boxProperty_56 rfl ?_ ?_
      · refine zr_aload_n (pc' := 64) cx rfl 0 dX7_boxProperty_63 rfl rfl ?_
        refine zg_X7_112 (pc' := 67) cx rfl (c2 := 13) zkc_11 rfl dX7_boxProperty_64 ?_
        refine zr_iload_n (pc' := 68) cx rfl 2 dX7_boxProperty_67 rfl rfl ?_
        refine zr_bald (pc' := 69) cx rfl 20 zkc_13 (by decide) (L := 12) rfl dX7_boxProperty_68 ?_
        refine zc_X7_108 (pc' := 72) cx rfl  ⟨Nat.le_of_ble_eq_true rfl, Nat.le_of_ble_eq_true rfl⟩ ⟨Nat.zero_le _, Nat.zero_le _⟩ (Nat.le_of_ble_eq_true rfl) dX7_boxProperty_69 (fun v1 => ?_)
        exact zr_iretP cx dX7_boxProperty_72
      · refine zr_iconst (pc' := 60) cx rfl dX7_boxProperty_59 ?_
        refine zr_gotoS cx (tgt := 72) dX7_boxProperty_60 rfl ?_
        exact zr_iretP cx dX7_boxProperty_72
    · refine zr_case (fun h => ?_) (fun n2 => ?_)
      · refine zr_tabIn cx (off := 64) (tgt := 73) dX7_boxProperty_9 (v := 2) (by rw [h]; decide +kernel) (by decide) rfl rfl ?_
        refine zr_iload_n (pc' := 74) cx rfl 2 dX7_boxProperty_73 rfl rfl ?_
        refine zr_if_ne (pc' := 77) cx rfl (tgt := 81) dX7_boxProperty_74 rfl ?_ ?_
        · refine zr_aload_n (pc' := 82) cx rfl 0 dX7_boxProperty_81 rfl rfl ?_
          refine zg_X7_104 (pc' := 85) cx rfl (c2 := 14) zkc_11 rfl dX7_boxProperty_82 ?_
          refine zr_iload_n (pc' := 86) cx rfl 2 dX7_boxProperty_85 rfl rfl ?_
          refine zr_bald (pc' := 87) cx rfl 20 zkc_14 (by decide) (L := 12) rfl dX7_boxProperty_86 ?_
          refine zc_X7_108 (pc' := 90) cx rfl  ⟨Nat.le_of_ble_eq_true rfl, Nat.le_of_ble_eq_true rfl⟩ ⟨Nat.zero_le _, Nat.zero_le _⟩ (Nat.le_of_ble_eq_true rfl) dX7_boxProperty_87 (fun v2 => ?_)
          exact zr_iretP cx dX7_boxProperty_90
        · refine zr_iconst (pc' := 78) cx rfl dX7_boxProperty_77 ?_
          refine zr_gotoS cx (tgt := 90) dX7_boxProperty_78 rfl ?_
          exact zr_iretP cx dX7_boxProperty_90
      · refine zr_case (fun h => ?_) (fun n3 => ?_)
        · refine zr_tabIn cx (off := 82) (tgt := 91) dX7_boxProperty_9 (v := 3) (by rw [h]; decide +kernel) (by decide) rfl rfl ?_
          refine zr_aload_n (pc' := 92) cx rfl 1 dX7_boxProperty_91 rfl rfl ?_
          refine zg_X7_19 (pc' := 95) cx rfl zkc_0 dX7_boxProperty_92 ?_
          refine zg_X7_354 (pc' := 98) cx rfl (c2 := 201) zkc_200 rfl dX7_boxProperty_95 ?_
          refine zr_iload_n (pc' := 99) cx rfl 2 dX7_boxProperty_98 rfl rfl ?_
          refine zr_iald (pc' := 100) cx rfl 10 zkc_201 (by decide) (L := 12) rfl dX7_boxProperty_99 ?_
          exact zr_iretP cx dX7_boxProperty_100
        · refine zr_case (fun h => ?_) (fun n4 => ?_)
          · refine zr_tabIn cx (off := 92) (tgt := 101) dX7_boxProperty_9 (v := 4) (by rw [h]; decide +kernel) (by decide) rfl rfl ?_
            refine zr_aload_n (pc' := 102) cx rfl 1 dX7_boxProperty_101 rfl rfl ?_
            refine zg_X7_19 (pc' := 105) cx rfl zkc_0 dX7_boxProperty_102 ?_
            refine zg_X7_357 (pc' := 108) cx rfl (c2 := 202) zkc_200 rfl dX7_boxProperty_105 ?_
            refine zr_iload_n (pc' := 109) cx rfl 2 dX7_boxProperty_108 rfl rfl ?_
            refine zr_iald (pc' := 110) cx rfl 10 zkc_202 (by decide) (L := 12) rfl dX7_boxProperty_109 ?_
            exact zr_iretP cx dX7_boxProperty_110
          · refine zr_case (fun h => ?_) (fun n5 => ?_)
            · refine zr_tabIn cx (off := 102) (tgt := 111) dX7_boxProperty_9 (v := 5) (by rw [h]; decide +kernel) (by decide) rfl rfl ?_
              refine zr_aload_n (pc' := 112) cx rfl 1 dX7_boxProperty_111 rfl rfl ?_
              refine zr_iload_n (pc' := 113) cx rfl 2 dX7_boxProperty_112 rfl rfl ?_
              refine zc_X7_360 (pc' := 116) cx rfl  ⟨Nat.le_of_ble_eq_true rfl, Nat.le_of_ble_eq_true rfl⟩ ⟨Nat.zero_le _, Nat.zero_le _⟩ (Nat.le_of_ble_eq_true rfl) dX7_boxProperty_113 (fun v3 => ?_)
              exact zr_iretP cx dX7_boxProperty_116
            · refine zr_tabOut cx (tgt := 117) dX7_boxProperty_9 (by have := zne n0 (k := 0) (by decide +kernel); have := zne n1 (k := 1) (by decide +kernel); have := zne n2 (k := 2) (by decide +kernel); have := zne n3 (k := 3) (by decide +kernel); have := zne n4 (k := 4) (by decide +kernel); have := zne n5 (k := 5) (by decide +kernel); omega) rfl ?_
              refine zr_aload_n (pc' := 118) cx rfl 1 dX7_boxProperty_117 rfl rfl ?_
              refine zr_iload_n (pc' := 119) cx rfl 2 dX7_boxProperty_118 rfl rfl ?_
              refine zc_X7_363 (pc' := 122) cx rfl  ⟨Nat.le_of_ble_eq_true rfl, Nat.le_of_ble_eq_true rfl⟩ ⟨Nat.zero_le _, Nat.zero_le _⟩ (Nat.le_of_ble_eq_true rfl) dX7_boxProperty_119 (fun v4 => ?_)
              exact zr_iretP cx dX7_boxProperty_122
theorem mX7_boxProperty (l : Launch) (Y : zLy) (g : zSt) (a1 : Int) (a2 : Int)  : ∀ v, fX7_boxProperty g a1 a2 = some v → zMt l yX7_boxProperty cX7_boxProperty 4 (some .int) 1 [.ref (zad Y 0), .int (i32 a1), .int (i32 a2)] Y g (zQi Y v g) := by
  intro v hv
  refine zmet_of RX7 rfl (by decide +kernel) (Nat.le_of_ble_eq_true rfl) ?_
  intro p e s m below meth c cx H locs ls hH hS hl
  exact wX7_boxProperty cx g a1 a2  v hv H locs ls hH hS hl
theorem zc_X7_244 (cx : zCx Y p s m args meth c RX7 cc nl ret) (hpc : pc + 3 = pc') {g : zSt} {a1 : Int} {a2 : Int}  {fk : Int → Option ρ} (hR : 1 + 1 ≤ R.frames ∧ 8 + (4 + 11) + 40 * 1 ≤ R.locals) (hkn : k ≤ R.cells ∧ n ≤ R.slots) (hrest : (rest.map fun v => v.category).sum ≤ 8) (hdg : decode cc pc = .ok (.invokevirtual 244, 3)) (kk : ∀ v : Int, zWo Y p l e R s m args below meth c nl k n kq g lv (.int (i32 v) :: rest) pc' (fk v)) : zWo Y p l e R s m args below meth c nl k n kq g lv (.int (i32 a2) :: .int (i32 a1) :: .ref (zad Y 0) :: rest) pc (zbd (fX7_boxProperty g a1 a2) fk) := zr_callViP cx (an := 2) (As := [.int (i32 a1), .int (i32 a2)]) 8 zkc_0 (by decide) rfl (mX7_boxProperty l Y g a1 a2) (zG_V zw_448 zw_450 zw_9 zw_101 zw_451) (by decide +kernel) hR hkn rfl rfl hrest hdg hpc kk
def fX7_strengthsAt_p5 (g : zSt)  : Nat → Int → Int → Int → Int → Option Int
  | 0, _, _, _, _ => none
  | fu + 1, a1, a2, a3, a4 =>
    (if i32 a4 < i32 (g.1 21 0) then
    zck ((0 : Int) ≤ a4 ∧ a4 < 9) (
    (if i32 (g.1 22 (Int.toNat a4)) = i32 a1 then
    zck ((0 : Int) ≤ a4 ∧ a4 < 9) (
    (if i32 (g.1 23 (Int.toNat a4)) = i32 a2 then
    zck ((0 : Int) ≤ a4 ∧ a4 < 9) (
    zlet (a3 + (g.1 24 (Int.toNat a4))) (fun x1 =>
    fX7_strengthsAt_p5 g fu a1 a2 x1 (a4 + 1)))
    else
    fX7_strengthsAt_p5 g fu a1 a2 a3 (a4 + 1)))
    else
    fX7_strengthsAt_p5 g fu a1 a2 a3 (a4 + 1)))
    else
    some a3)
def fX7_strengthsAt (g : zSt) (a1 : Int) (a2 : Int) : Option Int :=
    fX7_strengthsAt_p5 g zfu a1 a2 0 0
theorem wX7_strengthsAt_p5 (cx : zCx Y p s m args meth c RX7 cX7_strengthsAt 5 (some .int)) (g : zSt)   : ∀ (fu : Nat) (a1 : Int) (a2 : Int) (a3 : Int) (a4 : Int), zWo Y p l e (zrm 0) s m args below meth c 5 0 0 (fun v : Int => MQ below (zQi Y v g) args s 0 0 (zA Y)) g [(0, .ref (zad Y 0)), (1, .int (i32 a1)), (2, .int (i32 a2)), (3, .int (i32 a3)), (4, .int (i32 a4))] ([]) 5 (fX7_strengthsAt_p5 g fu a1 a2 a3 a4) := by
  intro fu
  induction fu with
  | zero => intro a1 a2 a3 a4; exact zr_none
  | succ fu ih =>
    intro a1 a2 a3 a4
    rw [fX7_strengthsAt_p5]
    refine zr_iload (pc' := 7) cx rfl 4 dX7_strengthsAt_5 rfl ?_
    refine zr_aload_n (pc' := 8) cx rfl 0 dX7_strengthsAt_7 rfl rfl ?_
    refine zg_X7_12 (pc' := 11) cx rfl zkc_0 dX7_strengthsAt_8 ?_
    refine zg_X7_175 (pc' := 14) cx rfl (c2 := 21) zkc_10 rfl dX7_strengthsAt_11 ?_
    refine zg_X7_179 (pc' := 17) cx rfl zkc_21 dX7_strengthsAt_14 ?_
    refine zr_icmp_ge (pc' := 20) cx rfl (tgt := 76) dX7_strengthsAt_17 rfl ?_ ?_
    · refine zr_iload_n (pc' := 77) cx rfl 3 dX7_strengthsAt_76 rfl rfl ?_
      exact zr_iretP cx dX7_strengthsAt_77
    · refine zr_aload_n (pc' := 21) cx rfl 0 dX7_strengthsAt_20 rfl rfl ?_
      refine zg_X7_12 (pc' := 24) cx rfl zkc_0 dX7_strengthsAt_21 ?_
      refine zg_X7_175 (pc' := 27) cx rfl (c2 := 21) zkc_10 rfl dX7_strengthsAt_24 ?_
      refine zg_X7_381 (pc' := 30) cx rfl (c2 := 22) zkc_21 rfl dX7_strengthsAt_27 ?_
      refine zr_iload (pc' := 32) cx rfl 4 dX7_strengthsAt_30 rfl ?_
      refine zr_iald (pc' := 33) cx rfl 13 zkc_22 (by decide) (L := 9) rfl dX7_strengthsAt_32 ?_
      refine zr_iload_n (pc' := 34) cx rfl 1 dX7_strengthsAt_33 rfl rfl ?_
      refine zr_icmp_ne (pc' := 37) cx rfl (tgt := 70) dX7_strengthsAt_34 rfl ?_ ?_
      · refine zr_iinc (pc' := 73) cx rfl (lv' := [(4, .int (i32 (a4 + 1))), (0, .ref (zad Y 0)), (1, .int (i32 a1)), (2, .int (i32 a2)), (3, .int (i32 a3))]) 4 dX7_strengthsAt_70 rfl (by decide) rfl ?_
        refine zr_goto cx (tgt := 5) dX7_strengthsAt_73 rfl ?_
        refine zr_sub [1, 2, 3, 4, 0] rfl ?_
        exact ih a1 a2 a3 (a4 + 1)
      · refine zr_aload_n (pc' := 38) cx rfl 0 dX7_strengthsAt_37 rfl rfl ?_
        refine zg_X7_12 (pc' := 41) cx rfl zkc_0 dX7_strengthsAt_38 ?_
        refine zg_X7_175 (pc' := 44) cx rfl (c2 := 21) zkc_10 rfl dX7_strengthsAt_41 ?_
        refine zg_X7_382 (pc' := 47) cx rfl (c2 := 23) zkc_21 rfl dX7_strengthsAt_44 ?_
        refine zr_iload (pc' := 49) cx rfl 4 dX7_strengthsAt_47 rfl ?_
        refine zr_iald (pc' := 50) cx rfl 13 zkc_23 (by decide) (L := 9) rfl dX7_strengthsAt_49 ?_
        refine zr_iload_n (pc' := 51) cx rfl 2 dX7_strengthsAt_50 rfl rfl ?_
        refine zr_icmp_ne (pc' := 54) cx rfl (tgt := 70) dX7_strengthsAt_51 rfl ?_ ?_
        · refine zr_iinc (pc' := 73) cx rfl (lv' := [(4, .int (i32 (a4 + 1))), (0, .ref (zad Y 0)), (1, .int (i32 a1)), (2, .int (i32 a2)), (3, .int (i32 a3))]) 4 dX7_strengthsAt_70 rfl (by decide) rfl ?_
          refine zr_goto cx (tgt := 5) dX7_strengthsAt_73 rfl ?_
          refine zr_sub [1, 2, 3, 4, 0] rfl ?_
          exact ih a1 a2 a3 (a4 + 1)
        · refine zr_iload_n (pc' := 55) cx rfl 3 dX7_strengthsAt_54 rfl rfl ?_
          refine zr_aload_n (pc' := 56) cx rfl 0 dX7_strengthsAt_55 rfl rfl ?_
          refine zg_X7_12 (pc' := 59) cx rfl zkc_0 dX7_strengthsAt_56 ?_
          refine zg_X7_175 (pc' := 62) cx rfl (c2 := 21) zkc_10 rfl dX7_strengthsAt_59 ?_
          refine zg_X7_192 (pc' := 65) cx rfl (c2 := 24) zkc_21 rfl dX7_strengthsAt_62 ?_
          refine zr_iload (pc' := 67) cx rfl 4 dX7_strengthsAt_65 rfl ?_
          refine zr_iald (pc' := 68) cx rfl 13 zkc_24 (by decide) (L := 9) rfl dX7_strengthsAt_67 ?_
          refine zr_iadd (pc' := 69) cx rfl dX7_strengthsAt_68 ?_
          refine zr_leti (fun x1 => ?_)
          refine zr_istore_n (pc' := 70) cx rfl (lv' := [(3, .int (i32 x1)), (0, .ref (zad Y 0)), (1, .int (i32 a1)), (2, .int (i32 a2)), (4, .int (i32 a4))]) dX7_strengthsAt_69 rfl (by decide) rfl ?_
          refine zr_iinc (pc' := 73) cx rfl (lv' := [(4, .int (i32 (a4 + 1))), (3, .int (i32 x1)), (0, .ref (zad Y 0)), (1, .int (i32 a1)), (2, .int (i32 a2))]) 4 dX7_strengthsAt_70 rfl (by decide) rfl ?_
          refine zr_goto cx (tgt := 5) dX7_strengthsAt_73 rfl ?_
          refine zr_sub [2, 3, 4, 1, 0] rfl ?_
          exact ih a1 a2 x1 (a4 + 1)
theorem wX7_strengthsAt (cx : zCx Y p s m args meth c RX7 cX7_strengthsAt 5 (some .int)) (g : zSt) (a1 : Int) (a2 : Int)  : zWo Y p l e (zrm 0) s m args below meth c 5 0 0 (fun v : Int => MQ below (zQi Y v g) args s 0 0 (zA Y)) g [(0, .ref (zad Y 0)), (1, .int (i32 a1)), (2, .int (i32 a2))] ([]) 0 (fX7_strengthsAt g a1 a2) := by
  unfold fX7_strengthsAt
  refine zr_iconst (pc' := 1) cx rfl dX7_strengthsAt_0 ?_
  refine zr_istore_n (pc' := 2) cx rfl (lv' := [(3, .int (i32 0)), (0, .ref (zad Y 0)), (1, .int (i32 a1)), (2, .int (i32 a2))]) dX7_strengthsAt_1 rfl (by decide) rfl ?_
  refine zr_iconst (pc' := 3) cx rfl dX7_strengthsAt_2 ?_
  refine zr_istore (pc' := 5) cx rfl (lv' := [(4, .int (i32 0)), (3, .int (i32 0)), (0, .ref (zad Y 0)), (1, .int (i32 a1)), (2, .int (i32 a2))]) dX7_strengthsAt_3 (by decide) rfl ?_
  refine zr_sub [2, 3, 4, 1, 0] rfl ?_
  exact wX7_strengthsAt_p5 cx g zfu a1 a2 0 0
theorem mX7_strengthsAt (l : Launch) (Y : zLy) (g : zSt) (a1 : Int) (a2 : Int)  : ∀ v, fX7_strengthsAt g a1 a2 = some v → zMt l yX7_strengthsAt cX7_strengthsAt 5 (some .int) 0 [.ref (zad Y 0), .int (i32 a1), .int (i32 a2)] Y g (zQi Y v g) := by
  intro v hv
  refine zmet_of RX7 rfl (by decide +kernel) (Nat.le_of_ble_eq_true rfl) ?_
  intro p e s m below meth c cx H locs ls hH hS hl
  exact wX7_strengthsAt cx g a1 a2  v hv H locs ls hH hS hl
theorem zc_X7_378 (cx : zCx Y p s m args meth c RX7 cc nl ret) (hpc : pc + 3 = pc') {g : zSt} {a1 : Int} {a2 : Int}  {fk : Int → Option ρ} (hR : 0 + 1 ≤ R.frames ∧ 8 + (5 + 11) + 40 * 0 ≤ R.locals) (hkn : k ≤ R.cells ∧ n ≤ R.slots) (hrest : (rest.map fun v => v.category).sum ≤ 8) (hdg : decode cc pc = .ok (.invokevirtual 378, 3)) (kk : ∀ v : Int, zWo Y p l e R s m args below meth c nl k n kq g lv (.int (i32 v) :: rest) pc' (fk v)) : zWo Y p l e R s m args below meth c nl k n kq g lv (.int (i32 a2) :: .int (i32 a1) :: .ref (zad Y 0) :: rest) pc (zbd (fX7_strengthsAt g a1 a2) fk) := zr_callViP cx (an := 2) (As := [.int (i32 a1), .int (i32 a2)]) 8 zkc_0 (by decide) rfl (mX7_strengthsAt l Y g a1 a2) (zG_V zw_476 zw_478 zw_13 zw_101 zw_479) (by decide +kernel) hR hkn rfl rfl hrest hdg hpc kk
def fX7_terminalProperty (g : zSt) (a1 : Int) (a2 : Int) (a3 : Int) : Option Int :=
    zlet ((2 * a1) + a2) (fun x1 =>
    (if i32 a3 = i32 0 then
    zck ((0 : Int) ≤ x1 ∧ x1 < 24) (
    some (g.1 205 (Int.toNat x1)))
    else
    (if i32 a3 = i32 1 then
    zbd (fX6_isAlive g 200 x1) (fun v2 =>
    zbd (fX7_oneIf g v2) (fun v3 =>
    some v3))
    else
    (if i32 a3 = i32 2 then
    zbd (fX6_current g 200 x1) (fun v4 =>
    some v4)
    else
    (if i32 a3 = i32 3 then
    (if i32 a1 = i32 0 then
    some (-1)
    else
    zck ((0 : Int) ≤ x1 ∧ x1 < 24) (
    some (g.1 15 (Int.toNat x1))))
    else
    (if i32 a3 = i32 4 then
    (if i32 a1 = i32 0 then
    some (-1)
    else
    zck ((0 : Int) ≤ x1 ∧ x1 < 24) (
    zbd (fX7_oneIf g (g.1 16 (Int.toNat x1))) (fun v5 =>
    some v5)))
    else
    zbd (fX7_strengthsAt g a1 a2) (fun v6 =>
    some v6)))))))
theorem wX7_terminalProperty (cx : zCx Y p s m args meth c RX7 cX7_terminalProperty 5 (some .int)) (g : zSt) (a1 : Int) (a2 : Int) (a3 : Int)  : zWo Y p l e (zrm 2) s m args below meth c 5 0 0 (fun v : Int => MQ below (zQi Y v g) args s 0 0 (zA Y)) g [(0, .ref (zad Y 0)), (1, .int (i32 a1)), (2, .int (i32 a2)), (3, .int (i32 a3))] ([]) 0 (fX7_terminalProperty g a1 a2 a3) := by
  unfold fX7_terminalProperty
  refine zr_iconst (pc' := 1) cx rfl dX7_terminalProperty_0 ?_
  refine zr_iload_n (pc' := 2) cx rfl 1 dX7_terminalProperty_1 rfl rfl ?_
  refine zr_imul (pc' := 3) cx rfl dX7_terminalProperty_2 ?_
  refine zr_iload_n (pc' := 4) cx rfl 2 dX7_terminalProperty_3 rfl rfl ?_
  refine zr_iadd (pc' := 5) cx rfl dX7_terminalProperty_4 ?_
  refine zr_leti (fun x1 => ?_)
  refine zr_istore (pc' := 7) cx rfl (lv' := [(4, .int (i32 x1)), (0, .ref (zad Y 0)), (1, .int (i32 a1)), (2, .int (i32 a2)), (3, .int (i32 a3))]) dX7_terminalProperty_5 (by decide) rfl ?_
  refine zr_iload_n (pc' := 8) cx rfl 4 dX7_terminalProperty_7 rfl rfl ?_
  refine zr_case (fun h => ?_) (fun n0 => ?_)
  · refine zr_tabIn cx (off := 36) (tgt := 44) dX7_terminalProperty_8 (v := 0) (by rw [h]; decide +kernel) (by decide) rfl rfl ?_
    refine zr_aload_n (pc' := 45) cx rfl 1 dX7_terminalProperty_44 rfl rfl ?_
    refine zg_X7_19 (pc' := 48) cx rfl zkc_0 dX7_terminalProperty_45 ?_
    refine zg_X7_372 (pc' := 51) cx rfl (c2 := 205) zkc_200 rfl dX7_terminalProperty_48 ?_
    refine zr_iload (pc' := 53) cx rfl 0 dX7_terminalProperty_51 rfl ?_
    refine zr_iald (pc' := 54) cx rfl 11 zkc_205 (by decide) (L := 24) rfl dX7_terminalProperty_53 ?_
    exact zr_iretP cx dX7_terminalProperty_54
  · refine zr_case (fun h => ?_) (fun n1 => ?_)
    · refine zr_tabIn cx (off := 47) (tgt := 55) dX7_terminalProperty_8 (v := 1) (by rw [h]; decide +kernel) (by decide) rfl rfl ?_
      refine zr_aload_n (pc' := 56) cx rfl 1 dX7_terminalProperty_55 rfl rfl ?_
      refine zg_X7_19 (pc' := 59) cx rfl zkc_0 dX7_terminalProperty_56 ?_
      refine zr_iload (pc' := 61) cx rfl 0 dX7_terminalProperty_59 rfl ?_
      refine zc_X7_375 (pc' := 64) cx rfl zkc_200 ⟨Nat.le_of_ble_eq_true rfl, Nat.le_of_ble_eq_true rfl⟩ ⟨Nat.zero_le _, Nat.zero_le _⟩ (Nat.le_of_ble_eq_true rfl) dX7_terminalProperty_61 (fun v2 => ?_)
      refine zc_X7_108 (pc' := 67) cx rfl  ⟨Nat.le_of_ble_eq_true rfl, Nat.le_of_ble_eq_true rfl⟩ ⟨Nat.zero_le _, Nat.zero_le _⟩ (Nat.le_of_ble_eq_true rfl) dX7_terminalProperty_64 (fun v3 => ?_)
      exact zr_iretP cx dX7_terminalProperty_67
    · refine zr_case (fun h => ?_) (fun n2 => ?_)
      · refine zr_tabIn cx (off := 60) (tgt := 68) dX7_terminalProperty_8 (v := 2) (by rw [h]; decide +kernel) (by decide) rfl rfl ?_
        refine zr_aload_n (pc' := 69) cx rfl 1 dX7_terminalProperty_68 rfl rfl ?_
        refine zg_X7_19 (pc' := 72) cx rfl zkc_0 dX7_terminalProperty_69 ?_
        refine zr_iload (pc' := 74) cx rfl 0 dX7_terminalProperty_72 rfl ?_
        refine zc_X7_296 (pc' := 77) cx rfl zkc_200 ⟨Nat.le_of_ble_eq_true rfl, Nat.le_of_ble_eq_true rfl⟩ ⟨Nat.zero_le _, Nat.zero_le _⟩ (Nat.le_of_ble_eq_true rfl) dX7_terminalProperty_74 (fun v4 => ?_)
        exact zr_iretP cx dX7_terminalProperty_77
      · refine zr_case (fun h => ?_) (fun n3 => ?_)
        · refine zr_tabIn cx (off := 70) (tgt := 78) dX7_terminalProperty_8 (v := 3) (by rw [h]; decide +kernel) (by decide) rfl rfl ?_
          refine zr_iload_n (pc' := 79) cx rfl 2 dX7_terminalProperty_78 rfl rfl ?_
          refine zr_if_ne (pc' := 82) cx rfl (tgt := 86) dX7_terminalProperty_79 rfl ?_ ?_
          · refine zr_aload_n (pc' := 87) cx rfl 1 dX7_terminalProperty_86 rfl rfl ?_
            refine zg_X7_12 (pc' := 90) cx rfl zkc_0 dX7_terminalProperty_87 ?_
            refine zg_X7_73 (pc' := 93) cx rfl (c2 := 11) zkc_10 rfl dX7_terminalProperty_90 ?_
            refine zg_X7_128 (pc' := 96) cx rfl (c2 := 15) zkc_11 rfl dX7_terminalProperty_93 ?_
            refine zr_iload (pc' := 98) cx rfl 0 dX7_terminalProperty_96 rfl ?_
            refine zr_iald (pc' := 99) cx rfl 11 zkc_15 (by decide) (L := 24) rfl dX7_terminalProperty_98 ?_
            exact zr_iretP cx dX7_terminalProperty_99
          · refine zr_iconst (pc' := 83) cx rfl dX7_terminalProperty_82 ?_
            refine zr_gotoS cx (tgt := 99) dX7_terminalProperty_83 rfl ?_
            exact zr_iretP cx dX7_terminalProperty_99
        · refine zr_case (fun h => ?_) (fun n4 => ?_)
          · refine zr_tabIn cx (off := 92) (tgt := 100) dX7_terminalProperty_8 (v := 4) (by rw [h]; decide +kernel) (by decide) rfl rfl ?_
            refine zr_iload_n (pc' := 101) cx rfl 2 dX7_terminalProperty_100 rfl rfl ?_
            refine zr_if_ne (pc' := 104) cx rfl (tgt := 108) dX7_terminalProperty_101 rfl ?_ ?_
            · refine zr_aload_n (pc' := 109) cx rfl 1 dX7_terminalProperty_108 rfl rfl ?_
              refine zg_X7_12 (pc' := 112) cx rfl zkc_0 dX7_terminalProperty_109 ?_
              refine zg_X7_73 (pc' := 115) cx rfl (c2 := 11) zkc_10 rfl dX7_terminalProperty_112 ?_
              refine zg_X7_131 (pc' := 118) cx rfl (c2 := 16) zkc_11 rfl dX7_terminalProperty_115 ?_
              refine zr_iload (pc' := 120) cx rfl 0 dX7_terminalProperty_118 rfl ?_
              refine zr_bald (pc' := 121) cx rfl 21 zkc_16 (by decide) (L := 24) rfl dX7_terminalProperty_120 ?_
              refine zc_X7_108 (pc' := 124) cx rfl  ⟨Nat.le_of_ble_eq_true rfl, Nat.le_of_ble_eq_true rfl⟩ ⟨Nat.zero_le _, Nat.zero_le _⟩ (Nat.le_of_ble_eq_true rfl) dX7_terminalProperty_121 (fun v5 => ?_)
              exact zr_iretP cx dX7_terminalProperty_124
            · refine zr_iconst (pc' := 105) cx rfl dX7_terminalProperty_104 ?_
              refine zr_gotoS cx (tgt := 124) dX7_terminalProperty_105 rfl ?_
              exact zr_iretP cx dX7_terminalProperty_124
          · refine zr_tabOut cx (tgt := 125) dX7_terminalProperty_8 (by have := zne n0 (k := 0) (by decide +kernel); have := zne n1 (k := 1) (by decide +kernel); have := zne n2 (k := 2) (by decide +kernel); have := zne n3 (k := 3) (by decide +kernel); have := zne n4 (k := 4) (by decide +kernel); omega) rfl ?_
            refine zr_aload_n (pc' := 126) cx rfl 1 dX7_terminalProperty_125 rfl rfl ?_
            refine zr_iload_n (pc' := 127) cx rfl 2 dX7_terminalProperty_126 rfl rfl ?_
            refine zr_iload_n (pc' := 128) cx rfl 3 dX7_terminalProperty_127 rfl rfl ?_
            refine zc_X7_378 (pc' := 131) cx rfl  ⟨Nat.le_of_ble_eq_true rfl, Nat.le_of_ble_eq_true rfl⟩ ⟨Nat.zero_le _, Nat.zero_le _⟩ (Nat.le_of_ble_eq_true rfl) dX7_terminalProperty_128 (fun v6 => ?_)
            exact zr_iretP cx dX7_terminalProperty_131
theorem mX7_terminalProperty (l : Launch) (Y : zLy) (g : zSt) (a1 : Int) (a2 : Int) (a3 : Int)  : ∀ v, fX7_terminalProperty g a1 a2 a3 = some v → zMt l yX7_terminalProperty cX7_terminalProperty 5 (some .int) 2 [.ref (zad Y 0), .int (i32 a1), .int (i32 a2), .int (i32 a3)] Y g (zQi Y v g) := by
  intro v hv
  refine zmet_of RX7 rfl (by decide +kernel) (Nat.le_of_ble_eq_true rfl) ?_
  intro p e s m below meth c cx H locs ls hH hS hl
  exact wX7_terminalProperty cx g a1 a2 a3  v hv H locs ls hH hS hl
theorem zc_X7_250 (cx : zCx Y p s m args meth c RX7 cc nl ret) (hpc : pc + 3 = pc') {g : zSt} {a1 : Int} {a2 : Int} {a3 : Int}  {fk : Int → Option ρ} (hR : 2 + 1 ≤ R.frames ∧ 8 + (5 + 11) + 40 * 2 ≤ R.locals) (hkn : k ≤ R.cells ∧ n ≤ R.slots) (hrest : (rest.map fun v => v.category).sum ≤ 8) (hdg : decode cc pc = .ok (.invokevirtual 250, 3)) (kk : ∀ v : Int, zWo Y p l e R s m args below meth c nl k n kq g lv (.int (i32 v) :: rest) pc' (fk v)) : zWo Y p l e R s m args below meth c nl k n kq g lv (.int (i32 a3) :: .int (i32 a2) :: .int (i32 a1) :: .ref (zad Y 0) :: rest) pc (zbd (fX7_terminalProperty g a1 a2 a3) fk) := zr_callViP cx (an := 3) (As := [.int (i32 a1), .int (i32 a2), .int (i32 a3)]) 8 zkc_0 (by decide) rfl (mX7_terminalProperty l Y g a1 a2 a3) (zG_V zw_463 zw_465 zw_12 zw_101 zw_466) (by decide +kernel) hR hkn rfl rfl hrest hdg hpc kk
def fX7_darkReason (g : zSt) (a1 : Int) : Option Int :=
    zck ((0 : Int) ≤ a1 ∧ a1 < 16) (
    zlet (g.1 18 (Int.toNat a1)) (fun x1 =>
    zck ((0 : Int) ≤ a1 ∧ a1 < 16) (
    (if i32 (g.1 206 (Int.toNat a1)) = i32 0 then
    zck ((0 : Int) ≤ x1 ∧ x1 < 12) (
    (if i32 (g.1 203 (Int.toNat x1)) = i32 0 then
    zck ((0 : Int) ≤ (2 * x1) ∧ (2 * x1) < 24) (
    (if i32 (g.1 204 (Int.toNat (2 * x1))) = i32 0 then
    zck ((0 : Int) ≤ ((2 * x1) + 1) ∧ ((2 * x1) + 1) < 24) (
    (if i32 (g.1 204 (Int.toNat ((2 * x1) + 1))) = i32 0 then
    some 4
    else
    some 3))
    else
    some 2))
    else
    some 1))
    else
    some 0))))
theorem wX7_darkReason (cx : zCx Y p s m args meth c RX7 cX7_darkReason 3 (some .int)) (g : zSt) (a1 : Int)  : zWo Y p l e (zrm 0) s m args below meth c 3 0 0 (fun v : Int => MQ below (zQi Y v g) args s 0 0 (zA Y)) g [(0, .ref (zad Y 0)), (1, .int (i32 a1))] ([]) 0 (fX7_darkReason g a1) := by
  unfold fX7_darkReason
  refine zr_aload_n (pc' := 1) cx rfl 0 dX7_darkReason_0 rfl rfl ?_
  refine zg_X7_12 (pc' := 4) cx rfl zkc_0 dX7_darkReason_1 ?_
  refine zg_X7_142 (pc' := 7) cx rfl (c2 := 17) zkc_10 rfl dX7_darkReason_4 ?_
  refine zg_X7_366 (pc' := 10) cx rfl (c2 := 18) zkc_17 rfl dX7_darkReason_7 ?_
  refine zr_iload_n (pc' := 11) cx rfl 1 dX7_darkReason_10 rfl rfl ?_
  refine zr_iald (pc' := 12) cx rfl 12 zkc_18 (by decide) (L := 16) rfl dX7_darkReason_11 ?_
  refine zr_leti (fun x1 => ?_)
  refine zr_istore_n (pc' := 13) cx rfl (lv' := [(2, .int (i32 x1)), (0, .ref (zad Y 0)), (1, .int (i32 a1))]) dX7_darkReason_12 rfl (by decide) rfl ?_
  refine zr_aload_n (pc' := 14) cx rfl 1 dX7_darkReason_13 rfl rfl ?_
  refine zg_X7_19 (pc' := 17) cx rfl zkc_0 dX7_darkReason_14 ?_
  refine zg_X7_161 (pc' := 20) cx rfl (c2 := 206) zkc_200 rfl dX7_darkReason_17 ?_
  refine zr_iload_n (pc' := 21) cx rfl 2 dX7_darkReason_20 rfl rfl ?_
  refine zr_bald (pc' := 22) cx rfl 22 zkc_206 (by decide) (L := 16) rfl dX7_darkReason_21 ?_
  refine zr_if_eq (pc' := 25) cx rfl (tgt := 27) dX7_darkReason_22 rfl ?_ ?_
  · refine zr_aload_n (pc' := 28) cx rfl 1 dX7_darkReason_27 rfl rfl ?_
    refine zg_X7_19 (pc' := 31) cx rfl zkc_0 dX7_darkReason_28 ?_
    refine zg_X7_391 (pc' := 34) cx rfl (c2 := 203) zkc_200 rfl dX7_darkReason_31 ?_
    refine zr_iload_n (pc' := 35) cx rfl 0 dX7_darkReason_34 rfl rfl ?_
    refine zr_bald (pc' := 36) cx rfl 20 zkc_203 (by decide) (L := 12) rfl dX7_darkReason_35 ?_
    refine zr_if_eq (pc' := 39) cx rfl (tgt := 41) dX7_darkReason_36 rfl ?_ ?_
    · refine zr_aload_n (pc' := 42) cx rfl 1 dX7_darkReason_41 rfl rfl ?_
      refine zg_X7_19 (pc' := 45) cx rfl zkc_0 dX7_darkReason_42 ?_
      refine zg_X7_394 (pc' := 48) cx rfl (c2 := 204) zkc_200 rfl dX7_darkReason_45 ?_
      refine zr_iconst (pc' := 49) cx rfl dX7_darkReason_48 ?_
      refine zr_iload_n (pc' := 50) cx rfl 0 dX7_darkReason_49 rfl rfl ?_
      refine zr_imul (pc' := 51) cx rfl dX7_darkReason_50 ?_
      refine zr_bald (pc' := 52) cx rfl 21 zkc_204 (by decide) (L := 24) rfl dX7_darkReason_51 ?_
      refine zr_if_eq (pc' := 55) cx rfl (tgt := 57) dX7_darkReason_52 rfl ?_ ?_
      · refine zr_aload_n (pc' := 58) cx rfl 1 dX7_darkReason_57 rfl rfl ?_
        refine zg_X7_19 (pc' := 61) cx rfl zkc_0 dX7_darkReason_58 ?_
        refine zg_X7_394 (pc' := 64) cx rfl (c2 := 204) zkc_200 rfl dX7_darkReason_61 ?_
        refine zr_iconst (pc' := 65) cx rfl dX7_darkReason_64 ?_
        refine zr_iload_n (pc' := 66) cx rfl 0 dX7_darkReason_65 rfl rfl ?_
        refine zr_imul (pc' := 67) cx rfl dX7_darkReason_66 ?_
        refine zr_iconst (pc' := 68) cx rfl dX7_darkReason_67 ?_
        refine zr_iadd (pc' := 69) cx rfl dX7_darkReason_68 ?_
        refine zr_bald (pc' := 70) cx rfl 21 zkc_204 (by decide) (L := 24) rfl dX7_darkReason_69 ?_
        refine zr_if_eq (pc' := 73) cx rfl (tgt := 77) dX7_darkReason_70 rfl ?_ ?_
        · refine zr_iconst (pc' := 78) cx rfl dX7_darkReason_77 ?_
          exact zr_iretP cx dX7_darkReason_78
        · refine zr_iconst (pc' := 74) cx rfl dX7_darkReason_73 ?_
          refine zr_gotoS cx (tgt := 78) dX7_darkReason_74 rfl ?_
          exact zr_iretP cx dX7_darkReason_78
      · refine zr_iconst (pc' := 56) cx rfl dX7_darkReason_55 ?_
        exact zr_iretP cx dX7_darkReason_56
    · refine zr_iconst (pc' := 40) cx rfl dX7_darkReason_39 ?_
      exact zr_iretP cx dX7_darkReason_40
  · refine zr_iconst (pc' := 26) cx rfl dX7_darkReason_25 ?_
    exact zr_iretP cx dX7_darkReason_26
theorem mX7_darkReason (l : Launch) (Y : zLy) (g : zSt) (a1 : Int)  : ∀ v, fX7_darkReason g a1 = some v → zMt l yX7_darkReason cX7_darkReason 3 (some .int) 0 [.ref (zad Y 0), .int (i32 a1)] Y g (zQi Y v g) := by
  intro v hv
  refine zmet_of RX7 rfl (by decide +kernel) (Nat.le_of_ble_eq_true rfl) ?_
  intro p e s m below meth c cx H locs ls hH hS hl
  exact wX7_darkReason cx g a1  v hv H locs ls hH hS hl
theorem zc_X7_388 (cx : zCx Y p s m args meth c RX7 cc nl ret) (hpc : pc + 3 = pc') {g : zSt} {a1 : Int}  {fk : Int → Option ρ} (hR : 0 + 1 ≤ R.frames ∧ 8 + (3 + 11) + 40 * 0 ≤ R.locals) (hkn : k ≤ R.cells ∧ n ≤ R.slots) (hrest : (rest.map fun v => v.category).sum ≤ 8) (hdg : decode cc pc = .ok (.invokevirtual 388, 3)) (kk : ∀ v : Int, zWo Y p l e R s m args below meth c nl k n kq g lv (.int (i32 v) :: rest) pc' (fk v)) : zWo Y p l e R s m args below meth c nl k n kq g lv (.int (i32 a1) :: .ref (zad Y 0) :: rest) pc (zbd (fX7_darkReason g a1) fk) := zr_callViP cx (an := 1) (As := [.int (i32 a1)]) 8 zkc_0 (by decide) rfl (mX7_darkReason l Y g a1) (zG_V zw_488 zw_490 zw_16 zw_101 zw_491) (by decide +kernel) hR hkn rfl rfl hrest hdg hpc kk
def fX7_lanternProperty (g : zSt) (a1 : Int) (a2 : Int) : Option Int :=
    (if i32 a2 = i32 0 then
    zck ((0 : Int) ≤ a1 ∧ a1 < 16) (
    some (g.1 18 (Int.toNat a1)))
    else
    (if i32 a2 = i32 1 then
    zck ((0 : Int) ≤ a1 ∧ a1 < 16) (
    some (g.1 19 (Int.toNat a1)))
    else
    (if i32 a2 = i32 2 then
    zck ((0 : Int) ≤ a1 ∧ a1 < 16) (
    zbd (fX7_oneIf g (g.1 20 (Int.toNat a1))) (fun v1 =>
    some v1))
    else
    zbd (fX7_darkReason g a1) (fun v2 =>
    some v2))))
theorem wX7_lanternProperty (cx : zCx Y p s m args meth c RX7 cX7_lanternProperty 3 (some .int)) (g : zSt) (a1 : Int) (a2 : Int)  : zWo Y p l e (zrm 1) s m args below meth c 3 0 0 (fun v : Int => MQ below (zQi Y v g) args s 0 0 (zA Y)) g [(0, .ref (zad Y 0)), (1, .int (i32 a1)), (2, .int (i32 a2))] ([]) 0 (fX7_lanternProperty g a1 a2) := by
  unfold fX7_lanternProperty
  refine zr_iload_n (pc' := 1) cx rfl 2 dX7_lanternProperty_0 rfl rfl ?_
  refine zr_case (fun h => ?_) (fun n0 => ?_)
  · refine zr_tabIn cx (off := 27) (tgt := 28) dX7_lanternProperty_1 (v := 0) (by rw [h]; decide +kernel) (by decide) rfl rfl ?_
    refine zr_aload_n (pc' := 29) cx rfl 0 dX7_lanternProperty_28 rfl rfl ?_
    refine zg_X7_12 (pc' := 32) cx rfl zkc_0 dX7_lanternProperty_29 ?_
    refine zg_X7_142 (pc' := 35) cx rfl (c2 := 17) zkc_10 rfl dX7_lanternProperty_32 ?_
    refine zg_X7_366 (pc' := 38) cx rfl (c2 := 18) zkc_17 rfl dX7_lanternProperty_35 ?_
    refine zr_iload_n (pc' := 39) cx rfl 1 dX7_lanternProperty_38 rfl rfl ?_
    refine zr_iald (pc' := 40) cx rfl 12 zkc_18 (by decide) (L := 16) rfl dX7_lanternProperty_39 ?_
    exact zr_iretP cx dX7_lanternProperty_40
  · refine zr_case (fun h => ?_) (fun n1 => ?_)
    · refine zr_tabIn cx (off := 40) (tgt := 41) dX7_lanternProperty_1 (v := 1) (by rw [h]; decide +kernel) (by decide) rfl rfl ?_
      refine zr_aload_n (pc' := 42) cx rfl 0 dX7_lanternProperty_41 rfl rfl ?_
      refine zg_X7_12 (pc' := 45) cx rfl zkc_0 dX7_lanternProperty_42 ?_
      refine zg_X7_142 (pc' := 48) cx rfl (c2 := 17) zkc_10 rfl dX7_lanternProperty_45 ?_
      refine zg_X7_369 (pc' := 51) cx rfl (c2 := 19) zkc_17 rfl dX7_lanternProperty_48 ?_
      refine zr_iload_n (pc' := 52) cx rfl 1 dX7_lanternProperty_51 rfl rfl ?_
      refine zr_iald (pc' := 53) cx rfl 12 zkc_19 (by decide) (L := 16) rfl dX7_lanternProperty_52 ?_
      exact zr_iretP cx dX7_lanternProperty_53
    · refine zr_case (fun h => ?_) (fun n2 => ?_)
      · refine zr_tabIn cx (off := 53) (tgt := 54) dX7_lanternProperty_1 (v := 2) (by rw [h]; decide +kernel) (by decide) rfl rfl ?_
        refine zr_aload_n (pc' := 55) cx rfl 0 dX7_lanternProperty_54 rfl rfl ?_
        refine zg_X7_12 (pc' := 58) cx rfl zkc_0 dX7_lanternProperty_55 ?_
        refine zg_X7_142 (pc' := 61) cx rfl (c2 := 17) zkc_10 rfl dX7_lanternProperty_58 ?_
        refine zg_X7_385 (pc' := 64) cx rfl (c2 := 20) zkc_17 rfl dX7_lanternProperty_61 ?_
        refine zr_iload_n (pc' := 65) cx rfl 1 dX7_lanternProperty_64 rfl rfl ?_
        refine zr_bald (pc' := 66) cx rfl 22 zkc_20 (by decide) (L := 16) rfl dX7_lanternProperty_65 ?_
        refine zc_X7_108 (pc' := 69) cx rfl  ⟨Nat.le_of_ble_eq_true rfl, Nat.le_of_ble_eq_true rfl⟩ ⟨Nat.zero_le _, Nat.zero_le _⟩ (Nat.le_of_ble_eq_true rfl) dX7_lanternProperty_66 (fun v1 => ?_)
        exact zr_iretP cx dX7_lanternProperty_69
      · refine zr_tabOut cx (tgt := 70) dX7_lanternProperty_1 (by have := zne n0 (k := 0) (by decide +kernel); have := zne n1 (k := 1) (by decide +kernel); have := zne n2 (k := 2) (by decide +kernel); omega) rfl ?_
        refine zr_aload_n (pc' := 71) cx rfl 0 dX7_lanternProperty_70 rfl rfl ?_
        refine zr_iload_n (pc' := 72) cx rfl 1 dX7_lanternProperty_71 rfl rfl ?_
        refine zc_X7_388 (pc' := 75) cx rfl  ⟨Nat.le_of_ble_eq_true rfl, Nat.le_of_ble_eq_true rfl⟩ ⟨Nat.zero_le _, Nat.zero_le _⟩ (Nat.le_of_ble_eq_true rfl) dX7_lanternProperty_72 (fun v2 => ?_)
        exact zr_iretP cx dX7_lanternProperty_75
theorem mX7_lanternProperty (l : Launch) (Y : zLy) (g : zSt) (a1 : Int) (a2 : Int)  : ∀ v, fX7_lanternProperty g a1 a2 = some v → zMt l yX7_lanternProperty cX7_lanternProperty 3 (some .int) 1 [.ref (zad Y 0), .int (i32 a1), .int (i32 a2)] Y g (zQi Y v g) := by
  intro v hv
  refine zmet_of RX7 rfl (by decide +kernel) (Nat.le_of_ble_eq_true rfl) ?_
  intro p e s m below meth c cx H locs ls hH hS hl
  exact wX7_lanternProperty cx g a1 a2  v hv H locs ls hH hS hl
theorem zc_X7_256 (cx : zCx Y p s m args meth c RX7 cc nl ret) (hpc : pc + 3 = pc') {g : zSt} {a1 : Int} {a2 : Int}  {fk : Int → Option ρ} (hR : 1 + 1 ≤ R.frames ∧ 8 + (3 + 11) + 40 * 1 ≤ R.locals) (hkn : k ≤ R.cells ∧ n ≤ R.slots) (hrest : (rest.map fun v => v.category).sum ≤ 8) (hdg : decode cc pc = .ok (.invokevirtual 256, 3)) (kk : ∀ v : Int, zWo Y p l e R s m args below meth c nl k n kq g lv (.int (i32 v) :: rest) pc' (fk v)) : zWo Y p l e R s m args below meth c nl k n kq g lv (.int (i32 a2) :: .int (i32 a1) :: .ref (zad Y 0) :: rest) pc (zbd (fX7_lanternProperty g a1 a2) fk) := zr_callViP cx (an := 2) (As := [.int (i32 a1), .int (i32 a2)]) 8 zkc_0 (by decide) rfl (mX7_lanternProperty l Y g a1 a2) (zG_V zw_484 zw_486 zw_15 zw_101 zw_487) (by decide +kernel) hR hkn rfl rfl hrest hdg hpc kk
def fX7_faultProperty (g : zSt) (a1 : Int) (a2 : Int) : Option Int :=
    (if i32 a2 = i32 0 then
    zck ((0 : Int) ≤ a1 ∧ a1 < 9) (
    some (g.1 22 (Int.toNat a1)))
    else
    (if i32 a2 = i32 1 then
    zck ((0 : Int) ≤ a1 ∧ a1 < 9) (
    some (g.1 23 (Int.toNat a1)))
    else
    (if i32 a2 = i32 2 then
    zck ((0 : Int) ≤ a1 ∧ a1 < 9) (
    some (g.1 24 (Int.toNat a1)))
    else
    (if i32 a2 = i32 3 then
    zck ((0 : Int) ≤ a1 ∧ a1 < 9) (
    zck ((0 : Int) ≤ a1 ∧ a1 < 9) (
    zck ((0 : Int) ≤ ((2 * (g.1 22 (Int.toNat a1))) + (g.1 23 (Int.toNat a1))) ∧ ((2 * (g.1 22 (Int.toNat a1))) + (g.1 23 (Int.toNat a1))) < 24) (
    some (g.1 205 (Int.toNat ((2 * (g.1 22 (Int.toNat a1))) + (g.1 23 (Int.toNat a1))))))))
    else
    zck ((0 : Int) ≤ a1 ∧ a1 < 9) (
    some (g.1 207 (Int.toNat a1)))))))
theorem wX7_faultProperty (cx : zCx Y p s m args meth c RX7 cX7_faultProperty 4 (some .int)) (g : zSt) (a1 : Int) (a2 : Int)  : zWo Y p l e (zrm 0) s m args below meth c 4 0 0 (fun v : Int => MQ below (zQi Y v g) args s 0 0 (zA Y)) g [(0, .ref (zad Y 0)), (1, .int (i32 a1)), (2, .int (i32 a2))] ([]) 0 (fX7_faultProperty g a1 a2) := by
  unfold fX7_faultProperty
  refine zr_aload_n (pc' := 1) cx rfl 0 dX7_faultProperty_0 rfl rfl ?_
  refine zg_X7_12 (pc' := 4) cx rfl zkc_0 dX7_faultProperty_1 ?_
  refine zg_X7_175 (pc' := 7) cx rfl (c2 := 21) zkc_10 rfl dX7_faultProperty_4 ?_
  refine zr_astore_n (pc' := 8) cx rfl (lv' := [(3, .ref (zad Y 21)), (0, .ref (zad Y 0)), (1, .int (i32 a1)), (2, .int (i32 a2))]) dX7_faultProperty_7 rfl (by decide) rfl ?_
  refine zr_iload_n (pc' := 9) cx rfl 3 dX7_faultProperty_8 rfl rfl ?_
  refine zr_case (fun h => ?_) (fun n0 => ?_)
  · refine zr_tabIn cx (off := 31) (tgt := 40) dX7_faultProperty_9 (v := 0) (by rw [h]; decide +kernel) (by decide) rfl rfl ?_
    refine zr_aload_n (pc' := 41) cx rfl 0 dX7_faultProperty_40 rfl rfl ?_
    refine zg_X7_381 (pc' := 44) cx rfl (c2 := 22) zkc_21 rfl dX7_faultProperty_41 ?_
    refine zr_iload_n (pc' := 45) cx rfl 2 dX7_faultProperty_44 rfl rfl ?_
    refine zr_iald (pc' := 46) cx rfl 13 zkc_22 (by decide) (L := 9) rfl dX7_faultProperty_45 ?_
    exact zr_iretP cx dX7_faultProperty_46
  · refine zr_case (fun h => ?_) (fun n1 => ?_)
    · refine zr_tabIn cx (off := 38) (tgt := 47) dX7_faultProperty_9 (v := 1) (by rw [h]; decide +kernel) (by decide) rfl rfl ?_
      refine zr_aload_n (pc' := 48) cx rfl 0 dX7_faultProperty_47 rfl rfl ?_
      refine zg_X7_382 (pc' := 51) cx rfl (c2 := 23) zkc_21 rfl dX7_faultProperty_48 ?_
      refine zr_iload_n (pc' := 52) cx rfl 2 dX7_faultProperty_51 rfl rfl ?_
      refine zr_iald (pc' := 53) cx rfl 13 zkc_23 (by decide) (L := 9) rfl dX7_faultProperty_52 ?_
      exact zr_iretP cx dX7_faultProperty_53
    · refine zr_case (fun h => ?_) (fun n2 => ?_)
      · refine zr_tabIn cx (off := 45) (tgt := 54) dX7_faultProperty_9 (v := 2) (by rw [h]; decide +kernel) (by decide) rfl rfl ?_
        refine zr_aload_n (pc' := 55) cx rfl 0 dX7_faultProperty_54 rfl rfl ?_
        refine zg_X7_192 (pc' := 58) cx rfl (c2 := 24) zkc_21 rfl dX7_faultProperty_55 ?_
        refine zr_iload_n (pc' := 59) cx rfl 2 dX7_faultProperty_58 rfl rfl ?_
        refine zr_iald (pc' := 60) cx rfl 13 zkc_24 (by decide) (L := 9) rfl dX7_faultProperty_59 ?_
        exact zr_iretP cx dX7_faultProperty_60
      · refine zr_case (fun h => ?_) (fun n3 => ?_)
        · refine zr_tabIn cx (off := 52) (tgt := 61) dX7_faultProperty_9 (v := 3) (by rw [h]; decide +kernel) (by decide) rfl rfl ?_
          refine zr_aload_n (pc' := 62) cx rfl 1 dX7_faultProperty_61 rfl rfl ?_
          refine zg_X7_19 (pc' := 65) cx rfl zkc_0 dX7_faultProperty_62 ?_
          refine zg_X7_372 (pc' := 68) cx rfl (c2 := 205) zkc_200 rfl dX7_faultProperty_65 ?_
          refine zr_iconst (pc' := 69) cx rfl dX7_faultProperty_68 ?_
          refine zr_aload_n (pc' := 70) cx rfl 0 dX7_faultProperty_69 rfl rfl ?_
          refine zg_X7_381 (pc' := 73) cx rfl (c2 := 22) zkc_21 rfl dX7_faultProperty_70 ?_
          refine zr_iload_n (pc' := 74) cx rfl 2 dX7_faultProperty_73 rfl rfl ?_
          refine zr_iald (pc' := 75) cx rfl 13 zkc_22 (by decide) (L := 9) rfl dX7_faultProperty_74 ?_
          refine zr_imul (pc' := 76) cx rfl dX7_faultProperty_75 ?_
          refine zr_aload_n (pc' := 77) cx rfl 0 dX7_faultProperty_76 rfl rfl ?_
          refine zg_X7_382 (pc' := 80) cx rfl (c2 := 23) zkc_21 rfl dX7_faultProperty_77 ?_
          refine zr_iload_n (pc' := 81) cx rfl 2 dX7_faultProperty_80 rfl rfl ?_
          refine zr_iald (pc' := 82) cx rfl 13 zkc_23 (by decide) (L := 9) rfl dX7_faultProperty_81 ?_
          refine zr_iadd (pc' := 83) cx rfl dX7_faultProperty_82 ?_
          refine zr_iald (pc' := 84) cx rfl 11 zkc_205 (by decide) (L := 24) rfl dX7_faultProperty_83 ?_
          exact zr_iretP cx dX7_faultProperty_84
        · refine zr_tabOut cx (tgt := 85) dX7_faultProperty_9 (by have := zne n0 (k := 0) (by decide +kernel); have := zne n1 (k := 1) (by decide +kernel); have := zne n2 (k := 2) (by decide +kernel); have := zne n3 (k := 3) (by decide +kernel); omega) rfl ?_
          refine zr_aload_n (pc' := 86) cx rfl 1 dX7_faultProperty_85 rfl rfl ?_
          refine zg_X7_19 (pc' := 89) cx rfl zkc_0 dX7_faultProperty_86 ?_
          refine zg_X7_397 (pc' := 92) cx rfl (c2 := 207) zkc_200 rfl dX7_faultProperty_89 ?_
          refine zr_iload_n (pc' := 93) cx rfl 2 dX7_faultProperty_92 rfl rfl ?_
          refine zr_iald (pc' := 94) cx rfl 13 zkc_207 (by decide) (L := 9) rfl dX7_faultProperty_93 ?_
          exact zr_iretP cx dX7_faultProperty_94
theorem mX7_faultProperty (l : Launch) (Y : zLy) (g : zSt) (a1 : Int) (a2 : Int)  : ∀ v, fX7_faultProperty g a1 a2 = some v → zMt l yX7_faultProperty cX7_faultProperty 4 (some .int) 0 [.ref (zad Y 0), .int (i32 a1), .int (i32 a2)] Y g (zQi Y v g) := by
  intro v hv
  refine zmet_of RX7 rfl (by decide +kernel) (Nat.le_of_ble_eq_true rfl) ?_
  intro p e s m below meth c cx H locs ls hH hS hl
  exact wX7_faultProperty cx g a1 a2  v hv H locs ls hH hS hl
theorem zc_X7_261 (cx : zCx Y p s m args meth c RX7 cc nl ret) (hpc : pc + 3 = pc') {g : zSt} {a1 : Int} {a2 : Int}  {fk : Int → Option ρ} (hR : 0 + 1 ≤ R.frames ∧ 8 + (4 + 11) + 40 * 0 ≤ R.locals) (hkn : k ≤ R.cells ∧ n ≤ R.slots) (hrest : (rest.map fun v => v.category).sum ≤ 8) (hdg : decode cc pc = .ok (.invokevirtual 261, 3)) (kk : ∀ v : Int, zWo Y p l e R s m args below meth c nl k n kq g lv (.int (i32 v) :: rest) pc' (fk v)) : zWo Y p l e R s m args below meth c nl k n kq g lv (.int (i32 a2) :: .int (i32 a1) :: .ref (zad Y 0) :: rest) pc (zbd (fX7_faultProperty g a1 a2) fk) := zr_callViP cx (an := 2) (As := [.int (i32 a1), .int (i32 a2)]) 8 zkc_0 (by decide) rfl (mX7_faultProperty l Y g a1 a2) (zG_V zw_492 zw_494 zw_17 zw_101 zw_495) (by decide +kernel) hR hkn rfl rfl hrest hdg hpc kk
def fX7_countOf (g : zSt) (a1 : Int) : Option Int :=
    (if i32 a1 = i32 0 then
    some (g.1 11 0)
    else
    (if i32 a1 = i32 1 then
    some (g.1 17 0)
    else
    (if i32 a1 = i32 2 then
    some (g.1 200 6)
    else
    (if i32 a1 = i32 3 then
    some (g.1 21 0)
    else
    (if i32 a1 = i32 4 then
    some (g.1 200 7)
    else
    (if i32 a1 = i32 5 then
    zbd (fX0_blownFuses g 11) (fun v1 =>
    some v1)
    else
    (if i32 a1 = i32 6 then
    some (g.1 10 3)
    else
    (if i32 a1 = i32 7 then
    some (g.1 10 4)
    else
    (if i32 a1 = i32 8 then
    some (g.1 10 5)
    else
    (if i32 a1 = i32 9 then
    some (g.1 10 6)
    else
    (if i32 a1 = i32 10 then
    some (g.1 10 7)
    else
    some (g.1 300 0))))))))))))
theorem wX7_countOf (cx : zCx Y p s m args meth c RX7 cX7_countOf 2 (some .int)) (g : zSt) (a1 : Int)  : zWo Y p l e (zrm 1) s m args below meth c 2 0 0 (fun v : Int => MQ below (zQi Y v g) args s 0 0 (zA Y)) g [(0, .ref (zad Y 0)), (1, .int (i32 a1))] ([]) 0 (fX7_countOf g a1) := by
  unfold fX7_countOf
  refine zr_iload_n (pc' := 1) cx rfl 1 dX7_countOf_0 rfl rfl ?_
  refine zr_case (fun h => ?_) (fun n0 => ?_)
  · refine zr_tabIn cx (off := 59) (tgt := 60) dX7_countOf_1 (v := 0) (by rw [h]; decide +kernel) (by decide) rfl rfl ?_
    refine zr_aload_n (pc' := 61) cx rfl 0 dX7_countOf_60 rfl rfl ?_
    refine zg_X7_12 (pc' := 64) cx rfl zkc_0 dX7_countOf_61 ?_
    refine zg_X7_73 (pc' := 67) cx rfl (c2 := 11) zkc_10 rfl dX7_countOf_64 ?_
    refine zg_X7_77 (pc' := 70) cx rfl zkc_11 dX7_countOf_67 ?_
    exact zr_iretP cx dX7_countOf_70
  · refine zr_case (fun h => ?_) (fun n1 => ?_)
    · refine zr_tabIn cx (off := 70) (tgt := 71) dX7_countOf_1 (v := 1) (by rw [h]; decide +kernel) (by decide) rfl rfl ?_
      refine zr_aload_n (pc' := 72) cx rfl 0 dX7_countOf_71 rfl rfl ?_
      refine zg_X7_12 (pc' := 75) cx rfl zkc_0 dX7_countOf_72 ?_
      refine zg_X7_142 (pc' := 78) cx rfl (c2 := 17) zkc_10 rfl dX7_countOf_75 ?_
      refine zg_X7_146 (pc' := 81) cx rfl zkc_17 dX7_countOf_78 ?_
      exact zr_iretP cx dX7_countOf_81
    · refine zr_case (fun h => ?_) (fun n2 => ?_)
      · refine zr_tabIn cx (off := 81) (tgt := 82) dX7_countOf_1 (v := 2) (by rw [h]; decide +kernel) (by decide) rfl rfl ?_
        refine zr_aload_n (pc' := 83) cx rfl 0 dX7_countOf_82 rfl rfl ?_
        refine zg_X7_19 (pc' := 86) cx rfl zkc_0 dX7_countOf_83 ?_
        refine zg_X7_115 (pc' := 89) cx rfl zkc_200 dX7_countOf_86 ?_
        exact zr_iretP cx dX7_countOf_89
      · refine zr_case (fun h => ?_) (fun n3 => ?_)
        · refine zr_tabIn cx (off := 89) (tgt := 90) dX7_countOf_1 (v := 3) (by rw [h]; decide +kernel) (by decide) rfl rfl ?_
          refine zr_aload_n (pc' := 91) cx rfl 0 dX7_countOf_90 rfl rfl ?_
          refine zg_X7_12 (pc' := 94) cx rfl zkc_0 dX7_countOf_91 ?_
          refine zg_X7_175 (pc' := 97) cx rfl (c2 := 21) zkc_10 rfl dX7_countOf_94 ?_
          refine zg_X7_179 (pc' := 100) cx rfl zkc_21 dX7_countOf_97 ?_
          exact zr_iretP cx dX7_countOf_100
        · refine zr_case (fun h => ?_) (fun n4 => ?_)
          · refine zr_tabIn cx (off := 100) (tgt := 101) dX7_countOf_1 (v := 4) (by rw [h]; decide +kernel) (by decide) rfl rfl ?_
            refine zr_aload_n (pc' := 102) cx rfl 0 dX7_countOf_101 rfl rfl ?_
            refine zg_X7_19 (pc' := 105) cx rfl zkc_0 dX7_countOf_102 ?_
            refine zg_X7_213 (pc' := 108) cx rfl zkc_200 dX7_countOf_105 ?_
            exact zr_iretP cx dX7_countOf_108
          · refine zr_case (fun h => ?_) (fun n5 => ?_)
            · refine zr_tabIn cx (off := 108) (tgt := 109) dX7_countOf_1 (v := 5) (by rw [h]; decide +kernel) (by decide) rfl rfl ?_
              refine zr_aload_n (pc' := 110) cx rfl 0 dX7_countOf_109 rfl rfl ?_
              refine zg_X7_12 (pc' := 113) cx rfl zkc_0 dX7_countOf_110 ?_
              refine zg_X7_73 (pc' := 116) cx rfl (c2 := 11) zkc_10 rfl dX7_countOf_113 ?_
              refine zc_X7_400 (pc' := 119) cx rfl zkc_11 ⟨Nat.le_of_ble_eq_true rfl, Nat.le_of_ble_eq_true rfl⟩ ⟨Nat.zero_le _, Nat.zero_le _⟩ (Nat.le_of_ble_eq_true rfl) dX7_countOf_116 (fun v1 => ?_)
              exact zr_iretP cx dX7_countOf_119
            · refine zr_case (fun h => ?_) (fun n6 => ?_)
              · refine zr_tabIn cx (off := 119) (tgt := 120) dX7_countOf_1 (v := 6) (by rw [h]; decide +kernel) (by decide) rfl rfl ?_
                refine zr_aload_n (pc' := 121) cx rfl 0 dX7_countOf_120 rfl rfl ?_
                refine zg_X7_12 (pc' := 124) cx rfl zkc_0 dX7_countOf_121 ?_
                refine zg_X7_123 (pc' := 127) cx rfl zkc_10 dX7_countOf_124 ?_
                exact zr_iretP cx dX7_countOf_127
              · refine zr_case (fun h => ?_) (fun n7 => ?_)
                · refine zr_tabIn cx (off := 127) (tgt := 128) dX7_countOf_1 (v := 7) (by rw [h]; decide +kernel) (by decide) rfl rfl ?_
                  refine zr_aload_n (pc' := 129) cx rfl 0 dX7_countOf_128 rfl rfl ?_
                  refine zg_X7_12 (pc' := 132) cx rfl zkc_0 dX7_countOf_129 ?_
                  refine zg_X7_324 (pc' := 135) cx rfl zkc_10 dX7_countOf_132 ?_
                  exact zr_iretP cx dX7_countOf_135
                · refine zr_case (fun h => ?_) (fun n8 => ?_)
                  · refine zr_tabIn cx (off := 135) (tgt := 136) dX7_countOf_1 (v := 8) (by rw [h]; decide +kernel) (by decide) rfl rfl ?_
                    refine zr_aload_n (pc' := 137) cx rfl 0 dX7_countOf_136 rfl rfl ?_
                    refine zg_X7_12 (pc' := 140) cx rfl zkc_0 dX7_countOf_137 ?_
                    refine zg_X7_198 (pc' := 143) cx rfl zkc_10 dX7_countOf_140 ?_
                    exact zr_iretP cx dX7_countOf_143
                  · refine zr_case (fun h => ?_) (fun n9 => ?_)
                    · refine zr_tabIn cx (off := 143) (tgt := 144) dX7_countOf_1 (v := 9) (by rw [h]; decide +kernel) (by decide) rfl rfl ?_
                      refine zr_aload_n (pc' := 145) cx rfl 0 dX7_countOf_144 rfl rfl ?_
                      refine zg_X7_12 (pc' := 148) cx rfl zkc_0 dX7_countOf_145 ?_
                      refine zg_X7_207 (pc' := 151) cx rfl zkc_10 dX7_countOf_148 ?_
                      exact zr_iretP cx dX7_countOf_151
                    · refine zr_case (fun h => ?_) (fun n10 => ?_)
                      · refine zr_tabIn cx (off := 151) (tgt := 152) dX7_countOf_1 (v := 10) (by rw [h]; decide +kernel) (by decide) rfl rfl ?_
                        refine zr_aload_n (pc' := 153) cx rfl 0 dX7_countOf_152 rfl rfl ?_
                        refine zg_X7_12 (pc' := 156) cx rfl zkc_0 dX7_countOf_153 ?_
                        refine zg_X7_210 (pc' := 159) cx rfl zkc_10 dX7_countOf_156 ?_
                        exact zr_iretP cx dX7_countOf_159
                      · refine zr_tabOut cx (tgt := 160) dX7_countOf_1 (by have := zne n0 (k := 0) (by decide +kernel); have := zne n1 (k := 1) (by decide +kernel); have := zne n2 (k := 2) (by decide +kernel); have := zne n3 (k := 3) (by decide +kernel); have := zne n4 (k := 4) (by decide +kernel); have := zne n5 (k := 5) (by decide +kernel); have := zne n6 (k := 6) (by decide +kernel); have := zne n7 (k := 7) (by decide +kernel); have := zne n8 (k := 8) (by decide +kernel); have := zne n9 (k := 9) (by decide +kernel); have := zne n10 (k := 10) (by decide +kernel); omega) rfl ?_
                        refine zr_aload_n (pc' := 161) cx rfl 0 dX7_countOf_160 rfl rfl ?_
                        refine zg_X7_35 (pc' := 164) cx rfl zkc_0 dX7_countOf_161 ?_
                        refine zg_X7_233 (pc' := 167) cx rfl zkc_300 dX7_countOf_164 ?_
                        exact zr_iretP cx dX7_countOf_167
theorem mX7_countOf (l : Launch) (Y : zLy) (g : zSt) (a1 : Int)  : ∀ v, fX7_countOf g a1 = some v → zMt l yX7_countOf cX7_countOf 2 (some .int) 1 [.ref (zad Y 0), .int (i32 a1)] Y g (zQi Y v g) := by
  intro v hv
  refine zmet_of RX7 rfl (by decide +kernel) (Nat.le_of_ble_eq_true rfl) ?_
  intro p e s m below meth c cx H locs ls hH hS hl
  exact wX7_countOf cx g a1  v hv H locs ls hH hS hl
theorem zc_X7_266 (cx : zCx Y p s m args meth c RX7 cc nl ret) (hpc : pc + 3 = pc') {g : zSt} {a1 : Int}  {fk : Int → Option ρ} (hR : 1 + 1 ≤ R.frames ∧ 8 + (2 + 11) + 40 * 1 ≤ R.locals) (hkn : k ≤ R.cells ∧ n ≤ R.slots) (hrest : (rest.map fun v => v.category).sum ≤ 8) (hdg : decode cc pc = .ok (.invokevirtual 266, 3)) (kk : ∀ v : Int, zWo Y p l e R s m args below meth c nl k n kq g lv (.int (i32 v) :: rest) pc' (fk v)) : zWo Y p l e R s m args below meth c nl k n kq g lv (.int (i32 a1) :: .ref (zad Y 0) :: rest) pc (zbd (fX7_countOf g a1) fk) := zr_callViP cx (an := 1) (As := [.int (i32 a1)]) 8 zkc_0 (by decide) rfl (mX7_countOf l Y g a1) (zG_V zw_436 zw_438 zw_7 zw_101 zw_439) (by decide +kernel) hR hkn rfl rfl hrest hdg hpc kk
def fX7_isPole (g : zSt) (a0 : Int) : Option Int :=
    (if i32 a0 = i32 0 then
    zck ((1 : Int) = 0 ∨ (1 : Int) = 1) (some 1)
    else
    (if i32 a0 = i32 1 then
    zck ((1 : Int) = 0 ∨ (1 : Int) = 1) (some 1)
    else
    zck ((0 : Int) = 0 ∨ (0 : Int) = 1) (some 0)))
theorem wX7_isPole (cx : zCx Y p s m args meth c RX7 cX7_isPole 1 (some .boolean)) (g : zSt) (a0 : Int)  : zWo Y p l e (zrm 0) s m args below meth c 1 0 0 (fun v : Int => MQ below (zQi Y v g) args s 0 0 (zA Y)) g [(0, .int (i32 a0))] ([]) 0 (fX7_isPole g a0) := by
  unfold fX7_isPole
  refine zr_iload_n (pc' := 1) cx rfl 0 dX7_isPole_0 rfl rfl ?_
  refine zr_if_eq (pc' := 4) cx rfl (tgt := 9) dX7_isPole_1 rfl ?_ ?_
  · refine zr_iconst (pc' := 10) cx rfl dX7_isPole_9 ?_
    refine zr_gotoS cx (tgt := 14) dX7_isPole_10 rfl ?_
    exact zr_zretP cx dX7_isPole_14
  · refine zr_iload_n (pc' := 5) cx rfl 0 dX7_isPole_4 rfl rfl ?_
    refine zr_iconst (pc' := 6) cx rfl dX7_isPole_5 ?_
    refine zr_icmp_ne (pc' := 9) cx rfl (tgt := 13) dX7_isPole_6 rfl ?_ ?_
    · refine zr_iconst (pc' := 14) cx rfl dX7_isPole_13 ?_
      exact zr_zretP cx dX7_isPole_14
    · refine zr_iconst (pc' := 10) cx rfl dX7_isPole_9 ?_
      refine zr_gotoS cx (tgt := 14) dX7_isPole_10 rfl ?_
      exact zr_zretP cx dX7_isPole_14
theorem mX7_isPole (l : Launch) (Y : zLy) (g : zSt) (a0 : Int)  : ∀ v, fX7_isPole g a0 = some v → zMt l yX7_isPole cX7_isPole 1 (some .boolean) 0 [.int (i32 a0)] Y g (zQi Y v g) := by
  intro v hv
  refine zmet_of RX7 rfl (by decide +kernel) (Nat.le_of_ble_eq_true rfl) ?_
  intro p e s m below meth c cx H locs ls hH hS hl
  exact wX7_isPole cx g a0  v hv H locs ls hH hS hl
theorem zc_X7_270 (cx : zCx Y p s m args meth c RX7 cc nl ret) (hpc : pc + 3 = pc') {g : zSt} {a0 : Int}  {fk : Int → Option ρ} (hR : 0 + 1 ≤ R.frames ∧ 8 + (1 + 11) + 40 * 0 ≤ R.locals) (hkn : k ≤ R.cells ∧ n ≤ R.slots) (hrest : (rest.map fun v => v.category).sum ≤ 8) (hdg : decode cc pc = .ok (.invokestatic 270, 3)) (kk : ∀ v : Int, zWo Y p l e R s m args below meth c nl k n kq g lv (.int (i32 v) :: rest) pc' (fk v)) : zWo Y p l e R s m args below meth c nl k n kq g lv (.int (i32 a0) :: rest) pc (zbd (fX7_isPole g a0) fk) := zr_callSiP cx (an := 1) (As := [.int (i32 a0)])  (mX7_isPole l Y g a0) (zG_S zw_927 zw_928 zw_101 zw_929) (by decide +kernel) hR hkn rfl rfl hrest hdg hpc kk
def fX7_boxesChangingLamp_p4 (g : zSt)  : Nat → Int → Int → Int → Option Int
  | 0, _, _, _ => none
  | fu + 1, a1, a2, a3 =>
    (if i32 a3 < i32 (g.1 11 0) then
    zck ((0 : Int) ≤ a3 ∧ a3 < 12) (
    (if i32 (g.1 14 (Int.toNat a3)) = i32 0 then
    fX7_boxesChangingLamp_p4 g fu a1 a2 (a3 + 1)
    else
    zck ((0 : Int) ≤ ((2 * a3) + a1) ∧ ((2 * a3) + a1) < 24) (
    (if i32 0 < i32 (g.1 210 (Int.toNat ((2 * a3) + a1))) then
    zlet (zor a2 (zsl 1 a3)) (fun x1 =>
    fX7_boxesChangingLamp_p4 g fu a1 x1 (a3 + 1))
    else
    fX7_boxesChangingLamp_p4 g fu a1 a2 (a3 + 1)))))
    else
    some a2)
def fX7_boxesChangingLamp (g : zSt) (a1 : Int) : Option Int :=
    fX7_boxesChangingLamp_p4 g zfu a1 0 1
theorem wX7_boxesChangingLamp_p4 (cx : zCx Y p s m args meth c RX7 cX7_boxesChangingLamp 4 (some .int)) (g : zSt)   : ∀ (fu : Nat) (a1 : Int) (a2 : Int) (a3 : Int), zWo Y p l e (zrm 0) s m args below meth c 4 0 0 (fun v : Int => MQ below (zQi Y v g) args s 0 0 (zA Y)) g [(0, .ref (zad Y 0)), (1, .int (i32 a1)), (2, .int (i32 a2)), (3, .int (i32 a3))] ([]) 4 (fX7_boxesChangingLamp_p4 g fu a1 a2 a3) := by
  intro fu
  induction fu with
  | zero => intro a1 a2 a3; exact zr_none
  | succ fu ih =>
    intro a1 a2 a3
    rw [fX7_boxesChangingLamp_p4]
    refine zr_iload_n (pc' := 5) cx rfl 3 dX7_boxesChangingLamp_4 rfl rfl ?_
    refine zr_aload_n (pc' := 6) cx rfl 0 dX7_boxesChangingLamp_5 rfl rfl ?_
    refine zg_X7_12 (pc' := 9) cx rfl zkc_0 dX7_boxesChangingLamp_6 ?_
    refine zg_X7_73 (pc' := 12) cx rfl (c2 := 11) zkc_10 rfl dX7_boxesChangingLamp_9 ?_
    refine zg_X7_77 (pc' := 15) cx rfl zkc_11 dX7_boxesChangingLamp_12 ?_
    refine zr_icmp_ge (pc' := 18) cx rfl (tgt := 61) dX7_boxesChangingLamp_15 rfl ?_ ?_
    · refine zr_iload_n (pc' := 62) cx rfl 2 dX7_boxesChangingLamp_61 rfl rfl ?_
      exact zr_iretP cx dX7_boxesChangingLamp_62
    · refine zr_aload_n (pc' := 19) cx rfl 0 dX7_boxesChangingLamp_18 rfl rfl ?_
      refine zg_X7_12 (pc' := 22) cx rfl zkc_0 dX7_boxesChangingLamp_19 ?_
      refine zg_X7_73 (pc' := 25) cx rfl (c2 := 11) zkc_10 rfl dX7_boxesChangingLamp_22 ?_
      refine zg_X7_104 (pc' := 28) cx rfl (c2 := 14) zkc_11 rfl dX7_boxesChangingLamp_25 ?_
      refine zr_iload_n (pc' := 29) cx rfl 3 dX7_boxesChangingLamp_28 rfl rfl ?_
      refine zr_bald (pc' := 30) cx rfl 20 zkc_14 (by decide) (L := 12) rfl dX7_boxesChangingLamp_29 ?_
      refine zr_if_eq (pc' := 33) cx rfl (tgt := 55) dX7_boxesChangingLamp_30 rfl ?_ ?_
      · refine zr_iinc (pc' := 58) cx rfl (lv' := [(3, .int (i32 (a3 + 1))), (0, .ref (zad Y 0)), (1, .int (i32 a1)), (2, .int (i32 a2))]) 3 dX7_boxesChangingLamp_55 rfl (by decide) rfl ?_
        refine zr_goto cx (tgt := 4) dX7_boxesChangingLamp_58 rfl ?_
        refine zr_sub [1, 2, 3, 0] rfl ?_
        exact ih a1 a2 (a3 + 1)
      · refine zr_aload_n (pc' := 34) cx rfl 0 dX7_boxesChangingLamp_33 rfl rfl ?_
        refine zg_X7_19 (pc' := 37) cx rfl zkc_0 dX7_boxesChangingLamp_34 ?_
        refine zg_X7_327 (pc' := 40) cx rfl (c2 := 210) zkc_200 rfl dX7_boxesChangingLamp_37 ?_
        refine zr_iconst (pc' := 41) cx rfl dX7_boxesChangingLamp_40 ?_
        refine zr_iload_n (pc' := 42) cx rfl 3 dX7_boxesChangingLamp_41 rfl rfl ?_
        refine zr_imul (pc' := 43) cx rfl dX7_boxesChangingLamp_42 ?_
        refine zr_iload_n (pc' := 44) cx rfl 1 dX7_boxesChangingLamp_43 rfl rfl ?_
        refine zr_iadd (pc' := 45) cx rfl dX7_boxesChangingLamp_44 ?_
        refine zr_iald (pc' := 46) cx rfl 11 zkc_210 (by decide) (L := 24) rfl dX7_boxesChangingLamp_45 ?_
        refine zr_if_le (pc' := 49) cx rfl (tgt := 55) dX7_boxesChangingLamp_46 rfl ?_ ?_
        · refine zr_iinc (pc' := 58) cx rfl (lv' := [(3, .int (i32 (a3 + 1))), (0, .ref (zad Y 0)), (1, .int (i32 a1)), (2, .int (i32 a2))]) 3 dX7_boxesChangingLamp_55 rfl (by decide) rfl ?_
          refine zr_goto cx (tgt := 4) dX7_boxesChangingLamp_58 rfl ?_
          refine zr_sub [1, 2, 3, 0] rfl ?_
          exact ih a1 a2 (a3 + 1)
        · refine zr_iload_n (pc' := 50) cx rfl 2 dX7_boxesChangingLamp_49 rfl rfl ?_
          refine zr_iconst (pc' := 51) cx rfl dX7_boxesChangingLamp_50 ?_
          refine zr_iload_n (pc' := 52) cx rfl 3 dX7_boxesChangingLamp_51 rfl rfl ?_
          refine zr_ishl (pc' := 53) cx rfl dX7_boxesChangingLamp_52 ?_
          refine zr_ior (pc' := 54) cx rfl dX7_boxesChangingLamp_53 ?_
          refine zr_leti (fun x1 => ?_)
          refine zr_istore_n (pc' := 55) cx rfl (lv' := [(2, .int (i32 x1)), (0, .ref (zad Y 0)), (1, .int (i32 a1)), (3, .int (i32 a3))]) dX7_boxesChangingLamp_54 rfl (by decide) rfl ?_
          refine zr_iinc (pc' := 58) cx rfl (lv' := [(3, .int (i32 (a3 + 1))), (2, .int (i32 x1)), (0, .ref (zad Y 0)), (1, .int (i32 a1))]) 3 dX7_boxesChangingLamp_55 rfl (by decide) rfl ?_
          refine zr_goto cx (tgt := 4) dX7_boxesChangingLamp_58 rfl ?_
          refine zr_sub [2, 3, 1, 0] rfl ?_
          exact ih a1 x1 (a3 + 1)
theorem wX7_boxesChangingLamp (cx : zCx Y p s m args meth c RX7 cX7_boxesChangingLamp 4 (some .int)) (g : zSt) (a1 : Int)  : zWo Y p l e (zrm 0) s m args below meth c 4 0 0 (fun v : Int => MQ below (zQi Y v g) args s 0 0 (zA Y)) g [(0, .ref (zad Y 0)), (1, .int (i32 a1))] ([]) 0 (fX7_boxesChangingLamp g a1) := by
  unfold fX7_boxesChangingLamp
  refine zr_iconst (pc' := 1) cx rfl dX7_boxesChangingLamp_0 ?_
  refine zr_istore_n (pc' := 2) cx rfl (lv' := [(2, .int (i32 0)), (0, .ref (zad Y 0)), (1, .int (i32 a1))]) dX7_boxesChangingLamp_1 rfl (by decide) rfl ?_
  refine zr_iconst (pc' := 3) cx rfl dX7_boxesChangingLamp_2 ?_
  refine zr_istore_n (pc' := 4) cx rfl (lv' := [(3, .int (i32 1)), (2, .int (i32 0)), (0, .ref (zad Y 0)), (1, .int (i32 a1))]) dX7_boxesChangingLamp_3 rfl (by decide) rfl ?_
  refine zr_sub [2, 3, 1, 0] rfl ?_
  exact wX7_boxesChangingLamp_p4 cx g zfu a1 0 1
theorem mX7_boxesChangingLamp (l : Launch) (Y : zLy) (g : zSt) (a1 : Int)  : ∀ v, fX7_boxesChangingLamp g a1 = some v → zMt l yX7_boxesChangingLamp cX7_boxesChangingLamp 4 (some .int) 0 [.ref (zad Y 0), .int (i32 a1)] Y g (zQi Y v g) := by
  intro v hv
  refine zmet_of RX7 rfl (by decide +kernel) (Nat.le_of_ble_eq_true rfl) ?_
  intro p e s m below meth c cx H locs ls hH hS hl
  exact wX7_boxesChangingLamp cx g a1  v hv H locs ls hH hS hl
theorem zc_X7_278 (cx : zCx Y p s m args meth c RX7 cc nl ret) (hpc : pc + 3 = pc') {g : zSt} {a1 : Int}  {fk : Int → Option ρ} (hR : 0 + 1 ≤ R.frames ∧ 8 + (4 + 11) + 40 * 0 ≤ R.locals) (hkn : k ≤ R.cells ∧ n ≤ R.slots) (hrest : (rest.map fun v => v.category).sum ≤ 8) (hdg : decode cc pc = .ok (.invokevirtual 278, 3)) (kk : ∀ v : Int, zWo Y p l e R s m args below meth c nl k n kq g lv (.int (i32 v) :: rest) pc' (fk v)) : zWo Y p l e R s m args below meth c nl k n kq g lv (.int (i32 a1) :: .ref (zad Y 0) :: rest) pc (zbd (fX7_boxesChangingLamp g a1) fk) := zr_callViP cx (an := 1) (As := [.int (i32 a1)]) 8 zkc_0 (by decide) rfl (mX7_boxesChangingLamp l Y g a1) (zG_V zw_500 zw_502 zw_18 zw_101 zw_503) (by decide +kernel) hR hkn rfl rfl hrest hdg hpc kk
def fX7_burningIfToggled_p42  (g : zSt) (y1 : Int) (y2 : Int) : Option (Int × zSt) :=
    zck ((0 : Int) ≤ y1 ∧ y1 < 12) (zck ((y2 : Int) = 0 ∨ (y2 : Int) = 1) (zlet (zwr g 34 (Int.toNat y1) y2) (fun g1 =>
    zbe (fX7_settle g1 30 220) (fun v2 g3 =>
    some ((g3.1 220 6), g3)))))
def fX7_burningIfToggled (g : zSt) (a1 : Int) : Option (Int × zSt) :=
    zbd (fX5_copy g 30 10) (fun g4 =>
    zck ((0 : Int) ≤ a1 ∧ a1 < 12) (
    (if i32 (g4.1 34 (Int.toNat a1)) = i32 0 then
    fX7_burningIfToggled_p42 g4 a1 1
    else
    fX7_burningIfToggled_p42 g4 a1 0)))
theorem wX7_burningIfToggled_p42 (cx : zCx Y p s m args meth c RX7 cX7_burningIfToggled 2 (some .int))   : ∀ (g : zSt) (y1 : Int) (y2 : Int), zWo Y p l e (zrm 4) s m args below meth c 2 0 0 (fun q : Int × zSt => MQ below (zQi Y q.1 q.2) args s 0 0 (zA Y)) g [(0, .ref (zad Y 0))] (.int (i32 y2) :: .int (i32 y1) :: .ref (zad Y 34) :: []) 42 (fX7_burningIfToggled_p42 g y1 y2) := by
  intro g y1 y2
  unfold fX7_burningIfToggled_p42
  refine zr_bast (pc' := 43) cx rfl 20 zkc_34 (by decide) (L := 12) rfl dX7_burningIfToggled_42 ?_
  refine zr_letS (fun g1 => ?_)
  refine zr_aload_n (pc' := 44) cx rfl 0 dX7_burningIfToggled_43 rfl rfl ?_
  refine zg_X7_23 (pc' := 47) cx rfl zkc_0 dX7_burningIfToggled_44 ?_
  refine zr_aload_n (pc' := 48) cx rfl 0 dX7_burningIfToggled_47 rfl rfl ?_
  refine zg_X7_26 (pc' := 51) cx rfl zkc_0 dX7_burningIfToggled_48 ?_
  refine zc_X7_95 (pc' := 54) cx rfl zkc_30 zkc_220 ⟨Nat.le_of_ble_eq_true rfl, Nat.le_of_ble_eq_true rfl⟩ ⟨Nat.zero_le _, Nat.zero_le _⟩ (Nat.le_of_ble_eq_true rfl) dX7_burningIfToggled_51 (fun v2 g3 => ?_)
  refine zr_pop (pc' := 55) cx rfl dX7_burningIfToggled_54 rfl ?_
  refine zr_aload_n (pc' := 56) cx rfl 0 dX7_burningIfToggled_55 rfl rfl ?_
  refine zg_X7_26 (pc' := 59) cx rfl zkc_0 dX7_burningIfToggled_56 ?_
  refine zg_X7_115 (pc' := 62) cx rfl zkc_220 dX7_burningIfToggled_59 ?_
  exact zr_iretE cx dX7_burningIfToggled_62
theorem wX7_burningIfToggled (cx : zCx Y p s m args meth c RX7 cX7_burningIfToggled 2 (some .int)) (g : zSt) (a1 : Int)  : zWo Y p l e (zrm 4) s m args below meth c 2 0 0 (fun q : Int × zSt => MQ below (zQi Y q.1 q.2) args s 0 0 (zA Y)) g [(0, .ref (zad Y 0)), (1, .int (i32 a1))] ([]) 0 (fX7_burningIfToggled g a1) := by
  unfold fX7_burningIfToggled
  refine zr_aload_n (pc' := 1) cx rfl 0 dX7_burningIfToggled_0 rfl rfl ?_
  refine zg_X7_23 (pc' := 4) cx rfl zkc_0 dX7_burningIfToggled_1 ?_
  refine zr_aload_n (pc' := 5) cx rfl 0 dX7_burningIfToggled_4 rfl rfl ?_
  refine zg_X7_12 (pc' := 8) cx rfl zkc_0 dX7_burningIfToggled_5 ?_
  refine zc_X7_283 (pc' := 11) cx rfl zkc_30 zkc_10 ⟨Nat.le_of_ble_eq_true rfl, Nat.le_of_ble_eq_true rfl⟩ ⟨Nat.zero_le _, Nat.zero_le _⟩ (Nat.le_of_ble_eq_true rfl) dX7_burningIfToggled_8 (fun g4 => ?_)
  refine zr_aload_n (pc' := 12) cx rfl 0 dX7_burningIfToggled_11 rfl rfl ?_
  refine zg_X7_23 (pc' := 15) cx rfl zkc_0 dX7_burningIfToggled_12 ?_
  refine zg_X7_73 (pc' := 18) cx rfl (c2 := 31) zkc_30 rfl dX7_burningIfToggled_15 ?_
  refine zg_X7_104 (pc' := 21) cx rfl (c2 := 34) zkc_31 rfl dX7_burningIfToggled_18 ?_
  refine zr_iload_n (pc' := 22) cx rfl 1 dX7_burningIfToggled_21 rfl rfl ?_
  refine zr_aload_n (pc' := 23) cx rfl 0 dX7_burningIfToggled_22 rfl rfl ?_
  refine zg_X7_23 (pc' := 26) cx rfl zkc_0 dX7_burningIfToggled_23 ?_
  refine zg_X7_73 (pc' := 29) cx rfl (c2 := 31) zkc_30 rfl dX7_burningIfToggled_26 ?_
  refine zg_X7_104 (pc' := 32) cx rfl (c2 := 34) zkc_31 rfl dX7_burningIfToggled_29 ?_
  refine zr_iload_n (pc' := 33) cx rfl 1 dX7_burningIfToggled_32 rfl rfl ?_
  refine zr_bald (pc' := 34) cx rfl 20 zkc_34 (by decide) (L := 12) rfl dX7_burningIfToggled_33 ?_
  refine zr_if_ne (pc' := 37) cx rfl (tgt := 41) dX7_burningIfToggled_34 rfl ?_ ?_
  · refine zr_iconst (pc' := 42) cx rfl dX7_burningIfToggled_41 ?_
    refine zr_sub [0] rfl ?_
    exact wX7_burningIfToggled_p42 cx g4 a1 0
  · refine zr_iconst (pc' := 38) cx rfl dX7_burningIfToggled_37 ?_
    refine zr_gotoS cx (tgt := 42) dX7_burningIfToggled_38 rfl ?_
    refine zr_sub [0] rfl ?_
    exact wX7_burningIfToggled_p42 cx g4 a1 1
theorem mX7_burningIfToggled (l : Launch) (Y : zLy) (g : zSt) (a1 : Int)  : ∀ v g2, fX7_burningIfToggled g a1 = some (v, g2) → zMt l yX7_burningIfToggled cX7_burningIfToggled 2 (some .int) 4 [.ref (zad Y 0), .int (i32 a1)] Y g (zQi Y v g2) := by
  intro v g2 hv
  refine zmet_of RX7 rfl (by decide +kernel) (Nat.le_of_ble_eq_true rfl) ?_
  intro p e s m below meth c cx H locs ls hH hS hl
  exact wX7_burningIfToggled cx g a1  (v, g2) hv H locs ls hH hS hl
theorem zc_X7_290 (cx : zCx Y p s m args meth c RX7 cc nl ret) (hpc : pc + 3 = pc') {g : zSt} {a1 : Int}  {fk : Int → zSt → Option ρ} (hR : 4 + 1 ≤ R.frames ∧ 8 + (2 + 11) + 40 * 4 ≤ R.locals) (hkn : k ≤ R.cells ∧ n ≤ R.slots) (hrest : (rest.map fun v => v.category).sum ≤ 8) (hdg : decode cc pc = .ok (.invokevirtual 290, 3)) (kk : ∀ (v : Int) (g2 : zSt), zWo Y p l e R s m args below meth c nl k n kq g2 lv (.int (i32 v) :: rest) pc' (fk v g2)) : zWo Y p l e R s m args below meth c nl k n kq g lv (.int (i32 a1) :: .ref (zad Y 0) :: rest) pc (zbe (fX7_burningIfToggled g a1) fk) := zr_callViE cx (an := 1) (As := [.int (i32 a1)]) 8 zkc_0 (by decide) rfl (mX7_burningIfToggled l Y g a1) (zG_V zw_568 zw_570 zw_28 zw_101 zw_571) (by decide +kernel) hR hkn rfl rfl hrest hdg hpc kk
def fX7_surveyWithWholeFuses_p13  : Nat → zSt → Int → Option zSt
  | 0, _, _ => none
  | fu + 1, g, a1 =>
    (if i32 a1 < i32 (2 * (g.1 31 0)) then
    zck ((0 : Int) ≤ a1 ∧ a1 < 24) (zck ((0 : Int) = 0 ∨ (0 : Int) = 1) (zlet (zwr g 36 (Int.toNat a1) 0) (fun g2 =>
    fX7_surveyWithWholeFuses_p13 fu g2 (a1 + 1))))
    else
    zbd (fX6_take g 240 30) (fun g1 =>
    some g1))
def fX7_surveyWithWholeFuses (g : zSt) : Option zSt :=
    zbd (fX5_copy g 30 10) (fun g3 =>
    fX7_surveyWithWholeFuses_p13 zfu g3 0)
theorem wX7_surveyWithWholeFuses_p13 (cx : zCx Y p s m args meth c RX7 cX7_surveyWithWholeFuses 2 none)   : ∀ (fu : Nat) (g : zSt) (a1 : Int), zWo Y p l e (zrm 3) s m args below meth c 2 0 0 (fun g9 : zSt => MQ below (zQv Y g9) args s 0 0 (zA Y)) g [(0, .ref (zad Y 0)), (1, .int (i32 a1))] ([]) 13 (fX7_surveyWithWholeFuses_p13 fu g a1) := by
  intro fu
  induction fu with
  | zero => intro g a1; exact zr_none
  | succ fu ih =>
    intro g a1
    rw [fX7_surveyWithWholeFuses_p13]
    refine zr_iload_n (pc' := 14) cx rfl 1 dX7_surveyWithWholeFuses_13 rfl rfl ?_
    refine zr_iconst (pc' := 15) cx rfl dX7_surveyWithWholeFuses_14 ?_
    refine zr_aload_n (pc' := 16) cx rfl 0 dX7_surveyWithWholeFuses_15 rfl rfl ?_
    refine zg_X7_23 (pc' := 19) cx rfl zkc_0 dX7_surveyWithWholeFuses_16 ?_
    refine zg_X7_73 (pc' := 22) cx rfl (c2 := 31) zkc_30 rfl dX7_surveyWithWholeFuses_19 ?_
    refine zg_X7_77 (pc' := 25) cx rfl zkc_31 dX7_surveyWithWholeFuses_22 ?_
    refine zr_imul (pc' := 26) cx rfl dX7_surveyWithWholeFuses_25 ?_
    refine zr_icmp_ge (pc' := 29) cx rfl (tgt := 48) dX7_surveyWithWholeFuses_26 rfl ?_ ?_
    · refine zr_aload_n (pc' := 49) cx rfl 0 dX7_surveyWithWholeFuses_48 rfl rfl ?_
      refine zg_X7_29 (pc' := 52) cx rfl zkc_0 dX7_surveyWithWholeFuses_49 ?_
      refine zr_aload_n (pc' := 53) cx rfl 0 dX7_surveyWithWholeFuses_52 rfl rfl ?_
      refine zg_X7_23 (pc' := 56) cx rfl zkc_0 dX7_surveyWithWholeFuses_53 ?_
      refine zc_X7_239 (pc' := 59) cx rfl zkc_240 zkc_30 ⟨Nat.le_of_ble_eq_true rfl, Nat.le_of_ble_eq_true rfl⟩ ⟨Nat.zero_le _, Nat.zero_le _⟩ (Nat.le_of_ble_eq_true rfl) dX7_surveyWithWholeFuses_56 (fun g1 => ?_)
      exact zr_vretE cx dX7_surveyWithWholeFuses_59
    · refine zr_aload_n (pc' := 30) cx rfl 0 dX7_surveyWithWholeFuses_29 rfl rfl ?_
      refine zg_X7_23 (pc' := 33) cx rfl zkc_0 dX7_surveyWithWholeFuses_30 ?_
      refine zg_X7_73 (pc' := 36) cx rfl (c2 := 31) zkc_30 rfl dX7_surveyWithWholeFuses_33 ?_
      refine zg_X7_131 (pc' := 39) cx rfl (c2 := 36) zkc_31 rfl dX7_surveyWithWholeFuses_36 ?_
      refine zr_iload_n (pc' := 40) cx rfl 1 dX7_surveyWithWholeFuses_39 rfl rfl ?_
      refine zr_iconst (pc' := 41) cx rfl dX7_surveyWithWholeFuses_40 ?_
      refine zr_bast (pc' := 42) cx rfl 21 zkc_36 (by decide) (L := 24) rfl dX7_surveyWithWholeFuses_41 ?_
      refine zr_letS (fun g2 => ?_)
      refine zr_iinc (pc' := 45) cx rfl (lv' := [(1, .int (i32 (a1 + 1))), (0, .ref (zad Y 0))]) 1 dX7_surveyWithWholeFuses_42 rfl (by decide) rfl ?_
      refine zr_goto cx (tgt := 13) dX7_surveyWithWholeFuses_45 rfl ?_
      refine zr_sub [1, 0] rfl ?_
      exact ih g2 (a1 + 1)
theorem wX7_surveyWithWholeFuses (cx : zCx Y p s m args meth c RX7 cX7_surveyWithWholeFuses 2 none) (g : zSt)  : zWo Y p l e (zrm 3) s m args below meth c 2 0 0 (fun g9 : zSt => MQ below (zQv Y g9) args s 0 0 (zA Y)) g [(0, .ref (zad Y 0))] ([]) 0 (fX7_surveyWithWholeFuses g) := by
  unfold fX7_surveyWithWholeFuses
  refine zr_aload_n (pc' := 1) cx rfl 0 dX7_surveyWithWholeFuses_0 rfl rfl ?_
  refine zg_X7_23 (pc' := 4) cx rfl zkc_0 dX7_surveyWithWholeFuses_1 ?_
  refine zr_aload_n (pc' := 5) cx rfl 0 dX7_surveyWithWholeFuses_4 rfl rfl ?_
  refine zg_X7_12 (pc' := 8) cx rfl zkc_0 dX7_surveyWithWholeFuses_5 ?_
  refine zc_X7_283 (pc' := 11) cx rfl zkc_30 zkc_10 ⟨Nat.le_of_ble_eq_true rfl, Nat.le_of_ble_eq_true rfl⟩ ⟨Nat.zero_le _, Nat.zero_le _⟩ (Nat.le_of_ble_eq_true rfl) dX7_surveyWithWholeFuses_8 (fun g3 => ?_)
  refine zr_iconst (pc' := 12) cx rfl dX7_surveyWithWholeFuses_11 ?_
  refine zr_istore_n (pc' := 13) cx rfl (lv' := [(1, .int (i32 0)), (0, .ref (zad Y 0))]) dX7_surveyWithWholeFuses_12 rfl (by decide) rfl ?_
  refine zr_sub [1, 0] rfl ?_
  exact wX7_surveyWithWholeFuses_p13 cx zfu g3 0
theorem mX7_surveyWithWholeFuses (l : Launch) (Y : zLy) (g : zSt)  : ∀ g2, fX7_surveyWithWholeFuses g = some g2 → zMt l yX7_surveyWithWholeFuses cX7_surveyWithWholeFuses 2 none 3 [.ref (zad Y 0)] Y g (zQv Y g2) := by
  intro g2 hv
  refine zmet_of RX7 rfl (by decide +kernel) (Nat.le_of_ble_eq_true rfl) ?_
  intro p e s m below meth c cx H locs ls hH hS hl
  exact wX7_surveyWithWholeFuses cx g   g2 hv H locs ls hH hS hl
theorem zc_X7_293 (cx : zCx Y p s m args meth c RX7 cc nl ret) (hpc : pc + 3 = pc') {g : zSt}   {fk : zSt → Option ρ} (hR : 3 + 1 ≤ R.frames ∧ 8 + (2 + 11) + 40 * 3 ≤ R.locals) (hkn : k ≤ R.cells ∧ n ≤ R.slots) (hrest : (rest.map fun v => v.category).sum ≤ 8) (hdg : decode cc pc = .ok (.invokevirtual 293, 3)) (kk : ∀ g2 : zSt, zWo Y p l e R s m args below meth c nl k n kq g2 lv (rest) pc' (fk g2)) : zWo Y p l e R s m args below meth c nl k n kq g lv (.ref (zad Y 0) :: rest) pc (zbd (fX7_surveyWithWholeFuses g) fk) := zr_callVvE cx (an := 0) (As := []) 8 zkc_0 (by decide) rfl (mX7_surveyWithWholeFuses l Y g) (zG_V zw_508 zw_510 zw_20 zw_101 zw_511) (by decide +kernel) hR hkn rfl rfl hrest hdg hpc kk
def fX7_lossShare (g : zSt) : Option UInt64 :=
    zlet ((g.1 10 6) + (g.1 10 7)) (fun x1 =>
    (if i32 x1 = i32 0 then
    some (FP.dconst0)
    else
    zck (znb (FP.ddiv (FP.i2d (i32 (g.1 10 7))) (FP.i2d (i32 x1))) = true) (
    some (FP.ddiv (FP.i2d (i32 (g.1 10 7))) (FP.i2d (i32 x1))))))
theorem wX7_lossShare (cx : zCx Y p s m args meth c RX7 cX7_lossShare 2 (some .double)) (g : zSt)  : zWo Y p l e (zrm 0) s m args below meth c 2 0 0 (fun v : UInt64 => MQ below (zQd Y v g) args s 0 0 (zA Y)) g [(0, .ref (zad Y 0))] ([]) 0 (fX7_lossShare g) := by
  unfold fX7_lossShare
  refine zr_aload_n (pc' := 1) cx rfl 0 dX7_lossShare_0 rfl rfl ?_
  refine zg_X7_12 (pc' := 4) cx rfl zkc_0 dX7_lossShare_1 ?_
  refine zg_X7_207 (pc' := 7) cx rfl zkc_10 dX7_lossShare_4 ?_
  refine zr_aload_n (pc' := 8) cx rfl 0 dX7_lossShare_7 rfl rfl ?_
  refine zg_X7_12 (pc' := 11) cx rfl zkc_0 dX7_lossShare_8 ?_
  refine zg_X7_210 (pc' := 14) cx rfl zkc_10 dX7_lossShare_11 ?_
  refine zr_iadd (pc' := 15) cx rfl dX7_lossShare_14 ?_
  refine zr_leti (fun x1 => ?_)
  refine zr_istore_n (pc' := 16) cx rfl (lv' := [(1, .int (i32 x1)), (0, .ref (zad Y 0))]) dX7_lossShare_15 rfl (by decide) rfl ?_
  refine zr_iload_n (pc' := 17) cx rfl 0 dX7_lossShare_16 rfl rfl ?_
  refine zr_if_ne (pc' := 20) cx rfl (tgt := 22) dX7_lossShare_17 rfl ?_ ?_
  · refine zr_aload_n (pc' := 23) cx rfl 1 dX7_lossShare_22 rfl rfl ?_
    refine zg_X7_12 (pc' := 26) cx rfl zkc_0 dX7_lossShare_23 ?_
    refine zg_X7_210 (pc' := 29) cx rfl zkc_10 dX7_lossShare_26 ?_
    refine zr_i2d (pc' := 30) cx rfl dX7_lossShare_29 ?_
    refine zr_iload_n (pc' := 31) cx rfl 0 dX7_lossShare_30 rfl rfl ?_
    refine zr_i2d (pc' := 32) cx rfl dX7_lossShare_31 ?_
    refine zr_ddiv (pc' := 33) cx rfl dX7_lossShare_32 ?_
    exact zr_dretP cx dX7_lossShare_33
  · refine zr_dconst0 (pc' := 21) cx rfl dX7_lossShare_20 ?_
    exact zr_dretP cx dX7_lossShare_21
theorem mX7_lossShare (l : Launch) (Y : zLy) (g : zSt)  : ∀ v, fX7_lossShare g = some v → zMt l yX7_lossShare cX7_lossShare 2 (some .double) 0 [.ref (zad Y 0)] Y g (zQd Y v g) := by
  intro v hv
  refine zmet_of RX7 rfl (by decide +kernel) (Nat.le_of_ble_eq_true rfl) ?_
  intro p e s m below meth c cx H locs ls hH hS hl
  exact wX7_lossShare cx g   v hv H locs ls hH hS hl
theorem zc_X7_313 (cx : zCx Y p s m args meth c RX7 cc nl ret) (hpc : pc + 3 = pc') {g : zSt}   {fk : UInt64 → Option ρ} (hR : 0 + 1 ≤ R.frames ∧ 8 + (2 + 11) + 40 * 0 ≤ R.locals) (hkn : k ≤ R.cells ∧ n ≤ R.slots) (hrest : (rest.map fun v => v.category).sum ≤ 8) (hdg : decode cc pc = .ok (.invokevirtual 313, 3)) (kk : ∀ v : UInt64, zWo Y p l e R s m args below meth c nl k n kq g lv (.double v :: rest) pc' (fk v)) : zWo Y p l e R s m args below meth c nl k n kq g lv (.ref (zad Y 0) :: rest) pc (zbd (fX7_lossShare g) fk) := zr_callVdP cx (an := 0) (As := []) 8 zkc_0 (by decide) rfl (mX7_lossShare l Y g) (zG_V zw_580 zw_427 zw_428 zw_101 zw_429) (by decide +kernel) hR hkn rfl rfl hrest hdg hpc kk
def fX7_bitsOfShare_p43 (g : zSt)  (d2 : UInt64) (b4 : Int64) : Option Int64 :=
    zck (znb (FP.dsub d2 (FP.dconst1)) = true) (
    zck (znb (FP.dmul (FP.dsub d2 (FP.dconst1)) (4841369599423283200 : UInt64)) = true) (
    zlet (FP.d2l (FP.dmul (FP.dsub d2 (FP.dconst1)) (4841369599423283200 : UInt64))) (fun h1 =>
    some ((b4 <<< ((i32 52).toInt64 &&& 63)) + h1))))
def fX7_bitsOfShare_p15 (g : zSt)  : Nat → UInt64 → Int64 → Option Int64
  | 0, _, _ => none
  | fu + 1, d2, b4 =>
    (if i32 (zdc d2 (FP.dconst1) .g) < i32 0 then
    (if i32 0 < i32 (zlc b4 (1 : Int64)) then
    zck (znb (FP.dmul d2 (4611686018427387904 : UInt64)) = true) (
    zlet (FP.dmul d2 (4611686018427387904 : UInt64)) (fun u2 =>
    zlet (b4 - (1 : Int64)) (fun h3 =>
    fX7_bitsOfShare_p15 g fu u2 h3)))
    else
    fX7_bitsOfShare_p43 g d2 b4)
    else
    fX7_bitsOfShare_p43 g d2 b4)
def fX7_bitsOfShare (g : zSt) (d0 : UInt64) : Option Int64 :=
    (if i32 0 < i32 (zdc d0 (FP.dconst0) .g) then
    zlet (1023 : Int64) (fun h4 =>
    fX7_bitsOfShare_p15 g zfu d0 h4)
    else
    some (0 : Int64))
theorem wX7_bitsOfShare_p43 (cx : zCx Y p s m args meth c RX7 cX7_bitsOfShare 8 (some .long)) (g : zSt)   : ∀ (d2 : UInt64) (b4 : Int64), zWo Y p l e (zrm 0) s m args below meth c 8 0 0 (fun v : Int64 => MQ below (zQl Y v g) args s 0 0 (zA Y)) g [(2, .double d2), (4, .long b4)] ([]) 43 (fX7_bitsOfShare_p43 g d2 b4) := by
  intro d2 b4
  unfold fX7_bitsOfShare_p43
  refine zr_dload_n (pc' := 44) cx rfl 0 dX7_bitsOfShare_43 rfl rfl ?_
  refine zr_dconst1 (pc' := 45) cx rfl dX7_bitsOfShare_44 ?_
  refine zr_dsub (pc' := 46) cx rfl dX7_bitsOfShare_45 ?_
  refine zr_ldc2d (pc' := 49) cx rfl dX7_bitsOfShare_46 zw_586 ?_
  refine zr_dmul (pc' := 50) cx rfl dX7_bitsOfShare_49 ?_
  refine zr_d2l (pc' := 51) cx rfl dX7_bitsOfShare_50 ?_
  refine zr_letl (fun h1 => ?_)
  refine zr_lstore (pc' := 53) cx rfl (lv' := [(6, .long h1), (2, .double d2), (4, .long b4)]) dX7_bitsOfShare_51 (by decide) rfl ?_
  refine zr_lload (pc' := 55) cx rfl 2 dX7_bitsOfShare_53 rfl ?_
  refine zr_bipush (pc' := 57) cx rfl dX7_bitsOfShare_55 (by decide +kernel) ?_
  refine zr_lshl (pc' := 58) cx rfl dX7_bitsOfShare_57 ?_
  refine zr_lload (pc' := 60) cx rfl 0 dX7_bitsOfShare_58 rfl ?_
  refine zr_ladd (pc' := 61) cx rfl dX7_bitsOfShare_60 ?_
  exact zr_lretP cx dX7_bitsOfShare_61
theorem wX7_bitsOfShare_p15 (cx : zCx Y p s m args meth c RX7 cX7_bitsOfShare 8 (some .long)) (g : zSt)   : ∀ (fu : Nat) (d2 : UInt64) (b4 : Int64), zWo Y p l e (zrm 0) s m args below meth c 8 0 0 (fun v : Int64 => MQ below (zQl Y v g) args s 0 0 (zA Y)) g [(2, .double d2), (4, .long b4)] ([]) 15 (fX7_bitsOfShare_p15 g fu d2 b4) := by
  intro fu
  induction fu with
  | zero => intro d2 b4; exact zr_none
  | succ fu ih =>
    intro d2 b4
    rw [fX7_bitsOfShare_p15]
    refine zr_dload_n (pc' := 16) cx rfl 0 dX7_bitsOfShare_15 rfl rfl ?_
    refine zr_dconst1 (pc' := 17) cx rfl dX7_bitsOfShare_16 ?_
    refine zr_dcmp (pc' := 18) cx rfl dX7_bitsOfShare_17 ?_
    refine zr_if_ge (pc' := 21) cx rfl (tgt := 43) dX7_bitsOfShare_18 rfl ?_ ?_
    · refine zr_sub [0, 1] rfl ?_
      exact wX7_bitsOfShare_p43 cx g d2 b4
    · refine zr_lload (pc' := 23) cx rfl 1 dX7_bitsOfShare_21 rfl ?_
      refine zr_lconst (pc' := 24) cx rfl (v := 1) dX7_bitsOfShare_23 (by decide +kernel) ?_
      refine zr_lcmp (pc' := 25) cx rfl dX7_bitsOfShare_24 ?_
      refine zr_if_le (pc' := 28) cx rfl (tgt := 43) dX7_bitsOfShare_25 rfl ?_ ?_
      · refine zr_sub [0, 1] rfl ?_
        exact wX7_bitsOfShare_p43 cx g d2 b4
      · refine zr_dload_n (pc' := 29) cx rfl 0 dX7_bitsOfShare_28 rfl rfl ?_
        refine zr_ldc2d (pc' := 32) cx rfl dX7_bitsOfShare_29 zw_585 ?_
        refine zr_dmul (pc' := 33) cx rfl dX7_bitsOfShare_32 ?_
        refine zr_letd (fun u2 => ?_)
        refine zr_dstore_n (pc' := 34) cx rfl (lv' := [(2, .double u2), (4, .long b4)]) dX7_bitsOfShare_33 rfl (by decide) rfl ?_
        refine zr_lload (pc' := 36) cx rfl 1 dX7_bitsOfShare_34 rfl ?_
        refine zr_lconst (pc' := 37) cx rfl (v := 1) dX7_bitsOfShare_36 (by decide +kernel) ?_
        refine zr_lsub (pc' := 38) cx rfl dX7_bitsOfShare_37 ?_
        refine zr_letl (fun h3 => ?_)
        refine zr_lstore (pc' := 40) cx rfl (lv' := [(4, .long h3), (2, .double u2)]) dX7_bitsOfShare_38 (by decide) rfl ?_
        refine zr_goto cx (tgt := 15) dX7_bitsOfShare_40 rfl ?_
        refine zr_sub [1, 0] rfl ?_
        exact ih u2 h3
theorem wX7_bitsOfShare (cx : zCx Y p s m args meth c RX7 cX7_bitsOfShare 8 (some .long)) (g : zSt) (d0 : UInt64)  : zWo Y p l e (zrm 0) s m args below meth c 8 0 0 (fun v : Int64 => MQ below (zQl Y v g) args s 0 0 (zA Y)) g [(0, .double d0)] ([]) 0 (fX7_bitsOfShare g d0) := by
  unfold fX7_bitsOfShare
  refine zr_dload_n (pc' := 1) cx rfl 0 dX7_bitsOfShare_0 rfl rfl ?_
  refine zr_dconst0 (pc' := 2) cx rfl dX7_bitsOfShare_1 ?_
  refine zr_dcmp (pc' := 3) cx rfl dX7_bitsOfShare_2 ?_
  refine zr_if_gt (pc' := 6) cx rfl (tgt := 8) dX7_bitsOfShare_3 rfl ?_ ?_
  · refine zr_dload_n (pc' := 9) cx rfl 0 dX7_bitsOfShare_8 rfl rfl ?_
    refine zr_dstore_n (pc' := 10) cx rfl (lv' := [(2, .double d0), (0, .double d0)]) dX7_bitsOfShare_9 rfl (by decide) rfl ?_
    refine zr_ldc2 (pc' := 13) cx rfl dX7_bitsOfShare_10 zw_584 ?_
    refine zr_letl (fun h4 => ?_)
    refine zr_lstore (pc' := 15) cx rfl (lv' := [(4, .long h4), (2, .double d0), (0, .double d0)]) dX7_bitsOfShare_13 (by decide) rfl ?_
    refine zr_sub [1, 0] rfl ?_
    exact wX7_bitsOfShare_p15 cx g zfu d0 h4
  · refine zr_lconst (pc' := 7) cx rfl (v := 0) dX7_bitsOfShare_6 (by decide +kernel) ?_
    exact zr_lretP cx dX7_bitsOfShare_7
theorem mX7_bitsOfShare (l : Launch) (Y : zLy) (g : zSt) (d0 : UInt64)  : ∀ v, fX7_bitsOfShare g d0 = some v → zMt l yX7_bitsOfShare cX7_bitsOfShare 8 (some .long) 0 [.double d0] Y g (zQl Y v g) := by
  intro v hv
  refine zmet_of RX7 rfl (by decide +kernel) (Nat.le_of_ble_eq_true rfl) ?_
  intro p e s m below meth c cx H locs ls hH hS hl
  exact wX7_bitsOfShare cx g d0  v hv H locs ls hH hS hl
theorem zc_X7_317 (cx : zCx Y p s m args meth c RX7 cc nl ret) (hpc : pc + 3 = pc') {g : zSt} {d0 : UInt64}  {fk : Int64 → Option ρ} (hR : 0 + 1 ≤ R.frames ∧ 8 + (8 + 11) + 40 * 0 ≤ R.locals) (hkn : k ≤ R.cells ∧ n ≤ R.slots) (hrest : (rest.map fun v => v.category).sum ≤ 8) (hdg : decode cc pc = .ok (.invokestatic 317, 3)) (kk : ∀ v : Int64, zWo Y p l e R s m args below meth c nl k n kq g lv (.long v :: rest) pc' (fk v)) : zWo Y p l e R s m args below meth c nl k n kq g lv (.double d0 :: rest) pc (zbd (fX7_bitsOfShare g d0) fk) := zr_callSlP cx (an := 1) (As := [.double d0])  (mX7_bitsOfShare l Y g d0) (zG_S zw_581 zw_582 zw_101 zw_583) (by decide +kernel) hR hkn rfl rfl hrest hdg hpc kk
def fX7_hashBoxes_p64 (g : zSt) (k5 : Int64 → Int → Option Int64) (k55 : Int64 → Int → Int → Option Int64) : Nat → Int64 → Int → Int → Int → Option Int64
  | 0, _, _, _, _ => none
  | fu + 1, b3, a5, a6, a7 =>
    (if i32 a7 < i32 6 then
    zbd (fX7_terminalProperty g a5 a6 a7) (fun v1 =>
    zlet (((31 : Int64) * b3) + ((i32 v1).toInt64)) (fun h2 =>
    fX7_hashBoxes_p64 g k5 k55 fu h2 a5 a6 (a7 + 1)))
    else
    k55 b3 a5 (a6 + 1))
def fX7_hashBoxes_p55 (g : zSt) (k5 : Int64 → Int → Option Int64) : Nat → Int64 → Int → Int → Option Int64
  | 0, _, _, _ => none
  | fu + 1, b3, a5, a6 =>
    (if i32 a6 < i32 2 then
    fX7_hashBoxes_p64 g k5 (fX7_hashBoxes_p55 g k5 fu) zfu b3 a5 a6 0
    else
    k5 b3 (a5 + 1))
def fX7_hashBoxes_p23 (g : zSt) (k5 : Int64 → Int → Option Int64) : Nat → Int64 → Int → Int → Option Int64
  | 0, _, _, _ => none
  | fu + 1, b3, a5, a6 =>
    (if i32 a6 < i32 7 then
    zbd (fX7_boxProperty g a5 a6) (fun v3 =>
    zlet (((31 : Int64) * b3) + ((i32 v3).toInt64)) (fun h4 =>
    fX7_hashBoxes_p23 g k5 fu h4 a5 (a6 + 1)))
    else
    fX7_hashBoxes_p55 g k5 zfu b3 a5 0)
def fX7_hashBoxes_p5 (g : zSt)  : Nat → Int64 → Int → Option Int64
  | 0, _, _ => none
  | fu + 1, b3, a5 =>
    (if i32 a5 < i32 (g.1 11 0) then
    fX7_hashBoxes_p23 g (fX7_hashBoxes_p5 g fu) zfu b3 a5 0
    else
    some b3)
def fX7_hashBoxes (g : zSt) (b1 : Int64) : Option Int64 :=
    fX7_hashBoxes_p5 g zfu b1 0
theorem wX7_hashBoxes_p64 (cx : zCx Y p s m args meth c RX7 cX7_hashBoxes 8 (some .long)) (g : zSt) {k5 : Int64 → Int → Option Int64} {k55 : Int64 → Int → Int → Option Int64} (hk5 : ∀ (b3 : Int64) (a5 : Int), zWo Y p l e (zrm 3) s m args below meth c 8 0 0 (fun v : Int64 => MQ below (zQl Y v g) args s 0 0 (zA Y)) g [(0, .ref (zad Y 0)), (3, .long b3), (5, .int (i32 a5))] ([]) 5 (k5 b3 a5)) (hk55 : ∀ (b3 : Int64) (a5 : Int) (a6 : Int), zWo Y p l e (zrm 3) s m args below meth c 8 0 0 (fun v : Int64 => MQ below (zQl Y v g) args s 0 0 (zA Y)) g [(0, .ref (zad Y 0)), (3, .long b3), (5, .int (i32 a5)), (6, .int (i32 a6))] ([]) 55 (k55 b3 a5 a6)) : ∀ (fu : Nat) (b3 : Int64) (a5 : Int) (a6 : Int) (a7 : Int), zWo Y p l e (zrm 3) s m args below meth c 8 0 0 (fun v : Int64 => MQ below (zQl Y v g) args s 0 0 (zA Y)) g [(0, .ref (zad Y 0)), (3, .long b3), (5, .int (i32 a5)), (6, .int (i32 a6)), (7, .int (i32 a7))] ([]) 64 (fX7_hashBoxes_p64 g k5 k55 fu b3 a5 a6 a7) := by
  intro fu
  induction fu with
  | zero => intro b3 a5 a6 a7; exact zr_none
  | succ fu ih =>
    intro b3 a5 a6 a7
    rw [fX7_hashBoxes_p64]
    refine zr_iload (pc' := 66) cx rfl 4 dX7_hashBoxes_64 rfl ?_
    refine zr_bipush (pc' := 68) cx rfl dX7_hashBoxes_66 (by decide +kernel) ?_
    refine zr_icmp_ge (pc' := 71) cx rfl (tgt := 95) dX7_hashBoxes_68 rfl ?_ ?_
    · refine zr_iinc (pc' := 98) cx rfl (lv' := [(6, .int (i32 (a6 + 1))), (0, .ref (zad Y 0)), (3, .long b3), (5, .int (i32 a5)), (7, .int (i32 a7))]) 3 dX7_hashBoxes_95 rfl (by decide) rfl ?_
      refine zr_goto cx (tgt := 55) dX7_hashBoxes_98 rfl ?_
      refine zr_sub [1, 2, 3, 0] rfl ?_
      exact hk55 b3 a5 (a6 + 1)
    · refine zr_ldc2 (pc' := 74) cx rfl dX7_hashBoxes_71 zw_435 ?_
      refine zr_lload_n (pc' := 75) cx rfl 1 dX7_hashBoxes_74 rfl rfl ?_
      refine zr_lmul (pc' := 76) cx rfl dX7_hashBoxes_75 ?_
      refine zr_aload_n (pc' := 77) cx rfl 0 dX7_hashBoxes_76 rfl rfl ?_
      refine zr_iload (pc' := 79) cx rfl 2 dX7_hashBoxes_77 rfl ?_
      refine zr_iload (pc' := 81) cx rfl 3 dX7_hashBoxes_79 rfl ?_
      refine zr_iload (pc' := 83) cx rfl 4 dX7_hashBoxes_81 rfl ?_
      refine zc_X7_250 (pc' := 86) cx rfl  ⟨Nat.le_of_ble_eq_true rfl, Nat.le_of_ble_eq_true rfl⟩ ⟨Nat.zero_le _, Nat.zero_le _⟩ (Nat.le_of_ble_eq_true rfl) dX7_hashBoxes_83 (fun v1 => ?_)
      refine zr_i2l (pc' := 87) cx rfl dX7_hashBoxes_86 ?_
      refine zr_ladd (pc' := 88) cx rfl dX7_hashBoxes_87 ?_
      refine zr_letl (fun h2 => ?_)
      refine zr_lstore_n (pc' := 89) cx rfl (lv' := [(3, .long h2), (0, .ref (zad Y 0)), (5, .int (i32 a5)), (6, .int (i32 a6)), (7, .int (i32 a7))]) dX7_hashBoxes_88 rfl (by decide) rfl ?_
      refine zr_iinc (pc' := 92) cx rfl (lv' := [(7, .int (i32 (a7 + 1))), (3, .long h2), (0, .ref (zad Y 0)), (5, .int (i32 a5)), (6, .int (i32 a6))]) 4 dX7_hashBoxes_89 rfl (by decide) rfl ?_
      refine zr_goto cx (tgt := 64) dX7_hashBoxes_92 rfl ?_
      refine zr_sub [2, 1, 3, 4, 0] rfl ?_
      exact ih h2 a5 a6 (a7 + 1)
theorem wX7_hashBoxes_p55 (cx : zCx Y p s m args meth c RX7 cX7_hashBoxes 8 (some .long)) (g : zSt) {k5 : Int64 → Int → Option Int64} (hk5 : ∀ (b3 : Int64) (a5 : Int), zWo Y p l e (zrm 3) s m args below meth c 8 0 0 (fun v : Int64 => MQ below (zQl Y v g) args s 0 0 (zA Y)) g [(0, .ref (zad Y 0)), (3, .long b3), (5, .int (i32 a5))] ([]) 5 (k5 b3 a5)) : ∀ (fu : Nat) (b3 : Int64) (a5 : Int) (a6 : Int), zWo Y p l e (zrm 3) s m args below meth c 8 0 0 (fun v : Int64 => MQ below (zQl Y v g) args s 0 0 (zA Y)) g [(0, .ref (zad Y 0)), (3, .long b3), (5, .int (i32 a5)), (6, .int (i32 a6))] ([]) 55 (fX7_hashBoxes_p55 g k5 fu b3 a5 a6) := by
  intro fu
  induction fu with
  | zero => intro b3 a5 a6; exact zr_none
  | succ fu ih =>
    intro b3 a5 a6
    rw [fX7_hashBoxes_p55]
    refine zr_iload (pc' := 57) cx rfl 3 dX7_hashBoxes_55 rfl ?_
    refine zr_iconst (pc' := 58) cx rfl dX7_hashBoxes_57 ?_
    refine zr_icmp_ge (pc' := 61) cx rfl (tgt := 101) dX7_hashBoxes_58 rfl ?_ ?_
    · refine zr_iinc (pc' := 104) cx rfl (lv' := [(5, .int (i32 (a5 + 1))), (0, .ref (zad Y 0)), (3, .long b3), (6, .int (i32 a6))]) 2 dX7_hashBoxes_101 rfl (by decide) rfl ?_
      refine zr_goto cx (tgt := 5) dX7_hashBoxes_104 rfl ?_
      refine zr_sub [1, 2, 0] rfl ?_
      exact hk5 b3 (a5 + 1)
    · refine zr_iconst (pc' := 62) cx rfl dX7_hashBoxes_61 ?_
      refine zr_istore (pc' := 64) cx rfl (lv' := [(7, .int (i32 0)), (0, .ref (zad Y 0)), (3, .long b3), (5, .int (i32 a5)), (6, .int (i32 a6))]) dX7_hashBoxes_62 (by decide) rfl ?_
      refine zr_sub [1, 2, 3, 4, 0] rfl ?_
      exact wX7_hashBoxes_p64 cx g hk5 ih zfu b3 a5 a6 0
theorem wX7_hashBoxes_p23 (cx : zCx Y p s m args meth c RX7 cX7_hashBoxes 8 (some .long)) (g : zSt) {k5 : Int64 → Int → Option Int64} (hk5 : ∀ (b3 : Int64) (a5 : Int), zWo Y p l e (zrm 3) s m args below meth c 8 0 0 (fun v : Int64 => MQ below (zQl Y v g) args s 0 0 (zA Y)) g [(0, .ref (zad Y 0)), (3, .long b3), (5, .int (i32 a5))] ([]) 5 (k5 b3 a5)) : ∀ (fu : Nat) (b3 : Int64) (a5 : Int) (a6 : Int), zWo Y p l e (zrm 3) s m args below meth c 8 0 0 (fun v : Int64 => MQ below (zQl Y v g) args s 0 0 (zA Y)) g [(0, .ref (zad Y 0)), (3, .long b3), (5, .int (i32 a5)), (6, .int (i32 a6))] ([]) 23 (fX7_hashBoxes_p23 g k5 fu b3 a5 a6) := by
  intro fu
  induction fu with
  | zero => intro b3 a5 a6; exact zr_none
  | succ fu ih =>
    intro b3 a5 a6
    rw [fX7_hashBoxes_p23]
    refine zr_iload (pc' := 25) cx rfl 3 dX7_hashBoxes_23 rfl ?_
    refine zr_bipush (pc' := 27) cx rfl dX7_hashBoxes_25 (by decide +kernel) ?_
    refine zr_icmp_ge (pc' := 30) cx rfl (tgt := 52) dX7_hashBoxes_27 rfl ?_ ?_
    · refine zr_iconst (pc' := 53) cx rfl dX7_hashBoxes_52 ?_
      refine zr_istore (pc' := 55) cx rfl (lv' := [(6, .int (i32 0)), (0, .ref (zad Y 0)), (3, .long b3), (5, .int (i32 a5))]) dX7_hashBoxes_53 (by decide) rfl ?_
      refine zr_sub [1, 2, 3, 0] rfl ?_
      exact wX7_hashBoxes_p55 cx g hk5 zfu b3 a5 0
    · refine zr_ldc2 (pc' := 33) cx rfl dX7_hashBoxes_30 zw_435 ?_
      refine zr_lload_n (pc' := 34) cx rfl 1 dX7_hashBoxes_33 rfl rfl ?_
      refine zr_lmul (pc' := 35) cx rfl dX7_hashBoxes_34 ?_
      refine zr_aload_n (pc' := 36) cx rfl 0 dX7_hashBoxes_35 rfl rfl ?_
      refine zr_iload (pc' := 38) cx rfl 2 dX7_hashBoxes_36 rfl ?_
      refine zr_iload (pc' := 40) cx rfl 3 dX7_hashBoxes_38 rfl ?_
      refine zc_X7_244 (pc' := 43) cx rfl  ⟨Nat.le_of_ble_eq_true rfl, Nat.le_of_ble_eq_true rfl⟩ ⟨Nat.zero_le _, Nat.zero_le _⟩ (Nat.le_of_ble_eq_true rfl) dX7_hashBoxes_40 (fun v3 => ?_)
      refine zr_i2l (pc' := 44) cx rfl dX7_hashBoxes_43 ?_
      refine zr_ladd (pc' := 45) cx rfl dX7_hashBoxes_44 ?_
      refine zr_letl (fun h4 => ?_)
      refine zr_lstore_n (pc' := 46) cx rfl (lv' := [(3, .long h4), (0, .ref (zad Y 0)), (5, .int (i32 a5)), (6, .int (i32 a6))]) dX7_hashBoxes_45 rfl (by decide) rfl ?_
      refine zr_iinc (pc' := 49) cx rfl (lv' := [(6, .int (i32 (a6 + 1))), (3, .long h4), (0, .ref (zad Y 0)), (5, .int (i32 a5))]) 3 dX7_hashBoxes_46 rfl (by decide) rfl ?_
      refine zr_goto cx (tgt := 23) dX7_hashBoxes_49 rfl ?_
      refine zr_sub [2, 1, 3, 0] rfl ?_
      exact ih h4 a5 (a6 + 1)
theorem wX7_hashBoxes_p5 (cx : zCx Y p s m args meth c RX7 cX7_hashBoxes 8 (some .long)) (g : zSt)   : ∀ (fu : Nat) (b3 : Int64) (a5 : Int), zWo Y p l e (zrm 3) s m args below meth c 8 0 0 (fun v : Int64 => MQ below (zQl Y v g) args s 0 0 (zA Y)) g [(0, .ref (zad Y 0)), (3, .long b3), (5, .int (i32 a5))] ([]) 5 (fX7_hashBoxes_p5 g fu b3 a5) := by
  intro fu
  induction fu with
  | zero => intro b3 a5; exact zr_none
  | succ fu ih =>
    intro b3 a5
    rw [fX7_hashBoxes_p5]
    refine zr_iload (pc' := 7) cx rfl 2 dX7_hashBoxes_5 rfl ?_
    refine zr_aload_n (pc' := 8) cx rfl 0 dX7_hashBoxes_7 rfl rfl ?_
    refine zg_X7_12 (pc' := 11) cx rfl zkc_0 dX7_hashBoxes_8 ?_
    refine zg_X7_73 (pc' := 14) cx rfl (c2 := 11) zkc_10 rfl dX7_hashBoxes_11 ?_
    refine zg_X7_77 (pc' := 17) cx rfl zkc_11 dX7_hashBoxes_14 ?_
    refine zr_icmp_ge (pc' := 20) cx rfl (tgt := 107) dX7_hashBoxes_17 rfl ?_ ?_
    · refine zr_lload_n (pc' := 108) cx rfl 1 dX7_hashBoxes_107 rfl rfl ?_
      exact zr_lretP cx dX7_hashBoxes_108
    · refine zr_iconst (pc' := 21) cx rfl dX7_hashBoxes_20 ?_
      refine zr_istore (pc' := 23) cx rfl (lv' := [(6, .int (i32 0)), (0, .ref (zad Y 0)), (3, .long b3), (5, .int (i32 a5))]) dX7_hashBoxes_21 (by decide) rfl ?_
      refine zr_sub [1, 2, 3, 0] rfl ?_
      exact wX7_hashBoxes_p23 cx g ih zfu b3 a5 0
theorem wX7_hashBoxes (cx : zCx Y p s m args meth c RX7 cX7_hashBoxes 8 (some .long)) (g : zSt) (b1 : Int64)  : zWo Y p l e (zrm 3) s m args below meth c 8 0 0 (fun v : Int64 => MQ below (zQl Y v g) args s 0 0 (zA Y)) g [(0, .ref (zad Y 0)), (1, .long b1)] ([]) 0 (fX7_hashBoxes g b1) := by
  unfold fX7_hashBoxes
  refine zr_lload_n (pc' := 1) cx rfl 1 dX7_hashBoxes_0 rfl rfl ?_
  refine zr_lstore_n (pc' := 2) cx rfl (lv' := [(3, .long b1), (0, .ref (zad Y 0)), (1, .long b1)]) dX7_hashBoxes_1 rfl (by decide) rfl ?_
  refine zr_iconst (pc' := 3) cx rfl dX7_hashBoxes_2 ?_
  refine zr_istore (pc' := 5) cx rfl (lv' := [(5, .int (i32 0)), (3, .long b1), (0, .ref (zad Y 0)), (1, .long b1)]) dX7_hashBoxes_3 (by decide) rfl ?_
  refine zr_sub [2, 1, 0] rfl ?_
  exact wX7_hashBoxes_p5 cx g zfu b1 0
theorem mX7_hashBoxes (l : Launch) (Y : zLy) (g : zSt) (b1 : Int64)  : ∀ v, fX7_hashBoxes g b1 = some v → zMt l yX7_hashBoxes cX7_hashBoxes 8 (some .long) 3 [.ref (zad Y 0), .long b1] Y g (zQl Y v g) := by
  intro v hv
  refine zmet_of RX7 rfl (by decide +kernel) (Nat.le_of_ble_eq_true rfl) ?_
  intro p e s m below meth c cx H locs ls hH hS hl
  exact wX7_hashBoxes cx g b1  v hv H locs ls hH hS hl
theorem zc_X7_303 (cx : zCx Y p s m args meth c RX7 cc nl ret) (hpc : pc + 3 = pc') {g : zSt} {b1 : Int64}  {fk : Int64 → Option ρ} (hR : 3 + 1 ≤ R.frames ∧ 8 + (8 + 11) + 40 * 3 ≤ R.locals) (hkn : k ≤ R.cells ∧ n ≤ R.slots) (hrest : (rest.map fun v => v.category).sum ≤ 8) (hdg : decode cc pc = .ok (.invokevirtual 303, 3)) (kk : ∀ v : Int64, zWo Y p l e R s m args below meth c nl k n kq g lv (.long v :: rest) pc' (fk v)) : zWo Y p l e R s m args below meth c nl k n kq g lv (.long b1 :: .ref (zad Y 0) :: rest) pc (zbd (fX7_hashBoxes g b1) fk) := zr_callVlP cx (an := 1) (As := [.long b1]) 8 zkc_0 (by decide) rfl (mX7_hashBoxes l Y g b1) (zG_V zw_444 zw_446 zw_8 zw_101 zw_447) (by decide +kernel) hR hkn rfl rfl hrest hdg hpc kk
def fX7_hashLanternsAndFaults_p23 (g : zSt) (k5 : Int64 → Int → Option Int64) : Nat → Int64 → Int → Int → Option Int64
  | 0, _, _, _ => none
  | fu + 1, b3, a5, a6 =>
    (if i32 a6 < i32 4 then
    zbd (fX7_lanternProperty g a5 a6) (fun v1 =>
    zlet (((31 : Int64) * b3) + ((i32 v1).toInt64)) (fun h2 =>
    fX7_hashLanternsAndFaults_p23 g k5 fu h2 a5 (a6 + 1)))
    else
    k5 b3 (a5 + 1))
def fX7_hashLanternsAndFaults_p78 (g : zSt) (k60 : Int64 → Int → Option Int64) : Nat → Int64 → Int → Int → Option Int64
  | 0, _, _, _ => none
  | fu + 1, b3, a5, a6 =>
    (if i32 a6 < i32 5 then
    zbd (fX7_faultProperty g a5 a6) (fun v3 =>
    zlet (((31 : Int64) * b3) + ((i32 v3).toInt64)) (fun h4 =>
    fX7_hashLanternsAndFaults_p78 g k60 fu h4 a5 (a6 + 1)))
    else
    k60 b3 (a5 + 1))
def fX7_hashLanternsAndFaults_p60 (g : zSt)  : Nat → Int64 → Int → Option Int64
  | 0, _, _ => none
  | fu + 1, b3, a5 =>
    (if i32 a5 < i32 (g.1 21 0) then
    fX7_hashLanternsAndFaults_p78 g (fX7_hashLanternsAndFaults_p60 g fu) zfu b3 a5 0
    else
    some b3)
def fX7_hashLanternsAndFaults_p5 (g : zSt)  : Nat → Int64 → Int → Option Int64
  | 0, _, _ => none
  | fu + 1, b3, a5 =>
    (if i32 a5 < i32 (g.1 17 0) then
    fX7_hashLanternsAndFaults_p23 g (fX7_hashLanternsAndFaults_p5 g fu) zfu b3 a5 0
    else
    fX7_hashLanternsAndFaults_p60 g zfu b3 0)
def fX7_hashLanternsAndFaults (g : zSt) (b1 : Int64) : Option Int64 :=
    fX7_hashLanternsAndFaults_p5 g zfu b1 0
theorem wX7_hashLanternsAndFaults_p23 (cx : zCx Y p s m args meth c RX7 cX7_hashLanternsAndFaults 7 (some .long)) (g : zSt) {k5 : Int64 → Int → Option Int64} (hk5 : ∀ (b3 : Int64) (a5 : Int), zWo Y p l e (zrm 2) s m args below meth c 7 0 0 (fun v : Int64 => MQ below (zQl Y v g) args s 0 0 (zA Y)) g [(0, .ref (zad Y 0)), (3, .long b3), (5, .int (i32 a5))] ([]) 5 (k5 b3 a5)) : ∀ (fu : Nat) (b3 : Int64) (a5 : Int) (a6 : Int), zWo Y p l e (zrm 2) s m args below meth c 7 0 0 (fun v : Int64 => MQ below (zQl Y v g) args s 0 0 (zA Y)) g [(0, .ref (zad Y 0)), (3, .long b3), (5, .int (i32 a5)), (6, .int (i32 a6))] ([]) 23 (fX7_hashLanternsAndFaults_p23 g k5 fu b3 a5 a6) := by
  intro fu
  induction fu with
  | zero => intro b3 a5 a6; exact zr_none
  | succ fu ih =>
    intro b3 a5 a6
    rw [fX7_hashLanternsAndFaults_p23]
    refine zr_iload (pc' := 25) cx rfl 3 dX7_hashLanternsAndFaults_23 rfl ?_
    refine zr_iconst (pc' := 26) cx rfl dX7_hashLanternsAndFaults_25 ?_
    refine zr_icmp_ge (pc' := 29) cx rfl (tgt := 51) dX7_hashLanternsAndFaults_26 rfl ?_ ?_
    · refine zr_iinc (pc' := 54) cx rfl (lv' := [(5, .int (i32 (a5 + 1))), (0, .ref (zad Y 0)), (3, .long b3), (6, .int (i32 a6))]) 2 dX7_hashLanternsAndFaults_51 rfl (by decide) rfl ?_
      refine zr_goto cx (tgt := 5) dX7_hashLanternsAndFaults_54 rfl ?_
      refine zr_sub [1, 2, 0] rfl ?_
      exact hk5 b3 (a5 + 1)
    · refine zr_ldc2 (pc' := 32) cx rfl dX7_hashLanternsAndFaults_29 zw_435 ?_
      refine zr_lload_n (pc' := 33) cx rfl 1 dX7_hashLanternsAndFaults_32 rfl rfl ?_
      refine zr_lmul (pc' := 34) cx rfl dX7_hashLanternsAndFaults_33 ?_
      refine zr_aload_n (pc' := 35) cx rfl 0 dX7_hashLanternsAndFaults_34 rfl rfl ?_
      refine zr_iload (pc' := 37) cx rfl 2 dX7_hashLanternsAndFaults_35 rfl ?_
      refine zr_iload (pc' := 39) cx rfl 3 dX7_hashLanternsAndFaults_37 rfl ?_
      refine zc_X7_256 (pc' := 42) cx rfl  ⟨Nat.le_of_ble_eq_true rfl, Nat.le_of_ble_eq_true rfl⟩ ⟨Nat.zero_le _, Nat.zero_le _⟩ (Nat.le_of_ble_eq_true rfl) dX7_hashLanternsAndFaults_39 (fun v1 => ?_)
      refine zr_i2l (pc' := 43) cx rfl dX7_hashLanternsAndFaults_42 ?_
      refine zr_ladd (pc' := 44) cx rfl dX7_hashLanternsAndFaults_43 ?_
      refine zr_letl (fun h2 => ?_)
      refine zr_lstore_n (pc' := 45) cx rfl (lv' := [(3, .long h2), (0, .ref (zad Y 0)), (5, .int (i32 a5)), (6, .int (i32 a6))]) dX7_hashLanternsAndFaults_44 rfl (by decide) rfl ?_
      refine zr_iinc (pc' := 48) cx rfl (lv' := [(6, .int (i32 (a6 + 1))), (3, .long h2), (0, .ref (zad Y 0)), (5, .int (i32 a5))]) 3 dX7_hashLanternsAndFaults_45 rfl (by decide) rfl ?_
      refine zr_goto cx (tgt := 23) dX7_hashLanternsAndFaults_48 rfl ?_
      refine zr_sub [2, 1, 3, 0] rfl ?_
      exact ih h2 a5 (a6 + 1)
theorem wX7_hashLanternsAndFaults_p78 (cx : zCx Y p s m args meth c RX7 cX7_hashLanternsAndFaults 7 (some .long)) (g : zSt) {k60 : Int64 → Int → Option Int64} (hk60 : ∀ (b3 : Int64) (a5 : Int), zWo Y p l e (zrm 2) s m args below meth c 7 0 0 (fun v : Int64 => MQ below (zQl Y v g) args s 0 0 (zA Y)) g [(0, .ref (zad Y 0)), (3, .long b3), (5, .int (i32 a5))] ([]) 60 (k60 b3 a5)) : ∀ (fu : Nat) (b3 : Int64) (a5 : Int) (a6 : Int), zWo Y p l e (zrm 2) s m args below meth c 7 0 0 (fun v : Int64 => MQ below (zQl Y v g) args s 0 0 (zA Y)) g [(0, .ref (zad Y 0)), (3, .long b3), (5, .int (i32 a5)), (6, .int (i32 a6))] ([]) 78 (fX7_hashLanternsAndFaults_p78 g k60 fu b3 a5 a6) := by
  intro fu
  induction fu with
  | zero => intro b3 a5 a6; exact zr_none
  | succ fu ih =>
    intro b3 a5 a6
    rw [fX7_hashLanternsAndFaults_p78]
    refine zr_iload (pc' := 80) cx rfl 3 dX7_hashLanternsAndFaults_78 rfl ?_
    refine zr_iconst (pc' := 81) cx rfl dX7_hashLanternsAndFaults_80 ?_
    refine zr_icmp_ge (pc' := 84) cx rfl (tgt := 106) dX7_hashLanternsAndFaults_81 rfl ?_ ?_
    · refine zr_iinc (pc' := 109) cx rfl (lv' := [(5, .int (i32 (a5 + 1))), (0, .ref (zad Y 0)), (3, .long b3), (6, .int (i32 a6))]) 2 dX7_hashLanternsAndFaults_106 rfl (by decide) rfl ?_
      refine zr_goto cx (tgt := 60) dX7_hashLanternsAndFaults_109 rfl ?_
      refine zr_sub [1, 2, 0] rfl ?_
      exact hk60 b3 (a5 + 1)
    · refine zr_ldc2 (pc' := 87) cx rfl dX7_hashLanternsAndFaults_84 zw_435 ?_
      refine zr_lload_n (pc' := 88) cx rfl 1 dX7_hashLanternsAndFaults_87 rfl rfl ?_
      refine zr_lmul (pc' := 89) cx rfl dX7_hashLanternsAndFaults_88 ?_
      refine zr_aload_n (pc' := 90) cx rfl 0 dX7_hashLanternsAndFaults_89 rfl rfl ?_
      refine zr_iload (pc' := 92) cx rfl 2 dX7_hashLanternsAndFaults_90 rfl ?_
      refine zr_iload (pc' := 94) cx rfl 3 dX7_hashLanternsAndFaults_92 rfl ?_
      refine zc_X7_261 (pc' := 97) cx rfl  ⟨Nat.le_of_ble_eq_true rfl, Nat.le_of_ble_eq_true rfl⟩ ⟨Nat.zero_le _, Nat.zero_le _⟩ (Nat.le_of_ble_eq_true rfl) dX7_hashLanternsAndFaults_94 (fun v3 => ?_)
      refine zr_i2l (pc' := 98) cx rfl dX7_hashLanternsAndFaults_97 ?_
      refine zr_ladd (pc' := 99) cx rfl dX7_hashLanternsAndFaults_98 ?_
      refine zr_letl (fun h4 => ?_)
      refine zr_lstore_n (pc' := 100) cx rfl (lv' := [(3, .long h4), (0, .ref (zad Y 0)), (5, .int (i32 a5)), (6, .int (i32 a6))]) dX7_hashLanternsAndFaults_99 rfl (by decide) rfl ?_
      refine zr_iinc (pc' := 103) cx rfl (lv' := [(6, .int (i32 (a6 + 1))), (3, .long h4), (0, .ref (zad Y 0)), (5, .int (i32 a5))]) 3 dX7_hashLanternsAndFaults_100 rfl (by decide) rfl ?_
      refine zr_goto cx (tgt := 78) dX7_hashLanternsAndFaults_103 rfl ?_
      refine zr_sub [2, 1, 3, 0] rfl ?_
      exact ih h4 a5 (a6 + 1)
theorem wX7_hashLanternsAndFaults_p60 (cx : zCx Y p s m args meth c RX7 cX7_hashLanternsAndFaults 7 (some .long)) (g : zSt)   : ∀ (fu : Nat) (b3 : Int64) (a5 : Int), zWo Y p l e (zrm 2) s m args below meth c 7 0 0 (fun v : Int64 => MQ below (zQl Y v g) args s 0 0 (zA Y)) g [(0, .ref (zad Y 0)), (3, .long b3), (5, .int (i32 a5))] ([]) 60 (fX7_hashLanternsAndFaults_p60 g fu b3 a5) := by
  intro fu
  induction fu with
  | zero => intro b3 a5; exact zr_none
  | succ fu ih =>
    intro b3 a5
    rw [fX7_hashLanternsAndFaults_p60]
    refine zr_iload (pc' := 62) cx rfl 2 dX7_hashLanternsAndFaults_60 rfl ?_
    refine zr_aload_n (pc' := 63) cx rfl 0 dX7_hashLanternsAndFaults_62 rfl rfl ?_
    refine zg_X7_12 (pc' := 66) cx rfl zkc_0 dX7_hashLanternsAndFaults_63 ?_
    refine zg_X7_175 (pc' := 69) cx rfl (c2 := 21) zkc_10 rfl dX7_hashLanternsAndFaults_66 ?_
    refine zg_X7_179 (pc' := 72) cx rfl zkc_21 dX7_hashLanternsAndFaults_69 ?_
    refine zr_icmp_ge (pc' := 75) cx rfl (tgt := 112) dX7_hashLanternsAndFaults_72 rfl ?_ ?_
    · refine zr_lload_n (pc' := 113) cx rfl 1 dX7_hashLanternsAndFaults_112 rfl rfl ?_
      exact zr_lretP cx dX7_hashLanternsAndFaults_113
    · refine zr_iconst (pc' := 76) cx rfl dX7_hashLanternsAndFaults_75 ?_
      refine zr_istore (pc' := 78) cx rfl (lv' := [(6, .int (i32 0)), (0, .ref (zad Y 0)), (3, .long b3), (5, .int (i32 a5))]) dX7_hashLanternsAndFaults_76 (by decide) rfl ?_
      refine zr_sub [1, 2, 3, 0] rfl ?_
      exact wX7_hashLanternsAndFaults_p78 cx g ih zfu b3 a5 0
theorem wX7_hashLanternsAndFaults_p5 (cx : zCx Y p s m args meth c RX7 cX7_hashLanternsAndFaults 7 (some .long)) (g : zSt)   : ∀ (fu : Nat) (b3 : Int64) (a5 : Int), zWo Y p l e (zrm 2) s m args below meth c 7 0 0 (fun v : Int64 => MQ below (zQl Y v g) args s 0 0 (zA Y)) g [(0, .ref (zad Y 0)), (3, .long b3), (5, .int (i32 a5))] ([]) 5 (fX7_hashLanternsAndFaults_p5 g fu b3 a5) := by
  intro fu
  induction fu with
  | zero => intro b3 a5; exact zr_none
  | succ fu ih =>
    intro b3 a5
    rw [fX7_hashLanternsAndFaults_p5]
    refine zr_iload (pc' := 7) cx rfl 2 dX7_hashLanternsAndFaults_5 rfl ?_
    refine zr_aload_n (pc' := 8) cx rfl 0 dX7_hashLanternsAndFaults_7 rfl rfl ?_
    refine zg_X7_12 (pc' := 11) cx rfl zkc_0 dX7_hashLanternsAndFaults_8 ?_
    refine zg_X7_142 (pc' := 14) cx rfl (c2 := 17) zkc_10 rfl dX7_hashLanternsAndFaults_11 ?_
    refine zg_X7_146 (pc' := 17) cx rfl zkc_17 dX7_hashLanternsAndFaults_14 ?_
    refine zr_icmp_ge (pc' := 20) cx rfl (tgt := 57) dX7_hashLanternsAndFaults_17 rfl ?_ ?_
    · refine zr_iconst (pc' := 58) cx rfl dX7_hashLanternsAndFaults_57 ?_
      refine zr_istore (pc' := 60) cx rfl (lv' := [(5, .int (i32 0)), (0, .ref (zad Y 0)), (3, .long b3)]) dX7_hashLanternsAndFaults_58 (by decide) rfl ?_
      refine zr_sub [1, 2, 0] rfl ?_
      exact wX7_hashLanternsAndFaults_p60 cx g zfu b3 0
    · refine zr_iconst (pc' := 21) cx rfl dX7_hashLanternsAndFaults_20 ?_
      refine zr_istore (pc' := 23) cx rfl (lv' := [(6, .int (i32 0)), (0, .ref (zad Y 0)), (3, .long b3), (5, .int (i32 a5))]) dX7_hashLanternsAndFaults_21 (by decide) rfl ?_
      refine zr_sub [1, 2, 3, 0] rfl ?_
      exact wX7_hashLanternsAndFaults_p23 cx g ih zfu b3 a5 0
theorem wX7_hashLanternsAndFaults (cx : zCx Y p s m args meth c RX7 cX7_hashLanternsAndFaults 7 (some .long)) (g : zSt) (b1 : Int64)  : zWo Y p l e (zrm 2) s m args below meth c 7 0 0 (fun v : Int64 => MQ below (zQl Y v g) args s 0 0 (zA Y)) g [(0, .ref (zad Y 0)), (1, .long b1)] ([]) 0 (fX7_hashLanternsAndFaults g b1) := by
  unfold fX7_hashLanternsAndFaults
  refine zr_lload_n (pc' := 1) cx rfl 1 dX7_hashLanternsAndFaults_0 rfl rfl ?_
  refine zr_lstore_n (pc' := 2) cx rfl (lv' := [(3, .long b1), (0, .ref (zad Y 0)), (1, .long b1)]) dX7_hashLanternsAndFaults_1 rfl (by decide) rfl ?_
  refine zr_iconst (pc' := 3) cx rfl dX7_hashLanternsAndFaults_2 ?_
  refine zr_istore (pc' := 5) cx rfl (lv' := [(5, .int (i32 0)), (3, .long b1), (0, .ref (zad Y 0)), (1, .long b1)]) dX7_hashLanternsAndFaults_3 (by decide) rfl ?_
  refine zr_sub [2, 1, 0] rfl ?_
  exact wX7_hashLanternsAndFaults_p5 cx g zfu b1 0
theorem mX7_hashLanternsAndFaults (l : Launch) (Y : zLy) (g : zSt) (b1 : Int64)  : ∀ v, fX7_hashLanternsAndFaults g b1 = some v → zMt l yX7_hashLanternsAndFaults cX7_hashLanternsAndFaults 7 (some .long) 2 [.ref (zad Y 0), .long b1] Y g (zQl Y v g) := by
  intro v hv
  refine zmet_of RX7 rfl (by decide +kernel) (Nat.le_of_ble_eq_true rfl) ?_
  intro p e s m below meth c cx H locs ls hH hS hl
  exact wX7_hashLanternsAndFaults cx g b1  v hv H locs ls hH hS hl
theorem zc_X7_307 (cx : zCx Y p s m args meth c RX7 cc nl ret) (hpc : pc + 3 = pc') {g : zSt} {b1 : Int64}  {fk : Int64 → Option ρ} (hR : 2 + 1 ≤ R.frames ∧ 8 + (7 + 11) + 40 * 2 ≤ R.locals) (hkn : k ≤ R.cells ∧ n ≤ R.slots) (hrest : (rest.map fun v => v.category).sum ≤ 8) (hdg : decode cc pc = .ok (.invokevirtual 307, 3)) (kk : ∀ v : Int64, zWo Y p l e R s m args below meth c nl k n kq g lv (.long v :: rest) pc' (fk v)) : zWo Y p l e R s m args below meth c nl k n kq g lv (.long b1 :: .ref (zad Y 0) :: rest) pc (zbd (fX7_hashLanternsAndFaults g b1) fk) := zr_callVlP cx (an := 1) (As := [.long b1]) 8 zkc_0 (by decide) rfl (mX7_hashLanternsAndFaults l Y g b1) (zG_V zw_480 zw_482 zw_14 zw_101 zw_483) (by decide +kernel) hR hkn rfl rfl hrest hdg hpc kk
def fX7_hashSigns_p15 (g : zSt)  : Nat → Int64 → Int → Option Int64
  | 0, _, _ => none
  | fu + 1, b3, a5 =>
    (if i32 a5 < i32 (g.1 0 8) then
    zck ((0 : Int) ≤ a5 ∧ a5 < 60) (
    zlet (((31 : Int64) * b3) + ((i32 (g.1 320 (Int.toNat a5))).toInt64)) (fun h1 =>
    fX7_hashSigns_p15 g fu h1 (a5 + 1)))
    else
    some b3)
def fX7_hashSigns (g : zSt) (b1 : Int64) : Option Int64 :=
    zlet (((31 : Int64) * b1) + ((i32 (g.1 0 8)).toInt64)) (fun h2 =>
    fX7_hashSigns_p15 g zfu h2 0)
theorem wX7_hashSigns_p15 (cx : zCx Y p s m args meth c RX7 cX7_hashSigns 6 (some .long)) (g : zSt)   : ∀ (fu : Nat) (b3 : Int64) (a5 : Int), zWo Y p l e (zrm 0) s m args below meth c 6 0 0 (fun v : Int64 => MQ below (zQl Y v g) args s 0 0 (zA Y)) g [(0, .ref (zad Y 0)), (3, .long b3), (5, .int (i32 a5))] ([]) 15 (fX7_hashSigns_p15 g fu b3 a5) := by
  intro fu
  induction fu with
  | zero => intro b3 a5; exact zr_none
  | succ fu ih =>
    intro b3 a5
    rw [fX7_hashSigns_p15]
    refine zr_iload (pc' := 17) cx rfl 2 dX7_hashSigns_15 rfl ?_
    refine zr_aload_n (pc' := 18) cx rfl 0 dX7_hashSigns_17 rfl rfl ?_
    refine zg_X7_50 (pc' := 21) cx rfl zkc_0 dX7_hashSigns_18 ?_
    refine zr_icmp_ge (pc' := 24) cx rfl (tgt := 45) dX7_hashSigns_21 rfl ?_ ?_
    · refine zr_lload_n (pc' := 46) cx rfl 1 dX7_hashSigns_45 rfl rfl ?_
      exact zr_lretP cx dX7_hashSigns_46
    · refine zr_ldc2 (pc' := 27) cx rfl dX7_hashSigns_24 zw_435 ?_
      refine zr_lload_n (pc' := 28) cx rfl 1 dX7_hashSigns_27 rfl rfl ?_
      refine zr_lmul (pc' := 29) cx rfl dX7_hashSigns_28 ?_
      refine zr_aload_n (pc' := 30) cx rfl 0 dX7_hashSigns_29 rfl rfl ?_
      refine zg_X7_46 (pc' := 33) cx rfl zkc_0 dX7_hashSigns_30 ?_
      refine zr_iload (pc' := 35) cx rfl 2 dX7_hashSigns_33 rfl ?_
      refine zr_iald (pc' := 36) cx rfl 15 zkc_320 (by decide) (L := 60) rfl dX7_hashSigns_35 ?_
      refine zr_i2l (pc' := 37) cx rfl dX7_hashSigns_36 ?_
      refine zr_ladd (pc' := 38) cx rfl dX7_hashSigns_37 ?_
      refine zr_letl (fun h1 => ?_)
      refine zr_lstore_n (pc' := 39) cx rfl (lv' := [(3, .long h1), (0, .ref (zad Y 0)), (5, .int (i32 a5))]) dX7_hashSigns_38 rfl (by decide) rfl ?_
      refine zr_iinc (pc' := 42) cx rfl (lv' := [(5, .int (i32 (a5 + 1))), (3, .long h1), (0, .ref (zad Y 0))]) 2 dX7_hashSigns_39 rfl (by decide) rfl ?_
      refine zr_goto cx (tgt := 15) dX7_hashSigns_42 rfl ?_
      refine zr_sub [2, 1, 0] rfl ?_
      exact ih h1 (a5 + 1)
theorem wX7_hashSigns (cx : zCx Y p s m args meth c RX7 cX7_hashSigns 6 (some .long)) (g : zSt) (b1 : Int64)  : zWo Y p l e (zrm 0) s m args below meth c 6 0 0 (fun v : Int64 => MQ below (zQl Y v g) args s 0 0 (zA Y)) g [(0, .ref (zad Y 0)), (1, .long b1)] ([]) 0 (fX7_hashSigns g b1) := by
  unfold fX7_hashSigns
  refine zr_ldc2 (pc' := 3) cx rfl dX7_hashSigns_0 zw_435 ?_
  refine zr_lload_n (pc' := 4) cx rfl 1 dX7_hashSigns_3 rfl rfl ?_
  refine zr_lmul (pc' := 5) cx rfl dX7_hashSigns_4 ?_
  refine zr_aload_n (pc' := 6) cx rfl 0 dX7_hashSigns_5 rfl rfl ?_
  refine zg_X7_50 (pc' := 9) cx rfl zkc_0 dX7_hashSigns_6 ?_
  refine zr_i2l (pc' := 10) cx rfl dX7_hashSigns_9 ?_
  refine zr_ladd (pc' := 11) cx rfl dX7_hashSigns_10 ?_
  refine zr_letl (fun h2 => ?_)
  refine zr_lstore_n (pc' := 12) cx rfl (lv' := [(3, .long h2), (0, .ref (zad Y 0)), (1, .long b1)]) dX7_hashSigns_11 rfl (by decide) rfl ?_
  refine zr_iconst (pc' := 13) cx rfl dX7_hashSigns_12 ?_
  refine zr_istore (pc' := 15) cx rfl (lv' := [(5, .int (i32 0)), (3, .long h2), (0, .ref (zad Y 0)), (1, .long b1)]) dX7_hashSigns_13 (by decide) rfl ?_
  refine zr_sub [2, 1, 0] rfl ?_
  exact wX7_hashSigns_p15 cx g zfu h2 0
theorem mX7_hashSigns (l : Launch) (Y : zLy) (g : zSt) (b1 : Int64)  : ∀ v, fX7_hashSigns g b1 = some v → zMt l yX7_hashSigns cX7_hashSigns 6 (some .long) 0 [.ref (zad Y 0), .long b1] Y g (zQl Y v g) := by
  intro v hv
  refine zmet_of RX7 rfl (by decide +kernel) (Nat.le_of_ble_eq_true rfl) ?_
  intro p e s m below meth c cx H locs ls hH hS hl
  exact wX7_hashSigns cx g b1  v hv H locs ls hH hS hl
theorem zc_X7_321 (cx : zCx Y p s m args meth c RX7 cc nl ret) (hpc : pc + 3 = pc') {g : zSt} {b1 : Int64}  {fk : Int64 → Option ρ} (hR : 0 + 1 ≤ R.frames ∧ 8 + (6 + 11) + 40 * 0 ≤ R.locals) (hkn : k ≤ R.cells ∧ n ≤ R.slots) (hrest : (rest.map fun v => v.category).sum ≤ 8) (hdg : decode cc pc = .ok (.invokevirtual 321, 3)) (kk : ∀ v : Int64, zWo Y p l e R s m args below meth c nl k n kq g lv (.long v :: rest) pc' (fk v)) : zWo Y p l e R s m args below meth c nl k n kq g lv (.long b1 :: .ref (zad Y 0) :: rest) pc (zbd (fX7_hashSigns g b1) fk) := zr_callVlP cx (an := 1) (As := [.long b1]) 8 zkc_0 (by decide) rfl (mX7_hashSigns l Y g b1) (zG_V zw_587 zw_589 zw_29 zw_101 zw_590) (by decide +kernel) hR hkn rfl rfl hrest hdg hpc kk
def fX7_hashTrials_p9  : Nat → zSt → Int64 → Int → Option (Int64 × zSt)
  | 0, _, _, _ => none
  | fu + 1, g, b3, a5 =>
    (if i32 a5 < i32 (g.1 11 0) then
    zbe (fX7_burningIfToggled g a5) (fun v1 g2 =>
    zlet (((31 : Int64) * b3) + ((i32 v1).toInt64)) (fun h3 =>
    zbd (fX6_current g2 240 (2 * a5)) (fun v4 =>
    zlet (((31 : Int64) * h3) + ((i32 v4).toInt64)) (fun h5 =>
    zbd (fX6_current g2 240 ((2 * a5) + 1)) (fun v6 =>
    zlet (((31 : Int64) * h5) + ((i32 v6).toInt64)) (fun h7 =>
    fX7_hashTrials_p9 fu g2 h7 (a5 + 1)))))))
    else
    some (b3, g))
def fX7_hashTrials (g : zSt) (b1 : Int64) : Option (Int64 × zSt) :=
    zbd (fX7_surveyWithWholeFuses g) (fun g8 =>
    fX7_hashTrials_p9 zfu g8 b1 1)
theorem wX7_hashTrials_p9 (cx : zCx Y p s m args meth c RX7 cX7_hashTrials 6 (some .long))   : ∀ (fu : Nat) (g : zSt) (b3 : Int64) (a5 : Int), zWo Y p l e (zrm 5) s m args below meth c 6 0 0 (fun q : Int64 × zSt => MQ below (zQl Y q.1 q.2) args s 0 0 (zA Y)) g [(0, .ref (zad Y 0)), (3, .long b3), (5, .int (i32 a5))] ([]) 9 (fX7_hashTrials_p9 fu g b3 a5) := by
  intro fu
  induction fu with
  | zero => intro g b3 a5; exact zr_none
  | succ fu ih =>
    intro g b3 a5
    rw [fX7_hashTrials_p9]
    refine zr_iload (pc' := 11) cx rfl 2 dX7_hashTrials_9 rfl ?_
    refine zr_aload_n (pc' := 12) cx rfl 0 dX7_hashTrials_11 rfl rfl ?_
    refine zg_X7_12 (pc' := 15) cx rfl zkc_0 dX7_hashTrials_12 ?_
    refine zg_X7_73 (pc' := 18) cx rfl (c2 := 11) zkc_10 rfl dX7_hashTrials_15 ?_
    refine zg_X7_77 (pc' := 21) cx rfl zkc_11 dX7_hashTrials_18 ?_
    refine zr_icmp_ge (pc' := 24) cx rfl (tgt := 84) dX7_hashTrials_21 rfl ?_ ?_
    · refine zr_lload_n (pc' := 85) cx rfl 1 dX7_hashTrials_84 rfl rfl ?_
      exact zr_lretE cx dX7_hashTrials_85
    · refine zr_ldc2 (pc' := 27) cx rfl dX7_hashTrials_24 zw_435 ?_
      refine zr_lload_n (pc' := 28) cx rfl 1 dX7_hashTrials_27 rfl rfl ?_
      refine zr_lmul (pc' := 29) cx rfl dX7_hashTrials_28 ?_
      refine zr_aload_n (pc' := 30) cx rfl 0 dX7_hashTrials_29 rfl rfl ?_
      refine zr_iload (pc' := 32) cx rfl 2 dX7_hashTrials_30 rfl ?_
      refine zc_X7_290 (pc' := 35) cx rfl  ⟨Nat.le_of_ble_eq_true rfl, Nat.le_of_ble_eq_true rfl⟩ ⟨Nat.zero_le _, Nat.zero_le _⟩ (Nat.le_of_ble_eq_true rfl) dX7_hashTrials_32 (fun v1 g2 => ?_)
      refine zr_i2l (pc' := 36) cx rfl dX7_hashTrials_35 ?_
      refine zr_ladd (pc' := 37) cx rfl dX7_hashTrials_36 ?_
      refine zr_letl (fun h3 => ?_)
      refine zr_lstore_n (pc' := 38) cx rfl (lv' := [(3, .long h3), (0, .ref (zad Y 0)), (5, .int (i32 a5))]) dX7_hashTrials_37 rfl (by decide) rfl ?_
      refine zr_ldc2 (pc' := 41) cx rfl dX7_hashTrials_38 zw_435 ?_
      refine zr_lload_n (pc' := 42) cx rfl 0 dX7_hashTrials_41 rfl rfl ?_
      refine zr_lmul (pc' := 43) cx rfl dX7_hashTrials_42 ?_
      refine zr_aload_n (pc' := 44) cx rfl 1 dX7_hashTrials_43 rfl rfl ?_
      refine zg_X7_29 (pc' := 47) cx rfl zkc_0 dX7_hashTrials_44 ?_
      refine zr_iconst (pc' := 48) cx rfl dX7_hashTrials_47 ?_
      refine zr_iload (pc' := 50) cx rfl 2 dX7_hashTrials_48 rfl ?_
      refine zr_imul (pc' := 51) cx rfl dX7_hashTrials_50 ?_
      refine zc_X7_296 (pc' := 54) cx rfl zkc_240 ⟨Nat.le_of_ble_eq_true rfl, Nat.le_of_ble_eq_true rfl⟩ ⟨Nat.zero_le _, Nat.zero_le _⟩ (Nat.le_of_ble_eq_true rfl) dX7_hashTrials_51 (fun v4 => ?_)
      refine zr_i2l (pc' := 55) cx rfl dX7_hashTrials_54 ?_
      refine zr_ladd (pc' := 56) cx rfl dX7_hashTrials_55 ?_
      refine zr_letl (fun h5 => ?_)
      refine zr_lstore_n (pc' := 57) cx rfl (lv' := [(3, .long h5), (0, .ref (zad Y 0)), (5, .int (i32 a5))]) dX7_hashTrials_56 rfl (by decide) rfl ?_
      refine zr_ldc2 (pc' := 60) cx rfl dX7_hashTrials_57 zw_435 ?_
      refine zr_lload_n (pc' := 61) cx rfl 0 dX7_hashTrials_60 rfl rfl ?_
      refine zr_lmul (pc' := 62) cx rfl dX7_hashTrials_61 ?_
      refine zr_aload_n (pc' := 63) cx rfl 1 dX7_hashTrials_62 rfl rfl ?_
      refine zg_X7_29 (pc' := 66) cx rfl zkc_0 dX7_hashTrials_63 ?_
      refine zr_iconst (pc' := 67) cx rfl dX7_hashTrials_66 ?_
      refine zr_iload (pc' := 69) cx rfl 2 dX7_hashTrials_67 rfl ?_
      refine zr_imul (pc' := 70) cx rfl dX7_hashTrials_69 ?_
      refine zr_iconst (pc' := 71) cx rfl dX7_hashTrials_70 ?_
      refine zr_iadd (pc' := 72) cx rfl dX7_hashTrials_71 ?_
      refine zc_X7_296 (pc' := 75) cx rfl zkc_240 ⟨Nat.le_of_ble_eq_true rfl, Nat.le_of_ble_eq_true rfl⟩ ⟨Nat.zero_le _, Nat.zero_le _⟩ (Nat.le_of_ble_eq_true rfl) dX7_hashTrials_72 (fun v6 => ?_)
      refine zr_i2l (pc' := 76) cx rfl dX7_hashTrials_75 ?_
      refine zr_ladd (pc' := 77) cx rfl dX7_hashTrials_76 ?_
      refine zr_letl (fun h7 => ?_)
      refine zr_lstore_n (pc' := 78) cx rfl (lv' := [(3, .long h7), (0, .ref (zad Y 0)), (5, .int (i32 a5))]) dX7_hashTrials_77 rfl (by decide) rfl ?_
      refine zr_iinc (pc' := 81) cx rfl (lv' := [(5, .int (i32 (a5 + 1))), (3, .long h7), (0, .ref (zad Y 0))]) 2 dX7_hashTrials_78 rfl (by decide) rfl ?_
      refine zr_goto cx (tgt := 9) dX7_hashTrials_81 rfl ?_
      refine zr_sub [2, 1, 0] rfl ?_
      exact ih g2 h7 (a5 + 1)
theorem wX7_hashTrials (cx : zCx Y p s m args meth c RX7 cX7_hashTrials 6 (some .long)) (g : zSt) (b1 : Int64)  : zWo Y p l e (zrm 5) s m args below meth c 6 0 0 (fun q : Int64 × zSt => MQ below (zQl Y q.1 q.2) args s 0 0 (zA Y)) g [(0, .ref (zad Y 0)), (1, .long b1)] ([]) 0 (fX7_hashTrials g b1) := by
  unfold fX7_hashTrials
  refine zr_lload_n (pc' := 1) cx rfl 1 dX7_hashTrials_0 rfl rfl ?_
  refine zr_lstore_n (pc' := 2) cx rfl (lv' := [(3, .long b1), (0, .ref (zad Y 0)), (1, .long b1)]) dX7_hashTrials_1 rfl (by decide) rfl ?_
  refine zr_aload_n (pc' := 3) cx rfl 1 dX7_hashTrials_2 rfl rfl ?_
  refine zc_X7_293 (pc' := 6) cx rfl  ⟨Nat.le_of_ble_eq_true rfl, Nat.le_of_ble_eq_true rfl⟩ ⟨Nat.zero_le _, Nat.zero_le _⟩ (Nat.le_of_ble_eq_true rfl) dX7_hashTrials_3 (fun g8 => ?_)
  refine zr_iconst (pc' := 7) cx rfl dX7_hashTrials_6 ?_
  refine zr_istore (pc' := 9) cx rfl (lv' := [(5, .int (i32 1)), (3, .long b1), (0, .ref (zad Y 0)), (1, .long b1)]) dX7_hashTrials_7 (by decide) rfl ?_
  refine zr_sub [2, 1, 0] rfl ?_
  exact wX7_hashTrials_p9 cx zfu g8 b1 1
theorem mX7_hashTrials (l : Launch) (Y : zLy) (g : zSt) (b1 : Int64)  : ∀ v g2, fX7_hashTrials g b1 = some (v, g2) → zMt l yX7_hashTrials cX7_hashTrials 6 (some .long) 5 [.ref (zad Y 0), .long b1] Y g (zQl Y v g2) := by
  intro v g2 hv
  refine zmet_of RX7 rfl (by decide +kernel) (Nat.le_of_ble_eq_true rfl) ?_
  intro p e s m below meth c cx H locs ls hH hS hl
  exact wX7_hashTrials cx g b1  (v, g2) hv H locs ls hH hS hl
theorem zc_X7_310 (cx : zCx Y p s m args meth c RX7 cc nl ret) (hpc : pc + 3 = pc') {g : zSt} {b1 : Int64}  {fk : Int64 → zSt → Option ρ} (hR : 5 + 1 ≤ R.frames ∧ 8 + (6 + 11) + 40 * 5 ≤ R.locals) (hkn : k ≤ R.cells ∧ n ≤ R.slots) (hrest : (rest.map fun v => v.category).sum ≤ 8) (hdg : decode cc pc = .ok (.invokevirtual 310, 3)) (kk : ∀ (v : Int64) (g2 : zSt), zWo Y p l e R s m args below meth c nl k n kq g2 lv (.long v :: rest) pc' (fk v g2)) : zWo Y p l e R s m args below meth c nl k n kq g lv (.long b1 :: .ref (zad Y 0) :: rest) pc (zbe (fX7_hashTrials g b1) fk) := zr_callVlE cx (an := 1) (As := [.long b1]) 8 zkc_0 (by decide) rfl (mX7_hashTrials l Y g b1) (zG_V zw_504 zw_506 zw_19 zw_101 zw_507) (by decide +kernel) hR hkn rfl rfl hrest hdg hpc kk
def fX7_digest_p45  : Nat → zSt → Int64 → Int → Option (Int64 × zSt)
  | 0, _, _, _ => none
  | fu + 1, g, b1, a3 =>
    (if i32 a3 < i32 2 then
    zbd (fX6_lampOf g 200 a3) (fun v7 =>
    zlet (((31 : Int64) * b1) + ((i32 v7).toInt64)) (fun h8 =>
    zbd (fX7_boxesChangingLamp g a3) (fun v9 =>
    zlet (((31 : Int64) * h8) + ((i32 v9).toInt64)) (fun h10 =>
    fX7_digest_p45 fu g h10 (a3 + 1)))))
    else
    zbe (fX7_hashTrials g b1) (fun h1 g2 =>
    zbd (fX7_lossShare g2) (fun u3 =>
    zbd (fX7_bitsOfShare g2 u3) (fun h4 =>
    zlet (((31 : Int64) * h1) + h4) (fun h5 =>
    zbd (fX7_hashSigns g2 h5) (fun h6 =>
    some (h6, g2)))))))
def fX7_digest_p6  : Nat → zSt → Int64 → Int → Option (Int64 × zSt)
  | 0, _, _, _ => none
  | fu + 1, g, b1, a3 =>
    (if i32 a3 < i32 12 then
    zbd (fX7_countOf g a3) (fun v13 =>
    zlet (((31 : Int64) * b1) + ((i32 v13).toInt64)) (fun h14 =>
    fX7_digest_p6 fu g h14 (a3 + 1)))
    else
    zbd (fX7_hashBoxes g b1) (fun h11 =>
    zbd (fX7_hashLanternsAndFaults g h11) (fun h12 =>
    fX7_digest_p45 zfu g h12 0)))
def fX7_digest (g : zSt) : Option (Int64 × zSt) :=
    zlet (2141 : Int64) (fun h15 =>
    fX7_digest_p6 zfu g h15 0)
theorem wX7_digest_p45 (cx : zCx Y p s m args meth c RX7 cX7_digest 4 (some .long))   : ∀ (fu : Nat) (g : zSt) (b1 : Int64) (a3 : Int), zWo Y p l e (zrm 6) s m args below meth c 4 0 0 (fun q : Int64 × zSt => MQ below (zQl Y q.1 q.2) args s 0 0 (zA Y)) g [(0, .ref (zad Y 0)), (1, .long b1), (3, .int (i32 a3))] ([]) 45 (fX7_digest_p45 fu g b1 a3) := by
  intro fu
  induction fu with
  | zero => intro g b1 a3; exact zr_none
  | succ fu ih =>
    intro g b1 a3
    rw [fX7_digest_p45]
    refine zr_iload_n (pc' := 46) cx rfl 2 dX7_digest_45 rfl rfl ?_
    refine zr_iconst (pc' := 47) cx rfl dX7_digest_46 ?_
    refine zr_icmp_ge (pc' := 50) cx rfl (tgt := 85) dX7_digest_47 rfl ?_ ?_
    · refine zr_aload_n (pc' := 86) cx rfl 0 dX7_digest_85 rfl rfl ?_
      refine zr_lload_n (pc' := 87) cx rfl 1 dX7_digest_86 rfl rfl ?_
      refine zc_X7_310 (pc' := 90) cx rfl  ⟨Nat.le_of_ble_eq_true rfl, Nat.le_of_ble_eq_true rfl⟩ ⟨Nat.zero_le _, Nat.zero_le _⟩ (Nat.le_of_ble_eq_true rfl) dX7_digest_87 (fun h1 g2 => ?_)
      refine zr_lstore_n (pc' := 91) cx rfl (lv' := [(1, .long h1), (0, .ref (zad Y 0)), (3, .int (i32 a3))]) dX7_digest_90 rfl (by decide) rfl ?_
      refine zr_ldc2 (pc' := 94) cx rfl dX7_digest_91 zw_435 ?_
      refine zr_lload_n (pc' := 95) cx rfl 0 dX7_digest_94 rfl rfl ?_
      refine zr_lmul (pc' := 96) cx rfl dX7_digest_95 ?_
      refine zr_aload_n (pc' := 97) cx rfl 1 dX7_digest_96 rfl rfl ?_
      refine zc_X7_313 (pc' := 100) cx rfl  ⟨Nat.le_of_ble_eq_true rfl, Nat.le_of_ble_eq_true rfl⟩ ⟨Nat.zero_le _, Nat.zero_le _⟩ (Nat.le_of_ble_eq_true rfl) dX7_digest_97 (fun u3 => ?_)
      refine zc_X7_317 (pc' := 103) cx rfl  ⟨Nat.le_of_ble_eq_true rfl, Nat.le_of_ble_eq_true rfl⟩ ⟨Nat.zero_le _, Nat.zero_le _⟩ (Nat.le_of_ble_eq_true rfl) dX7_digest_100 (fun h4 => ?_)
      refine zr_ladd (pc' := 104) cx rfl dX7_digest_103 ?_
      refine zr_letl (fun h5 => ?_)
      refine zr_lstore_n (pc' := 105) cx rfl (lv' := [(1, .long h5), (0, .ref (zad Y 0)), (3, .int (i32 a3))]) dX7_digest_104 rfl (by decide) rfl ?_
      refine zr_aload_n (pc' := 106) cx rfl 1 dX7_digest_105 rfl rfl ?_
      refine zr_lload_n (pc' := 107) cx rfl 0 dX7_digest_106 rfl rfl ?_
      refine zc_X7_321 (pc' := 110) cx rfl  ⟨Nat.le_of_ble_eq_true rfl, Nat.le_of_ble_eq_true rfl⟩ ⟨Nat.zero_le _, Nat.zero_le _⟩ (Nat.le_of_ble_eq_true rfl) dX7_digest_107 (fun h6 => ?_)
      exact zr_lretE cx dX7_digest_110
    · refine zr_ldc2 (pc' := 53) cx rfl dX7_digest_50 zw_435 ?_
      refine zr_lload_n (pc' := 54) cx rfl 1 dX7_digest_53 rfl rfl ?_
      refine zr_lmul (pc' := 55) cx rfl dX7_digest_54 ?_
      refine zr_aload_n (pc' := 56) cx rfl 0 dX7_digest_55 rfl rfl ?_
      refine zg_X7_19 (pc' := 59) cx rfl zkc_0 dX7_digest_56 ?_
      refine zr_iload_n (pc' := 60) cx rfl 2 dX7_digest_59 rfl rfl ?_
      refine zc_X7_275 (pc' := 63) cx rfl zkc_200 ⟨Nat.le_of_ble_eq_true rfl, Nat.le_of_ble_eq_true rfl⟩ ⟨Nat.zero_le _, Nat.zero_le _⟩ (Nat.le_of_ble_eq_true rfl) dX7_digest_60 (fun v7 => ?_)
      refine zr_i2l (pc' := 64) cx rfl dX7_digest_63 ?_
      refine zr_ladd (pc' := 65) cx rfl dX7_digest_64 ?_
      refine zr_letl (fun h8 => ?_)
      refine zr_lstore_n (pc' := 66) cx rfl (lv' := [(1, .long h8), (0, .ref (zad Y 0)), (3, .int (i32 a3))]) dX7_digest_65 rfl (by decide) rfl ?_
      refine zr_ldc2 (pc' := 69) cx rfl dX7_digest_66 zw_435 ?_
      refine zr_lload_n (pc' := 70) cx rfl 0 dX7_digest_69 rfl rfl ?_
      refine zr_lmul (pc' := 71) cx rfl dX7_digest_70 ?_
      refine zr_aload_n (pc' := 72) cx rfl 1 dX7_digest_71 rfl rfl ?_
      refine zr_iload_n (pc' := 73) cx rfl 2 dX7_digest_72 rfl rfl ?_
      refine zc_X7_278 (pc' := 76) cx rfl  ⟨Nat.le_of_ble_eq_true rfl, Nat.le_of_ble_eq_true rfl⟩ ⟨Nat.zero_le _, Nat.zero_le _⟩ (Nat.le_of_ble_eq_true rfl) dX7_digest_73 (fun v9 => ?_)
      refine zr_i2l (pc' := 77) cx rfl dX7_digest_76 ?_
      refine zr_ladd (pc' := 78) cx rfl dX7_digest_77 ?_
      refine zr_letl (fun h10 => ?_)
      refine zr_lstore_n (pc' := 79) cx rfl (lv' := [(1, .long h10), (0, .ref (zad Y 0)), (3, .int (i32 a3))]) dX7_digest_78 rfl (by decide) rfl ?_
      refine zr_iinc (pc' := 82) cx rfl (lv' := [(3, .int (i32 (a3 + 1))), (1, .long h10), (0, .ref (zad Y 0))]) 2 dX7_digest_79 rfl (by decide) rfl ?_
      refine zr_goto cx (tgt := 45) dX7_digest_82 rfl ?_
      refine zr_sub [2, 1, 0] rfl ?_
      exact ih g h10 (a3 + 1)
theorem wX7_digest_p6 (cx : zCx Y p s m args meth c RX7 cX7_digest 4 (some .long))   : ∀ (fu : Nat) (g : zSt) (b1 : Int64) (a3 : Int), zWo Y p l e (zrm 6) s m args below meth c 4 0 0 (fun q : Int64 × zSt => MQ below (zQl Y q.1 q.2) args s 0 0 (zA Y)) g [(0, .ref (zad Y 0)), (1, .long b1), (3, .int (i32 a3))] ([]) 6 (fX7_digest_p6 fu g b1 a3) := by
  intro fu
  induction fu with
  | zero => intro g b1 a3; exact zr_none
  | succ fu ih =>
    intro g b1 a3
    rw [fX7_digest_p6]
    refine zr_iload_n (pc' := 7) cx rfl 2 dX7_digest_6 rfl rfl ?_
    refine zr_bipush (pc' := 9) cx rfl dX7_digest_7 (by decide +kernel) ?_
    refine zr_icmp_ge (pc' := 12) cx rfl (tgt := 31) dX7_digest_9 rfl ?_ ?_
    · refine zr_aload_n (pc' := 32) cx rfl 0 dX7_digest_31 rfl rfl ?_
      refine zr_lload_n (pc' := 33) cx rfl 1 dX7_digest_32 rfl rfl ?_
      refine zc_X7_303 (pc' := 36) cx rfl  ⟨Nat.le_of_ble_eq_true rfl, Nat.le_of_ble_eq_true rfl⟩ ⟨Nat.zero_le _, Nat.zero_le _⟩ (Nat.le_of_ble_eq_true rfl) dX7_digest_33 (fun h11 => ?_)
      refine zr_lstore_n (pc' := 37) cx rfl (lv' := [(1, .long h11), (0, .ref (zad Y 0)), (3, .int (i32 a3))]) dX7_digest_36 rfl (by decide) rfl ?_
      refine zr_aload_n (pc' := 38) cx rfl 1 dX7_digest_37 rfl rfl ?_
      refine zr_lload_n (pc' := 39) cx rfl 0 dX7_digest_38 rfl rfl ?_
      refine zc_X7_307 (pc' := 42) cx rfl  ⟨Nat.le_of_ble_eq_true rfl, Nat.le_of_ble_eq_true rfl⟩ ⟨Nat.zero_le _, Nat.zero_le _⟩ (Nat.le_of_ble_eq_true rfl) dX7_digest_39 (fun h12 => ?_)
      refine zr_lstore_n (pc' := 43) cx rfl (lv' := [(1, .long h12), (0, .ref (zad Y 0)), (3, .int (i32 a3))]) dX7_digest_42 rfl (by decide) rfl ?_
      refine zr_iconst (pc' := 44) cx rfl dX7_digest_43 ?_
      refine zr_istore_n (pc' := 45) cx rfl (lv' := [(3, .int (i32 0)), (1, .long h12), (0, .ref (zad Y 0))]) dX7_digest_44 rfl (by decide) rfl ?_
      refine zr_sub [2, 1, 0] rfl ?_
      exact wX7_digest_p45 cx zfu g h12 0
    · refine zr_ldc2 (pc' := 15) cx rfl dX7_digest_12 zw_435 ?_
      refine zr_lload_n (pc' := 16) cx rfl 1 dX7_digest_15 rfl rfl ?_
      refine zr_lmul (pc' := 17) cx rfl dX7_digest_16 ?_
      refine zr_aload_n (pc' := 18) cx rfl 0 dX7_digest_17 rfl rfl ?_
      refine zr_iload_n (pc' := 19) cx rfl 2 dX7_digest_18 rfl rfl ?_
      refine zc_X7_266 (pc' := 22) cx rfl  ⟨Nat.le_of_ble_eq_true rfl, Nat.le_of_ble_eq_true rfl⟩ ⟨Nat.zero_le _, Nat.zero_le _⟩ (Nat.le_of_ble_eq_true rfl) dX7_digest_19 (fun v13 => ?_)
      refine zr_i2l (pc' := 23) cx rfl dX7_digest_22 ?_
      refine zr_ladd (pc' := 24) cx rfl dX7_digest_23 ?_
      refine zr_letl (fun h14 => ?_)
      refine zr_lstore_n (pc' := 25) cx rfl (lv' := [(1, .long h14), (0, .ref (zad Y 0)), (3, .int (i32 a3))]) dX7_digest_24 rfl (by decide) rfl ?_
      refine zr_iinc (pc' := 28) cx rfl (lv' := [(3, .int (i32 (a3 + 1))), (1, .long h14), (0, .ref (zad Y 0))]) 2 dX7_digest_25 rfl (by decide) rfl ?_
      refine zr_goto cx (tgt := 6) dX7_digest_28 rfl ?_
      refine zr_sub [2, 1, 0] rfl ?_
      exact ih g h14 (a3 + 1)
theorem wX7_digest (cx : zCx Y p s m args meth c RX7 cX7_digest 4 (some .long)) (g : zSt)  : zWo Y p l e (zrm 6) s m args below meth c 4 0 0 (fun q : Int64 × zSt => MQ below (zQl Y q.1 q.2) args s 0 0 (zA Y)) g [(0, .ref (zad Y 0))] ([]) 0 (fX7_digest g) := by
  unfold fX7_digest
  refine zr_ldc2 (pc' := 3) cx rfl dX7_digest_0 zw_434 ?_
  refine zr_letl (fun h15 => ?_)
  refine zr_lstore_n (pc' := 4) cx rfl (lv' := [(1, .long h15), (0, .ref (zad Y 0))]) dX7_digest_3 rfl (by decide) rfl ?_
  refine zr_iconst (pc' := 5) cx rfl dX7_digest_4 ?_
  refine zr_istore_n (pc' := 6) cx rfl (lv' := [(3, .int (i32 0)), (1, .long h15), (0, .ref (zad Y 0))]) dX7_digest_5 rfl (by decide) rfl ?_
  refine zr_sub [2, 1, 0] rfl ?_
  exact wX7_digest_p6 cx zfu g h15 0
theorem mX7_digest (l : Launch) (Y : zLy) (g : zSt)  : ∀ v g2, fX7_digest g = some (v, g2) → zMt l yX7_digest cX7_digest 4 (some .long) 6 [.ref (zad Y 0)] Y g (zQl Y v g2) := by
  intro v g2 hv
  refine zmet_of RX7 rfl (by decide +kernel) (Nat.le_of_ble_eq_true rfl) ?_
  intro p e s m below meth c cx H locs ls hH hS hl
  exact wX7_digest cx g   (v, g2) hv H locs ls hH hS hl
end ZmX7
