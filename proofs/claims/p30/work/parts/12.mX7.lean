section ZmX7
variable {ρ : Type} {Y : zLy} {p : Program} {l : Launch} {e : Env} {R : Room} {s : State} {m : MethodId} {args : Array Value} {below : List Frame} {meth : Method} {c : Code} {nl k n : Nat} {kq : ρ → State → Prop} {lv : List (Nat × Value)} {rest : List Value} {pc pc' : Nat} {cc : ByteArray} {ret : Option FieldType}
def fX7_isBox (g : zSt) (a1 : Int) : Option Int :=
    (if i32 a1 < i32 0 then
    zck ((0 : Int) = 0 ∨ (0 : Int) = 1) (some 0)
    else
    (if i32 a1 < i32 (g.1 11 0) then
    zck ((1 : Int) = 0 ∨ (1 : Int) = 1) (some 1)
    else
    zck ((0 : Int) = 0 ∨ (0 : Int) = 1) (some 0)))
theorem wX7_isBox (cx : zCx Y p s m args meth c RX7 cX7_isBox 2 (some .boolean)) (g : zSt) (a1 : Int)  : zWo Y p l e (zrm 0) s m args below meth c 2 0 0 (fun v : Int => MQ below (zQi Y v g) args s 0 0 (zA Y)) g [(0, .ref (zad Y 0)), (1, .int (i32 a1))] ([]) 0 (fX7_isBox g a1) := by
  unfold fX7_isBox
  refine zr_iload_n (pc' := 1) cx rfl 1 dX7_isBox_0 rfl rfl ?_
  refine zr_if_lt (pc' := 4) cx rfl (tgt := 22) dX7_isBox_1 rfl ?_ ?_
  · refine zr_iconst (pc' := 23) cx rfl dX7_isBox_22 ?_
    exact zr_zretP cx dX7_isBox_23
  · refine zr_iload_n (pc' := 5) cx rfl 1 dX7_isBox_4 rfl rfl ?_
    refine zr_aload_n (pc' := 6) cx rfl 0 dX7_isBox_5 rfl rfl ?_
    refine zg_X7_12 (pc' := 9) cx rfl zkc_0 dX7_isBox_6 ?_
    refine zg_X7_73 (pc' := 12) cx rfl (c2 := 11) zkc_10 rfl dX7_isBox_9 ?_
    refine zg_X7_77 (pc' := 15) cx rfl zkc_11 dX7_isBox_12 ?_
    refine zr_icmp_ge (pc' := 18) cx rfl (tgt := 22) dX7_isBox_15 rfl ?_ ?_
    · refine zr_iconst (pc' := 23) cx rfl dX7_isBox_22 ?_
      exact zr_zretP cx dX7_isBox_23
    · refine zr_iconst (pc' := 19) cx rfl dX7_isBox_18 ?_
      refine zr_gotoS cx (tgt := 23) dX7_isBox_19 rfl ?_
      exact zr_zretP cx dX7_isBox_23
theorem mX7_isBox (l : Launch) (Y : zLy) (g : zSt) (a1 : Int)  : ∀ v, fX7_isBox g a1 = some v → zMt l yX7_isBox cX7_isBox 2 (some .boolean) 0 [.ref (zad Y 0), .int (i32 a1)] Y g (zQi Y v g) := by
  intro v hv
  refine zmet_of RX7 rfl (by decide +kernel) (Nat.le_of_ble_eq_true rfl) ?_
  intro p e s m below meth c cx H locs ls hH hS hl
  exact wX7_isBox cx g a1  v hv H locs ls hH hS hl
theorem zc_X7_54 (cx : zCx Y p s m args meth c RX7 cc nl ret) (hpc : pc + 3 = pc') {g : zSt} {a1 : Int}  {fk : Int → Option ρ} (hR : 0 + 1 ≤ R.frames ∧ 8 + (2 + 11) + 40 * 0 ≤ R.locals) (hkn : k ≤ R.cells ∧ n ≤ R.slots) (hrest : (rest.map fun v => v.category).sum ≤ 8) (hdg : decode cc pc = .ok (.invokevirtual 54, 3)) (kk : ∀ v : Int, zWo Y p l e R s m args below meth c nl k n kq g lv (.int (i32 v) :: rest) pc' (fk v)) : zWo Y p l e R s m args below meth c nl k n kq g lv (.int (i32 a1) :: .ref (zad Y 0) :: rest) pc (zbd (fX7_isBox g a1) fk) := zr_callViP cx (an := 1) (As := [.int (i32 a1)]) 8 zkc_0 (by decide) rfl (mX7_isBox l Y g a1) (zG_V zw_321 zw_323 zw_0 zw_26 zw_324) (by decide +kernel) hR hkn rfl rfl hrest hdg hpc kk
def fX7_isRating (g : zSt) (a0 : Int) : Option Int :=
    (if i32 a0 < i32 1 then
    zck ((0 : Int) = 0 ∨ (0 : Int) = 1) (some 0)
    else
    (if i32 60 < i32 a0 then
    zck ((0 : Int) = 0 ∨ (0 : Int) = 1) (some 0)
    else
    zck ((1 : Int) = 0 ∨ (1 : Int) = 1) (some 1)))
theorem wX7_isRating (cx : zCx Y p s m args meth c RX7 cX7_isRating 1 (some .boolean)) (g : zSt) (a0 : Int)  : zWo Y p l e (zrm 0) s m args below meth c 1 0 0 (fun v : Int => MQ below (zQi Y v g) args s 0 0 (zA Y)) g [(0, .int (i32 a0))] ([]) 0 (fX7_isRating g a0) := by
  unfold fX7_isRating
  refine zr_iload_n (pc' := 1) cx rfl 0 dX7_isRating_0 rfl rfl ?_
  refine zr_iconst (pc' := 2) cx rfl dX7_isRating_1 ?_
  refine zr_icmp_lt (pc' := 5) cx rfl (tgt := 15) dX7_isRating_2 rfl ?_ ?_
  · refine zr_iconst (pc' := 16) cx rfl dX7_isRating_15 ?_
    exact zr_zretP cx dX7_isRating_16
  · refine zr_iload_n (pc' := 6) cx rfl 0 dX7_isRating_5 rfl rfl ?_
    refine zr_bipush (pc' := 8) cx rfl dX7_isRating_6 (by decide +kernel) ?_
    refine zr_icmp_gt (pc' := 11) cx rfl (tgt := 15) dX7_isRating_8 rfl ?_ ?_
    · refine zr_iconst (pc' := 16) cx rfl dX7_isRating_15 ?_
      exact zr_zretP cx dX7_isRating_16
    · refine zr_iconst (pc' := 12) cx rfl dX7_isRating_11 ?_
      refine zr_gotoS cx (tgt := 16) dX7_isRating_12 rfl ?_
      exact zr_zretP cx dX7_isRating_16
theorem mX7_isRating (l : Launch) (Y : zLy) (g : zSt) (a0 : Int)  : ∀ v, fX7_isRating g a0 = some v → zMt l yX7_isRating cX7_isRating 1 (some .boolean) 0 [.int (i32 a0)] Y g (zQi Y v g) := by
  intro v hv
  refine zmet_of RX7 rfl (by decide +kernel) (Nat.le_of_ble_eq_true rfl) ?_
  intro p e s m below meth c cx H locs ls hH hS hl
  exact wX7_isRating cx g a0  v hv H locs ls hH hS hl
theorem zc_X7_65 (cx : zCx Y p s m args meth c RX7 cc nl ret) (hpc : pc + 3 = pc') {g : zSt} {a0 : Int}  {fk : Int → Option ρ} (hR : 0 + 1 ≤ R.frames ∧ 8 + (1 + 11) + 40 * 0 ≤ R.locals) (hkn : k ≤ R.cells ∧ n ≤ R.slots) (hrest : (rest.map fun v => v.category).sum ≤ 8) (hdg : decode cc pc = .ok (.invokestatic 65, 3)) (kk : ∀ v : Int, zWo Y p l e R s m args below meth c nl k n kq g lv (.int (i32 v) :: rest) pc' (fk v)) : zWo Y p l e R s m args below meth c nl k n kq g lv (.int (i32 a0) :: rest) pc (zbd (fX7_isRating g a0) fk) := zr_callSiP cx (an := 1) (As := [.int (i32 a0)])  (mX7_isRating l Y g a0) (zG_S zw_634 zw_635 zw_26 zw_636) (by decide +kernel) hR hkn rfl rfl hrest hdg hpc kk
def fX7_settle_p7  : Nat → zSt → Nat → Nat → Int → Option (Int × zSt)
  | 0, _, _, _, _ => none
  | fu + 1, g, c0, c1, a2 =>
    (if i32 a2 < i32 24 then
    zbd (fX6_fuseToBlow g c1 (c0 + 1)) (fun v1 =>
    (if i32 v1 = i32 (-1) then
    some (a2, g)
    else
    zck ((0 : Int) ≤ v1 ∧ v1 < 24) (zck ((1 : Int) = 0 ∨ (1 : Int) = 1) (zlet (zwr g (c0 + 6) (Int.toNat v1) 1) (fun g2 =>
    zlet (zwr g2 c0 4 ((g2.1 c0 4) + 1)) (fun g3 =>
    zbd (fX6_take g3 c1 c0) (fun g4 =>
    fX7_settle_p7 fu g4 c0 c1 (a2 + 1))))))))
    else
    some (a2, g))
def fX7_settle (g : zSt) (c0 : Nat) (c1 : Nat) : Option (Int × zSt) :=
    zbd (fX6_take g c1 c0) (fun g5 =>
    fX7_settle_p7 zfu g5 c0 c1 0)
theorem wX7_settle_p7 (cx : zCx Y p s m args meth c RX7 cX7_settle 4 (some .int))   : ∀ (fu : Nat) (g : zSt) (c0 : Nat) (c1 : Nat) (a2 : Int) (hc0 : zV Y c0 = 6) (hc1 : zV Y c1 = 7), zWo Y p l e (zrm 3) s m args below meth c 4 0 0 (fun q : Int × zSt => MQ below (zQi Y q.1 q.2) args s 0 0 (zA Y)) g [(0, .ref (zad Y c0)), (1, .ref (zad Y c1)), (2, .int (i32 a2))] ([]) 7 (fX7_settle_p7 fu g c0 c1 a2) := by
  intro fu
  induction fu with
  | zero => intro g c0 c1 a2 hc0 hc1; exact zr_none
  | succ fu ih =>
    intro g c0 c1 a2 hc0 hc1
    rw [fX7_settle_p7]
    refine zr_iload_n (pc' := 8) cx rfl 2 dX7_settle_7 rfl rfl ?_
    refine zr_bipush (pc' := 10) cx rfl dX7_settle_8 (by decide +kernel) ?_
    refine zr_icmp_ge (pc' := 13) cx rfl (tgt := 60) dX7_settle_10 rfl ?_ ?_
    · refine zr_iload_n (pc' := 61) cx rfl 2 dX7_settle_60 rfl rfl ?_
      exact zr_iretE cx dX7_settle_61
    · refine zr_aload_n (pc' := 14) cx rfl 1 dX7_settle_13 rfl rfl ?_
      refine zr_aload_n (pc' := 15) cx rfl 0 dX7_settle_14 rfl rfl ?_
      refine zg_X7_73 (pc' := 18) cx rfl (c2 := (c0 + 1)) hc0 rfl dX7_settle_15 ?_
      refine zc_X7_286 (pc' := 21) cx rfl hc1 (zk6_1 hc0) ⟨Nat.le_of_ble_eq_true rfl, Nat.le_of_ble_eq_true rfl⟩ ⟨Nat.zero_le _, Nat.zero_le _⟩ (Nat.le_of_ble_eq_true rfl) dX7_settle_18 (fun v1 => ?_)
      refine zr_istore_n (pc' := 22) cx rfl (lv' := [(3, .int (i32 v1)), (0, .ref (zad Y c0)), (1, .ref (zad Y c1)), (2, .int (i32 a2))]) dX7_settle_21 rfl (by decide) rfl ?_
      refine zr_iload_n (pc' := 23) cx rfl 0 dX7_settle_22 rfl rfl ?_
      refine zr_iconst (pc' := 24) cx rfl dX7_settle_23 ?_
      refine zr_icmp_ne (pc' := 27) cx rfl (tgt := 29) dX7_settle_24 rfl ?_ ?_
      · refine zr_aload_n (pc' := 30) cx rfl 1 dX7_settle_29 rfl rfl ?_
        refine zg_X7_73 (pc' := 33) cx rfl (c2 := (c0 + 1)) hc0 rfl dX7_settle_30 ?_
        refine zg_X7_131 (pc' := 36) cx rfl (c2 := (c0 + 6)) (zk6_1 hc0) rfl dX7_settle_33 ?_
        refine zr_iload_n (pc' := 37) cx rfl 0 dX7_settle_36 rfl rfl ?_
        refine zr_iconst (pc' := 38) cx rfl dX7_settle_37 ?_
        refine zr_bast (pc' := 39) cx rfl 21 (zk6_6 hc0) (by decide) (L := 24) rfl dX7_settle_38 ?_
        refine zr_letS (fun g2 => ?_)
        refine zr_aload_n (pc' := 40) cx rfl 1 dX7_settle_39 rfl rfl ?_
        refine zr_dup (pc' := 41) cx rfl dX7_settle_40 rfl ?_
        refine zg_X7_324 (pc' := 44) cx rfl hc0 dX7_settle_41 ?_
        refine zr_iconst (pc' := 45) cx rfl dX7_settle_44 ?_
        refine zr_iadd (pc' := 46) cx rfl dX7_settle_45 ?_
        refine zp_X7_324 (pc' := 49) cx rfl hc0 dX7_settle_46 ?_
        refine zr_letS (fun g3 => ?_)
        refine zr_iinc (pc' := 52) cx rfl (lv' := [(2, .int (i32 (a2 + 1))), (3, .int (i32 v1)), (0, .ref (zad Y c0)), (1, .ref (zad Y c1))]) 3 dX7_settle_49 rfl (by decide) rfl ?_
        refine zr_aload_n (pc' := 53) cx rfl 3 dX7_settle_52 rfl rfl ?_
        refine zr_aload_n (pc' := 54) cx rfl 2 dX7_settle_53 rfl rfl ?_
        refine zc_X7_239 (pc' := 57) cx rfl hc1 hc0 ⟨Nat.le_of_ble_eq_true rfl, Nat.le_of_ble_eq_true rfl⟩ ⟨Nat.zero_le _, Nat.zero_le _⟩ (Nat.le_of_ble_eq_true rfl) dX7_settle_54 (fun g4 => ?_)
        refine zr_goto cx (tgt := 7) dX7_settle_57 rfl ?_
        refine zr_sub [2, 3, 0] rfl ?_
        exact ih g4 c0 c1 (a2 + 1) hc0 hc1
      · refine zr_iload_n (pc' := 28) cx rfl 3 dX7_settle_27 rfl rfl ?_
        exact zr_iretE cx dX7_settle_28
theorem wX7_settle (cx : zCx Y p s m args meth c RX7 cX7_settle 4 (some .int)) (g : zSt) (c0 : Nat) (c1 : Nat) (hc0 : zV Y c0 = 6) (hc1 : zV Y c1 = 7) : zWo Y p l e (zrm 3) s m args below meth c 4 0 0 (fun q : Int × zSt => MQ below (zQi Y q.1 q.2) args s 0 0 (zA Y)) g [(0, .ref (zad Y c0)), (1, .ref (zad Y c1))] ([]) 0 (fX7_settle g c0 c1) := by
  unfold fX7_settle
  refine zr_aload_n (pc' := 1) cx rfl 1 dX7_settle_0 rfl rfl ?_
  refine zr_aload_n (pc' := 2) cx rfl 0 dX7_settle_1 rfl rfl ?_
  refine zc_X7_239 (pc' := 5) cx rfl hc1 hc0 ⟨Nat.le_of_ble_eq_true rfl, Nat.le_of_ble_eq_true rfl⟩ ⟨Nat.zero_le _, Nat.zero_le _⟩ (Nat.le_of_ble_eq_true rfl) dX7_settle_2 (fun g5 => ?_)
  refine zr_iconst (pc' := 6) cx rfl dX7_settle_5 ?_
  refine zr_istore_n (pc' := 7) cx rfl (lv' := [(2, .int (i32 0)), (0, .ref (zad Y c0)), (1, .ref (zad Y c1))]) dX7_settle_6 rfl (by decide) rfl ?_
  refine zr_sub [1, 2, 0] rfl ?_
  exact wX7_settle_p7 cx zfu g5 c0 c1 0 hc0 hc1
theorem mX7_settle (l : Launch) (Y : zLy) (g : zSt) (c0 : Nat) (c1 : Nat) (hc0 : zV Y c0 = 6) (hc1 : zV Y c1 = 7) : ∀ v g2, fX7_settle g c0 c1 = some (v, g2) → zMt l yX7_settle cX7_settle 4 (some .int) 3 [.ref (zad Y c0), .ref (zad Y c1)] Y g (zQi Y v g2) := by
  intro v g2 hv
  refine zmet_of RX7 rfl (by decide +kernel) (Nat.le_of_ble_eq_true rfl) ?_
  intro p e s m below meth c cx H locs ls hH hS hl
  exact wX7_settle cx g c0 c1 hc0 hc1 (v, g2) hv H locs ls hH hS hl
theorem zc_X7_95 (cx : zCx Y p s m args meth c RX7 cc nl ret) (hpc : pc + 3 = pc') {g : zSt} {c0 : Nat} {c1 : Nat} (hc0 : zV Y c0 = 6) (hc1 : zV Y c1 = 7) {fk : Int → zSt → Option ρ} (hR : 3 + 1 ≤ R.frames ∧ 8 + (4 + 11) + 40 * 3 ≤ R.locals) (hkn : k ≤ R.cells ∧ n ≤ R.slots) (hrest : (rest.map fun v => v.category).sum ≤ 8) (hdg : decode cc pc = .ok (.invokestatic 95, 3)) (kk : ∀ (v : Int) (g2 : zSt), zWo Y p l e R s m args below meth c nl k n kq g2 lv (.int (i32 v) :: rest) pc' (fk v g2)) : zWo Y p l e R s m args below meth c nl k n kq g lv (.ref (zad Y c1) :: .ref (zad Y c0) :: rest) pc (zbe (fX7_settle g c0 c1) fk) := zr_callSiE cx (an := 2) (As := [.ref (zad Y c0), .ref (zad Y c1)])  (mX7_settle l Y g c0 c1 hc0 hc1) (zG_S zw_593 zw_594 zw_26 zw_595) (by decide +kernel) hR hkn rfl rfl hrest hdg hpc kk
def fX7_isFedBox (g : zSt) (a1 : Int) : Option Int :=
    (if i32 0 < i32 a1 then
    (if i32 a1 < i32 (g.1 11 0) then
    zck ((1 : Int) = 0 ∨ (1 : Int) = 1) (some 1)
    else
    zck ((0 : Int) = 0 ∨ (0 : Int) = 1) (some 0))
    else
    zck ((0 : Int) = 0 ∨ (0 : Int) = 1) (some 0))
theorem wX7_isFedBox (cx : zCx Y p s m args meth c RX7 cX7_isFedBox 2 (some .boolean)) (g : zSt) (a1 : Int)  : zWo Y p l e (zrm 0) s m args below meth c 2 0 0 (fun v : Int => MQ below (zQi Y v g) args s 0 0 (zA Y)) g [(0, .ref (zad Y 0)), (1, .int (i32 a1))] ([]) 0 (fX7_isFedBox g a1) := by
  unfold fX7_isFedBox
  refine zr_iload_n (pc' := 1) cx rfl 1 dX7_isFedBox_0 rfl rfl ?_
  refine zr_if_le (pc' := 4) cx rfl (tgt := 22) dX7_isFedBox_1 rfl ?_ ?_
  · refine zr_iconst (pc' := 23) cx rfl dX7_isFedBox_22 ?_
    exact zr_zretP cx dX7_isFedBox_23
  · refine zr_iload_n (pc' := 5) cx rfl 1 dX7_isFedBox_4 rfl rfl ?_
    refine zr_aload_n (pc' := 6) cx rfl 0 dX7_isFedBox_5 rfl rfl ?_
    refine zg_X7_12 (pc' := 9) cx rfl zkc_0 dX7_isFedBox_6 ?_
    refine zg_X7_73 (pc' := 12) cx rfl (c2 := 11) zkc_10 rfl dX7_isFedBox_9 ?_
    refine zg_X7_77 (pc' := 15) cx rfl zkc_11 dX7_isFedBox_12 ?_
    refine zr_icmp_ge (pc' := 18) cx rfl (tgt := 22) dX7_isFedBox_15 rfl ?_ ?_
    · refine zr_iconst (pc' := 23) cx rfl dX7_isFedBox_22 ?_
      exact zr_zretP cx dX7_isFedBox_23
    · refine zr_iconst (pc' := 19) cx rfl dX7_isFedBox_18 ?_
      refine zr_gotoS cx (tgt := 23) dX7_isFedBox_19 rfl ?_
      exact zr_zretP cx dX7_isFedBox_23
theorem mX7_isFedBox (l : Launch) (Y : zLy) (g : zSt) (a1 : Int)  : ∀ v, fX7_isFedBox g a1 = some v → zMt l yX7_isFedBox cX7_isFedBox 2 (some .boolean) 0 [.ref (zad Y 0), .int (i32 a1)] Y g (zQi Y v g) := by
  intro v hv
  refine zmet_of RX7 rfl (by decide +kernel) (Nat.le_of_ble_eq_true rfl) ?_
  intro p e s m below meth c cx H locs ls hH hS hl
  exact wX7_isFedBox cx g a1  v hv H locs ls hH hS hl
theorem zc_X7_99 (cx : zCx Y p s m args meth c RX7 cc nl ret) (hpc : pc + 3 = pc') {g : zSt} {a1 : Int}  {fk : Int → Option ρ} (hR : 0 + 1 ≤ R.frames ∧ 8 + (2 + 11) + 40 * 0 ≤ R.locals) (hkn : k ≤ R.cells ∧ n ≤ R.slots) (hrest : (rest.map fun v => v.category).sum ≤ 8) (hdg : decode cc pc = .ok (.invokevirtual 99, 3)) (kk : ∀ v : Int, zWo Y p l e R s m args below meth c nl k n kq g lv (.int (i32 v) :: rest) pc' (fk v)) : zWo Y p l e R s m args below meth c nl k n kq g lv (.int (i32 a1) :: .ref (zad Y 0) :: rest) pc (zbd (fX7_isFedBox g a1) fk) := zr_callViP cx (an := 1) (As := [.int (i32 a1)]) 8 zkc_0 (by decide) rfl (mX7_isFedBox l Y g a1) (zG_V zw_600 zw_602 zw_20 zw_26 zw_603) (by decide +kernel) hR hkn rfl rfl hrest hdg hpc kk
def fX7_oneIf (g : zSt) (a0 : Int) : Option Int :=
    (if i32 a0 = i32 0 then
    some 0
    else
    some 1)
theorem wX7_oneIf (cx : zCx Y p s m args meth c RX7 cX7_oneIf 1 (some .int)) (g : zSt) (a0 : Int)  : zWo Y p l e (zrm 0) s m args below meth c 1 0 0 (fun v : Int => MQ below (zQi Y v g) args s 0 0 (zA Y)) g [(0, .int (i32 a0))] ([]) 0 (fX7_oneIf g a0) := by
  unfold fX7_oneIf
  refine zr_iload_n (pc' := 1) cx rfl 0 dX7_oneIf_0 rfl rfl ?_
  refine zr_if_eq (pc' := 4) cx rfl (tgt := 8) dX7_oneIf_1 rfl ?_ ?_
  · refine zr_iconst (pc' := 9) cx rfl dX7_oneIf_8 ?_
    exact zr_iretP cx dX7_oneIf_9
  · refine zr_iconst (pc' := 5) cx rfl dX7_oneIf_4 ?_
    refine zr_gotoS cx (tgt := 9) dX7_oneIf_5 rfl ?_
    exact zr_iretP cx dX7_oneIf_9
theorem mX7_oneIf (l : Launch) (Y : zLy) (g : zSt) (a0 : Int)  : ∀ v, fX7_oneIf g a0 = some v → zMt l yX7_oneIf cX7_oneIf 1 (some .int) 0 [.int (i32 a0)] Y g (zQi Y v g) := by
  intro v hv
  refine zmet_of RX7 rfl (by decide +kernel) (Nat.le_of_ble_eq_true rfl) ?_
  intro p e s m below meth c cx H locs ls hH hS hl
  exact wX7_oneIf cx g a0  v hv H locs ls hH hS hl
theorem zc_X7_108 (cx : zCx Y p s m args meth c RX7 cc nl ret) (hpc : pc + 3 = pc') {g : zSt} {a0 : Int}  {fk : Int → Option ρ} (hR : 0 + 1 ≤ R.frames ∧ 8 + (1 + 11) + 40 * 0 ≤ R.locals) (hkn : k ≤ R.cells ∧ n ≤ R.slots) (hrest : (rest.map fun v => v.category).sum ≤ 8) (hdg : decode cc pc = .ok (.invokestatic 108, 3)) (kk : ∀ v : Int, zWo Y p l e R s m args below meth c nl k n kq g lv (.int (i32 v) :: rest) pc' (fk v)) : zWo Y p l e R s m args below meth c nl k n kq g lv (.int (i32 a0) :: rest) pc (zbd (fX7_oneIf g a0) fk) := zr_callSiP cx (an := 1) (As := [.int (i32 a0)])  (mX7_oneIf l Y g a0) (zG_S zw_413 zw_414 zw_26 zw_415) (by decide +kernel) hR hkn rfl rfl hrest hdg hpc kk
def fX7_isTerminal (g : zSt) (a0 : Int) : Option Int :=
    (if i32 a0 = i32 0 then
    zck ((1 : Int) = 0 ∨ (1 : Int) = 1) (some 1)
    else
    (if i32 a0 = i32 1 then
    zck ((1 : Int) = 0 ∨ (1 : Int) = 1) (some 1)
    else
    zck ((0 : Int) = 0 ∨ (0 : Int) = 1) (some 0)))
theorem wX7_isTerminal (cx : zCx Y p s m args meth c RX7 cX7_isTerminal 1 (some .boolean)) (g : zSt) (a0 : Int)  : zWo Y p l e (zrm 0) s m args below meth c 1 0 0 (fun v : Int => MQ below (zQi Y v g) args s 0 0 (zA Y)) g [(0, .int (i32 a0))] ([]) 0 (fX7_isTerminal g a0) := by
  unfold fX7_isTerminal
  refine zr_iload_n (pc' := 1) cx rfl 0 dX7_isTerminal_0 rfl rfl ?_
  refine zr_if_eq (pc' := 4) cx rfl (tgt := 9) dX7_isTerminal_1 rfl ?_ ?_
  · refine zr_iconst (pc' := 10) cx rfl dX7_isTerminal_9 ?_
    refine zr_gotoS cx (tgt := 14) dX7_isTerminal_10 rfl ?_
    exact zr_zretP cx dX7_isTerminal_14
  · refine zr_iload_n (pc' := 5) cx rfl 0 dX7_isTerminal_4 rfl rfl ?_
    refine zr_iconst (pc' := 6) cx rfl dX7_isTerminal_5 ?_
    refine zr_icmp_ne (pc' := 9) cx rfl (tgt := 13) dX7_isTerminal_6 rfl ?_ ?_
    · refine zr_iconst (pc' := 14) cx rfl dX7_isTerminal_13 ?_
      exact zr_zretP cx dX7_isTerminal_14
    · refine zr_iconst (pc' := 10) cx rfl dX7_isTerminal_9 ?_
      refine zr_gotoS cx (tgt := 14) dX7_isTerminal_10 rfl ?_
      exact zr_zretP cx dX7_isTerminal_14
theorem mX7_isTerminal (l : Launch) (Y : zLy) (g : zSt) (a0 : Int)  : ∀ v, fX7_isTerminal g a0 = some v → zMt l yX7_isTerminal cX7_isTerminal 1 (some .boolean) 0 [.int (i32 a0)] Y g (zQi Y v g) := by
  intro v hv
  refine zmet_of RX7 rfl (by decide +kernel) (Nat.le_of_ble_eq_true rfl) ?_
  intro p e s m below meth c cx H locs ls hH hS hl
  exact wX7_isTerminal cx g a0  v hv H locs ls hH hS hl
theorem zc_X7_118 (cx : zCx Y p s m args meth c RX7 cc nl ret) (hpc : pc + 3 = pc') {g : zSt} {a0 : Int}  {fk : Int → Option ρ} (hR : 0 + 1 ≤ R.frames ∧ 8 + (1 + 11) + 40 * 0 ≤ R.locals) (hkn : k ≤ R.cells ∧ n ≤ R.slots) (hrest : (rest.map fun v => v.category).sum ≤ 8) (hdg : decode cc pc = .ok (.invokestatic 118, 3)) (kk : ∀ v : Int, zWo Y p l e R s m args below meth c nl k n kq g lv (.int (i32 v) :: rest) pc' (fk v)) : zWo Y p l e R s m args below meth c nl k n kq g lv (.int (i32 a0) :: rest) pc (zbd (fX7_isTerminal g a0) fk) := zr_callSiP cx (an := 1) (As := [.int (i32 a0)])  (mX7_isTerminal l Y g a0) (zG_S zw_428 zw_429 zw_26 zw_430) (by decide +kernel) hR hkn rfl rfl hrest hdg hpc kk
def fX7_isLantern (g : zSt) (a1 : Int) : Option Int :=
    (if i32 a1 < i32 0 then
    zck ((0 : Int) = 0 ∨ (0 : Int) = 1) (some 0)
    else
    (if i32 a1 < i32 (g.1 17 0) then
    zck ((1 : Int) = 0 ∨ (1 : Int) = 1) (some 1)
    else
    zck ((0 : Int) = 0 ∨ (0 : Int) = 1) (some 0)))
theorem wX7_isLantern (cx : zCx Y p s m args meth c RX7 cX7_isLantern 2 (some .boolean)) (g : zSt) (a1 : Int)  : zWo Y p l e (zrm 0) s m args below meth c 2 0 0 (fun v : Int => MQ below (zQi Y v g) args s 0 0 (zA Y)) g [(0, .ref (zad Y 0)), (1, .int (i32 a1))] ([]) 0 (fX7_isLantern g a1) := by
  unfold fX7_isLantern
  refine zr_iload_n (pc' := 1) cx rfl 1 dX7_isLantern_0 rfl rfl ?_
  refine zr_if_lt (pc' := 4) cx rfl (tgt := 22) dX7_isLantern_1 rfl ?_ ?_
  · refine zr_iconst (pc' := 23) cx rfl dX7_isLantern_22 ?_
    exact zr_zretP cx dX7_isLantern_23
  · refine zr_iload_n (pc' := 5) cx rfl 1 dX7_isLantern_4 rfl rfl ?_
    refine zr_aload_n (pc' := 6) cx rfl 0 dX7_isLantern_5 rfl rfl ?_
    refine zg_X7_12 (pc' := 9) cx rfl zkc_0 dX7_isLantern_6 ?_
    refine zg_X7_142 (pc' := 12) cx rfl (c2 := 17) zkc_10 rfl dX7_isLantern_9 ?_
    refine zg_X7_146 (pc' := 15) cx rfl zkc_17 dX7_isLantern_12 ?_
    refine zr_icmp_ge (pc' := 18) cx rfl (tgt := 22) dX7_isLantern_15 rfl ?_ ?_
    · refine zr_iconst (pc' := 23) cx rfl dX7_isLantern_22 ?_
      exact zr_zretP cx dX7_isLantern_23
    · refine zr_iconst (pc' := 19) cx rfl dX7_isLantern_18 ?_
      refine zr_gotoS cx (tgt := 23) dX7_isLantern_19 rfl ?_
      exact zr_zretP cx dX7_isLantern_23
theorem mX7_isLantern (l : Launch) (Y : zLy) (g : zSt) (a1 : Int)  : ∀ v, fX7_isLantern g a1 = some v → zMt l yX7_isLantern cX7_isLantern 2 (some .boolean) 0 [.ref (zad Y 0), .int (i32 a1)] Y g (zQi Y v g) := by
  intro v hv
  refine zmet_of RX7 rfl (by decide +kernel) (Nat.le_of_ble_eq_true rfl) ?_
  intro p e s m below meth c cx H locs ls hH hS hl
  exact wX7_isLantern cx g a1  v hv H locs ls hH hS hl
theorem zc_X7_156 (cx : zCx Y p s m args meth c RX7 cc nl ret) (hpc : pc + 3 = pc') {g : zSt} {a1 : Int}  {fk : Int → Option ρ} (hR : 0 + 1 ≤ R.frames ∧ 8 + (2 + 11) + 40 * 0 ≤ R.locals) (hkn : k ≤ R.cells ∧ n ≤ R.slots) (hrest : (rest.map fun v => v.category).sum ≤ 8) (hdg : decode cc pc = .ok (.invokevirtual 156, 3)) (kk : ∀ v : Int, zWo Y p l e R s m args below meth c nl k n kq g lv (.int (i32 v) :: rest) pc' (fk v)) : zWo Y p l e R s m args below meth c nl k n kq g lv (.int (i32 a1) :: .ref (zad Y 0) :: rest) pc (zbd (fX7_isLantern g a1) fk) := zr_callViP cx (an := 1) (As := [.int (i32 a1)]) 8 zkc_0 (by decide) rfl (mX7_isLantern l Y g a1) (zG_V zw_454 zw_456 zw_7 zw_26 zw_457) (by decide +kernel) hR hkn rfl rfl hrest hdg hpc kk
def fX7_isStrength (g : zSt) (a0 : Int) : Option Int :=
    (if i32 a0 < i32 1 then
    zck ((0 : Int) = 0 ∨ (0 : Int) = 1) (some 0)
    else
    (if i32 30 < i32 a0 then
    zck ((0 : Int) = 0 ∨ (0 : Int) = 1) (some 0)
    else
    zck ((1 : Int) = 0 ∨ (1 : Int) = 1) (some 1)))
theorem wX7_isStrength (cx : zCx Y p s m args meth c RX7 cX7_isStrength 1 (some .boolean)) (g : zSt) (a0 : Int)  : zWo Y p l e (zrm 0) s m args below meth c 1 0 0 (fun v : Int => MQ below (zQi Y v g) args s 0 0 (zA Y)) g [(0, .int (i32 a0))] ([]) 0 (fX7_isStrength g a0) := by
  unfold fX7_isStrength
  refine zr_iload_n (pc' := 1) cx rfl 0 dX7_isStrength_0 rfl rfl ?_
  refine zr_iconst (pc' := 2) cx rfl dX7_isStrength_1 ?_
  refine zr_icmp_lt (pc' := 5) cx rfl (tgt := 15) dX7_isStrength_2 rfl ?_ ?_
  · refine zr_iconst (pc' := 16) cx rfl dX7_isStrength_15 ?_
    exact zr_zretP cx dX7_isStrength_16
  · refine zr_iload_n (pc' := 6) cx rfl 0 dX7_isStrength_5 rfl rfl ?_
    refine zr_bipush (pc' := 8) cx rfl dX7_isStrength_6 (by decide +kernel) ?_
    refine zr_icmp_gt (pc' := 11) cx rfl (tgt := 15) dX7_isStrength_8 rfl ?_ ?_
    · refine zr_iconst (pc' := 16) cx rfl dX7_isStrength_15 ?_
      exact zr_zretP cx dX7_isStrength_16
    · refine zr_iconst (pc' := 12) cx rfl dX7_isStrength_11 ?_
      refine zr_gotoS cx (tgt := 16) dX7_isStrength_12 rfl ?_
      exact zr_zretP cx dX7_isStrength_16
theorem mX7_isStrength (l : Launch) (Y : zLy) (g : zSt) (a0 : Int)  : ∀ v, fX7_isStrength g a0 = some v → zMt l yX7_isStrength cX7_isStrength 1 (some .boolean) 0 [.int (i32 a0)] Y g (zQi Y v g) := by
  intro v hv
  refine zmet_of RX7 rfl (by decide +kernel) (Nat.le_of_ble_eq_true rfl) ?_
  intro p e s m below meth c cx H locs ls hH hS hl
  exact wX7_isStrength cx g a0  v hv H locs ls hH hS hl
theorem zc_X7_170 (cx : zCx Y p s m args meth c RX7 cc nl ret) (hpc : pc + 3 = pc') {g : zSt} {a0 : Int}  {fk : Int → Option ρ} (hR : 0 + 1 ≤ R.frames ∧ 8 + (1 + 11) + 40 * 0 ≤ R.locals) (hkn : k ≤ R.cells ∧ n ≤ R.slots) (hrest : (rest.map fun v => v.category).sum ≤ 8) (hdg : decode cc pc = .ok (.invokestatic 170, 3)) (kk : ∀ v : Int, zWo Y p l e R s m args below meth c nl k n kq g lv (.int (i32 v) :: rest) pc' (fk v)) : zWo Y p l e R s m args below meth c nl k n kq g lv (.int (i32 a0) :: rest) pc (zbd (fX7_isStrength g a0) fk) := zr_callSiP cx (an := 1) (As := [.int (i32 a0)])  (mX7_isStrength l Y g a0) (zG_S zw_524 zw_525 zw_26 zw_526) (by decide +kernel) hR hkn rfl rfl hrest hdg hpc kk
def fX7_isFault (g : zSt) (a1 : Int) : Option Int :=
    (if i32 a1 < i32 0 then
    zck ((0 : Int) = 0 ∨ (0 : Int) = 1) (some 0)
    else
    (if i32 a1 < i32 (g.1 21 0) then
    zck ((1 : Int) = 0 ∨ (1 : Int) = 1) (some 1)
    else
    zck ((0 : Int) = 0 ∨ (0 : Int) = 1) (some 0)))
theorem wX7_isFault (cx : zCx Y p s m args meth c RX7 cX7_isFault 2 (some .boolean)) (g : zSt) (a1 : Int)  : zWo Y p l e (zrm 0) s m args below meth c 2 0 0 (fun v : Int => MQ below (zQi Y v g) args s 0 0 (zA Y)) g [(0, .ref (zad Y 0)), (1, .int (i32 a1))] ([]) 0 (fX7_isFault g a1) := by
  unfold fX7_isFault
  refine zr_iload_n (pc' := 1) cx rfl 1 dX7_isFault_0 rfl rfl ?_
  refine zr_if_lt (pc' := 4) cx rfl (tgt := 22) dX7_isFault_1 rfl ?_ ?_
  · refine zr_iconst (pc' := 23) cx rfl dX7_isFault_22 ?_
    exact zr_zretP cx dX7_isFault_23
  · refine zr_iload_n (pc' := 5) cx rfl 1 dX7_isFault_4 rfl rfl ?_
    refine zr_aload_n (pc' := 6) cx rfl 0 dX7_isFault_5 rfl rfl ?_
    refine zg_X7_12 (pc' := 9) cx rfl zkc_0 dX7_isFault_6 ?_
    refine zg_X7_175 (pc' := 12) cx rfl (c2 := 21) zkc_10 rfl dX7_isFault_9 ?_
    refine zg_X7_179 (pc' := 15) cx rfl zkc_21 dX7_isFault_12 ?_
    refine zr_icmp_ge (pc' := 18) cx rfl (tgt := 22) dX7_isFault_15 rfl ?_ ?_
    · refine zr_iconst (pc' := 23) cx rfl dX7_isFault_22 ?_
      exact zr_zretP cx dX7_isFault_23
    · refine zr_iconst (pc' := 19) cx rfl dX7_isFault_18 ?_
      refine zr_gotoS cx (tgt := 23) dX7_isFault_19 rfl ?_
      exact zr_zretP cx dX7_isFault_23
theorem mX7_isFault (l : Launch) (Y : zLy) (g : zSt) (a1 : Int)  : ∀ v, fX7_isFault g a1 = some v → zMt l yX7_isFault cX7_isFault 2 (some .boolean) 0 [.ref (zad Y 0), .int (i32 a1)] Y g (zQi Y v g) := by
  intro v hv
  refine zmet_of RX7 rfl (by decide +kernel) (Nat.le_of_ble_eq_true rfl) ?_
  intro p e s m below meth c cx H locs ls hH hS hl
  exact wX7_isFault cx g a1  v hv H locs ls hH hS hl
theorem zc_X7_187 (cx : zCx Y p s m args meth c RX7 cc nl ret) (hpc : pc + 3 = pc') {g : zSt} {a1 : Int}  {fk : Int → Option ρ} (hR : 0 + 1 ≤ R.frames ∧ 8 + (2 + 11) + 40 * 0 ≤ R.locals) (hkn : k ≤ R.cells ∧ n ≤ R.slots) (hrest : (rest.map fun v => v.category).sum ≤ 8) (hdg : decode cc pc = .ok (.invokevirtual 187, 3)) (kk : ∀ v : Int, zWo Y p l e R s m args below meth c nl k n kq g lv (.int (i32 v) :: rest) pc' (fk v)) : zWo Y p l e R s m args below meth c nl k n kq g lv (.int (i32 a1) :: .ref (zad Y 0) :: rest) pc (zbd (fX7_isFault g a1) fk) := zr_callViP cx (an := 1) (As := [.int (i32 a1)]) 8 zkc_0 (by decide) rfl (mX7_isFault l Y g a1) (zG_V zw_472 zw_474 zw_10 zw_26 zw_475) (by decide +kernel) hR hkn rfl rfl hrest hdg hpc kk
def fX7_lanternsBurningAt_p4 (g : zSt)  : Nat → Int → Int → Int → Option Int
  | 0, _, _, _ => none
  | fu + 1, a1, a2, a3 =>
    (if i32 a3 < i32 (g.1 17 0) then
    zck ((0 : Int) ≤ a3 ∧ a3 < 16) (
    (if i32 (g.1 18 (Int.toNat a3)) = i32 a1 then
    zck ((0 : Int) ≤ a3 ∧ a3 < 16) (
    (if i32 (g.1 206 (Int.toNat a3)) = i32 0 then
    fX7_lanternsBurningAt_p4 g fu a1 a2 (a3 + 1)
    else
    fX7_lanternsBurningAt_p4 g fu a1 (a2 + 1) (a3 + 1)))
    else
    fX7_lanternsBurningAt_p4 g fu a1 a2 (a3 + 1)))
    else
    some a2)
def fX7_lanternsBurningAt (g : zSt) (a1 : Int) : Option Int :=
    fX7_lanternsBurningAt_p4 g zfu a1 0 0
theorem wX7_lanternsBurningAt_p4 (cx : zCx Y p s m args meth c RX7 cX7_lanternsBurningAt 4 (some .int)) (g : zSt)   : ∀ (fu : Nat) (a1 : Int) (a2 : Int) (a3 : Int), zWo Y p l e (zrm 0) s m args below meth c 4 0 0 (fun v : Int => MQ below (zQi Y v g) args s 0 0 (zA Y)) g [(0, .ref (zad Y 0)), (1, .int (i32 a1)), (2, .int (i32 a2)), (3, .int (i32 a3))] ([]) 4 (fX7_lanternsBurningAt_p4 g fu a1 a2 a3) := by
  intro fu
  induction fu with
  | zero => intro a1 a2 a3; exact zr_none
  | succ fu ih =>
    intro a1 a2 a3
    rw [fX7_lanternsBurningAt_p4]
    refine zr_iload_n (pc' := 5) cx rfl 3 dX7_lanternsBurningAt_4 rfl rfl ?_
    refine zr_aload_n (pc' := 6) cx rfl 0 dX7_lanternsBurningAt_5 rfl rfl ?_
    refine zg_X7_12 (pc' := 9) cx rfl zkc_0 dX7_lanternsBurningAt_6 ?_
    refine zg_X7_142 (pc' := 12) cx rfl (c2 := 17) zkc_10 rfl dX7_lanternsBurningAt_9 ?_
    refine zg_X7_146 (pc' := 15) cx rfl zkc_17 dX7_lanternsBurningAt_12 ?_
    refine zr_icmp_ge (pc' := 18) cx rfl (tgt := 55) dX7_lanternsBurningAt_15 rfl ?_ ?_
    · refine zr_iload_n (pc' := 56) cx rfl 2 dX7_lanternsBurningAt_55 rfl rfl ?_
      exact zr_iretP cx dX7_lanternsBurningAt_56
    · refine zr_aload_n (pc' := 19) cx rfl 0 dX7_lanternsBurningAt_18 rfl rfl ?_
      refine zg_X7_12 (pc' := 22) cx rfl zkc_0 dX7_lanternsBurningAt_19 ?_
      refine zg_X7_142 (pc' := 25) cx rfl (c2 := 17) zkc_10 rfl dX7_lanternsBurningAt_22 ?_
      refine zg_X7_366 (pc' := 28) cx rfl (c2 := 18) zkc_17 rfl dX7_lanternsBurningAt_25 ?_
      refine zr_iload_n (pc' := 29) cx rfl 3 dX7_lanternsBurningAt_28 rfl rfl ?_
      refine zr_iald (pc' := 30) cx rfl 12 zkc_18 (by decide) (L := 16) rfl dX7_lanternsBurningAt_29 ?_
      refine zr_iload_n (pc' := 31) cx rfl 1 dX7_lanternsBurningAt_30 rfl rfl ?_
      refine zr_icmp_ne (pc' := 34) cx rfl (tgt := 49) dX7_lanternsBurningAt_31 rfl ?_ ?_
      · refine zr_iinc (pc' := 52) cx rfl (lv' := [(3, .int (i32 (a3 + 1))), (0, .ref (zad Y 0)), (1, .int (i32 a1)), (2, .int (i32 a2))]) 3 dX7_lanternsBurningAt_49 rfl (by decide) rfl ?_
        refine zr_goto cx (tgt := 4) dX7_lanternsBurningAt_52 rfl ?_
        refine zr_sub [1, 2, 3, 0] rfl ?_
        exact ih a1 a2 (a3 + 1)
      · refine zr_aload_n (pc' := 35) cx rfl 0 dX7_lanternsBurningAt_34 rfl rfl ?_
        refine zg_X7_19 (pc' := 38) cx rfl zkc_0 dX7_lanternsBurningAt_35 ?_
        refine zg_X7_161 (pc' := 41) cx rfl (c2 := 206) zkc_200 rfl dX7_lanternsBurningAt_38 ?_
        refine zr_iload_n (pc' := 42) cx rfl 3 dX7_lanternsBurningAt_41 rfl rfl ?_
        refine zr_bald (pc' := 43) cx rfl 22 zkc_206 (by decide) (L := 16) rfl dX7_lanternsBurningAt_42 ?_
        refine zr_if_eq (pc' := 46) cx rfl (tgt := 49) dX7_lanternsBurningAt_43 rfl ?_ ?_
        · refine zr_iinc (pc' := 52) cx rfl (lv' := [(3, .int (i32 (a3 + 1))), (0, .ref (zad Y 0)), (1, .int (i32 a1)), (2, .int (i32 a2))]) 3 dX7_lanternsBurningAt_49 rfl (by decide) rfl ?_
          refine zr_goto cx (tgt := 4) dX7_lanternsBurningAt_52 rfl ?_
          refine zr_sub [1, 2, 3, 0] rfl ?_
          exact ih a1 a2 (a3 + 1)
        · refine zr_iinc (pc' := 49) cx rfl (lv' := [(2, .int (i32 (a2 + 1))), (0, .ref (zad Y 0)), (1, .int (i32 a1)), (3, .int (i32 a3))]) 2 dX7_lanternsBurningAt_46 rfl (by decide) rfl ?_
          refine zr_iinc (pc' := 52) cx rfl (lv' := [(3, .int (i32 (a3 + 1))), (2, .int (i32 (a2 + 1))), (0, .ref (zad Y 0)), (1, .int (i32 a1))]) 3 dX7_lanternsBurningAt_49 rfl (by decide) rfl ?_
          refine zr_goto cx (tgt := 4) dX7_lanternsBurningAt_52 rfl ?_
          refine zr_sub [2, 3, 1, 0] rfl ?_
          exact ih a1 (a2 + 1) (a3 + 1)
theorem wX7_lanternsBurningAt (cx : zCx Y p s m args meth c RX7 cX7_lanternsBurningAt 4 (some .int)) (g : zSt) (a1 : Int)  : zWo Y p l e (zrm 0) s m args below meth c 4 0 0 (fun v : Int => MQ below (zQi Y v g) args s 0 0 (zA Y)) g [(0, .ref (zad Y 0)), (1, .int (i32 a1))] ([]) 0 (fX7_lanternsBurningAt g a1) := by
  unfold fX7_lanternsBurningAt
  refine zr_iconst (pc' := 1) cx rfl dX7_lanternsBurningAt_0 ?_
  refine zr_istore_n (pc' := 2) cx rfl (lv' := [(2, .int (i32 0)), (0, .ref (zad Y 0)), (1, .int (i32 a1))]) dX7_lanternsBurningAt_1 rfl (by decide) rfl ?_
  refine zr_iconst (pc' := 3) cx rfl dX7_lanternsBurningAt_2 ?_
  refine zr_istore_n (pc' := 4) cx rfl (lv' := [(3, .int (i32 0)), (2, .int (i32 0)), (0, .ref (zad Y 0)), (1, .int (i32 a1))]) dX7_lanternsBurningAt_3 rfl (by decide) rfl ?_
  refine zr_sub [2, 3, 1, 0] rfl ?_
  exact wX7_lanternsBurningAt_p4 cx g zfu a1 0 0
theorem mX7_lanternsBurningAt (l : Launch) (Y : zLy) (g : zSt) (a1 : Int)  : ∀ v, fX7_lanternsBurningAt g a1 = some v → zMt l yX7_lanternsBurningAt cX7_lanternsBurningAt 4 (some .int) 0 [.ref (zad Y 0), .int (i32 a1)] Y g (zQi Y v g) := by
  intro v hv
  refine zmet_of RX7 rfl (by decide +kernel) (Nat.le_of_ble_eq_true rfl) ?_
  intro p e s m below meth c cx H locs ls hH hS hl
  exact wX7_lanternsBurningAt cx g a1  v hv H locs ls hH hS hl
theorem zc_X7_360 (cx : zCx Y p s m args meth c RX7 cc nl ret) (hpc : pc + 3 = pc') {g : zSt} {a1 : Int}  {fk : Int → Option ρ} (hR : 0 + 1 ≤ R.frames ∧ 8 + (4 + 11) + 40 * 0 ≤ R.locals) (hkn : k ≤ R.cells ∧ n ≤ R.slots) (hrest : (rest.map fun v => v.category).sum ≤ 8) (hdg : decode cc pc = .ok (.invokevirtual 360, 3)) (kk : ∀ v : Int, zWo Y p l e R s m args below meth c nl k n kq g lv (.int (i32 v) :: rest) pc' (fk v)) : zWo Y p l e R s m args below meth c nl k n kq g lv (.int (i32 a1) :: .ref (zad Y 0) :: rest) pc (zbd (fX7_lanternsBurningAt g a1) fk) := zr_callViP cx (an := 1) (As := [.int (i32 a1)]) 8 zkc_0 (by decide) rfl (mX7_lanternsBurningAt l Y g a1) (zG_V zw_416 zw_418 zw_3 zw_26 zw_419) (by decide +kernel) hR hkn rfl rfl hrest hdg hpc kk
def fX7_unitsAt_p4 (g : zSt)  : Nat → Int → Int → Int → Option Int
  | 0, _, _, _ => none
  | fu + 1, a1, a2, a3 =>
    (if i32 a3 < i32 (g.1 17 0) then
    zck ((0 : Int) ≤ a3 ∧ a3 < 16) (
    (if i32 (g.1 18 (Int.toNat a3)) = i32 a1 then
    zck ((0 : Int) ≤ a3 ∧ a3 < 16) (
    zlet (a2 + (g.1 19 (Int.toNat a3))) (fun x1 =>
    fX7_unitsAt_p4 g fu a1 x1 (a3 + 1)))
    else
    fX7_unitsAt_p4 g fu a1 a2 (a3 + 1)))
    else
    some a2)
def fX7_unitsAt (g : zSt) (a1 : Int) : Option Int :=
    fX7_unitsAt_p4 g zfu a1 0 0
theorem wX7_unitsAt_p4 (cx : zCx Y p s m args meth c RX7 cX7_unitsAt 4 (some .int)) (g : zSt)   : ∀ (fu : Nat) (a1 : Int) (a2 : Int) (a3 : Int), zWo Y p l e (zrm 0) s m args below meth c 4 0 0 (fun v : Int => MQ below (zQi Y v g) args s 0 0 (zA Y)) g [(0, .ref (zad Y 0)), (1, .int (i32 a1)), (2, .int (i32 a2)), (3, .int (i32 a3))] ([]) 4 (fX7_unitsAt_p4 g fu a1 a2 a3) := by
  intro fu
  induction fu with
  | zero => intro a1 a2 a3; exact zr_none
  | succ fu ih =>
    intro a1 a2 a3
    rw [fX7_unitsAt_p4]
    refine zr_iload_n (pc' := 5) cx rfl 3 dX7_unitsAt_4 rfl rfl ?_
    refine zr_aload_n (pc' := 6) cx rfl 0 dX7_unitsAt_5 rfl rfl ?_
    refine zg_X7_12 (pc' := 9) cx rfl zkc_0 dX7_unitsAt_6 ?_
    refine zg_X7_142 (pc' := 12) cx rfl (c2 := 17) zkc_10 rfl dX7_unitsAt_9 ?_
    refine zg_X7_146 (pc' := 15) cx rfl zkc_17 dX7_unitsAt_12 ?_
    refine zr_icmp_ge (pc' := 18) cx rfl (tgt := 55) dX7_unitsAt_15 rfl ?_ ?_
    · refine zr_iload_n (pc' := 56) cx rfl 2 dX7_unitsAt_55 rfl rfl ?_
      exact zr_iretP cx dX7_unitsAt_56
    · refine zr_aload_n (pc' := 19) cx rfl 0 dX7_unitsAt_18 rfl rfl ?_
      refine zg_X7_12 (pc' := 22) cx rfl zkc_0 dX7_unitsAt_19 ?_
      refine zg_X7_142 (pc' := 25) cx rfl (c2 := 17) zkc_10 rfl dX7_unitsAt_22 ?_
      refine zg_X7_366 (pc' := 28) cx rfl (c2 := 18) zkc_17 rfl dX7_unitsAt_25 ?_
      refine zr_iload_n (pc' := 29) cx rfl 3 dX7_unitsAt_28 rfl rfl ?_
      refine zr_iald (pc' := 30) cx rfl 12 zkc_18 (by decide) (L := 16) rfl dX7_unitsAt_29 ?_
      refine zr_iload_n (pc' := 31) cx rfl 1 dX7_unitsAt_30 rfl rfl ?_
      refine zr_icmp_ne (pc' := 34) cx rfl (tgt := 49) dX7_unitsAt_31 rfl ?_ ?_
      · refine zr_iinc (pc' := 52) cx rfl (lv' := [(3, .int (i32 (a3 + 1))), (0, .ref (zad Y 0)), (1, .int (i32 a1)), (2, .int (i32 a2))]) 3 dX7_unitsAt_49 rfl (by decide) rfl ?_
        refine zr_goto cx (tgt := 4) dX7_unitsAt_52 rfl ?_
        refine zr_sub [1, 2, 3, 0] rfl ?_
        exact ih a1 a2 (a3 + 1)
      · refine zr_iload_n (pc' := 35) cx rfl 2 dX7_unitsAt_34 rfl rfl ?_
        refine zr_aload_n (pc' := 36) cx rfl 0 dX7_unitsAt_35 rfl rfl ?_
        refine zg_X7_12 (pc' := 39) cx rfl zkc_0 dX7_unitsAt_36 ?_
        refine zg_X7_142 (pc' := 42) cx rfl (c2 := 17) zkc_10 rfl dX7_unitsAt_39 ?_
        refine zg_X7_369 (pc' := 45) cx rfl (c2 := 19) zkc_17 rfl dX7_unitsAt_42 ?_
        refine zr_iload_n (pc' := 46) cx rfl 3 dX7_unitsAt_45 rfl rfl ?_
        refine zr_iald (pc' := 47) cx rfl 12 zkc_19 (by decide) (L := 16) rfl dX7_unitsAt_46 ?_
        refine zr_iadd (pc' := 48) cx rfl dX7_unitsAt_47 ?_
        refine zr_leti (fun x1 => ?_)
        refine zr_istore_n (pc' := 49) cx rfl (lv' := [(2, .int (i32 x1)), (0, .ref (zad Y 0)), (1, .int (i32 a1)), (3, .int (i32 a3))]) dX7_unitsAt_48 rfl (by decide) rfl ?_
        refine zr_iinc (pc' := 52) cx rfl (lv' := [(3, .int (i32 (a3 + 1))), (2, .int (i32 x1)), (0, .ref (zad Y 0)), (1, .int (i32 a1))]) 3 dX7_unitsAt_49 rfl (by decide) rfl ?_
        refine zr_goto cx (tgt := 4) dX7_unitsAt_52 rfl ?_
        refine zr_sub [2, 3, 1, 0] rfl ?_
        exact ih a1 x1 (a3 + 1)
theorem wX7_unitsAt (cx : zCx Y p s m args meth c RX7 cX7_unitsAt 4 (some .int)) (g : zSt) (a1 : Int)  : zWo Y p l e (zrm 0) s m args below meth c 4 0 0 (fun v : Int => MQ below (zQi Y v g) args s 0 0 (zA Y)) g [(0, .ref (zad Y 0)), (1, .int (i32 a1))] ([]) 0 (fX7_unitsAt g a1) := by
  unfold fX7_unitsAt
  refine zr_iconst (pc' := 1) cx rfl dX7_unitsAt_0 ?_
  refine zr_istore_n (pc' := 2) cx rfl (lv' := [(2, .int (i32 0)), (0, .ref (zad Y 0)), (1, .int (i32 a1))]) dX7_unitsAt_1 rfl (by decide) rfl ?_
  refine zr_iconst (pc' := 3) cx rfl dX7_unitsAt_2 ?_
  refine zr_istore_n (pc' := 4) cx rfl (lv' := [(3, .int (i32 0)), (2, .int (i32 0)), (0, .ref (zad Y 0)), (1, .int (i32 a1))]) dX7_unitsAt_3 rfl (by decide) rfl ?_
  refine zr_sub [2, 3, 1, 0] rfl ?_
  exact wX7_unitsAt_p4 cx g zfu a1 0 0
theorem mX7_unitsAt (l : Launch) (Y : zLy) (g : zSt) (a1 : Int)  : ∀ v, fX7_unitsAt g a1 = some v → zMt l yX7_unitsAt cX7_unitsAt 4 (some .int) 0 [.ref (zad Y 0), .int (i32 a1)] Y g (zQi Y v g) := by
  intro v hv
  refine zmet_of RX7 rfl (by decide +kernel) (Nat.le_of_ble_eq_true rfl) ?_
  intro p e s m below meth c cx H locs ls hH hS hl
  exact wX7_unitsAt cx g a1  v hv H locs ls hH hS hl
theorem zc_X7_363 (cx : zCx Y p s m args meth c RX7 cc nl ret) (hpc : pc + 3 = pc') {g : zSt} {a1 : Int}  {fk : Int → Option ρ} (hR : 0 + 1 ≤ R.frames ∧ 8 + (4 + 11) + 40 * 0 ≤ R.locals) (hkn : k ≤ R.cells ∧ n ≤ R.slots) (hrest : (rest.map fun v => v.category).sum ≤ 8) (hdg : decode cc pc = .ok (.invokevirtual 363, 3)) (kk : ∀ v : Int, zWo Y p l e R s m args below meth c nl k n kq g lv (.int (i32 v) :: rest) pc' (fk v)) : zWo Y p l e R s m args below meth c nl k n kq g lv (.int (i32 a1) :: .ref (zad Y 0) :: rest) pc (zbd (fX7_unitsAt g a1) fk) := zr_callViP cx (an := 1) (As := [.int (i32 a1)]) 8 zkc_0 (by decide) rfl (mX7_unitsAt l Y g a1) (zG_V zw_420 zw_422 zw_4 zw_26 zw_423) (by decide +kernel) hR hkn rfl rfl hrest hdg hpc kk
def fX7_boxProperty (g : zSt) (a1 : Int) (a2 : Int) : Option Int :=
    (if i32 a2 = i32 0 then
    zck ((0 : Int) ≤ a1 ∧ a1 < 12) (
    some (g.1 12 (Int.toNat a1)))
    else
    (if i32 a2 = i32 1 then
    (if i32 a1 = i32 0 then
    some (-1)
    else
    zck ((0 : Int) ≤ a1 ∧ a1 < 12) (
    zbd (fX7_oneIf g (g.1 13 (Int.toNat a1))) (fun v1 =>
    some v1)))
    else
    (if i32 a2 = i32 2 then
    (if i32 a1 = i32 0 then
    some (-1)
    else
    zck ((0 : Int) ≤ a1 ∧ a1 < 12) (
    zbd (fX7_oneIf g (g.1 14 (Int.toNat a1))) (fun v2 =>
    some v2)))
    else
    (if i32 a2 = i32 3 then
    zck ((0 : Int) ≤ a1 ∧ a1 < 12) (
    some (g.1 201 (Int.toNat a1)))
    else
    (if i32 a2 = i32 4 then
    zck ((0 : Int) ≤ a1 ∧ a1 < 12) (
    some (g.1 202 (Int.toNat a1)))
    else
    (if i32 a2 = i32 5 then
    zbd (fX7_lanternsBurningAt g a1) (fun v3 =>
    some v3)
    else
    zbd (fX7_unitsAt g a1) (fun v4 =>
    some v4)))))))
theorem wX7_boxProperty (cx : zCx Y p s m args meth c RX7 cX7_boxProperty 4 (some .int)) (g : zSt) (a1 : Int) (a2 : Int)  : zWo Y p l e (zrm 1) s m args below meth c 4 0 0 (fun v : Int => MQ below (zQi Y v g) args s 0 0 (zA Y)) g [(0, .ref (zad Y 0)), (1, .int (i32 a1)), (2, .int (i32 a2))] ([]) 0 (fX7_boxProperty g a1 a2) := by
  unfold fX7_boxProperty
  refine zr_aload_n (pc' := 1) cx rfl 0 dX7_boxProperty_0 rfl rfl ?_
  refine zg_X7_12 (pc' := 4) cx rfl zkc_0 dX7_boxProperty_1 ?_
  refine zg_X7_73 (pc' := 7) cx rfl (c2 := 11) zkc_10 rfl dX7_boxProperty_4 ?_
  refine zr_astore_n (pc' := 8) cx rfl (lv' := [(3, .ref (zad Y 11)), (0, .ref (zad Y 0)), (1, .int (i32 a1)), (2, .int (i32 a2))]) dX7_boxProperty_7 rfl (by decide) rfl ?_
  refine zr_iload_n (pc' := 9) cx rfl 3 dX7_boxProperty_8 rfl rfl ?_
  refine zr_case (fun h => ?_) (fun n0 => ?_)
  · refine zr_tabIn cx (off := 39) (tgt := 48) dX7_boxProperty_9 (v := 0) (by rw [h]; decide +kernel) (by decide) rfl rfl ?_
    refine zr_aload_n (pc' := 49) cx rfl 0 dX7_boxProperty_48 rfl rfl ?_
    refine zg_X7_351 (pc' := 52) cx rfl (c2 := 12) zkc_11 rfl dX7_boxProperty_49 ?_
    refine zr_iload_n (pc' := 53) cx rfl 2 dX7_boxProperty_52 rfl rfl ?_
    refine zr_iald (pc' := 54) cx rfl 10 zkc_12 (by decide) (L := 12) rfl dX7_boxProperty_53 ?_
    exact zr_iretP cx dX7_boxProperty_54
  · refine zr_case (fun h => ?_) (fun n1 => ?_)
    · refine zr_tabIn cx (off := 46) (tgt := 55) dX7_boxProperty_9 (v := 1) (by rw [h]; decide +kernel) (by decide) rfl rfl ?_
      refine zr_iload_n (pc' := 56) cx rfl 2 dX7_boxProperty_55 rfl rfl ?_
      refine zr_if_ne (pc' := 59) cx rfl (tgt := 63) dX7_boxProperty_56 rfl ?_ ?_
      · refine zr_aload_n (pc' := 64) cx rfl 0 dX7_boxProperty_63 rfl rfl ?_
        refine zg_X7_112 (pc' := 67) cx rfl (c2 := 13) zkc_11 rfl dX7_boxProperty_64 ?_
        refine zr_iload_n (pc' := 68) cx rfl 2 dX7_boxProperty_67 rfl rfl ?_
        refine zr_bald (pc' := 69) cx rfl 20 zkc_13 (by decide) (L := 12) rfl dX7_boxProperty_68 ?_
        refine zc_X7_108 (pc' := 72) cx rfl  ⟨Nat.le_of_ble_eq_true rfl, Nat.le_of_ble_eq_true rfl⟩ ⟨Nat.zero_le _, Nat.zero_le _⟩ (Nat.le_of_ble_eq_true rfl) dX7_boxProperty_69 (fun v1 => ?_)
        exact zr_iretP cx dX7_boxProperty_72
      · refine zr_iconst (pc' := 60) cx rfl dX7_boxProperty_59 ?_
        refine zr_gotoS cx (tgt := 72) dX7_boxProperty_60 rfl ?_
        exact zr_iretP cx dX7_boxProperty_72
    · refine zr_case (fun h => ?_) (fun n2 => ?_)
      · refine zr_tabIn cx (off := 64) (tgt := 73) dX7_boxProperty_9 (v := 2) (by rw [h]; decide +kernel) (by decide) rfl rfl ?_
        refine zr_iload_n (pc' := 74) cx rfl 2 dX7_boxProperty_73 rfl rfl ?_
        refine zr_if_ne (pc' := 77) cx rfl (tgt := 81) dX7_boxProperty_74 rfl ?_ ?_
        · refine zr_aload_n (pc' := 82) cx rfl 0 dX7_boxProperty_81 rfl rfl ?_
          refine zg_X7_104 (pc' := 85) cx rfl (c2 := 14) zkc_11 rfl dX7_boxProperty_82 ?_
          refine zr_iload_n (pc' := 86) cx rfl 2 dX7_boxProperty_85 rfl rfl ?_
          refine zr_bald (pc' := 87) cx rfl 20 zkc_14 (by decide) (L := 12) rfl dX7_boxProperty_86 ?_
          refine zc_X7_108 (pc' := 90) cx rfl  ⟨Nat.le_of_ble_eq_true rfl, Nat.le_of_ble_eq_true rfl⟩ ⟨Nat.zero_le _, Nat.zero_le _⟩ (Nat.le_of_ble_eq_true rfl) dX7_boxProperty_87 (fun v2 => ?_)
          exact zr_iretP cx dX7_boxProperty_90
        · refine zr_iconst (pc' := 78) cx rfl dX7_boxProperty_77 ?_
          refine zr_gotoS cx (tgt := 90) dX7_boxProperty_78 rfl ?_
          exact zr_iretP cx dX7_boxProperty_90
      · refine zr_case (fun h => ?_) (fun n3 => ?_)
        · refine zr_tabIn cx (off := 82) (tgt := 91) dX7_boxProperty_9 (v := 3) (by rw [h]; decide +kernel) (by decide) rfl rfl ?_
          refine zr_aload_n (pc' := 92) cx rfl 1 dX7_boxProperty_91 rfl rfl ?_
          refine zg_X7_19 (pc' := 95) cx rfl zkc_0 dX7_boxProperty_92 ?_
          refine zg_X7_354 (pc' := 98) cx rfl (c2 := 201) zkc_200 rfl dX7_boxProperty_95 ?_
          refine zr_iload_n (pc' := 99) cx rfl 2 dX7_boxProperty_98 rfl rfl ?_
          refine zr_iald (pc' := 100) cx rfl 10 zkc_201 (by decide) (L := 12) rfl dX7_boxProperty_99 ?_
          exact zr_iretP cx dX7_boxProperty_100
        · refine zr_case (fun h => ?_) (fun n4 => ?_)
          · refine zr_tabIn cx (off := 92) (tgt := 101) dX7_boxProperty_9 (v := 4) (by rw [h]; decide +kernel) (by decide) rfl rfl ?_
            refine zr_aload_n (pc' := 102) cx rfl 1 dX7_boxProperty_101 rfl rfl ?_
            refine zg_X7_19 (pc' := 105) cx rfl zkc_0 dX7_boxProperty_102 ?_
            refine zg_X7_357 (pc' := 108) cx rfl (c2 := 202) zkc_200 rfl dX7_boxProperty_105 ?_
            refine zr_iload_n (pc' := 109) cx rfl 2 dX7_boxProperty_108 rfl rfl ?_
            refine zr_iald (pc' := 110) cx rfl 10 zkc_202 (by decide) (L := 12) rfl dX7_boxProperty_109 ?_
            exact zr_iretP cx dX7_boxProperty_110
          · refine zr_case (fun h => ?_) (fun n5 => ?_)
            · refine zr_tabIn cx (off := 102) (tgt := 111) dX7_boxProperty_9 (v := 5) (by rw [h]; decide +kernel) (by decide) rfl rfl ?_
              refine zr_aload_n (pc' := 112) cx rfl 1 dX7_boxProperty_111 rfl rfl ?_
              refine zr_iload_n (pc' := 113) cx rfl 2 dX7_boxProperty_112 rfl rfl ?_
              refine zc_X7_360 (pc' := 116) cx rfl  ⟨Nat.le_of_ble_eq_true rfl, Nat.le_of_ble_eq_true rfl⟩ ⟨Nat.zero_le _, Nat.zero_le _⟩ (Nat.le_of_ble_eq_true rfl) dX7_boxProperty_113 (fun v3 => ?_)
              exact zr_iretP cx dX7_boxProperty_116
            · refine zr_tabOut cx (tgt := 117) dX7_boxProperty_9 (by have := zne n0 (k := 0) (by decide +kernel); have := zne n1 (k := 1) (by decide +kernel); have := zne n2 (k := 2) (by decide +kernel); have := zne n3 (k := 3) (by decide +kernel); have := zne n4 (k := 4) (by decide +kernel); have := zne n5 (k := 5) (by decide +kernel); omega) rfl ?_
              refine zr_aload_n (pc' := 118) cx rfl 1 dX7_boxProperty_117 rfl rfl ?_
              refine zr_iload_n (pc' := 119) cx rfl 2 dX7_boxProperty_118 rfl rfl ?_
              refine zc_X7_363 (pc' := 122) cx rfl  ⟨Nat.le_of_ble_eq_true rfl, Nat.le_of_ble_eq_true rfl⟩ ⟨Nat.zero_le _, Nat.zero_le _⟩ (Nat.le_of_ble_eq_true rfl) dX7_boxProperty_119 (fun v4 => ?_)
              exact zr_iretP cx dX7_boxProperty_122
theorem mX7_boxProperty (l : Launch) (Y : zLy) (g : zSt) (a1 : Int) (a2 : Int)  : ∀ v, fX7_boxProperty g a1 a2 = some v → zMt l yX7_boxProperty cX7_boxProperty 4 (some .int) 1 [.ref (zad Y 0), .int (i32 a1), .int (i32 a2)] Y g (zQi Y v g) := by
  intro v hv
  refine zmet_of RX7 rfl (by decide +kernel) (Nat.le_of_ble_eq_true rfl) ?_
  intro p e s m below meth c cx H locs ls hH hS hl
  exact wX7_boxProperty cx g a1 a2  v hv H locs ls hH hS hl
theorem zc_X7_244 (cx : zCx Y p s m args meth c RX7 cc nl ret) (hpc : pc + 3 = pc') {g : zSt} {a1 : Int} {a2 : Int}  {fk : Int → Option ρ} (hR : 1 + 1 ≤ R.frames ∧ 8 + (4 + 11) + 40 * 1 ≤ R.locals) (hkn : k ≤ R.cells ∧ n ≤ R.slots) (hrest : (rest.map fun v => v.category).sum ≤ 8) (hdg : decode cc pc = .ok (.invokevirtual 244, 3)) (kk : ∀ v : Int, zWo Y p l e R s m args below meth c nl k n kq g lv (.int (i32 v) :: rest) pc' (fk v)) : zWo Y p l e R s m args below meth c nl k n kq g lv (.int (i32 a2) :: .int (i32 a1) :: .ref (zad Y 0) :: rest) pc (zbd (fX7_boxProperty g a1 a2) fk) := zr_callViP cx (an := 2) (As := [.int (i32 a1), .int (i32 a2)]) 8 zkc_0 (by decide) rfl (mX7_boxProperty l Y g a1 a2) (zG_V zw_409 zw_411 zw_2 zw_26 zw_412) (by decide +kernel) hR hkn rfl rfl hrest hdg hpc kk
def fX7_strengthsAt_p5 (g : zSt)  : Nat → Int → Int → Int → Int → Option Int
  | 0, _, _, _, _ => none
  | fu + 1, a1, a2, a3, a4 =>
    (if i32 a4 < i32 (g.1 21 0) then
    zck ((0 : Int) ≤ a4 ∧ a4 < 9) (
    (if i32 (g.1 22 (Int.toNat a4)) = i32 a1 then
    zck ((0 : Int) ≤ a4 ∧ a4 < 9) (
    (if i32 (g.1 23 (Int.toNat a4)) = i32 a2 then
    zck ((0 : Int) ≤ a4 ∧ a4 < 9) (
    zlet (a3 + (g.1 24 (Int.toNat a4))) (fun x1 =>
    fX7_strengthsAt_p5 g fu a1 a2 x1 (a4 + 1)))
    else
    fX7_strengthsAt_p5 g fu a1 a2 a3 (a4 + 1)))
    else
    fX7_strengthsAt_p5 g fu a1 a2 a3 (a4 + 1)))
    else
    some a3)
def fX7_strengthsAt (g : zSt) (a1 : Int) (a2 : Int) : Option Int :=
    fX7_strengthsAt_p5 g zfu a1 a2 0 0
theorem wX7_strengthsAt_p5 (cx : zCx Y p s m args meth c RX7 cX7_strengthsAt 5 (some .int)) (g : zSt)   : ∀ (fu : Nat) (a1 : Int) (a2 : Int) (a3 : Int) (a4 : Int), zWo Y p l e (zrm 0) s m args below meth c 5 0 0 (fun v : Int => MQ below (zQi Y v g) args s 0 0 (zA Y)) g [(0, .ref (zad Y 0)), (1, .int (i32 a1)), (2, .int (i32 a2)), (3, .int (i32 a3)), (4, .int (i32 a4))] ([]) 5 (fX7_strengthsAt_p5 g fu a1 a2 a3 a4) := by
  intro fu
  induction fu with
  | zero => intro a1 a2 a3 a4; exact zr_none
  | succ fu ih =>
    intro a1 a2 a3 a4
    rw [fX7_strengthsAt_p5]
    refine zr_iload (pc' := 7) cx rfl 4 dX7_strengthsAt_5 rfl ?_
    refine zr_aload_n (pc' := 8) cx rfl 0 dX7_strengthsAt_7 rfl rfl ?_
    refine zg_X7_12 (pc' := 11) cx rfl zkc_0 dX7_strengthsAt_8 ?_
    refine zg_X7_175 (pc' := 14) cx rfl (c2 := 21) zkc_10 rfl dX7_strengthsAt_11 ?_
    refine zg_X7_179 (pc' := 17) cx rfl zkc_21 dX7_strengthsAt_14 ?_
    refine zr_icmp_ge (pc' := 20) cx rfl (tgt := 76) dX7_strengthsAt_17 rfl ?_ ?_
    · refine zr_iload_n (pc' := 77) cx rfl 3 dX7_strengthsAt_76 rfl rfl ?_
      exact zr_iretP cx dX7_strengthsAt_77
    · refine zr_aload_n (pc' := 21) cx rfl 0 dX7_strengthsAt_20 rfl rfl ?_
      refine zg_X7_12 (pc' := 24) cx rfl zkc_0 dX7_strengthsAt_21 ?_
      refine zg_X7_175 (pc' := 27) cx rfl (c2 := 21) zkc_10 rfl dX7_strengthsAt_24 ?_
      refine zg_X7_381 (pc' := 30) cx rfl (c2 := 22) zkc_21 rfl dX7_strengthsAt_27 ?_
      refine zr_iload (pc' := 32) cx rfl 4 dX7_strengthsAt_30 rfl ?_
      refine zr_iald (pc' := 33) cx rfl 13 zkc_22 (by decide) (L := 9) rfl dX7_strengthsAt_32 ?_
      refine zr_iload_n (pc' := 34) cx rfl 1 dX7_strengthsAt_33 rfl rfl ?_
      refine zr_icmp_ne (pc' := 37) cx rfl (tgt := 70) dX7_strengthsAt_34 rfl ?_ ?_
      · refine zr_iinc (pc' := 73) cx rfl (lv' := [(4, .int (i32 (a4 + 1))), (0, .ref (zad Y 0)), (1, .int (i32 a1)), (2, .int (i32 a2)), (3, .int (i32 a3))]) 4 dX7_strengthsAt_70 rfl (by decide) rfl ?_
        refine zr_goto cx (tgt := 5) dX7_strengthsAt_73 rfl ?_
        refine zr_sub [1, 2, 3, 4, 0] rfl ?_
        exact ih a1 a2 a3 (a4 + 1)
      · refine zr_aload_n (pc' := 38) cx rfl 0 dX7_strengthsAt_37 rfl rfl ?_
        refine zg_X7_12 (pc' := 41) cx rfl zkc_0 dX7_strengthsAt_38 ?_
        refine zg_X7_175 (pc' := 44) cx rfl (c2 := 21) zkc_10 rfl dX7_strengthsAt_41 ?_
        refine zg_X7_382 (pc' := 47) cx rfl (c2 := 23) zkc_21 rfl dX7_strengthsAt_44 ?_
        refine zr_iload (pc' := 49) cx rfl 4 dX7_strengthsAt_47 rfl ?_
        refine zr_iald (pc' := 50) cx rfl 13 zkc_23 (by decide) (L := 9) rfl dX7_strengthsAt_49 ?_
        refine zr_iload_n (pc' := 51) cx rfl 2 dX7_strengthsAt_50 rfl rfl ?_
        refine zr_icmp_ne (pc' := 54) cx rfl (tgt := 70) dX7_strengthsAt_51 rfl ?_ ?_
        · refine zr_iinc (pc' := 73) cx rfl (lv' := [(4, .int (i32 (a4 + 1))), (0, .ref (zad Y 0)), (1, .int (i32 a1)), (2, .int (i32 a2)), (3, .int (i32 a3))]) 4 dX7_strengthsAt_70 rfl (by decide) rfl ?_
          refine zr_goto cx (tgt := 5) dX7_strengthsAt_73 rfl ?_
          refine zr_sub [1, 2, 3, 4, 0] rfl ?_
          exact ih a1 a2 a3 (a4 + 1)
        · refine zr_iload_n (pc' := 55) cx rfl 3 dX7_strengthsAt_54 rfl rfl ?_
          refine zr_aload_n (pc' := 56) cx rfl 0 dX7_strengthsAt_55 rfl rfl ?_
          refine zg_X7_12 (pc' := 59) cx rfl zkc_0 dX7_strengthsAt_56 ?_
          refine zg_X7_175 (pc' := 62) cx rfl (c2 := 21) zkc_10 rfl dX7_strengthsAt_59 ?_
          refine zg_X7_192 (pc' := 65) cx rfl (c2 := 24) zkc_21 rfl dX7_strengthsAt_62 ?_
          refine zr_iload (pc' := 67) cx rfl 4 dX7_strengthsAt_65 rfl ?_
          refine zr_iald (pc' := 68) cx rfl 13 zkc_24 (by decide) (L := 9) rfl dX7_strengthsAt_67 ?_
          refine zr_iadd (pc' := 69) cx rfl dX7_strengthsAt_68 ?_
          refine zr_leti (fun x1 => ?_)
          refine zr_istore_n (pc' := 70) cx rfl (lv' := [(3, .int (i32 x1)), (0, .ref (zad Y 0)), (1, .int (i32 a1)), (2, .int (i32 a2)), (4, .int (i32 a4))]) dX7_strengthsAt_69 rfl (by decide) rfl ?_
          refine zr_iinc (pc' := 73) cx rfl (lv' := [(4, .int (i32 (a4 + 1))), (3, .int (i32 x1)), (0, .ref (zad Y 0)), (1, .int (i32 a1)), (2, .int (i32 a2))]) 4 dX7_strengthsAt_70 rfl (by decide) rfl ?_
          refine zr_goto cx (tgt := 5) dX7_strengthsAt_73 rfl ?_
          refine zr_sub [2, 3, 4, 1, 0] rfl ?_
          exact ih a1 a2 x1 (a4 + 1)
theorem wX7_strengthsAt (cx : zCx Y p s m args meth c RX7 cX7_strengthsAt 5 (some .int)) (g : zSt) (a1 : Int) (a2 : Int)  : zWo Y p l e (zrm 0) s m args below meth c 5 0 0 (fun v : Int => MQ below (zQi Y v g) args s 0 0 (zA Y)) g [(0, .ref (zad Y 0)), (1, .int (i32 a1)), (2, .int (i32 a2))] ([]) 0 (fX7_strengthsAt g a1 a2) := by
  unfold fX7_strengthsAt
  refine zr_iconst (pc' := 1) cx rfl dX7_strengthsAt_0 ?_
  refine zr_istore_n (pc' := 2) cx rfl (lv' := [(3, .int (i32 0)), (0, .ref (zad Y 0)), (1, .int (i32 a1)), (2, .int (i32 a2))]) dX7_strengthsAt_1 rfl (by decide) rfl ?_
  refine zr_iconst (pc' := 3) cx rfl dX7_strengthsAt_2 ?_
  refine zr_istore (pc' := 5) cx rfl (lv' := [(4, .int (i32 0)), (3, .int (i32 0)), (0, .ref (zad Y 0)), (1, .int (i32 a1)), (2, .int (i32 a2))]) dX7_strengthsAt_3 (by decide) rfl ?_
  refine zr_sub [2, 3, 4, 1, 0] rfl ?_
  exact wX7_strengthsAt_p5 cx g zfu a1 a2 0 0
theorem mX7_strengthsAt (l : Launch) (Y : zLy) (g : zSt) (a1 : Int) (a2 : Int)  : ∀ v, fX7_strengthsAt g a1 a2 = some v → zMt l yX7_strengthsAt cX7_strengthsAt 5 (some .int) 0 [.ref (zad Y 0), .int (i32 a1), .int (i32 a2)] Y g (zQi Y v g) := by
  intro v hv
  refine zmet_of RX7 rfl (by decide +kernel) (Nat.le_of_ble_eq_true rfl) ?_
  intro p e s m below meth c cx H locs ls hH hS hl
  exact wX7_strengthsAt cx g a1 a2  v hv H locs ls hH hS hl
theorem zc_X7_378 (cx : zCx Y p s m args meth c RX7 cc nl ret) (hpc : pc + 3 = pc') {g : zSt} {a1 : Int} {a2 : Int}  {fk : Int → Option ρ} (hR : 0 + 1 ≤ R.frames ∧ 8 + (5 + 11) + 40 * 0 ≤ R.locals) (hkn : k ≤ R.cells ∧ n ≤ R.slots) (hrest : (rest.map fun v => v.category).sum ≤ 8) (hdg : decode cc pc = .ok (.invokevirtual 378, 3)) (kk : ∀ v : Int, zWo Y p l e R s m args below meth c nl k n kq g lv (.int (i32 v) :: rest) pc' (fk v)) : zWo Y p l e R s m args below meth c nl k n kq g lv (.int (i32 a2) :: .int (i32 a1) :: .ref (zad Y 0) :: rest) pc (zbd (fX7_strengthsAt g a1 a2) fk) := zr_callViP cx (an := 2) (As := [.int (i32 a1), .int (i32 a2)]) 8 zkc_0 (by decide) rfl (mX7_strengthsAt l Y g a1 a2) (zG_V zw_446 zw_448 zw_6 zw_26 zw_449) (by decide +kernel) hR hkn rfl rfl hrest hdg hpc kk
def fX7_terminalProperty (g : zSt) (a1 : Int) (a2 : Int) (a3 : Int) : Option Int :=
    zlet ((2 * a1) + a2) (fun x1 =>
    (if i32 a3 = i32 0 then
    zck ((0 : Int) ≤ x1 ∧ x1 < 24) (
    some (g.1 205 (Int.toNat x1)))
    else
    (if i32 a3 = i32 1 then
    zbd (fX6_isAlive g 200 x1) (fun v2 =>
    zbd (fX7_oneIf g v2) (fun v3 =>
    some v3))
    else
    (if i32 a3 = i32 2 then
    zbd (fX6_current g 200 x1) (fun v4 =>
    some v4)
    else
    (if i32 a3 = i32 3 then
    (if i32 a1 = i32 0 then
    some (-1)
    else
    zck ((0 : Int) ≤ x1 ∧ x1 < 24) (
    some (g.1 15 (Int.toNat x1))))
    else
    (if i32 a3 = i32 4 then
    (if i32 a1 = i32 0 then
    some (-1)
    else
    zck ((0 : Int) ≤ x1 ∧ x1 < 24) (
    zbd (fX7_oneIf g (g.1 16 (Int.toNat x1))) (fun v5 =>
    some v5)))
    else
    zbd (fX7_strengthsAt g a1 a2) (fun v6 =>
    some v6)))))))
theorem wX7_terminalProperty (cx : zCx Y p s m args meth c RX7 cX7_terminalProperty 5 (some .int)) (g : zSt) (a1 : Int) (a2 : Int) (a3 : Int)  : zWo Y p l e (zrm 2) s m args below meth c 5 0 0 (fun v : Int => MQ below (zQi Y v g) args s 0 0 (zA Y)) g [(0, .ref (zad Y 0)), (1, .int (i32 a1)), (2, .int (i32 a2)), (3, .int (i32 a3))] ([]) 0 (fX7_terminalProperty g a1 a2 a3) := by
  unfold fX7_terminalProperty
  refine zr_iconst (pc' := 1) cx rfl dX7_terminalProperty_0 ?_
  refine zr_iload_n (pc' := 2) cx rfl 1 dX7_terminalProperty_1 rfl rfl ?_
  refine zr_imul (pc' := 3) cx rfl dX7_terminalProperty_2 ?_
  refine zr_iload_n (pc' := 4) cx rfl 2 dX7_terminalProperty_3 rfl rfl ?_
  refine zr_iadd (pc' := 5) cx rfl dX7_terminalProperty_4 ?_
  refine zr_leti (fun x1 => ?_)
  refine zr_istore (pc' := 7) cx rfl (lv' := [(4, .int (i32 x1)), (0, .ref (zad Y 0)), (1, .int (i32 a1)), (2, .int (i32 a2)), (3, .int (i32 a3))]) dX7_terminalProperty_5 (by decide) rfl ?_
  refine zr_iload_n (pc' := 8) cx rfl 4 dX7_terminalProperty_7 rfl rfl ?_
  refine zr_case (fun h => ?_) (fun n0 => ?_)
  · refine zr_tabIn cx (off := 36) (tgt := 44) dX7_terminalProperty_8 (v := 0) (by rw [h]; decide +kernel) (by decide) rfl rfl ?_
    refine zr_aload_n (pc' := 45) cx rfl 1 dX7_terminalProperty_44 rfl rfl ?_
    refine zg_X7_19 (pc' := 48) cx rfl zkc_0 dX7_terminalProperty_45 ?_
    refine zg_X7_372 (pc' := 51) cx rfl (c2 := 205) zkc_200 rfl dX7_terminalProperty_48 ?_
    refine zr_iload (pc' := 53) cx rfl 0 dX7_terminalProperty_51 rfl ?_
    refine zr_iald (pc' := 54) cx rfl 11 zkc_205 (by decide) (L := 24) rfl dX7_terminalProperty_53 ?_
    exact zr_iretP cx dX7_terminalProperty_54
  · refine zr_case (fun h => ?_) (fun n1 => ?_)
    · refine zr_tabIn cx (off := 47) (tgt := 55) dX7_terminalProperty_8 (v := 1) (by rw [h]; decide +kernel) (by decide) rfl rfl ?_
      refine zr_aload_n (pc' := 56) cx rfl 1 dX7_terminalProperty_55 rfl rfl ?_
      refine zg_X7_19 (pc' := 59) cx rfl zkc_0 dX7_terminalProperty_56 ?_
      refine zr_iload (pc' := 61) cx rfl 0 dX7_terminalProperty_59 rfl ?_
      refine zc_X7_375 (pc' := 64) cx rfl zkc_200 ⟨Nat.le_of_ble_eq_true rfl, Nat.le_of_ble_eq_true rfl⟩ ⟨Nat.zero_le _, Nat.zero_le _⟩ (Nat.le_of_ble_eq_true rfl) dX7_terminalProperty_61 (fun v2 => ?_)
      refine zc_X7_108 (pc' := 67) cx rfl  ⟨Nat.le_of_ble_eq_true rfl, Nat.le_of_ble_eq_true rfl⟩ ⟨Nat.zero_le _, Nat.zero_le _⟩ (Nat.le_of_ble_eq_true rfl) dX7_terminalProperty_64 (fun v3 => ?_)
      exact zr_iretP cx dX7_terminalProperty_67
    · refine zr_case (fun h => ?_) (fun n2 => ?_)
      · refine zr_tabIn cx (off := 60) (tgt := 68) dX7_terminalProperty_8 (v := 2) (by rw [h]; decide +kernel) (by decide) rfl rfl ?_
        refine zr_aload_n (pc' := 69) cx rfl 1 dX7_terminalProperty_68 rfl rfl ?_
        refine zg_X7_19 (pc' := 72) cx rfl zkc_0 dX7_terminalProperty_69 ?_
        refine zr_iload (pc' := 74) cx rfl 0 dX7_terminalProperty_72 rfl ?_
        refine zc_X7_296 (pc' := 77) cx rfl zkc_200 ⟨Nat.le_of_ble_eq_true rfl, Nat.le_of_ble_eq_true rfl⟩ ⟨Nat.zero_le _, Nat.zero_le _⟩ (Nat.le_of_ble_eq_true rfl) dX7_terminalProperty_74 (fun v4 => ?_)
        exact zr_iretP cx dX7_terminalProperty_77
      · refine zr_case (fun h => ?_) (fun n3 => ?_)
        · refine zr_tabIn cx (off := 70) (tgt := 78) dX7_terminalProperty_8 (v := 3) (by rw [h]; decide +kernel) (by decide) rfl rfl ?_
          refine zr_iload_n (pc' := 79) cx rfl 2 dX7_terminalProperty_78 rfl rfl ?_
          refine zr_if_ne (pc' := 82) cx rfl (tgt := 86) dX7_terminalProperty_79 rfl ?_ ?_
          · refine zr_aload_n (pc' := 87) cx rfl 1 dX7_terminalProperty_86 rfl rfl ?_
            refine zg_X7_12 (pc' := 90) cx rfl zkc_0 dX7_terminalProperty_87 ?_
            refine zg_X7_73 (pc' := 93) cx rfl (c2 := 11) zkc_10 rfl dX7_terminalProperty_90 ?_
            refine zg_X7_128 (pc' := 96) cx rfl (c2 := 15) zkc_11 rfl dX7_terminalProperty_93 ?_
            refine zr_iload (pc' := 98) cx rfl 0 dX7_terminalProperty_96 rfl ?_
            refine zr_iald (pc' := 99) cx rfl 11 zkc_15 (by decide) (L := 24) rfl dX7_terminalProperty_98 ?_
            exact zr_iretP cx dX7_terminalProperty_99
          · refine zr_iconst (pc' := 83) cx rfl dX7_terminalProperty_82 ?_
            refine zr_gotoS cx (tgt := 99) dX7_terminalProperty_83 rfl ?_
            exact zr_iretP cx dX7_terminalProperty_99
        · refine zr_case (fun h => ?_) (fun n4 => ?_)
          · refine zr_tabIn cx (off := 92) (tgt := 100) dX7_terminalProperty_8 (v := 4) (by rw [h]; decide +kernel) (by decide) rfl rfl ?_
            refine zr_iload_n (pc' := 101) cx rfl 2 dX7_terminalProperty_100 rfl rfl ?_
            refine zr_if_ne (pc' := 104) cx rfl (tgt := 108) dX7_terminalProperty_101 rfl ?_ ?_
            · refine zr_aload_n (pc' := 109) cx rfl 1 dX7_terminalProperty_108 rfl rfl ?_
              refine zg_X7_12 (pc' := 112) cx rfl zkc_0 dX7_terminalProperty_109 ?_
              refine zg_X7_73 (pc' := 115) cx rfl (c2 := 11) zkc_10 rfl dX7_terminalProperty_112 ?_
              refine zg_X7_131 (pc' := 118) cx rfl (c2 := 16) zkc_11 rfl dX7_terminalProperty_115 ?_
              refine zr_iload (pc' := 120) cx rfl 0 dX7_terminalProperty_118 rfl ?_
              refine zr_bald (pc' := 121) cx rfl 21 zkc_16 (by decide) (L := 24) rfl dX7_terminalProperty_120 ?_
              refine zc_X7_108 (pc' := 124) cx rfl  ⟨Nat.le_of_ble_eq_true rfl, Nat.le_of_ble_eq_true rfl⟩ ⟨Nat.zero_le _, Nat.zero_le _⟩ (Nat.le_of_ble_eq_true rfl) dX7_terminalProperty_121 (fun v5 => ?_)
              exact zr_iretP cx dX7_terminalProperty_124
            · refine zr_iconst (pc' := 105) cx rfl dX7_terminalProperty_104 ?_
              refine zr_gotoS cx (tgt := 124) dX7_terminalProperty_105 rfl ?_
              exact zr_iretP cx dX7_terminalProperty_124
          · refine zr_tabOut cx (tgt := 125) dX7_terminalProperty_8 (by have := zne n0 (k := 0) (by decide +kernel); have := zne n1 (k := 1) (by decide +kernel); have := zne n2 (k := 2) (by decide +kernel); have := zne n3 (k := 3) (by decide +kernel); have := zne n4 (k := 4) (by decide +kernel); omega) rfl ?_
            refine zr_aload_n (pc' := 126) cx rfl 1 dX7_terminalProperty_125 rfl rfl ?_
            refine zr_iload_n (pc' := 127) cx rfl 2 dX7_terminalProperty_126 rfl rfl ?_
            refine zr_iload_n (pc' := 128) cx rfl 3 dX7_terminalProperty_127 rfl rfl ?_
            refine zc_X7_378 (pc' := 131) cx rfl  ⟨Nat.le_of_ble_eq_true rfl, Nat.le_of_ble_eq_true rfl⟩ ⟨Nat.zero_le _, Nat.zero_le _⟩ (Nat.le_of_ble_eq_true rfl) dX7_terminalProperty_128 (fun v6 => ?_)
            exact zr_iretP cx dX7_terminalProperty_131
theorem mX7_terminalProperty (l : Launch) (Y : zLy) (g : zSt) (a1 : Int) (a2 : Int) (a3 : Int)  : ∀ v, fX7_terminalProperty g a1 a2 a3 = some v → zMt l yX7_terminalProperty cX7_terminalProperty 5 (some .int) 2 [.ref (zad Y 0), .int (i32 a1), .int (i32 a2), .int (i32 a3)] Y g (zQi Y v g) := by
  intro v hv
  refine zmet_of RX7 rfl (by decide +kernel) (Nat.le_of_ble_eq_true rfl) ?_
  intro p e s m below meth c cx H locs ls hH hS hl
  exact wX7_terminalProperty cx g a1 a2 a3  v hv H locs ls hH hS hl
theorem zc_X7_250 (cx : zCx Y p s m args meth c RX7 cc nl ret) (hpc : pc + 3 = pc') {g : zSt} {a1 : Int} {a2 : Int} {a3 : Int}  {fk : Int → Option ρ} (hR : 2 + 1 ≤ R.frames ∧ 8 + (5 + 11) + 40 * 2 ≤ R.locals) (hkn : k ≤ R.cells ∧ n ≤ R.slots) (hrest : (rest.map fun v => v.category).sum ≤ 8) (hdg : decode cc pc = .ok (.invokevirtual 250, 3)) (kk : ∀ v : Int, zWo Y p l e R s m args below meth c nl k n kq g lv (.int (i32 v) :: rest) pc' (fk v)) : zWo Y p l e R s m args below meth c nl k n kq g lv (.int (i32 a3) :: .int (i32 a2) :: .int (i32 a1) :: .ref (zad Y 0) :: rest) pc (zbd (fX7_terminalProperty g a1 a2 a3) fk) := zr_callViP cx (an := 3) (As := [.int (i32 a1), .int (i32 a2), .int (i32 a3)]) 8 zkc_0 (by decide) rfl (mX7_terminalProperty l Y g a1 a2 a3) (zG_V zw_433 zw_435 zw_5 zw_26 zw_436) (by decide +kernel) hR hkn rfl rfl hrest hdg hpc kk
def fX7_darkReason (g : zSt) (a1 : Int) : Option Int :=
    zck ((0 : Int) ≤ a1 ∧ a1 < 16) (
    zlet (g.1 18 (Int.toNat a1)) (fun x1 =>
    zck ((0 : Int) ≤ a1 ∧ a1 < 16) (
    (if i32 (g.1 206 (Int.toNat a1)) = i32 0 then
    zck ((0 : Int) ≤ x1 ∧ x1 < 12) (
    (if i32 (g.1 203 (Int.toNat x1)) = i32 0 then
    zck ((0 : Int) ≤ (2 * x1) ∧ (2 * x1) < 24) (
    (if i32 (g.1 204 (Int.toNat (2 * x1))) = i32 0 then
    zck ((0 : Int) ≤ ((2 * x1) + 1) ∧ ((2 * x1) + 1) < 24) (
    (if i32 (g.1 204 (Int.toNat ((2 * x1) + 1))) = i32 0 then
    some 4
    else
    some 3))
    else
    some 2))
    else
    some 1))
    else
    some 0))))
theorem wX7_darkReason (cx : zCx Y p s m args meth c RX7 cX7_darkReason 3 (some .int)) (g : zSt) (a1 : Int)  : zWo Y p l e (zrm 0) s m args below meth c 3 0 0 (fun v : Int => MQ below (zQi Y v g) args s 0 0 (zA Y)) g [(0, .ref (zad Y 0)), (1, .int (i32 a1))] ([]) 0 (fX7_darkReason g a1) := by
  unfold fX7_darkReason
  refine zr_aload_n (pc' := 1) cx rfl 0 dX7_darkReason_0 rfl rfl ?_
  refine zg_X7_12 (pc' := 4) cx rfl zkc_0 dX7_darkReason_1 ?_
  refine zg_X7_142 (pc' := 7) cx rfl (c2 := 17) zkc_10 rfl dX7_darkReason_4 ?_
  refine zg_X7_366 (pc' := 10) cx rfl (c2 := 18) zkc_17 rfl dX7_darkReason_7 ?_
  refine zr_iload_n (pc' := 11) cx rfl 1 dX7_darkReason_10 rfl rfl ?_
  refine zr_iald (pc' := 12) cx rfl 12 zkc_18 (by decide) (L := 16) rfl dX7_darkReason_11 ?_
  refine zr_leti (fun x1 => ?_)
  refine zr_istore_n (pc' := 13) cx rfl (lv' := [(2, .int (i32 x1)), (0, .ref (zad Y 0)), (1, .int (i32 a1))]) dX7_darkReason_12 rfl (by decide) rfl ?_
  refine zr_aload_n (pc' := 14) cx rfl 1 dX7_darkReason_13 rfl rfl ?_
  refine zg_X7_19 (pc' := 17) cx rfl zkc_0 dX7_darkReason_14 ?_
  refine zg_X7_161 (pc' := 20) cx rfl (c2 := 206) zkc_200 rfl dX7_darkReason_17 ?_
  refine zr_iload_n (pc' := 21) cx rfl 2 dX7_darkReason_20 rfl rfl ?_
  refine zr_bald (pc' := 22) cx rfl 22 zkc_206 (by decide) (L := 16) rfl dX7_darkReason_21 ?_
  refine zr_if_eq (pc' := 25) cx rfl (tgt := 27) dX7_darkReason_22 rfl ?_ ?_
  · refine zr_aload_n (pc' := 28) cx rfl 1 dX7_darkReason_27 rfl rfl ?_
    refine zg_X7_19 (pc' := 31) cx rfl zkc_0 dX7_darkReason_28 ?_
    refine zg_X7_391 (pc' := 34) cx rfl (c2 := 203) zkc_200 rfl dX7_darkReason_31 ?_
    refine zr_iload_n (pc' := 35) cx rfl 0 dX7_darkReason_34 rfl rfl ?_
    refine zr_bald (pc' := 36) cx rfl 20 zkc_203 (by decide) (L := 12) rfl dX7_darkReason_35 ?_
    refine zr_if_eq (pc' := 39) cx rfl (tgt := 41) dX7_darkReason_36 rfl ?_ ?_
    · refine zr_aload_n (pc' := 42) cx rfl 1 dX7_darkReason_41 rfl rfl ?_
      refine zg_X7_19 (pc' := 45) cx rfl zkc_0 dX7_darkReason_42 ?_
      refine zg_X7_394 (pc' := 48) cx rfl (c2 := 204) zkc_200 rfl dX7_darkReason_45 ?_
      refine zr_iconst (pc' := 49) cx rfl dX7_darkReason_48 ?_
      refine zr_iload_n (pc' := 50) cx rfl 0 dX7_darkReason_49 rfl rfl ?_
      refine zr_imul (pc' := 51) cx rfl dX7_darkReason_50 ?_
      refine zr_bald (pc' := 52) cx rfl 21 zkc_204 (by decide) (L := 24) rfl dX7_darkReason_51 ?_
      refine zr_if_eq (pc' := 55) cx rfl (tgt := 57) dX7_darkReason_52 rfl ?_ ?_
      · refine zr_aload_n (pc' := 58) cx rfl 1 dX7_darkReason_57 rfl rfl ?_
        refine zg_X7_19 (pc' := 61) cx rfl zkc_0 dX7_darkReason_58 ?_
        refine zg_X7_394 (pc' := 64) cx rfl (c2 := 204) zkc_200 rfl dX7_darkReason_61 ?_
        refine zr_iconst (pc' := 65) cx rfl dX7_darkReason_64 ?_
        refine zr_iload_n (pc' := 66) cx rfl 0 dX7_darkReason_65 rfl rfl ?_
        refine zr_imul (pc' := 67) cx rfl dX7_darkReason_66 ?_
        refine zr_iconst (pc' := 68) cx rfl dX7_darkReason_67 ?_
        refine zr_iadd (pc' := 69) cx rfl dX7_darkReason_68 ?_
        refine zr_bald (pc' := 70) cx rfl 21 zkc_204 (by decide) (L := 24) rfl dX7_darkReason_69 ?_
        refine zr_if_eq (pc' := 73) cx rfl (tgt := 77) dX7_darkReason_70 rfl ?_ ?_
        · refine zr_iconst (pc' := 78) cx rfl dX7_darkReason_77 ?_
          exact zr_iretP cx dX7_darkReason_78
        · refine zr_iconst (pc' := 74) cx rfl dX7_darkReason_73 ?_
          refine zr_gotoS cx (tgt := 78) dX7_darkReason_74 rfl ?_
          exact zr_iretP cx dX7_darkReason_78
      · refine zr_iconst (pc' := 56) cx rfl dX7_darkReason_55 ?_
        exact zr_iretP cx dX7_darkReason_56
    · refine zr_iconst (pc' := 40) cx rfl dX7_darkReason_39 ?_
      exact zr_iretP cx dX7_darkReason_40
  · refine zr_iconst (pc' := 26) cx rfl dX7_darkReason_25 ?_
    exact zr_iretP cx dX7_darkReason_26
theorem mX7_darkReason (l : Launch) (Y : zLy) (g : zSt) (a1 : Int)  : ∀ v, fX7_darkReason g a1 = some v → zMt l yX7_darkReason cX7_darkReason 3 (some .int) 0 [.ref (zad Y 0), .int (i32 a1)] Y g (zQi Y v g) := by
  intro v hv
  refine zmet_of RX7 rfl (by decide +kernel) (Nat.le_of_ble_eq_true rfl) ?_
  intro p e s m below meth c cx H locs ls hH hS hl
  exact wX7_darkReason cx g a1  v hv H locs ls hH hS hl
theorem zc_X7_388 (cx : zCx Y p s m args meth c RX7 cc nl ret) (hpc : pc + 3 = pc') {g : zSt} {a1 : Int}  {fk : Int → Option ρ} (hR : 0 + 1 ≤ R.frames ∧ 8 + (3 + 11) + 40 * 0 ≤ R.locals) (hkn : k ≤ R.cells ∧ n ≤ R.slots) (hrest : (rest.map fun v => v.category).sum ≤ 8) (hdg : decode cc pc = .ok (.invokevirtual 388, 3)) (kk : ∀ v : Int, zWo Y p l e R s m args below meth c nl k n kq g lv (.int (i32 v) :: rest) pc' (fk v)) : zWo Y p l e R s m args below meth c nl k n kq g lv (.int (i32 a1) :: .ref (zad Y 0) :: rest) pc (zbd (fX7_darkReason g a1) fk) := zr_callViP cx (an := 1) (As := [.int (i32 a1)]) 8 zkc_0 (by decide) rfl (mX7_darkReason l Y g a1) (zG_V zw_464 zw_466 zw_9 zw_26 zw_467) (by decide +kernel) hR hkn rfl rfl hrest hdg hpc kk
def fX7_lanternProperty (g : zSt) (a1 : Int) (a2 : Int) : Option Int :=
    (if i32 a2 = i32 0 then
    zck ((0 : Int) ≤ a1 ∧ a1 < 16) (
    some (g.1 18 (Int.toNat a1)))
    else
    (if i32 a2 = i32 1 then
    zck ((0 : Int) ≤ a1 ∧ a1 < 16) (
    some (g.1 19 (Int.toNat a1)))
    else
    (if i32 a2 = i32 2 then
    zck ((0 : Int) ≤ a1 ∧ a1 < 16) (
    zbd (fX7_oneIf g (g.1 20 (Int.toNat a1))) (fun v1 =>
    some v1))
    else
    zbd (fX7_darkReason g a1) (fun v2 =>
    some v2))))
theorem wX7_lanternProperty (cx : zCx Y p s m args meth c RX7 cX7_lanternProperty 3 (some .int)) (g : zSt) (a1 : Int) (a2 : Int)  : zWo Y p l e (zrm 1) s m args below meth c 3 0 0 (fun v : Int => MQ below (zQi Y v g) args s 0 0 (zA Y)) g [(0, .ref (zad Y 0)), (1, .int (i32 a1)), (2, .int (i32 a2))] ([]) 0 (fX7_lanternProperty g a1 a2) := by
  unfold fX7_lanternProperty
  refine zr_iload_n (pc' := 1) cx rfl 2 dX7_lanternProperty_0 rfl rfl ?_
  refine zr_case (fun h => ?_) (fun n0 => ?_)
  · refine zr_tabIn cx (off := 27) (tgt := 28) dX7_lanternProperty_1 (v := 0) (by rw [h]; decide +kernel) (by decide) rfl rfl ?_
    refine zr_aload_n (pc' := 29) cx rfl 0 dX7_lanternProperty_28 rfl rfl ?_
    refine zg_X7_12 (pc' := 32) cx rfl zkc_0 dX7_lanternProperty_29 ?_
    refine zg_X7_142 (pc' := 35) cx rfl (c2 := 17) zkc_10 rfl dX7_lanternProperty_32 ?_
    refine zg_X7_366 (pc' := 38) cx rfl (c2 := 18) zkc_17 rfl dX7_lanternProperty_35 ?_
    refine zr_iload_n (pc' := 39) cx rfl 1 dX7_lanternProperty_38 rfl rfl ?_
    refine zr_iald (pc' := 40) cx rfl 12 zkc_18 (by decide) (L := 16) rfl dX7_lanternProperty_39 ?_
    exact zr_iretP cx dX7_lanternProperty_40
  · refine zr_case (fun h => ?_) (fun n1 => ?_)
    · refine zr_tabIn cx (off := 40) (tgt := 41) dX7_lanternProperty_1 (v := 1) (by rw [h]; decide +kernel) (by decide) rfl rfl ?_
      refine zr_aload_n (pc' := 42) cx rfl 0 dX7_lanternProperty_41 rfl rfl ?_
      refine zg_X7_12 (pc' := 45) cx rfl zkc_0 dX7_lanternProperty_42 ?_
      refine zg_X7_142 (pc' := 48) cx rfl (c2 := 17) zkc_10 rfl dX7_lanternProperty_45 ?_
      refine zg_X7_369 (pc' := 51) cx rfl (c2 := 19) zkc_17 rfl dX7_lanternProperty_48 ?_
      refine zr_iload_n (pc' := 52) cx rfl 1 dX7_lanternProperty_51 rfl rfl ?_
      refine zr_iald (pc' := 53) cx rfl 12 zkc_19 (by decide) (L := 16) rfl dX7_lanternProperty_52 ?_
      exact zr_iretP cx dX7_lanternProperty_53
    · refine zr_case (fun h => ?_) (fun n2 => ?_)
      · refine zr_tabIn cx (off := 53) (tgt := 54) dX7_lanternProperty_1 (v := 2) (by rw [h]; decide +kernel) (by decide) rfl rfl ?_
        refine zr_aload_n (pc' := 55) cx rfl 0 dX7_lanternProperty_54 rfl rfl ?_
        refine zg_X7_12 (pc' := 58) cx rfl zkc_0 dX7_lanternProperty_55 ?_
        refine zg_X7_142 (pc' := 61) cx rfl (c2 := 17) zkc_10 rfl dX7_lanternProperty_58 ?_
        refine zg_X7_385 (pc' := 64) cx rfl (c2 := 20) zkc_17 rfl dX7_lanternProperty_61 ?_
        refine zr_iload_n (pc' := 65) cx rfl 1 dX7_lanternProperty_64 rfl rfl ?_
        refine zr_bald (pc' := 66) cx rfl 22 zkc_20 (by decide) (L := 16) rfl dX7_lanternProperty_65 ?_
        refine zc_X7_108 (pc' := 69) cx rfl  ⟨Nat.le_of_ble_eq_true rfl, Nat.le_of_ble_eq_true rfl⟩ ⟨Nat.zero_le _, Nat.zero_le _⟩ (Nat.le_of_ble_eq_true rfl) dX7_lanternProperty_66 (fun v1 => ?_)
        exact zr_iretP cx dX7_lanternProperty_69
      · refine zr_tabOut cx (tgt := 70) dX7_lanternProperty_1 (by have := zne n0 (k := 0) (by decide +kernel); have := zne n1 (k := 1) (by decide +kernel); have := zne n2 (k := 2) (by decide +kernel); omega) rfl ?_
        refine zr_aload_n (pc' := 71) cx rfl 0 dX7_lanternProperty_70 rfl rfl ?_
        refine zr_iload_n (pc' := 72) cx rfl 1 dX7_lanternProperty_71 rfl rfl ?_
        refine zc_X7_388 (pc' := 75) cx rfl  ⟨Nat.le_of_ble_eq_true rfl, Nat.le_of_ble_eq_true rfl⟩ ⟨Nat.zero_le _, Nat.zero_le _⟩ (Nat.le_of_ble_eq_true rfl) dX7_lanternProperty_72 (fun v2 => ?_)
        exact zr_iretP cx dX7_lanternProperty_75
theorem mX7_lanternProperty (l : Launch) (Y : zLy) (g : zSt) (a1 : Int) (a2 : Int)  : ∀ v, fX7_lanternProperty g a1 a2 = some v → zMt l yX7_lanternProperty cX7_lanternProperty 3 (some .int) 1 [.ref (zad Y 0), .int (i32 a1), .int (i32 a2)] Y g (zQi Y v g) := by
  intro v hv
  refine zmet_of RX7 rfl (by decide +kernel) (Nat.le_of_ble_eq_true rfl) ?_
  intro p e s m below meth c cx H locs ls hH hS hl
  exact wX7_lanternProperty cx g a1 a2  v hv H locs ls hH hS hl
theorem zc_X7_256 (cx : zCx Y p s m args meth c RX7 cc nl ret) (hpc : pc + 3 = pc') {g : zSt} {a1 : Int} {a2 : Int}  {fk : Int → Option ρ} (hR : 1 + 1 ≤ R.frames ∧ 8 + (3 + 11) + 40 * 1 ≤ R.locals) (hkn : k ≤ R.cells ∧ n ≤ R.slots) (hrest : (rest.map fun v => v.category).sum ≤ 8) (hdg : decode cc pc = .ok (.invokevirtual 256, 3)) (kk : ∀ v : Int, zWo Y p l e R s m args below meth c nl k n kq g lv (.int (i32 v) :: rest) pc' (fk v)) : zWo Y p l e R s m args below meth c nl k n kq g lv (.int (i32 a2) :: .int (i32 a1) :: .ref (zad Y 0) :: rest) pc (zbd (fX7_lanternProperty g a1 a2) fk) := zr_callViP cx (an := 2) (As := [.int (i32 a1), .int (i32 a2)]) 8 zkc_0 (by decide) rfl (mX7_lanternProperty l Y g a1 a2) (zG_V zw_460 zw_462 zw_8 zw_26 zw_463) (by decide +kernel) hR hkn rfl rfl hrest hdg hpc kk
def fX7_faultProperty (g : zSt) (a1 : Int) (a2 : Int) : Option Int :=
    (if i32 a2 = i32 0 then
    zck ((0 : Int) ≤ a1 ∧ a1 < 9) (
    some (g.1 22 (Int.toNat a1)))
    else
    (if i32 a2 = i32 1 then
    zck ((0 : Int) ≤ a1 ∧ a1 < 9) (
    some (g.1 23 (Int.toNat a1)))
    else
    (if i32 a2 = i32 2 then
    zck ((0 : Int) ≤ a1 ∧ a1 < 9) (
    some (g.1 24 (Int.toNat a1)))
    else
    (if i32 a2 = i32 3 then
    zck ((0 : Int) ≤ a1 ∧ a1 < 9) (
    zck ((0 : Int) ≤ a1 ∧ a1 < 9) (
    zck ((0 : Int) ≤ ((2 * (g.1 22 (Int.toNat a1))) + (g.1 23 (Int.toNat a1))) ∧ ((2 * (g.1 22 (Int.toNat a1))) + (g.1 23 (Int.toNat a1))) < 24) (
    some (g.1 205 (Int.toNat ((2 * (g.1 22 (Int.toNat a1))) + (g.1 23 (Int.toNat a1))))))))
    else
    zck ((0 : Int) ≤ a1 ∧ a1 < 9) (
    some (g.1 207 (Int.toNat a1)))))))
theorem wX7_faultProperty (cx : zCx Y p s m args meth c RX7 cX7_faultProperty 4 (some .int)) (g : zSt) (a1 : Int) (a2 : Int)  : zWo Y p l e (zrm 0) s m args below meth c 4 0 0 (fun v : Int => MQ below (zQi Y v g) args s 0 0 (zA Y)) g [(0, .ref (zad Y 0)), (1, .int (i32 a1)), (2, .int (i32 a2))] ([]) 0 (fX7_faultProperty g a1 a2) := by
  unfold fX7_faultProperty
  refine zr_aload_n (pc' := 1) cx rfl 0 dX7_faultProperty_0 rfl rfl ?_
  refine zg_X7_12 (pc' := 4) cx rfl zkc_0 dX7_faultProperty_1 ?_
  refine zg_X7_175 (pc' := 7) cx rfl (c2 := 21) zkc_10 rfl dX7_faultProperty_4 ?_
  refine zr_astore_n (pc' := 8) cx rfl (lv' := [(3, .ref (zad Y 21)), (0, .ref (zad Y 0)), (1, .int (i32 a1)), (2, .int (i32 a2))]) dX7_faultProperty_7 rfl (by decide) rfl ?_
  refine zr_iload_n (pc' := 9) cx rfl 3 dX7_faultProperty_8 rfl rfl ?_
  refine zr_case (fun h => ?_) (fun n0 => ?_)
  · refine zr_tabIn cx (off := 31) (tgt := 40) dX7_faultProperty_9 (v := 0) (by rw [h]; decide +kernel) (by decide) rfl rfl ?_
    refine zr_aload_n (pc' := 41) cx rfl 0 dX7_faultProperty_40 rfl rfl ?_
    refine zg_X7_381 (pc' := 44) cx rfl (c2 := 22) zkc_21 rfl dX7_faultProperty_41 ?_
    refine zr_iload_n (pc' := 45) cx rfl 2 dX7_faultProperty_44 rfl rfl ?_
    refine zr_iald (pc' := 46) cx rfl 13 zkc_22 (by decide) (L := 9) rfl dX7_faultProperty_45 ?_
    exact zr_iretP cx dX7_faultProperty_46
  · refine zr_case (fun h => ?_) (fun n1 => ?_)
    · refine zr_tabIn cx (off := 38) (tgt := 47) dX7_faultProperty_9 (v := 1) (by rw [h]; decide +kernel) (by decide) rfl rfl ?_
      refine zr_aload_n (pc' := 48) cx rfl 0 dX7_faultProperty_47 rfl rfl ?_
      refine zg_X7_382 (pc' := 51) cx rfl (c2 := 23) zkc_21 rfl dX7_faultProperty_48 ?_
      refine zr_iload_n (pc' := 52) cx rfl 2 dX7_faultProperty_51 rfl rfl ?_
      refine zr_iald (pc' := 53) cx rfl 13 zkc_23 (by decide) (L := 9) rfl dX7_faultProperty_52 ?_
      exact zr_iretP cx dX7_faultProperty_53
    · refine zr_case (fun h => ?_) (fun n2 => ?_)
      · refine zr_tabIn cx (off := 45) (tgt := 54) dX7_faultProperty_9 (v := 2) (by rw [h]; decide +kernel) (by decide) rfl rfl ?_
        refine zr_aload_n (pc' := 55) cx rfl 0 dX7_faultProperty_54 rfl rfl ?_
        refine zg_X7_192 (pc' := 58) cx rfl (c2 := 24) zkc_21 rfl dX7_faultProperty_55 ?_
        refine zr_iload_n (pc' := 59) cx rfl 2 dX7_faultProperty_58 rfl rfl ?_
        refine zr_iald (pc' := 60) cx rfl 13 zkc_24 (by decide) (L := 9) rfl dX7_faultProperty_59 ?_
        exact zr_iretP cx dX7_faultProperty_60
      · refine zr_case (fun h => ?_) (fun n3 => ?_)
        · refine zr_tabIn cx (off := 52) (tgt := 61) dX7_faultProperty_9 (v := 3) (by rw [h]; decide +kernel) (by decide) rfl rfl ?_
          refine zr_aload_n (pc' := 62) cx rfl 1 dX7_faultProperty_61 rfl rfl ?_
          refine zg_X7_19 (pc' := 65) cx rfl zkc_0 dX7_faultProperty_62 ?_
          refine zg_X7_372 (pc' := 68) cx rfl (c2 := 205) zkc_200 rfl dX7_faultProperty_65 ?_
          refine zr_iconst (pc' := 69) cx rfl dX7_faultProperty_68 ?_
          refine zr_aload_n (pc' := 70) cx rfl 0 dX7_faultProperty_69 rfl rfl ?_
          refine zg_X7_381 (pc' := 73) cx rfl (c2 := 22) zkc_21 rfl dX7_faultProperty_70 ?_
          refine zr_iload_n (pc' := 74) cx rfl 2 dX7_faultProperty_73 rfl rfl ?_
          refine zr_iald (pc' := 75) cx rfl 13 zkc_22 (by decide) (L := 9) rfl dX7_faultProperty_74 ?_
          refine zr_imul (pc' := 76) cx rfl dX7_faultProperty_75 ?_
          refine zr_aload_n (pc' := 77) cx rfl 0 dX7_faultProperty_76 rfl rfl ?_
          refine zg_X7_382 (pc' := 80) cx rfl (c2 := 23) zkc_21 rfl dX7_faultProperty_77 ?_
          refine zr_iload_n (pc' := 81) cx rfl 2 dX7_faultProperty_80 rfl rfl ?_
          refine zr_iald (pc' := 82) cx rfl 13 zkc_23 (by decide) (L := 9) rfl dX7_faultProperty_81 ?_
          refine zr_iadd (pc' := 83) cx rfl dX7_faultProperty_82 ?_
          refine zr_iald (pc' := 84) cx rfl 11 zkc_205 (by decide) (L := 24) rfl dX7_faultProperty_83 ?_
          exact zr_iretP cx dX7_faultProperty_84
        · refine zr_tabOut cx (tgt := 85) dX7_faultProperty_9 (by have := zne n0 (k := 0) (by decide +kernel); have := zne n1 (k := 1) (by decide +kernel); have := zne n2 (k := 2) (by decide +kernel); have := zne n3 (k := 3) (by decide +kernel); omega) rfl ?_
          refine zr_aload_n (pc' := 86) cx rfl 1 dX7_faultProperty_85 rfl rfl ?_
          refine zg_X7_19 (pc' := 89) cx rfl zkc_0 dX7_faultProperty_86 ?_
          refine zg_X7_397 (pc' := 92) cx rfl (c2 := 207) zkc_200 rfl dX7_faultProperty_89 ?_
          refine zr_iload_n (pc' := 93) cx rfl 2 dX7_faultProperty_92 rfl rfl ?_
          refine zr_iald (pc' := 94) cx rfl 13 zkc_207 (by decide) (L := 9) rfl dX7_faultProperty_93 ?_
          exact zr_iretP cx dX7_faultProperty_94
theorem mX7_faultProperty (l : Launch) (Y : zLy) (g : zSt) (a1 : Int) (a2 : Int)  : ∀ v, fX7_faultProperty g a1 a2 = some v → zMt l yX7_faultProperty cX7_faultProperty 4 (some .int) 0 [.ref (zad Y 0), .int (i32 a1), .int (i32 a2)] Y g (zQi Y v g) := by
  intro v hv
  refine zmet_of RX7 rfl (by decide +kernel) (Nat.le_of_ble_eq_true rfl) ?_
  intro p e s m below meth c cx H locs ls hH hS hl
  exact wX7_faultProperty cx g a1 a2  v hv H locs ls hH hS hl
theorem zc_X7_261 (cx : zCx Y p s m args meth c RX7 cc nl ret) (hpc : pc + 3 = pc') {g : zSt} {a1 : Int} {a2 : Int}  {fk : Int → Option ρ} (hR : 0 + 1 ≤ R.frames ∧ 8 + (4 + 11) + 40 * 0 ≤ R.locals) (hkn : k ≤ R.cells ∧ n ≤ R.slots) (hrest : (rest.map fun v => v.category).sum ≤ 8) (hdg : decode cc pc = .ok (.invokevirtual 261, 3)) (kk : ∀ v : Int, zWo Y p l e R s m args below meth c nl k n kq g lv (.int (i32 v) :: rest) pc' (fk v)) : zWo Y p l e R s m args below meth c nl k n kq g lv (.int (i32 a2) :: .int (i32 a1) :: .ref (zad Y 0) :: rest) pc (zbd (fX7_faultProperty g a1 a2) fk) := zr_callViP cx (an := 2) (As := [.int (i32 a1), .int (i32 a2)]) 8 zkc_0 (by decide) rfl (mX7_faultProperty l Y g a1 a2) (zG_V zw_478 zw_480 zw_11 zw_26 zw_481) (by decide +kernel) hR hkn rfl rfl hrest hdg hpc kk
def fX7_countOf (g : zSt) (a1 : Int) : Option Int :=
    (if i32 a1 = i32 0 then
    some (g.1 11 0)
    else
    (if i32 a1 = i32 1 then
    some (g.1 17 0)
    else
    (if i32 a1 = i32 2 then
    some (g.1 200 6)
    else
    (if i32 a1 = i32 3 then
    some (g.1 21 0)
    else
    (if i32 a1 = i32 4 then
    some (g.1 200 7)
    else
    (if i32 a1 = i32 5 then
    zbd (fX0_blownFuses g 11) (fun v1 =>
    some v1)
    else
    (if i32 a1 = i32 6 then
    some (g.1 10 3)
    else
    (if i32 a1 = i32 7 then
    some (g.1 10 4)
    else
    (if i32 a1 = i32 8 then
    some (g.1 10 5)
    else
    (if i32 a1 = i32 9 then
    some (g.1 10 6)
    else
    (if i32 a1 = i32 10 then
    some (g.1 10 7)
    else
    some (g.1 300 0))))))))))))
theorem wX7_countOf (cx : zCx Y p s m args meth c RX7 cX7_countOf 2 (some .int)) (g : zSt) (a1 : Int)  : zWo Y p l e (zrm 1) s m args below meth c 2 0 0 (fun v : Int => MQ below (zQi Y v g) args s 0 0 (zA Y)) g [(0, .ref (zad Y 0)), (1, .int (i32 a1))] ([]) 0 (fX7_countOf g a1) := by
  unfold fX7_countOf
  refine zr_iload_n (pc' := 1) cx rfl 1 dX7_countOf_0 rfl rfl ?_
  refine zr_case (fun h => ?_) (fun n0 => ?_)
  · refine zr_tabIn cx (off := 59) (tgt := 60) dX7_countOf_1 (v := 0) (by rw [h]; decide +kernel) (by decide) rfl rfl ?_
    refine zr_aload_n (pc' := 61) cx rfl 0 dX7_countOf_60 rfl rfl ?_
    refine zg_X7_12 (pc' := 64) cx rfl zkc_0 dX7_countOf_61 ?_
    refine zg_X7_73 (pc' := 67) cx rfl (c2 := 11) zkc_10 rfl dX7_countOf_64 ?_
    refine zg_X7_77 (pc' := 70) cx rfl zkc_11 dX7_countOf_67 ?_
    exact zr_iretP cx dX7_countOf_70
  · refine zr_case (fun h => ?_) (fun n1 => ?_)
    · refine zr_tabIn cx (off := 70) (tgt := 71) dX7_countOf_1 (v := 1) (by rw [h]; decide +kernel) (by decide) rfl rfl ?_
      refine zr_aload_n (pc' := 72) cx rfl 0 dX7_countOf_71 rfl rfl ?_
      refine zg_X7_12 (pc' := 75) cx rfl zkc_0 dX7_countOf_72 ?_
      refine zg_X7_142 (pc' := 78) cx rfl (c2 := 17) zkc_10 rfl dX7_countOf_75 ?_
      refine zg_X7_146 (pc' := 81) cx rfl zkc_17 dX7_countOf_78 ?_
      exact zr_iretP cx dX7_countOf_81
    · refine zr_case (fun h => ?_) (fun n2 => ?_)
      · refine zr_tabIn cx (off := 81) (tgt := 82) dX7_countOf_1 (v := 2) (by rw [h]; decide +kernel) (by decide) rfl rfl ?_
        refine zr_aload_n (pc' := 83) cx rfl 0 dX7_countOf_82 rfl rfl ?_
        refine zg_X7_19 (pc' := 86) cx rfl zkc_0 dX7_countOf_83 ?_
        refine zg_X7_115 (pc' := 89) cx rfl zkc_200 dX7_countOf_86 ?_
        exact zr_iretP cx dX7_countOf_89
      · refine zr_case (fun h => ?_) (fun n3 => ?_)
        · refine zr_tabIn cx (off := 89) (tgt := 90) dX7_countOf_1 (v := 3) (by rw [h]; decide +kernel) (by decide) rfl rfl ?_
          refine zr_aload_n (pc' := 91) cx rfl 0 dX7_countOf_90 rfl rfl ?_
          refine zg_X7_12 (pc' := 94) cx rfl zkc_0 dX7_countOf_91 ?_
          refine zg_X7_175 (pc' := 97) cx rfl (c2 := 21) zkc_10 rfl dX7_countOf_94 ?_
          refine zg_X7_179 (pc' := 100) cx rfl zkc_21 dX7_countOf_97 ?_
          exact zr_iretP cx dX7_countOf_100
        · refine zr_case (fun h => ?_) (fun n4 => ?_)
          · refine zr_tabIn cx (off := 100) (tgt := 101) dX7_countOf_1 (v := 4) (by rw [h]; decide +kernel) (by decide) rfl rfl ?_
            refine zr_aload_n (pc' := 102) cx rfl 0 dX7_countOf_101 rfl rfl ?_
            refine zg_X7_19 (pc' := 105) cx rfl zkc_0 dX7_countOf_102 ?_
            refine zg_X7_213 (pc' := 108) cx rfl zkc_200 dX7_countOf_105 ?_
            exact zr_iretP cx dX7_countOf_108
          · refine zr_case (fun h => ?_) (fun n5 => ?_)
            · refine zr_tabIn cx (off := 108) (tgt := 109) dX7_countOf_1 (v := 5) (by rw [h]; decide +kernel) (by decide) rfl rfl ?_
              refine zr_aload_n (pc' := 110) cx rfl 0 dX7_countOf_109 rfl rfl ?_
              refine zg_X7_12 (pc' := 113) cx rfl zkc_0 dX7_countOf_110 ?_
              refine zg_X7_73 (pc' := 116) cx rfl (c2 := 11) zkc_10 rfl dX7_countOf_113 ?_
              refine zc_X7_400 (pc' := 119) cx rfl zkc_11 ⟨Nat.le_of_ble_eq_true rfl, Nat.le_of_ble_eq_true rfl⟩ ⟨Nat.zero_le _, Nat.zero_le _⟩ (Nat.le_of_ble_eq_true rfl) dX7_countOf_116 (fun v1 => ?_)
              exact zr_iretP cx dX7_countOf_119
            · refine zr_case (fun h => ?_) (fun n6 => ?_)
              · refine zr_tabIn cx (off := 119) (tgt := 120) dX7_countOf_1 (v := 6) (by rw [h]; decide +kernel) (by decide) rfl rfl ?_
                refine zr_aload_n (pc' := 121) cx rfl 0 dX7_countOf_120 rfl rfl ?_
                refine zg_X7_12 (pc' := 124) cx rfl zkc_0 dX7_countOf_121 ?_
                refine zg_X7_123 (pc' := 127) cx rfl zkc_10 dX7_countOf_124 ?_
                exact zr_iretP cx dX7_countOf_127
              · refine zr_case (fun h => ?_) (fun n7 => ?_)
                · refine zr_tabIn cx (off := 127) (tgt := 128) dX7_countOf_1 (v := 7) (by rw [h]; decide +kernel) (by decide) rfl rfl ?_
                  refine zr_aload_n (pc' := 129) cx rfl 0 dX7_countOf_128 rfl rfl ?_
                  refine zg_X7_12 (pc' := 132) cx rfl zkc_0 dX7_countOf_129 ?_
                  refine zg_X7_324 (pc' := 135) cx rfl zkc_10 dX7_countOf_132 ?_
                  exact zr_iretP cx dX7_countOf_135
                · refine zr_case (fun h => ?_) (fun n8 => ?_)
                  · refine zr_tabIn cx (off := 135) (tgt := 136) dX7_countOf_1 (v := 8) (by rw [h]; decide +kernel) (by decide) rfl rfl ?_
                    refine zr_aload_n (pc' := 137) cx rfl 0 dX7_countOf_136 rfl rfl ?_
                    refine zg_X7_12 (pc' := 140) cx rfl zkc_0 dX7_countOf_137 ?_
                    refine zg_X7_198 (pc' := 143) cx rfl zkc_10 dX7_countOf_140 ?_
                    exact zr_iretP cx dX7_countOf_143
                  · refine zr_case (fun h => ?_) (fun n9 => ?_)
                    · refine zr_tabIn cx (off := 143) (tgt := 144) dX7_countOf_1 (v := 9) (by rw [h]; decide +kernel) (by decide) rfl rfl ?_
                      refine zr_aload_n (pc' := 145) cx rfl 0 dX7_countOf_144 rfl rfl ?_
                      refine zg_X7_12 (pc' := 148) cx rfl zkc_0 dX7_countOf_145 ?_
                      refine zg_X7_207 (pc' := 151) cx rfl zkc_10 dX7_countOf_148 ?_
                      exact zr_iretP cx dX7_countOf_151
                    · refine zr_case (fun h => ?_) (fun n10 => ?_)
                      · refine zr_tabIn cx (off := 151) (tgt := 152) dX7_countOf_1 (v := 10) (by rw [h]; decide +kernel) (by decide) rfl rfl ?_
                        refine zr_aload_n (pc' := 153) cx rfl 0 dX7_countOf_152 rfl rfl ?_
                        refine zg_X7_12 (pc' := 156) cx rfl zkc_0 dX7_countOf_153 ?_
                        refine zg_X7_210 (pc' := 159) cx rfl zkc_10 dX7_countOf_156 ?_
                        exact zr_iretP cx dX7_countOf_159
                      · refine zr_tabOut cx (tgt := 160) dX7_countOf_1 (by have := zne n0 (k := 0) (by decide +kernel); have := zne n1 (k := 1) (by decide +kernel); have := zne n2 (k := 2) (by decide +kernel); have := zne n3 (k := 3) (by decide +kernel); have := zne n4 (k := 4) (by decide +kernel); have := zne n5 (k := 5) (by decide +kernel); have := zne n6 (k := 6) (by decide +kernel); have := zne n7 (k := 7) (by decide +kernel); have := zne n8 (k := 8) (by decide +kernel); have := zne n9 (k := 9) (by decide +kernel); have := zne n10 (k := 10) (by decide +kernel); omega) rfl ?_
                        refine zr_aload_n (pc' := 161) cx rfl 0 dX7_countOf_160 rfl rfl ?_
                        refine zg_X7_35 (pc' := 164) cx rfl zkc_0 dX7_countOf_161 ?_
                        refine zg_X7_233 (pc' := 167) cx rfl zkc_300 dX7_countOf_164 ?_
                        exact zr_iretP cx dX7_countOf_167
theorem mX7_countOf (l : Launch) (Y : zLy) (g : zSt) (a1 : Int)  : ∀ v, fX7_countOf g a1 = some v → zMt l yX7_countOf cX7_countOf 2 (some .int) 1 [.ref (zad Y 0), .int (i32 a1)] Y g (zQi Y v g) := by
  intro v hv
  refine zmet_of RX7 rfl (by decide +kernel) (Nat.le_of_ble_eq_true rfl) ?_
  intro p e s m below meth c cx H locs ls hH hS hl
  exact wX7_countOf cx g a1  v hv H locs ls hH hS hl
theorem zc_X7_266 (cx : zCx Y p s m args meth c RX7 cc nl ret) (hpc : pc + 3 = pc') {g : zSt} {a1 : Int}  {fk : Int → Option ρ} (hR : 1 + 1 ≤ R.frames ∧ 8 + (2 + 11) + 40 * 1 ≤ R.locals) (hkn : k ≤ R.cells ∧ n ≤ R.slots) (hrest : (rest.map fun v => v.category).sum ≤ 8) (hdg : decode cc pc = .ok (.invokevirtual 266, 3)) (kk : ∀ v : Int, zWo Y p l e R s m args below meth c nl k n kq g lv (.int (i32 v) :: rest) pc' (fk v)) : zWo Y p l e R s m args below meth c nl k n kq g lv (.int (i32 a1) :: .ref (zad Y 0) :: rest) pc (zbd (fX7_countOf g a1) fk) := zr_callViP cx (an := 1) (As := [.int (i32 a1)]) 8 zkc_0 (by decide) rfl (mX7_countOf l Y g a1) (zG_V zw_503 zw_505 zw_12 zw_26 zw_506) (by decide +kernel) hR hkn rfl rfl hrest hdg hpc kk
def fX7_isPole (g : zSt) (a0 : Int) : Option Int :=
    (if i32 a0 = i32 0 then
    zck ((1 : Int) = 0 ∨ (1 : Int) = 1) (some 1)
    else
    (if i32 a0 = i32 1 then
    zck ((1 : Int) = 0 ∨ (1 : Int) = 1) (some 1)
    else
    zck ((0 : Int) = 0 ∨ (0 : Int) = 1) (some 0)))
theorem wX7_isPole (cx : zCx Y p s m args meth c RX7 cX7_isPole 1 (some .boolean)) (g : zSt) (a0 : Int)  : zWo Y p l e (zrm 0) s m args below meth c 1 0 0 (fun v : Int => MQ below (zQi Y v g) args s 0 0 (zA Y)) g [(0, .int (i32 a0))] ([]) 0 (fX7_isPole g a0) := by
  unfold fX7_isPole
  refine zr_iload_n (pc' := 1) cx rfl 0 dX7_isPole_0 rfl rfl ?_
  refine zr_if_eq (pc' := 4) cx rfl (tgt := 9) dX7_isPole_1 rfl ?_ ?_
  · refine zr_iconst (pc' := 10) cx rfl dX7_isPole_9 ?_
    refine zr_gotoS cx (tgt := 14) dX7_isPole_10 rfl ?_
    exact zr_zretP cx dX7_isPole_14
  · refine zr_iload_n (pc' := 5) cx rfl 0 dX7_isPole_4 rfl rfl ?_
    refine zr_iconst (pc' := 6) cx rfl dX7_isPole_5 ?_
    refine zr_icmp_ne (pc' := 9) cx rfl (tgt := 13) dX7_isPole_6 rfl ?_ ?_
    · refine zr_iconst (pc' := 14) cx rfl dX7_isPole_13 ?_
      exact zr_zretP cx dX7_isPole_14
    · refine zr_iconst (pc' := 10) cx rfl dX7_isPole_9 ?_
      refine zr_gotoS cx (tgt := 14) dX7_isPole_10 rfl ?_
      exact zr_zretP cx dX7_isPole_14
theorem mX7_isPole (l : Launch) (Y : zLy) (g : zSt) (a0 : Int)  : ∀ v, fX7_isPole g a0 = some v → zMt l yX7_isPole cX7_isPole 1 (some .boolean) 0 [.int (i32 a0)] Y g (zQi Y v g) := by
  intro v hv
  refine zmet_of RX7 rfl (by decide +kernel) (Nat.le_of_ble_eq_true rfl) ?_
  intro p e s m below meth c cx H locs ls hH hS hl
  exact wX7_isPole cx g a0  v hv H locs ls hH hS hl
theorem zc_X7_270 (cx : zCx Y p s m args meth c RX7 cc nl ret) (hpc : pc + 3 = pc') {g : zSt} {a0 : Int}  {fk : Int → Option ρ} (hR : 0 + 1 ≤ R.frames ∧ 8 + (1 + 11) + 40 * 0 ≤ R.locals) (hkn : k ≤ R.cells ∧ n ≤ R.slots) (hrest : (rest.map fun v => v.category).sum ≤ 8) (hdg : decode cc pc = .ok (.invokestatic 270, 3)) (kk : ∀ v : Int, zWo Y p l e R s m args below meth c nl k n kq g lv (.int (i32 v) :: rest) pc' (fk v)) : zWo Y p l e R s m args below meth c nl k n kq g lv (.int (i32 a0) :: rest) pc (zbd (fX7_isPole g a0) fk) := zr_callSiP cx (an := 1) (As := [.int (i32 a0)])  (mX7_isPole l Y g a0) (zG_S zw_486 zw_487 zw_26 zw_488) (by decide +kernel) hR hkn rfl rfl hrest hdg hpc kk
def fX7_boxesChangingLamp_p4 (g : zSt)  : Nat → Int → Int → Int → Option Int
  | 0, _, _, _ => none
  | fu + 1, a1, a2, a3 =>
    (if i32 a3 < i32 (g.1 11 0) then
    zck ((0 : Int) ≤ a3 ∧ a3 < 12) (
    (if i32 (g.1 14 (Int.toNat a3)) = i32 0 then
    fX7_boxesChangingLamp_p4 g fu a1 a2 (a3 + 1)
    else
    zck ((0 : Int) ≤ ((2 * a3) + a1) ∧ ((2 * a3) + a1) < 24) (
    (if i32 0 < i32 (g.1 210 (Int.toNat ((2 * a3) + a1))) then
    zlet (zor a2 (zsl 1 a3)) (fun x1 =>
    fX7_boxesChangingLamp_p4 g fu a1 x1 (a3 + 1))
    else
    fX7_boxesChangingLamp_p4 g fu a1 a2 (a3 + 1)))))
    else
    some a2)
def fX7_boxesChangingLamp (g : zSt) (a1 : Int) : Option Int :=
    fX7_boxesChangingLamp_p4 g zfu a1 0 1
theorem wX7_boxesChangingLamp_p4 (cx : zCx Y p s m args meth c RX7 cX7_boxesChangingLamp 4 (some .int)) (g : zSt)   : ∀ (fu : Nat) (a1 : Int) (a2 : Int) (a3 : Int), zWo Y p l e (zrm 0) s m args below meth c 4 0 0 (fun v : Int => MQ below (zQi Y v g) args s 0 0 (zA Y)) g [(0, .ref (zad Y 0)), (1, .int (i32 a1)), (2, .int (i32 a2)), (3, .int (i32 a3))] ([]) 4 (fX7_boxesChangingLamp_p4 g fu a1 a2 a3) := by
  intro fu
  induction fu with
  | zero => intro a1 a2 a3; exact zr_none
  | succ fu ih =>
    intro a1 a2 a3
    rw [fX7_boxesChangingLamp_p4]
    refine zr_iload_n (pc' := 5) cx rfl 3 dX7_boxesChangingLamp_4 rfl rfl ?_
    refine zr_aload_n (pc' := 6) cx rfl 0 dX7_boxesChangingLamp_5 rfl rfl ?_
    refine zg_X7_12 (pc' := 9) cx rfl zkc_0 dX7_boxesChangingLamp_6 ?_
    refine zg_X7_73 (pc' := 12) cx rfl (c2 := 11) zkc_10 rfl dX7_boxesChangingLamp_9 ?_
    refine zg_X7_77 (pc' := 15) cx rfl zkc_11 dX7_boxesChangingLamp_12 ?_
    refine zr_icmp_ge (pc' := 18) cx rfl (tgt := 61) dX7_boxesChangingLamp_15 rfl ?_ ?_
    · refine zr_iload_n (pc' := 62) cx rfl 2 dX7_boxesChangingLamp_61 rfl rfl ?_
      exact zr_iretP cx dX7_boxesChangingLamp_62
    · refine zr_aload_n (pc' := 19) cx rfl 0 dX7_boxesChangingLamp_18 rfl rfl ?_
      refine zg_X7_12 (pc' := 22) cx rfl zkc_0 dX7_boxesChangingLamp_19 ?_
      refine zg_X7_73 (pc' := 25) cx rfl (c2 := 11) zkc_10 rfl dX7_boxesChangingLamp_22 ?_
      refine zg_X7_104 (pc' := 28) cx rfl (c2 := 14) zkc_11 rfl dX7_boxesChangingLamp_25 ?_
      refine zr_iload_n (pc' := 29) cx rfl 3 dX7_boxesChangingLamp_28 rfl rfl ?_
      refine zr_bald (pc' := 30) cx rfl 20 zkc_14 (by decide) (L := 12) rfl dX7_boxesChangingLamp_29 ?_
      refine zr_if_eq (pc' := 33) cx rfl (tgt := 55) dX7_boxesChangingLamp_30 rfl ?_ ?_
      · refine zr_iinc (pc' := 58) cx rfl (lv' := [(3, .int (i32 (a3 + 1))), (0, .ref (zad Y 0)), (1, .int (i32 a1)), (2, .int (i32 a2))]) 3 dX7_boxesChangingLamp_55 rfl (by decide) rfl ?_
        refine zr_goto cx (tgt := 4) dX7_boxesChangingLamp_58 rfl ?_
        refine zr_sub [1, 2, 3, 0] rfl ?_
        exact ih a1 a2 (a3 + 1)
      · refine zr_aload_n (pc' := 34) cx rfl 0 dX7_boxesChangingLamp_33 rfl rfl ?_
        refine zg_X7_19 (pc' := 37) cx rfl zkc_0 dX7_boxesChangingLamp_34 ?_
        refine zg_X7_327 (pc' := 40) cx rfl (c2 := 210) zkc_200 rfl dX7_boxesChangingLamp_37 ?_
        refine zr_iconst (pc' := 41) cx rfl dX7_boxesChangingLamp_40 ?_
        refine zr_iload_n (pc' := 42) cx rfl 3 dX7_boxesChangingLamp_41 rfl rfl ?_
        refine zr_imul (pc' := 43) cx rfl dX7_boxesChangingLamp_42 ?_
        refine zr_iload_n (pc' := 44) cx rfl 1 dX7_boxesChangingLamp_43 rfl rfl ?_
        refine zr_iadd (pc' := 45) cx rfl dX7_boxesChangingLamp_44 ?_
        refine zr_iald (pc' := 46) cx rfl 11 zkc_210 (by decide) (L := 24) rfl dX7_boxesChangingLamp_45 ?_
        refine zr_if_le (pc' := 49) cx rfl (tgt := 55) dX7_boxesChangingLamp_46 rfl ?_ ?_
        · refine zr_iinc (pc' := 58) cx rfl (lv' := [(3, .int (i32 (a3 + 1))), (0, .ref (zad Y 0)), (1, .int (i32 a1)), (2, .int (i32 a2))]) 3 dX7_boxesChangingLamp_55 rfl (by decide) rfl ?_
          refine zr_goto cx (tgt := 4) dX7_boxesChangingLamp_58 rfl ?_
          refine zr_sub [1, 2, 3, 0] rfl ?_
          exact ih a1 a2 (a3 + 1)
        · refine zr_iload_n (pc' := 50) cx rfl 2 dX7_boxesChangingLamp_49 rfl rfl ?_
          refine zr_iconst (pc' := 51) cx rfl dX7_boxesChangingLamp_50 ?_
          refine zr_iload_n (pc' := 52) cx rfl 3 dX7_boxesChangingLamp_51 rfl rfl ?_
          refine zr_ishl (pc' := 53) cx rfl dX7_boxesChangingLamp_52 ?_
          refine zr_ior (pc' := 54) cx rfl dX7_boxesChangingLamp_53 ?_
          refine zr_leti (fun x1 => ?_)
          refine zr_istore_n (pc' := 55) cx rfl (lv' := [(2, .int (i32 x1)), (0, .ref (zad Y 0)), (1, .int (i32 a1)), (3, .int (i32 a3))]) dX7_boxesChangingLamp_54 rfl (by decide) rfl ?_
          refine zr_iinc (pc' := 58) cx rfl (lv' := [(3, .int (i32 (a3 + 1))), (2, .int (i32 x1)), (0, .ref (zad Y 0)), (1, .int (i32 a1))]) 3 dX7_boxesChangingLamp_55 rfl (by decide) rfl ?_
          refine zr_goto cx (tgt := 4) dX7_boxesChangingLamp_58 rfl ?_
          refine zr_sub [2, 3, 1, 0] rfl ?_
          exact ih a1 x1 (a3 + 1)
theorem wX7_boxesChangingLamp (cx : zCx Y p s m args meth c RX7 cX7_boxesChangingLamp 4 (some .int)) (g : zSt) (a1 : Int)  : zWo Y p l e (zrm 0) s m args below meth c 4 0 0 (fun v : Int => MQ below (zQi Y v g) args s 0 0 (zA Y)) g [(0, .ref (zad Y 0)), (1, .int (i32 a1))] ([]) 0 (fX7_boxesChangingLamp g a1) := by
  unfold fX7_boxesChangingLamp
  refine zr_iconst (pc' := 1) cx rfl dX7_boxesChangingLamp_0 ?_
  refine zr_istore_n (pc' := 2) cx rfl (lv' := [(2, .int (i32 0)), (0, .ref (zad Y 0)), (1, .int (i32 a1))]) dX7_boxesChangingLamp_1 rfl (by decide) rfl ?_
  refine zr_iconst (pc' := 3) cx rfl dX7_boxesChangingLamp_2 ?_
  refine zr_istore_n (pc' := 4) cx rfl (lv' := [(3, .int (i32 1)), (2, .int (i32 0)), (0, .ref (zad Y 0)), (1, .int (i32 a1))]) dX7_boxesChangingLamp_3 rfl (by decide) rfl ?_
  refine zr_sub [2, 3, 1, 0] rfl ?_
  exact wX7_boxesChangingLamp_p4 cx g zfu a1 0 1
theorem mX7_boxesChangingLamp (l : Launch) (Y : zLy) (g : zSt) (a1 : Int)  : ∀ v, fX7_boxesChangingLamp g a1 = some v → zMt l yX7_boxesChangingLamp cX7_boxesChangingLamp 4 (some .int) 0 [.ref (zad Y 0), .int (i32 a1)] Y g (zQi Y v g) := by
  intro v hv
  refine zmet_of RX7 rfl (by decide +kernel) (Nat.le_of_ble_eq_true rfl) ?_
  intro p e s m below meth c cx H locs ls hH hS hl
  exact wX7_boxesChangingLamp cx g a1  v hv H locs ls hH hS hl
theorem zc_X7_278 (cx : zCx Y p s m args meth c RX7 cc nl ret) (hpc : pc + 3 = pc') {g : zSt} {a1 : Int}  {fk : Int → Option ρ} (hR : 0 + 1 ≤ R.frames ∧ 8 + (4 + 11) + 40 * 0 ≤ R.locals) (hkn : k ≤ R.cells ∧ n ≤ R.slots) (hrest : (rest.map fun v => v.category).sum ≤ 8) (hdg : decode cc pc = .ok (.invokevirtual 278, 3)) (kk : ∀ v : Int, zWo Y p l e R s m args below meth c nl k n kq g lv (.int (i32 v) :: rest) pc' (fk v)) : zWo Y p l e R s m args below meth c nl k n kq g lv (.int (i32 a1) :: .ref (zad Y 0) :: rest) pc (zbd (fX7_boxesChangingLamp g a1) fk) := zr_callViP cx (an := 1) (As := [.int (i32 a1)]) 8 zkc_0 (by decide) rfl (mX7_boxesChangingLamp l Y g a1) (zG_V zw_622 zw_624 zw_23 zw_26 zw_625) (by decide +kernel) hR hkn rfl rfl hrest hdg hpc kk
def fX7_burningIfToggled_p42  (g : zSt) (y1 : Int) (y2 : Int) : Option (Int × zSt) :=
    zck ((0 : Int) ≤ y1 ∧ y1 < 12) (zck ((y2 : Int) = 0 ∨ (y2 : Int) = 1) (zlet (zwr g 34 (Int.toNat y1) y2) (fun g1 =>
    zbe (fX7_settle g1 30 220) (fun v2 g3 =>
    some ((g3.1 220 6), g3)))))
def fX7_burningIfToggled (g : zSt) (a1 : Int) : Option (Int × zSt) :=
    zbd (fX5_copy g 30 10) (fun g4 =>
    zck ((0 : Int) ≤ a1 ∧ a1 < 12) (
    (if i32 (g4.1 34 (Int.toNat a1)) = i32 0 then
    fX7_burningIfToggled_p42 g4 a1 1
    else
    fX7_burningIfToggled_p42 g4 a1 0)))
theorem wX7_burningIfToggled_p42 (cx : zCx Y p s m args meth c RX7 cX7_burningIfToggled 2 (some .int))   : ∀ (g : zSt) (y1 : Int) (y2 : Int), zWo Y p l e (zrm 4) s m args below meth c 2 0 0 (fun q : Int × zSt => MQ below (zQi Y q.1 q.2) args s 0 0 (zA Y)) g [(0, .ref (zad Y 0))] (.int (i32 y2) :: .int (i32 y1) :: .ref (zad Y 34) :: []) 42 (fX7_burningIfToggled_p42 g y1 y2) := by
  intro g y1 y2
  unfold fX7_burningIfToggled_p42
  refine zr_bast (pc' := 43) cx rfl 20 zkc_34 (by decide) (L := 12) rfl dX7_burningIfToggled_42 ?_
  refine zr_letS (fun g1 => ?_)
  refine zr_aload_n (pc' := 44) cx rfl 0 dX7_burningIfToggled_43 rfl rfl ?_
  refine zg_X7_23 (pc' := 47) cx rfl zkc_0 dX7_burningIfToggled_44 ?_
  refine zr_aload_n (pc' := 48) cx rfl 0 dX7_burningIfToggled_47 rfl rfl ?_
  refine zg_X7_26 (pc' := 51) cx rfl zkc_0 dX7_burningIfToggled_48 ?_
  refine zc_X7_95 (pc' := 54) cx rfl zkc_30 zkc_220 ⟨Nat.le_of_ble_eq_true rfl, Nat.le_of_ble_eq_true rfl⟩ ⟨Nat.zero_le _, Nat.zero_le _⟩ (Nat.le_of_ble_eq_true rfl) dX7_burningIfToggled_51 (fun v2 g3 => ?_)
  refine zr_pop (pc' := 55) cx rfl dX7_burningIfToggled_54 rfl ?_
  refine zr_aload_n (pc' := 56) cx rfl 0 dX7_burningIfToggled_55 rfl rfl ?_
  refine zg_X7_26 (pc' := 59) cx rfl zkc_0 dX7_burningIfToggled_56 ?_
  refine zg_X7_115 (pc' := 62) cx rfl zkc_220 dX7_burningIfToggled_59 ?_
  exact zr_iretE cx dX7_burningIfToggled_62
theorem wX7_burningIfToggled (cx : zCx Y p s m args meth c RX7 cX7_burningIfToggled 2 (some .int)) (g : zSt) (a1 : Int)  : zWo Y p l e (zrm 4) s m args below meth c 2 0 0 (fun q : Int × zSt => MQ below (zQi Y q.1 q.2) args s 0 0 (zA Y)) g [(0, .ref (zad Y 0)), (1, .int (i32 a1))] ([]) 0 (fX7_burningIfToggled g a1) := by
  unfold fX7_burningIfToggled
  refine zr_aload_n (pc' := 1) cx rfl 0 dX7_burningIfToggled_0 rfl rfl ?_
  refine zg_X7_23 (pc' := 4) cx rfl zkc_0 dX7_burningIfToggled_1 ?_
  refine zr_aload_n (pc' := 5) cx rfl 0 dX7_burningIfToggled_4 rfl rfl ?_
  refine zg_X7_12 (pc' := 8) cx rfl zkc_0 dX7_burningIfToggled_5 ?_
  refine zc_X7_283 (pc' := 11) cx rfl zkc_30 zkc_10 ⟨Nat.le_of_ble_eq_true rfl, Nat.le_of_ble_eq_true rfl⟩ ⟨Nat.zero_le _, Nat.zero_le _⟩ (Nat.le_of_ble_eq_true rfl) dX7_burningIfToggled_8 (fun g4 => ?_)
  refine zr_aload_n (pc' := 12) cx rfl 0 dX7_burningIfToggled_11 rfl rfl ?_
  refine zg_X7_23 (pc' := 15) cx rfl zkc_0 dX7_burningIfToggled_12 ?_
  refine zg_X7_73 (pc' := 18) cx rfl (c2 := 31) zkc_30 rfl dX7_burningIfToggled_15 ?_
  refine zg_X7_104 (pc' := 21) cx rfl (c2 := 34) zkc_31 rfl dX7_burningIfToggled_18 ?_
  refine zr_iload_n (pc' := 22) cx rfl 1 dX7_burningIfToggled_21 rfl rfl ?_
  refine zr_aload_n (pc' := 23) cx rfl 0 dX7_burningIfToggled_22 rfl rfl ?_
  refine zg_X7_23 (pc' := 26) cx rfl zkc_0 dX7_burningIfToggled_23 ?_
  refine zg_X7_73 (pc' := 29) cx rfl (c2 := 31) zkc_30 rfl dX7_burningIfToggled_26 ?_
  refine zg_X7_104 (pc' := 32) cx rfl (c2 := 34) zkc_31 rfl dX7_burningIfToggled_29 ?_
  refine zr_iload_n (pc' := 33) cx rfl 1 dX7_burningIfToggled_32 rfl rfl ?_
  refine zr_bald (pc' := 34) cx rfl 20 zkc_34 (by decide) (L := 12) rfl dX7_burningIfToggled_33 ?_
  refine zr_if_ne (pc' := 37) cx rfl (tgt := 41) dX7_burningIfToggled_34 rfl ?_ ?_
  · refine zr_iconst (pc' := 42) cx rfl dX7_burningIfToggled_41 ?_
    refine zr_sub [0] rfl ?_
    exact wX7_burningIfToggled_p42 cx g4 a1 0
  · refine zr_iconst (pc' := 38) cx rfl dX7_burningIfToggled_37 ?_
    refine zr_gotoS cx (tgt := 42) dX7_burningIfToggled_38 rfl ?_
    refine zr_sub [0] rfl ?_
    exact wX7_burningIfToggled_p42 cx g4 a1 1
theorem mX7_burningIfToggled (l : Launch) (Y : zLy) (g : zSt) (a1 : Int)  : ∀ v g2, fX7_burningIfToggled g a1 = some (v, g2) → zMt l yX7_burningIfToggled cX7_burningIfToggled 2 (some .int) 4 [.ref (zad Y 0), .int (i32 a1)] Y g (zQi Y v g2) := by
  intro v g2 hv
  refine zmet_of RX7 rfl (by decide +kernel) (Nat.le_of_ble_eq_true rfl) ?_
  intro p e s m below meth c cx H locs ls hH hS hl
  exact wX7_burningIfToggled cx g a1  (v, g2) hv H locs ls hH hS hl
theorem zc_X7_290 (cx : zCx Y p s m args meth c RX7 cc nl ret) (hpc : pc + 3 = pc') {g : zSt} {a1 : Int}  {fk : Int → zSt → Option ρ} (hR : 4 + 1 ≤ R.frames ∧ 8 + (2 + 11) + 40 * 4 ≤ R.locals) (hkn : k ≤ R.cells ∧ n ≤ R.slots) (hrest : (rest.map fun v => v.category).sum ≤ 8) (hdg : decode cc pc = .ok (.invokevirtual 290, 3)) (kk : ∀ (v : Int) (g2 : zSt), zWo Y p l e R s m args below meth c nl k n kq g2 lv (.int (i32 v) :: rest) pc' (fk v g2)) : zWo Y p l e R s m args below meth c nl k n kq g lv (.int (i32 a1) :: .ref (zad Y 0) :: rest) pc (zbe (fX7_burningIfToggled g a1) fk) := zr_callViE cx (an := 1) (As := [.int (i32 a1)]) 8 zkc_0 (by decide) rfl (mX7_burningIfToggled l Y g a1) (zG_V zw_605 zw_607 zw_21 zw_26 zw_608) (by decide +kernel) hR hkn rfl rfl hrest hdg hpc kk
def fX7_surveyWithWholeFuses_p13  : Nat → zSt → Int → Option zSt
  | 0, _, _ => none
  | fu + 1, g, a1 =>
    (if i32 a1 < i32 (2 * (g.1 31 0)) then
    zck ((0 : Int) ≤ a1 ∧ a1 < 24) (zck ((0 : Int) = 0 ∨ (0 : Int) = 1) (zlet (zwr g 36 (Int.toNat a1) 0) (fun g2 =>
    fX7_surveyWithWholeFuses_p13 fu g2 (a1 + 1))))
    else
    zbd (fX6_take g 240 30) (fun g1 =>
    some g1))
def fX7_surveyWithWholeFuses (g : zSt) : Option zSt :=
    zbd (fX5_copy g 30 10) (fun g3 =>
    fX7_surveyWithWholeFuses_p13 zfu g3 0)
theorem wX7_surveyWithWholeFuses_p13 (cx : zCx Y p s m args meth c RX7 cX7_surveyWithWholeFuses 2 none)   : ∀ (fu : Nat) (g : zSt) (a1 : Int), zWo Y p l e (zrm 3) s m args below meth c 2 0 0 (fun g9 : zSt => MQ below (zQv Y g9) args s 0 0 (zA Y)) g [(0, .ref (zad Y 0)), (1, .int (i32 a1))] ([]) 13 (fX7_surveyWithWholeFuses_p13 fu g a1) := by
  intro fu
  induction fu with
  | zero => intro g a1; exact zr_none
  | succ fu ih =>
    intro g a1
    rw [fX7_surveyWithWholeFuses_p13]
    refine zr_iload_n (pc' := 14) cx rfl 1 dX7_surveyWithWholeFuses_13 rfl rfl ?_
    refine zr_iconst (pc' := 15) cx rfl dX7_surveyWithWholeFuses_14 ?_
    refine zr_aload_n (pc' := 16) cx rfl 0 dX7_surveyWithWholeFuses_15 rfl rfl ?_
    refine zg_X7_23 (pc' := 19) cx rfl zkc_0 dX7_surveyWithWholeFuses_16 ?_
    refine zg_X7_73 (pc' := 22) cx rfl (c2 := 31) zkc_30 rfl dX7_surveyWithWholeFuses_19 ?_
    refine zg_X7_77 (pc' := 25) cx rfl zkc_31 dX7_surveyWithWholeFuses_22 ?_
    refine zr_imul (pc' := 26) cx rfl dX7_surveyWithWholeFuses_25 ?_
    refine zr_icmp_ge (pc' := 29) cx rfl (tgt := 48) dX7_surveyWithWholeFuses_26 rfl ?_ ?_
    · refine zr_aload_n (pc' := 49) cx rfl 0 dX7_surveyWithWholeFuses_48 rfl rfl ?_
      refine zg_X7_29 (pc' := 52) cx rfl zkc_0 dX7_surveyWithWholeFuses_49 ?_
      refine zr_aload_n (pc' := 53) cx rfl 0 dX7_surveyWithWholeFuses_52 rfl rfl ?_
      refine zg_X7_23 (pc' := 56) cx rfl zkc_0 dX7_surveyWithWholeFuses_53 ?_
      refine zc_X7_239 (pc' := 59) cx rfl zkc_240 zkc_30 ⟨Nat.le_of_ble_eq_true rfl, Nat.le_of_ble_eq_true rfl⟩ ⟨Nat.zero_le _, Nat.zero_le _⟩ (Nat.le_of_ble_eq_true rfl) dX7_surveyWithWholeFuses_56 (fun g1 => ?_)
      exact zr_vretE cx dX7_surveyWithWholeFuses_59
    · refine zr_aload_n (pc' := 30) cx rfl 0 dX7_surveyWithWholeFuses_29 rfl rfl ?_
      refine zg_X7_23 (pc' := 33) cx rfl zkc_0 dX7_surveyWithWholeFuses_30 ?_
      refine zg_X7_73 (pc' := 36) cx rfl (c2 := 31) zkc_30 rfl dX7_surveyWithWholeFuses_33 ?_
      refine zg_X7_131 (pc' := 39) cx rfl (c2 := 36) zkc_31 rfl dX7_surveyWithWholeFuses_36 ?_
      refine zr_iload_n (pc' := 40) cx rfl 1 dX7_surveyWithWholeFuses_39 rfl rfl ?_
      refine zr_iconst (pc' := 41) cx rfl dX7_surveyWithWholeFuses_40 ?_
      refine zr_bast (pc' := 42) cx rfl 21 zkc_36 (by decide) (L := 24) rfl dX7_surveyWithWholeFuses_41 ?_
      refine zr_letS (fun g2 => ?_)
      refine zr_iinc (pc' := 45) cx rfl (lv' := [(1, .int (i32 (a1 + 1))), (0, .ref (zad Y 0))]) 1 dX7_surveyWithWholeFuses_42 rfl (by decide) rfl ?_
      refine zr_goto cx (tgt := 13) dX7_surveyWithWholeFuses_45 rfl ?_
      refine zr_sub [1, 0] rfl ?_
      exact ih g2 (a1 + 1)
theorem wX7_surveyWithWholeFuses (cx : zCx Y p s m args meth c RX7 cX7_surveyWithWholeFuses 2 none) (g : zSt)  : zWo Y p l e (zrm 3) s m args below meth c 2 0 0 (fun g9 : zSt => MQ below (zQv Y g9) args s 0 0 (zA Y)) g [(0, .ref (zad Y 0))] ([]) 0 (fX7_surveyWithWholeFuses g) := by
  unfold fX7_surveyWithWholeFuses
  refine zr_aload_n (pc' := 1) cx rfl 0 dX7_surveyWithWholeFuses_0 rfl rfl ?_
  refine zg_X7_23 (pc' := 4) cx rfl zkc_0 dX7_surveyWithWholeFuses_1 ?_
  refine zr_aload_n (pc' := 5) cx rfl 0 dX7_surveyWithWholeFuses_4 rfl rfl ?_
  refine zg_X7_12 (pc' := 8) cx rfl zkc_0 dX7_surveyWithWholeFuses_5 ?_
  refine zc_X7_283 (pc' := 11) cx rfl zkc_30 zkc_10 ⟨Nat.le_of_ble_eq_true rfl, Nat.le_of_ble_eq_true rfl⟩ ⟨Nat.zero_le _, Nat.zero_le _⟩ (Nat.le_of_ble_eq_true rfl) dX7_surveyWithWholeFuses_8 (fun g3 => ?_)
  refine zr_iconst (pc' := 12) cx rfl dX7_surveyWithWholeFuses_11 ?_
  refine zr_istore_n (pc' := 13) cx rfl (lv' := [(1, .int (i32 0)), (0, .ref (zad Y 0))]) dX7_surveyWithWholeFuses_12 rfl (by decide) rfl ?_
  refine zr_sub [1, 0] rfl ?_
  exact wX7_surveyWithWholeFuses_p13 cx zfu g3 0
theorem mX7_surveyWithWholeFuses (l : Launch) (Y : zLy) (g : zSt)  : ∀ g2, fX7_surveyWithWholeFuses g = some g2 → zMt l yX7_surveyWithWholeFuses cX7_surveyWithWholeFuses 2 none 3 [.ref (zad Y 0)] Y g (zQv Y g2) := by
  intro g2 hv
  refine zmet_of RX7 rfl (by decide +kernel) (Nat.le_of_ble_eq_true rfl) ?_
  intro p e s m below meth c cx H locs ls hH hS hl
  exact wX7_surveyWithWholeFuses cx g   g2 hv H locs ls hH hS hl
theorem zc_X7_293 (cx : zCx Y p s m args meth c RX7 cc nl ret) (hpc : pc + 3 = pc') {g : zSt}   {fk : zSt → Option ρ} (hR : 3 + 1 ≤ R.frames ∧ 8 + (2 + 11) + 40 * 3 ≤ R.locals) (hkn : k ≤ R.cells ∧ n ≤ R.slots) (hrest : (rest.map fun v => v.category).sum ≤ 8) (hdg : decode cc pc = .ok (.invokevirtual 293, 3)) (kk : ∀ g2 : zSt, zWo Y p l e R s m args below meth c nl k n kq g2 lv (rest) pc' (fk g2)) : zWo Y p l e R s m args below meth c nl k n kq g lv (.ref (zad Y 0) :: rest) pc (zbd (fX7_surveyWithWholeFuses g) fk) := zr_callVvE cx (an := 0) (As := []) 8 zkc_0 (by decide) rfl (mX7_surveyWithWholeFuses l Y g) (zG_V zw_614 zw_616 zw_22 zw_26 zw_617) (by decide +kernel) hR hkn rfl rfl hrest hdg hpc kk
def fX7_lossShare (g : zSt) : Option UInt64 :=
    zlet ((g.1 10 6) + (g.1 10 7)) (fun x1 =>
    (if i32 x1 = i32 0 then
    some (FP.dconst0)
    else
    zck (znb (FP.ddiv (FP.i2d (i32 (g.1 10 7))) (FP.i2d (i32 x1))) = true) (
    some (FP.ddiv (FP.i2d (i32 (g.1 10 7))) (FP.i2d (i32 x1))))))
theorem wX7_lossShare (cx : zCx Y p s m args meth c RX7 cX7_lossShare 2 (some .double)) (g : zSt)  : zWo Y p l e (zrm 0) s m args below meth c 2 0 0 (fun v : UInt64 => MQ below (zQd Y v g) args s 0 0 (zA Y)) g [(0, .ref (zad Y 0))] ([]) 0 (fX7_lossShare g) := by
  unfold fX7_lossShare
  refine zr_aload_n (pc' := 1) cx rfl 0 dX7_lossShare_0 rfl rfl ?_
  refine zg_X7_12 (pc' := 4) cx rfl zkc_0 dX7_lossShare_1 ?_
  refine zg_X7_207 (pc' := 7) cx rfl zkc_10 dX7_lossShare_4 ?_
  refine zr_aload_n (pc' := 8) cx rfl 0 dX7_lossShare_7 rfl rfl ?_
  refine zg_X7_12 (pc' := 11) cx rfl zkc_0 dX7_lossShare_8 ?_
  refine zg_X7_210 (pc' := 14) cx rfl zkc_10 dX7_lossShare_11 ?_
  refine zr_iadd (pc' := 15) cx rfl dX7_lossShare_14 ?_
  refine zr_leti (fun x1 => ?_)
  refine zr_istore_n (pc' := 16) cx rfl (lv' := [(1, .int (i32 x1)), (0, .ref (zad Y 0))]) dX7_lossShare_15 rfl (by decide) rfl ?_
  refine zr_iload_n (pc' := 17) cx rfl 0 dX7_lossShare_16 rfl rfl ?_
  refine zr_if_ne (pc' := 20) cx rfl (tgt := 22) dX7_lossShare_17 rfl ?_ ?_
  · refine zr_aload_n (pc' := 23) cx rfl 1 dX7_lossShare_22 rfl rfl ?_
    refine zg_X7_12 (pc' := 26) cx rfl zkc_0 dX7_lossShare_23 ?_
    refine zg_X7_210 (pc' := 29) cx rfl zkc_10 dX7_lossShare_26 ?_
    refine zr_i2d (pc' := 30) cx rfl dX7_lossShare_29 ?_
    refine zr_iload_n (pc' := 31) cx rfl 0 dX7_lossShare_30 rfl rfl ?_
    refine zr_i2d (pc' := 32) cx rfl dX7_lossShare_31 ?_
    refine zr_ddiv (pc' := 33) cx rfl dX7_lossShare_32 ?_
    exact zr_dretP cx dX7_lossShare_33
  · refine zr_dconst0 (pc' := 21) cx rfl dX7_lossShare_20 ?_
    exact zr_dretP cx dX7_lossShare_21
theorem mX7_lossShare (l : Launch) (Y : zLy) (g : zSt)  : ∀ v, fX7_lossShare g = some v → zMt l yX7_lossShare cX7_lossShare 2 (some .double) 0 [.ref (zad Y 0)] Y g (zQd Y v g) := by
  intro v hv
  refine zmet_of RX7 rfl (by decide +kernel) (Nat.le_of_ble_eq_true rfl) ?_
  intro p e s m below meth c cx H locs ls hH hS hl
  exact wX7_lossShare cx g   v hv H locs ls hH hS hl
theorem zc_L_40 (cx : zCx Y p s m args meth c RL cc nl ret) (hpc : pc + 3 = pc') {g : zSt}   {fk : UInt64 → Option ρ} (hR : 0 + 1 ≤ R.frames ∧ 8 + (2 + 11) + 40 * 0 ≤ R.locals) (hkn : k ≤ R.cells ∧ n ≤ R.slots) (hrest : (rest.map fun v => v.category).sum ≤ 8) (hdg : decode cc pc = .ok (.invokevirtual 40, 3)) (kk : ∀ v : UInt64, zWo Y p l e R s m args below meth c nl k n kq g lv (.double v :: rest) pc' (fk v)) : zWo Y p l e R s m args below meth c nl k n kq g lv (.ref (zad Y 0) :: rest) pc (zbd (fX7_lossShare g) fk) := zr_callVdP cx (an := 0) (As := []) 8 zkc_0 (by decide) rfl (mX7_lossShare l Y g) (zG_V zw_494 zw_495 zw_496 zw_26 zw_497) (by decide +kernel) hR hkn rfl rfl hrest hdg hpc kk
end ZmX7
