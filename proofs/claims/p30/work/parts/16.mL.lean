section ZmL
variable {ρ : Type} {Y : zLy} {p : Program} {l : Launch} {e : Env} {R : Room} {s : State} {m : MethodId} {args : Array Value} {below : List Frame} {meth : Method} {c : Code} {nl k n : Nat} {kq : ρ → State → Prop} {lv : List (Nat × Value)} {rest : List Value} {pc pc' : Nat} {cc : ByteArray} {ret : Option FieldType}
def fL_at (g : zSt) (a0 : Int) (a1 : Int) : Option Int :=
    zck (¬ i32 a1 = i32 0) (
    some (zmo (zus a0 1) a1))
theorem wL_at (cx : zCx Y p s m args meth c RL cL_at 2 (some .int)) (g : zSt) (a0 : Int) (a1 : Int)  : zWo Y p l e (zrm 0) s m args below meth c 2 0 0 (fun v : Int => MQ below (zQi Y v g) args s 0 0 (zA Y)) g [(0, .int (i32 a0)), (1, .int (i32 a1))] ([]) 0 (fL_at g a0 a1) := by
  unfold fL_at
  refine zr_iload_n (pc' := 1) cx rfl 0 dL_at_0 rfl rfl ?_
  refine zr_iconst (pc' := 2) cx rfl dL_at_1 ?_
  refine zr_iushr (pc' := 3) cx rfl dL_at_2 ?_
  refine zr_iload_n (pc' := 4) cx rfl 1 dL_at_3 rfl rfl ?_
  refine zr_iremC (pc' := 5) cx rfl dL_at_4 ?_
  exact zr_iretP cx dL_at_5
theorem mL_at (l : Launch) (Y : zLy) (g : zSt) (a0 : Int) (a1 : Int)  : ∀ v, fL_at g a0 a1 = some v → zMt l yL_at cL_at 2 (some .int) 0 [.int (i32 a0), .int (i32 a1)] Y g (zQi Y v g) := by
  intro v hv
  refine zmet_of RL rfl (by decide +kernel) (Nat.le_of_ble_eq_true rfl) ?_
  intro p e s m below meth c cx H locs ls hH hS hl
  exact wL_at cx g a0 a1  v hv H locs ls hH hS hl
theorem zc_L_51 (cx : zCx Y p s m args meth c RL cc nl ret) (hpc : pc + 3 = pc') {g : zSt} {a0 : Int} {a1 : Int}  {fk : Int → Option ρ} (hR : 0 + 1 ≤ R.frames ∧ 8 + (2 + 11) + 40 * 0 ≤ R.locals) (hkn : k ≤ R.cells ∧ n ≤ R.slots) (hrest : (rest.map fun v => v.category).sum ≤ 8) (hdg : decode cc pc = .ok (.invokestatic 51, 3)) (kk : ∀ v : Int, zWo Y p l e R s m args below meth c nl k n kq g lv (.int (i32 v) :: rest) pc' (fk v)) : zWo Y p l e R s m args below meth c nl k n kq g lv (.int (i32 a1) :: .int (i32 a0) :: rest) pc (zbd (fL_at g a0 a1) fk) := zr_callSiP cx (an := 2) (As := [.int (i32 a0), .int (i32 a1)])  (mL_at l Y g a0 a1) (zG_S zw_302 zw_303 zw_25 zw_304) (by decide +kernel) hR hkn rfl rfl hrest hdg hpc kk
def fL_dark_p11 (g : zSt)  : Nat → Int → Nat → Nat → Nat → Int → Int → Option Int
  | 0, _, _, _, _, _, _ => none
  | fu + 1, a0, c1, c2, c3, a4, a5 =>
    (if i32 0 < i32 a5 then
    zck ((0 : Int) ≤ ((8 * a5) + 2) ∧ ((8 * a5) + 2) < 56) (
    (if i32 (g.1 c1 (Int.toNat ((8 * a5) + 2))) = i32 0 then
    some 1
    else
    zck ((0 : Int) ≤ (8 * a5) ∧ (8 * a5) < 56) (
    zlet (g.1 c1 (Int.toNat (8 * a5))) (fun x1 =>
    fL_dark_p11 g fu a0 c1 c2 c3 a4 x1))))
    else
    zck ((0 : Int) ≤ (2 * a4) ∧ (2 * a4) < 14) (
    (if i32 (g.1 c3 (Int.toNat (2 * a4))) < i32 2 then
    some 2
    else
    zck ((0 : Int) ≤ ((2 * a4) + 1) ∧ ((2 * a4) + 1) < 14) (
    (if i32 (g.1 c3 (Int.toNat ((2 * a4) + 1))) < i32 2 then
    some 3
    else
    zck ((0 : Int) ≤ ((3 * a0) + 2) ∧ ((3 * a0) + 2) < 24) (
    (if i32 (g.1 c2 (Int.toNat ((3 * a0) + 2))) = i32 1 then
    zck ((0 : Int) ≤ (2 * a4) ∧ (2 * a4) < 14) (
    (if i32 (g.1 c3 (Int.toNat (2 * a4))) = i32 3 then
    some 4
    else
    some 0))
    else
    some 0)))))))
def fL_dark (g : zSt) (a0 : Int) (c1 : Nat) (c2 : Nat) (c3 : Nat) : Option Int :=
    zck ((0 : Int) ≤ (3 * a0) ∧ (3 * a0) < 24) (
    zlet (g.1 c2 (Int.toNat (3 * a0))) (fun x2 =>
    fL_dark_p11 g zfu a0 c1 c2 c3 x2 x2))
theorem wL_dark_p11 (cx : zCx Y p s m args meth c RL cL_dark 6 (some .int)) (g : zSt)   : ∀ (fu : Nat) (a0 : Int) (c1 : Nat) (c2 : Nat) (c3 : Nat) (a4 : Int) (a5 : Int) (hc1 : zV Y c1 = 16) (hc2 : zV Y c2 = 11) (hc3 : zV Y c3 = 18), zWo Y p l e (zrm 0) s m args below meth c 6 0 0 (fun v : Int => MQ below (zQi Y v g) args s 0 0 (zA Y)) g [(0, .int (i32 a0)), (1, .ref (zad Y c1)), (2, .ref (zad Y c2)), (3, .ref (zad Y c3)), (4, .int (i32 a4)), (5, .int (i32 a5))] ([]) 11 (fL_dark_p11 g fu a0 c1 c2 c3 a4 a5) := by
  intro fu
  induction fu with
  | zero => intro a0 c1 c2 c3 a4 a5 hc1 hc2 hc3; exact zr_none
  | succ fu ih =>
    intro a0 c1 c2 c3 a4 a5 hc1 hc2 hc3
    rw [fL_dark_p11]
    refine zr_iload (pc' := 13) cx rfl 5 dL_dark_11 rfl ?_
    refine zr_if_le (pc' := 16) cx rfl (tgt := 42) dL_dark_13 rfl ?_ ?_
    · refine zr_aload_n (pc' := 43) cx rfl 3 dL_dark_42 rfl rfl ?_
      refine zr_iconst (pc' := 44) cx rfl dL_dark_43 ?_
      refine zr_iload (pc' := 46) cx rfl 4 dL_dark_44 rfl ?_
      refine zr_imul (pc' := 47) cx rfl dL_dark_46 ?_
      refine zr_iald (pc' := 48) cx rfl 18 hc3 (by decide) (L := 14) rfl dL_dark_47 ?_
      refine zr_iconst (pc' := 49) cx rfl dL_dark_48 ?_
      refine zr_icmp_ge (pc' := 52) cx rfl (tgt := 56) dL_dark_49 rfl ?_ ?_
      · refine zr_aload_n (pc' := 57) cx rfl 3 dL_dark_56 rfl rfl ?_
        refine zr_iconst (pc' := 58) cx rfl dL_dark_57 ?_
        refine zr_iload (pc' := 60) cx rfl 4 dL_dark_58 rfl ?_
        refine zr_imul (pc' := 61) cx rfl dL_dark_60 ?_
        refine zr_iconst (pc' := 62) cx rfl dL_dark_61 ?_
        refine zr_iadd (pc' := 63) cx rfl dL_dark_62 ?_
        refine zr_iald (pc' := 64) cx rfl 18 hc3 (by decide) (L := 14) rfl dL_dark_63 ?_
        refine zr_iconst (pc' := 65) cx rfl dL_dark_64 ?_
        refine zr_icmp_ge (pc' := 68) cx rfl (tgt := 72) dL_dark_65 rfl ?_ ?_
        · refine zr_aload_n (pc' := 73) cx rfl 2 dL_dark_72 rfl rfl ?_
          refine zr_iconst (pc' := 74) cx rfl dL_dark_73 ?_
          refine zr_iload_n (pc' := 75) cx rfl 0 dL_dark_74 rfl rfl ?_
          refine zr_imul (pc' := 76) cx rfl dL_dark_75 ?_
          refine zr_iconst (pc' := 77) cx rfl dL_dark_76 ?_
          refine zr_iadd (pc' := 78) cx rfl dL_dark_77 ?_
          refine zr_iald (pc' := 79) cx rfl 11 hc2 (by decide) (L := 24) rfl dL_dark_78 ?_
          refine zr_iconst (pc' := 80) cx rfl dL_dark_79 ?_
          refine zr_icmp_ne (pc' := 83) cx rfl (tgt := 97) dL_dark_80 rfl ?_ ?_
          · refine zr_iconst (pc' := 98) cx rfl dL_dark_97 ?_
            exact zr_iretP cx dL_dark_98
          · refine zr_aload_n (pc' := 84) cx rfl 3 dL_dark_83 rfl rfl ?_
            refine zr_iconst (pc' := 85) cx rfl dL_dark_84 ?_
            refine zr_iload (pc' := 87) cx rfl 4 dL_dark_85 rfl ?_
            refine zr_imul (pc' := 88) cx rfl dL_dark_87 ?_
            refine zr_iald (pc' := 89) cx rfl 18 hc3 (by decide) (L := 14) rfl dL_dark_88 ?_
            refine zr_iconst (pc' := 90) cx rfl dL_dark_89 ?_
            refine zr_icmp_ne (pc' := 93) cx rfl (tgt := 97) dL_dark_90 rfl ?_ ?_
            · refine zr_iconst (pc' := 98) cx rfl dL_dark_97 ?_
              exact zr_iretP cx dL_dark_98
            · refine zr_iconst (pc' := 94) cx rfl dL_dark_93 ?_
              refine zr_gotoS cx (tgt := 98) dL_dark_94 rfl ?_
              exact zr_iretP cx dL_dark_98
        · refine zr_iconst (pc' := 69) cx rfl dL_dark_68 ?_
          refine zr_gotoS cx (tgt := 98) dL_dark_69 rfl ?_
          exact zr_iretP cx dL_dark_98
      · refine zr_iconst (pc' := 53) cx rfl dL_dark_52 ?_
        refine zr_gotoS cx (tgt := 98) dL_dark_53 rfl ?_
        exact zr_iretP cx dL_dark_98
    · refine zr_aload_n (pc' := 17) cx rfl 1 dL_dark_16 rfl rfl ?_
      refine zr_bipush (pc' := 19) cx rfl dL_dark_17 (by decide +kernel) ?_
      refine zr_iload (pc' := 21) cx rfl 5 dL_dark_19 rfl ?_
      refine zr_imul (pc' := 22) cx rfl dL_dark_21 ?_
      refine zr_iconst (pc' := 23) cx rfl dL_dark_22 ?_
      refine zr_iadd (pc' := 24) cx rfl dL_dark_23 ?_
      refine zr_iald (pc' := 25) cx rfl 16 hc1 (by decide) (L := 56) rfl dL_dark_24 ?_
      refine zr_if_ne (pc' := 28) cx rfl (tgt := 30) dL_dark_25 rfl ?_ ?_
      · refine zr_aload_n (pc' := 31) cx rfl 1 dL_dark_30 rfl rfl ?_
        refine zr_bipush (pc' := 33) cx rfl dL_dark_31 (by decide +kernel) ?_
        refine zr_iload (pc' := 35) cx rfl 5 dL_dark_33 rfl ?_
        refine zr_imul (pc' := 36) cx rfl dL_dark_35 ?_
        refine zr_iald (pc' := 37) cx rfl 16 hc1 (by decide) (L := 56) rfl dL_dark_36 ?_
        refine zr_leti (fun x1 => ?_)
        refine zr_istore (pc' := 39) cx rfl (lv' := [(5, .int (i32 x1)), (0, .int (i32 a0)), (1, .ref (zad Y c1)), (2, .ref (zad Y c2)), (3, .ref (zad Y c3)), (4, .int (i32 a4))]) dL_dark_37 (by decide) rfl ?_
        refine zr_goto cx (tgt := 11) dL_dark_39 rfl ?_
        refine zr_sub [1, 2, 3, 4, 5, 0] rfl ?_
        exact ih a0 c1 c2 c3 a4 x1 hc1 hc2 hc3
      · refine zr_iconst (pc' := 29) cx rfl dL_dark_28 ?_
        exact zr_iretP cx dL_dark_29
theorem wL_dark (cx : zCx Y p s m args meth c RL cL_dark 6 (some .int)) (g : zSt) (a0 : Int) (c1 : Nat) (c2 : Nat) (c3 : Nat) (hc1 : zV Y c1 = 16) (hc2 : zV Y c2 = 11) (hc3 : zV Y c3 = 18) : zWo Y p l e (zrm 0) s m args below meth c 6 0 0 (fun v : Int => MQ below (zQi Y v g) args s 0 0 (zA Y)) g [(0, .int (i32 a0)), (1, .ref (zad Y c1)), (2, .ref (zad Y c2)), (3, .ref (zad Y c3))] ([]) 0 (fL_dark g a0 c1 c2 c3) := by
  unfold fL_dark
  refine zr_aload_n (pc' := 1) cx rfl 2 dL_dark_0 rfl rfl ?_
  refine zr_iconst (pc' := 2) cx rfl dL_dark_1 ?_
  refine zr_iload_n (pc' := 3) cx rfl 0 dL_dark_2 rfl rfl ?_
  refine zr_imul (pc' := 4) cx rfl dL_dark_3 ?_
  refine zr_iald (pc' := 5) cx rfl 11 hc2 (by decide) (L := 24) rfl dL_dark_4 ?_
  refine zr_leti (fun x2 => ?_)
  refine zr_istore (pc' := 7) cx rfl (lv' := [(4, .int (i32 x2)), (0, .int (i32 a0)), (1, .ref (zad Y c1)), (2, .ref (zad Y c2)), (3, .ref (zad Y c3))]) dL_dark_5 (by decide) rfl ?_
  refine zr_iload (pc' := 9) cx rfl 0 dL_dark_7 rfl ?_
  refine zr_istore (pc' := 11) cx rfl (lv' := [(5, .int (i32 x2)), (4, .int (i32 x2)), (0, .int (i32 a0)), (1, .ref (zad Y c1)), (2, .ref (zad Y c2)), (3, .ref (zad Y c3))]) dL_dark_9 (by decide) rfl ?_
  refine zr_sub [2, 3, 4, 5, 1, 0] rfl ?_
  exact wL_dark_p11 cx g zfu a0 c1 c2 c3 x2 x2 hc1 hc2 hc3
theorem mL_dark (l : Launch) (Y : zLy) (g : zSt) (a0 : Int) (c1 : Nat) (c2 : Nat) (c3 : Nat) (hc1 : zV Y c1 = 16) (hc2 : zV Y c2 = 11) (hc3 : zV Y c3 = 18) : ∀ v, fL_dark g a0 c1 c2 c3 = some v → zMt l yL_dark cL_dark 6 (some .int) 0 [.int (i32 a0), .ref (zad Y c1), .ref (zad Y c2), .ref (zad Y c3)] Y g (zQi Y v g) := by
  intro v hv
  refine zmet_of RL rfl (by decide +kernel) (Nat.le_of_ble_eq_true rfl) ?_
  intro p e s m below meth c cx H locs ls hH hS hl
  exact wL_dark cx g a0 c1 c2 c3 hc1 hc2 hc3 v hv H locs ls hH hS hl
theorem zc_L_8 (cx : zCx Y p s m args meth c RL cc nl ret) (hpc : pc + 3 = pc') {g : zSt} {a0 : Int} {c1 : Nat} {c2 : Nat} {c3 : Nat} (hc1 : zV Y c1 = 16) (hc2 : zV Y c2 = 11) (hc3 : zV Y c3 = 18) {fk : Int → Option ρ} (hR : 0 + 1 ≤ R.frames ∧ 8 + (6 + 11) + 40 * 0 ≤ R.locals) (hkn : k ≤ R.cells ∧ n ≤ R.slots) (hrest : (rest.map fun v => v.category).sum ≤ 8) (hdg : decode cc pc = .ok (.invokestatic 8, 3)) (kk : ∀ v : Int, zWo Y p l e R s m args below meth c nl k n kq g lv (.int (i32 v) :: rest) pc' (fk v)) : zWo Y p l e R s m args below meth c nl k n kq g lv (.ref (zad Y c3) :: .ref (zad Y c2) :: .ref (zad Y c1) :: .int (i32 a0) :: rest) pc (zbd (fL_dark g a0 c1 c2 c3) fk) := zr_callSiP cx (an := 4) (As := [.int (i32 a0), .ref (zad Y c1), .ref (zad Y c2), .ref (zad Y c3)])  (mL_dark l Y g a0 c1 c2 c3 hc1 hc2 hc3) (zG_S zw_311 zw_312 zw_25 zw_313) (by decide +kernel) hR hkn rfl rfl hrest hdg hpc kk
def fL_lamp_p6 (g : zSt)  : Nat → Int → Nat → Nat → Nat → Int → Int → Option Int
  | 0, _, _, _, _, _, _ => none
  | fu + 1, a0, c1, c2, c3, a4, a5 =>
    zck ((0 : Int) ≤ 2 ∧ 2 < 9) (
    (if i32 a5 < i32 (g.1 c2 (Int.toNat 2)) then
    zck ((0 : Int) ≤ (3 * a5) ∧ (3 * a5) < 18) (
    zck ((0 : Int) ≤ ((3 * a5) + 1) ∧ ((3 * a5) + 1) < 18) (
    zck ((0 : Int) ≤ ((2 * (g.1 c1 (Int.toNat (3 * a5)))) + (g.1 c1 (Int.toNat ((3 * a5) + 1)))) ∧ ((2 * (g.1 c1 (Int.toNat (3 * a5)))) + (g.1 c1 (Int.toNat ((3 * a5) + 1)))) < 14) (
    (if i32 (g.1 c3 (Int.toNat ((2 * (g.1 c1 (Int.toNat (3 * a5)))) + (g.1 c1 (Int.toNat ((3 * a5) + 1)))))) = i32 (2 + a0) then
    zck ((0 : Int) ≤ ((3 * a5) + 2) ∧ ((3 * a5) + 2) < 18) (
    zlet (a4 + (g.1 c1 (Int.toNat ((3 * a5) + 2)))) (fun x2 =>
    fL_lamp_p6 g fu a0 c1 c2 c3 x2 (a5 + 1)))
    else
    zlet (a4 + 0) (fun x1 =>
    fL_lamp_p6 g fu a0 c1 c2 c3 x1 (a5 + 1))))))
    else
    some a4))
def fL_lamp (g : zSt) (a0 : Int) (c1 : Nat) (c2 : Nat) (c3 : Nat) : Option Int :=
    fL_lamp_p6 g zfu a0 c1 c2 c3 0 0
theorem wL_lamp_p6 (cx : zCx Y p s m args meth c RL cL_lamp 6 (some .int)) (g : zSt)   : ∀ (fu : Nat) (a0 : Int) (c1 : Nat) (c2 : Nat) (c3 : Nat) (a4 : Int) (a5 : Int) (hc1 : zV Y c1 = 17) (hc2 : zV Y c2 = 13) (hc3 : zV Y c3 = 18), zWo Y p l e (zrm 0) s m args below meth c 6 0 0 (fun v : Int => MQ below (zQi Y v g) args s 0 0 (zA Y)) g [(0, .int (i32 a0)), (1, .ref (zad Y c1)), (2, .ref (zad Y c2)), (3, .ref (zad Y c3)), (4, .int (i32 a4)), (5, .int (i32 a5))] ([]) 6 (fL_lamp_p6 g fu a0 c1 c2 c3 a4 a5) := by
  intro fu
  induction fu with
  | zero => intro a0 c1 c2 c3 a4 a5 hc1 hc2 hc3; exact zr_none
  | succ fu ih =>
    intro a0 c1 c2 c3 a4 a5 hc1 hc2 hc3
    rw [fL_lamp_p6]
    refine zr_iload (pc' := 8) cx rfl 5 dL_lamp_6 rfl ?_
    refine zr_aload_n (pc' := 9) cx rfl 2 dL_lamp_8 rfl rfl ?_
    refine zr_iconst (pc' := 10) cx rfl dL_lamp_9 ?_
    refine zr_iald (pc' := 11) cx rfl 13 hc2 (by decide) (L := 9) rfl dL_lamp_10 ?_
    refine zr_icmp_ge (pc' := 14) cx rfl (tgt := 62) dL_lamp_11 rfl ?_ ?_
    · refine zr_iload (pc' := 64) cx rfl 4 dL_lamp_62 rfl ?_
      exact zr_iretP cx dL_lamp_64
    · refine zr_iload (pc' := 16) cx rfl 4 dL_lamp_14 rfl ?_
      refine zr_aload_n (pc' := 17) cx rfl 3 dL_lamp_16 rfl rfl ?_
      refine zr_iconst (pc' := 18) cx rfl dL_lamp_17 ?_
      refine zr_aload_n (pc' := 19) cx rfl 1 dL_lamp_18 rfl rfl ?_
      refine zr_iconst (pc' := 20) cx rfl dL_lamp_19 ?_
      refine zr_iload (pc' := 22) cx rfl 5 dL_lamp_20 rfl ?_
      refine zr_imul (pc' := 23) cx rfl dL_lamp_22 ?_
      refine zr_iald (pc' := 24) cx rfl 17 hc1 (by decide) (L := 18) rfl dL_lamp_23 ?_
      refine zr_imul (pc' := 25) cx rfl dL_lamp_24 ?_
      refine zr_aload_n (pc' := 26) cx rfl 1 dL_lamp_25 rfl rfl ?_
      refine zr_iconst (pc' := 27) cx rfl dL_lamp_26 ?_
      refine zr_iload (pc' := 29) cx rfl 5 dL_lamp_27 rfl ?_
      refine zr_imul (pc' := 30) cx rfl dL_lamp_29 ?_
      refine zr_iconst (pc' := 31) cx rfl dL_lamp_30 ?_
      refine zr_iadd (pc' := 32) cx rfl dL_lamp_31 ?_
      refine zr_iald (pc' := 33) cx rfl 17 hc1 (by decide) (L := 18) rfl dL_lamp_32 ?_
      refine zr_iadd (pc' := 34) cx rfl dL_lamp_33 ?_
      refine zr_iald (pc' := 35) cx rfl 18 hc3 (by decide) (L := 14) rfl dL_lamp_34 ?_
      refine zr_iconst (pc' := 36) cx rfl dL_lamp_35 ?_
      refine zr_iload_n (pc' := 37) cx rfl 0 dL_lamp_36 rfl rfl ?_
      refine zr_iadd (pc' := 38) cx rfl dL_lamp_37 ?_
      refine zr_icmp_ne (pc' := 41) cx rfl (tgt := 52) dL_lamp_38 rfl ?_ ?_
      · refine zr_iconst (pc' := 53) cx rfl dL_lamp_52 ?_
        refine zr_iadd (pc' := 54) cx rfl dL_lamp_53 ?_
        refine zr_leti (fun x1 => ?_)
        refine zr_istore (pc' := 56) cx rfl (lv' := [(4, .int (i32 x1)), (0, .int (i32 a0)), (1, .ref (zad Y c1)), (2, .ref (zad Y c2)), (3, .ref (zad Y c3)), (5, .int (i32 a5))]) dL_lamp_54 (by decide) rfl ?_
        refine zr_iinc (pc' := 59) cx rfl (lv' := [(5, .int (i32 (a5 + 1))), (4, .int (i32 x1)), (0, .int (i32 a0)), (1, .ref (zad Y c1)), (2, .ref (zad Y c2)), (3, .ref (zad Y c3))]) 5 dL_lamp_56 rfl (by decide) rfl ?_
        refine zr_goto cx (tgt := 6) dL_lamp_59 rfl ?_
        refine zr_sub [2, 3, 4, 5, 1, 0] rfl ?_
        exact ih a0 c1 c2 c3 x1 (a5 + 1) hc1 hc2 hc3
      · refine zr_aload_n (pc' := 42) cx rfl 1 dL_lamp_41 rfl rfl ?_
        refine zr_iconst (pc' := 43) cx rfl dL_lamp_42 ?_
        refine zr_iload (pc' := 45) cx rfl 5 dL_lamp_43 rfl ?_
        refine zr_imul (pc' := 46) cx rfl dL_lamp_45 ?_
        refine zr_iconst (pc' := 47) cx rfl dL_lamp_46 ?_
        refine zr_iadd (pc' := 48) cx rfl dL_lamp_47 ?_
        refine zr_iald (pc' := 49) cx rfl 17 hc1 (by decide) (L := 18) rfl dL_lamp_48 ?_
        refine zr_gotoS cx (tgt := 53) dL_lamp_49 rfl ?_
        refine zr_iadd (pc' := 54) cx rfl dL_lamp_53 ?_
        refine zr_leti (fun x2 => ?_)
        refine zr_istore (pc' := 56) cx rfl (lv' := [(4, .int (i32 x2)), (0, .int (i32 a0)), (1, .ref (zad Y c1)), (2, .ref (zad Y c2)), (3, .ref (zad Y c3)), (5, .int (i32 a5))]) dL_lamp_54 (by decide) rfl ?_
        refine zr_iinc (pc' := 59) cx rfl (lv' := [(5, .int (i32 (a5 + 1))), (4, .int (i32 x2)), (0, .int (i32 a0)), (1, .ref (zad Y c1)), (2, .ref (zad Y c2)), (3, .ref (zad Y c3))]) 5 dL_lamp_56 rfl (by decide) rfl ?_
        refine zr_goto cx (tgt := 6) dL_lamp_59 rfl ?_
        refine zr_sub [2, 3, 4, 5, 1, 0] rfl ?_
        exact ih a0 c1 c2 c3 x2 (a5 + 1) hc1 hc2 hc3
theorem wL_lamp (cx : zCx Y p s m args meth c RL cL_lamp 6 (some .int)) (g : zSt) (a0 : Int) (c1 : Nat) (c2 : Nat) (c3 : Nat) (hc1 : zV Y c1 = 17) (hc2 : zV Y c2 = 13) (hc3 : zV Y c3 = 18) : zWo Y p l e (zrm 0) s m args below meth c 6 0 0 (fun v : Int => MQ below (zQi Y v g) args s 0 0 (zA Y)) g [(0, .int (i32 a0)), (1, .ref (zad Y c1)), (2, .ref (zad Y c2)), (3, .ref (zad Y c3))] ([]) 0 (fL_lamp g a0 c1 c2 c3) := by
  unfold fL_lamp
  refine zr_iconst (pc' := 1) cx rfl dL_lamp_0 ?_
  refine zr_istore (pc' := 3) cx rfl (lv' := [(4, .int (i32 0)), (0, .int (i32 a0)), (1, .ref (zad Y c1)), (2, .ref (zad Y c2)), (3, .ref (zad Y c3))]) dL_lamp_1 (by decide) rfl ?_
  refine zr_iconst (pc' := 4) cx rfl dL_lamp_3 ?_
  refine zr_istore (pc' := 6) cx rfl (lv' := [(5, .int (i32 0)), (4, .int (i32 0)), (0, .int (i32 a0)), (1, .ref (zad Y c1)), (2, .ref (zad Y c2)), (3, .ref (zad Y c3))]) dL_lamp_4 (by decide) rfl ?_
  refine zr_sub [2, 3, 4, 5, 1, 0] rfl ?_
  exact wL_lamp_p6 cx g zfu a0 c1 c2 c3 0 0 hc1 hc2 hc3
theorem mL_lamp (l : Launch) (Y : zLy) (g : zSt) (a0 : Int) (c1 : Nat) (c2 : Nat) (c3 : Nat) (hc1 : zV Y c1 = 17) (hc2 : zV Y c2 = 13) (hc3 : zV Y c3 = 18) : ∀ v, fL_lamp g a0 c1 c2 c3 = some v → zMt l yL_lamp cL_lamp 6 (some .int) 0 [.int (i32 a0), .ref (zad Y c1), .ref (zad Y c2), .ref (zad Y c3)] Y g (zQi Y v g) := by
  intro v hv
  refine zmet_of RL rfl (by decide +kernel) (Nat.le_of_ble_eq_true rfl) ?_
  intro p e s m below meth c cx H locs ls hH hS hl
  exact wL_lamp cx g a0 c1 c2 c3 hc1 hc2 hc3 v hv H locs ls hH hS hl
theorem zc_L_14 (cx : zCx Y p s m args meth c RL cc nl ret) (hpc : pc + 3 = pc') {g : zSt} {a0 : Int} {c1 : Nat} {c2 : Nat} {c3 : Nat} (hc1 : zV Y c1 = 17) (hc2 : zV Y c2 = 13) (hc3 : zV Y c3 = 18) {fk : Int → Option ρ} (hR : 0 + 1 ≤ R.frames ∧ 8 + (6 + 11) + 40 * 0 ≤ R.locals) (hkn : k ≤ R.cells ∧ n ≤ R.slots) (hrest : (rest.map fun v => v.category).sum ≤ 8) (hdg : decode cc pc = .ok (.invokestatic 14, 3)) (kk : ∀ v : Int, zWo Y p l e R s m args below meth c nl k n kq g lv (.int (i32 v) :: rest) pc' (fk v)) : zWo Y p l e R s m args below meth c nl k n kq g lv (.ref (zad Y c3) :: .ref (zad Y c2) :: .ref (zad Y c1) :: .int (i32 a0) :: rest) pc (zbd (fL_lamp g a0 c1 c2 c3) fk) := zr_callSiP cx (an := 4) (As := [.int (i32 a0), .ref (zad Y c1), .ref (zad Y c2), .ref (zad Y c3)])  (mL_lamp l Y g a0 c1 c2 c3 hc1 hc2 hc3) (zG_S zw_314 zw_315 zw_25 zw_316) (by decide +kernel) hR hkn rfl rfl hrest hdg hpc kk
def fL_find_p128 (k35 : zSt → Nat → Nat → Nat → Nat → Nat → Nat → Nat → Int → Option zSt) (k46 : zSt → Nat → Nat → Nat → Nat → Nat → Nat → Nat → Int → Int → Option zSt) (g : zSt) (y0 : Int) (c0 : Nat) (c1 : Nat) (c2 : Nat) (c3 : Nat) (c4 : Nat) (c5 : Nat) (c6 : Nat) (a7 : Int) (a8 : Int) (a9 : Int) : Option zSt :=
    (if i32 y0 = i32 0 then
    zck ((0 : Int) ≤ ((2 * a7) + a8) ∧ ((2 * a7) + a8) < 14) (zlet (zwr g c4 (Int.toNat ((2 * a7) + a8)) ((zmo a9 2) + 0)) (fun g1 =>
    k46 g1 c0 c1 c2 c3 c4 c5 c6 a7 (a8 + 1)))
    else
    zck ((0 : Int) ≤ ((2 * a7) + a8) ∧ ((2 * a7) + a8) < 14) (zlet (zwr g c4 (Int.toNat ((2 * a7) + a8)) ((zmo a9 2) + 2)) (fun g2 =>
    k46 g2 c0 c1 c2 c3 c4 c5 c6 a7 (a8 + 1))))
def fL_find_p85 (k35 : zSt → Nat → Nat → Nat → Nat → Nat → Nat → Nat → Int → Option zSt) (k46 : zSt → Nat → Nat → Nat → Nat → Nat → Nat → Nat → Int → Int → Option zSt) (g : zSt) (yc0 : Nat) (y1 : Int) (y2 : Int) (c0 : Nat) (c1 : Nat) (c2 : Nat) (c3 : Nat) (c4 : Nat) (c5 : Nat) (c6 : Nat) (a7 : Int) (a8 : Int) : Option zSt :=
    zck ((0 : Int) ≤ (y1 + y2) ∧ (y1 + y2) < 14) (
    zlet (g.1 yc0 (Int.toNat (y1 + y2))) (fun x3 =>
    (if i32 1 < i32 x3 then
    zck ((0 : Int) ≤ ((8 * a7) + 2) ∧ ((8 * a7) + 2) < 56) (
    (if i32 (g.1 c0 (Int.toNat ((8 * a7) + 2))) = i32 1 then
    zck ((0 : Int) ≤ (((8 * a7) + 5) + a8) ∧ (((8 * a7) + 5) + a8) < 56) (
    (if i32 (g.1 c0 (Int.toNat (((8 * a7) + 5) + a8))) = i32 0 then
    fL_find_p128 k35 k46 g 1 c0 c1 c2 c3 c4 c5 c6 a7 a8 x3
    else
    fL_find_p128 k35 k46 g 0 c0 c1 c2 c3 c4 c5 c6 a7 a8 x3))
    else
    fL_find_p128 k35 k46 g 0 c0 c1 c2 c3 c4 c5 c6 a7 a8 x3))
    else
    fL_find_p128 k35 k46 g 0 c0 c1 c2 c3 c4 c5 c6 a7 a8 x3)))
def fL_find_p46 (k35 : zSt → Nat → Nat → Nat → Nat → Nat → Nat → Nat → Int → Option zSt) : Nat → zSt → Nat → Nat → Nat → Nat → Nat → Nat → Nat → Int → Int → Option zSt
  | 0, _, _, _, _, _, _, _, _, _, _ => none
  | fu + 1, g, c0, c1, c2, c3, c4, c5, c6, a7, a8 =>
    (if i32 a8 < i32 2 then
    zck ((0 : Int) ≤ (8 * a7) ∧ (8 * a7) < 56) (
    zck ((0 : Int) ≤ ((8 * a7) + 1) ∧ ((8 * a7) + 1) < 56) (
    (if i32 (g.1 c0 (Int.toNat ((8 * a7) + 1))) = i32 1 then
    fL_find_p85 k35 (fL_find_p46 k35 fu) g c4 (2 * (g.1 c0 (Int.toNat (8 * a7)))) (1 - a8) c0 c1 c2 c3 c4 c5 c6 a7 a8
    else
    fL_find_p85 k35 (fL_find_p46 k35 fu) g c4 (2 * (g.1 c0 (Int.toNat (8 * a7)))) a8 c0 c1 c2 c3 c4 c5 c6 a7 a8)))
    else
    k35 g c0 c1 c2 c3 c4 c5 c6 (a7 + 1))
def fL_find_p423 (k296 : zSt → Nat → Nat → Nat → Nat → Nat → Nat → Int → Int → Int → Option zSt) (g : zSt) (c0 : Nat) (c2 : Nat) (c3 : Nat) (c4 : Nat) (c5 : Nat) (c6 : Nat) (a8 : Int) (a9 : Int) (a10 : Int) (a11 : Int) : Option zSt :=
    zck ((0 : Int) ≤ a11 ∧ a11 < 14) (
    zck ((0 : Int) ≤ a10 ∧ a10 < 6) (
    zck ((0 : Int) ≤ a11 ∧ a11 < 14) (zlet (zwr g c5 (Int.toNat a11) ((g.1 c5 (Int.toNat a11)) + (g.1 c6 (Int.toNat a10)))) (fun g4 =>
    k296 g4 c0 c2 c3 c4 c5 c6 a8 a9 (a10 + 1)))))
def fL_find_p404 (k296 : zSt → Nat → Nat → Nat → Nat → Nat → Nat → Int → Int → Int → Option zSt) (g : zSt) (c0 : Nat) (c2 : Nat) (c3 : Nat) (c4 : Nat) (c5 : Nat) (c6 : Nat) (a8 : Int) (a9 : Int) (a10 : Int) (a11 : Int) : Option zSt :=
    zck ((0 : Int) ≤ a11 ∧ a11 < 14) (
    (if i32 (g.1 c4 (Int.toNat a11)) = i32 3 then
    zck ((0 : Int) ≤ a10 ∧ a10 < 6) (
    zlet (a9 - (g.1 c6 (Int.toNat a10))) (fun x5 =>
    fL_find_p423 k296 g c0 c2 c3 c4 c5 c6 a8 x5 a10 a11))
    else
    fL_find_p423 k296 g c0 c2 c3 c4 c5 c6 a8 a9 a10 a11))
def fL_find_p384 (k296 : zSt → Nat → Nat → Nat → Nat → Nat → Nat → Int → Int → Int → Option zSt) (g : zSt) (yc0 : Nat) (y1 : Int) (y2 : Int) (c0 : Nat) (c2 : Nat) (c3 : Nat) (c4 : Nat) (c5 : Nat) (c6 : Nat) (a8 : Int) (a9 : Int) (a10 : Int) (a11 : Int) : Option zSt :=
    zck ((0 : Int) ≤ y1 ∧ y1 < 6) (zlet (zwr g yc0 (Int.toNat y1) y2) (fun g6 =>
    zck ((0 : Int) ≤ a11 ∧ a11 < 14) (
    (if i32 (g6.1 c4 (Int.toNat a11)) = i32 2 then
    zck ((0 : Int) ≤ a10 ∧ a10 < 6) (
    zlet (a8 - (g6.1 c6 (Int.toNat a10))) (fun x7 =>
    fL_find_p404 k296 g6 c0 c2 c3 c4 c5 c6 x7 a9 a10 a11))
    else
    fL_find_p404 k296 g6 c0 c2 c3 c4 c5 c6 a8 a9 a10 a11))))
def fL_find_p352 (k296 : zSt → Nat → Nat → Nat → Nat → Nat → Nat → Int → Int → Int → Option zSt) (g : zSt) (y0 : Int) (c0 : Nat) (c2 : Nat) (c3 : Nat) (c4 : Nat) (c5 : Nat) (c6 : Nat) (a8 : Int) (a9 : Int) (a10 : Int) (a11 : Int) : Option zSt :=
    zck ((0 : Int) ≤ ((3 * a10) + 2) ∧ ((3 * a10) + 2) < 18) (
    (if i32 (g.1 c2 (Int.toNat ((3 * a10) + 2))) < i32 y0 then
    zck ((0 : Int) ≤ ((3 * a10) + 2) ∧ ((3 * a10) + 2) < 18) (
    fL_find_p384 k296 g c6 a10 (g.1 c2 (Int.toNat ((3 * a10) + 2))) c0 c2 c3 c4 c5 c6 a8 a9 a10 a11)
    else
    fL_find_p384 k296 g c6 a10 y0 c0 c2 c3 c4 c5 c6 a8 a9 a10 a11))
def fL_find_p496 (k449 : zSt → Nat → Nat → Int → Option zSt) (k457 : zSt → Nat → Nat → Int → Int → Option zSt) (g : zSt) (yc0 : Nat) (y1 : Int) (y2 : Int) (c0 : Nat) (c5 : Nat) (a10 : Int) (a11 : Int) : Option zSt :=
    zlet (y1 + y2) (fun x8 =>
    zck ((0 : Int) ≤ x8 ∧ x8 < 14) (
    zck ((0 : Int) ≤ ((2 * a10) + a11) ∧ ((2 * a10) + a11) < 14) (
    zck ((0 : Int) ≤ x8 ∧ x8 < 14) (zlet (zwr g yc0 (Int.toNat x8) ((g.1 yc0 (Int.toNat x8)) + (g.1 c5 (Int.toNat ((2 * a10) + a11))))) (fun g9 =>
    k457 g9 c0 c5 a10 (a11 + 1))))))
def fL_find_p457 (k449 : zSt → Nat → Nat → Int → Option zSt) : Nat → zSt → Nat → Nat → Int → Int → Option zSt
  | 0, _, _, _, _, _ => none
  | fu + 1, g, c0, c5, a10, a11 =>
    (if i32 a11 < i32 2 then
    zck ((0 : Int) ≤ (8 * a10) ∧ (8 * a10) < 56) (
    zck ((0 : Int) ≤ ((8 * a10) + 1) ∧ ((8 * a10) + 1) < 56) (
    (if i32 (g.1 c0 (Int.toNat ((8 * a10) + 1))) = i32 1 then
    fL_find_p496 k449 (fL_find_p457 k449 fu) g c5 (2 * (g.1 c0 (Int.toNat (8 * a10)))) (1 - a11) c0 c5 a10 a11
    else
    fL_find_p496 k449 (fL_find_p457 k449 fu) g c5 (2 * (g.1 c0 (Int.toNat (8 * a10)))) a11 c0 c5 a10 a11)))
    else
    k449 g c0 c5 (a10 + (-1)))
def fL_find_p449  : Nat → zSt → Nat → Nat → Int → Option zSt
  | 0, _, _, _, _ => none
  | fu + 1, g, c0, c5, a10 =>
    (if i32 0 < i32 a10 then
    fL_find_p457 (fL_find_p449 fu) zfu g c0 c5 a10 0
    else
    some g)
def fL_find_p296  : Nat → zSt → Nat → Nat → Nat → Nat → Nat → Nat → Int → Int → Int → Option zSt
  | 0, _, _, _, _, _, _, _, _, _, _ => none
  | fu + 1, g, c0, c2, c3, c4, c5, c6, a8, a9, a10 =>
    zck ((0 : Int) ≤ 2 ∧ 2 < 9) (
    (if i32 a10 < i32 (g.1 c3 (Int.toNat 2)) then
    zck ((0 : Int) ≤ (3 * a10) ∧ (3 * a10) < 18) (
    zck ((0 : Int) ≤ ((3 * a10) + 1) ∧ ((3 * a10) + 1) < 18) (
    zlet ((2 * (g.1 c2 (Int.toNat (3 * a10)))) + (g.1 c2 (Int.toNat ((3 * a10) + 1)))) (fun x11 =>
    zck ((0 : Int) ≤ x11 ∧ x11 < 14) (
    (if i32 (g.1 c4 (Int.toNat x11)) = i32 2 then
    fL_find_p352 (fL_find_p296 fu) g a8 c0 c2 c3 c4 c5 c6 a8 a9 a10 x11
    else
    zck ((0 : Int) ≤ x11 ∧ x11 < 14) (
    (if i32 (g.1 c4 (Int.toNat x11)) = i32 3 then
    fL_find_p352 (fL_find_p296 fu) g a9 c0 c2 c3 c4 c5 c6 a8 a9 a10 x11
    else
    fL_find_p352 (fL_find_p296 fu) g 0 c0 c2 c3 c4 c5 c6 a8 a9 a10 x11)))))))
    else
    zck ((0 : Int) ≤ 0 ∧ 0 < 9) (
    zlet ((g.1 c3 (Int.toNat 0)) - 1) (fun x10 =>
    fL_find_p449 zfu g c0 c5 x10))))
def fL_find_p170  : Nat → zSt → Nat → Nat → Nat → Nat → Nat → Nat → Nat → Int → Option zSt
  | 0, _, _, _, _, _, _, _, _, _ => none
  | fu + 1, g, c0, c1, c2, c3, c4, c5, c6, a7 =>
    zck ((0 : Int) ≤ 1 ∧ 1 < 9) (
    (if i32 a7 < i32 (g.1 c3 (Int.toNat 1)) then
    zbd (fL_dark g a7 c0 c1 c4) (fun v16 =>
    (if i32 0 < i32 v16 then
    fL_find_p170 fu g c0 c1 c2 c3 c4 c5 c6 (a7 + 1)
    else
    zck ((0 : Int) ≤ (3 * a7) ∧ (3 * a7) < 24) (
    zlet (2 * (g.1 c1 (Int.toNat (3 * a7)))) (fun x17 =>
    zck ((0 : Int) ≤ x17 ∧ x17 < 14) (
    zck ((0 : Int) ≤ ((3 * a7) + 1) ∧ ((3 * a7) + 1) < 24) (
    zck ((0 : Int) ≤ x17 ∧ x17 < 14) (zlet (zwr g c5 (Int.toNat x17) ((g.1 c5 (Int.toNat x17)) + (g.1 c1 (Int.toNat ((3 * a7) + 1))))) (fun g18 =>
    zck ((0 : Int) ≤ (3 * a7) ∧ (3 * a7) < 24) (
    zlet ((2 * (g18.1 c1 (Int.toNat (3 * a7)))) + 1) (fun x19 =>
    zck ((0 : Int) ≤ x19 ∧ x19 < 14) (
    zck ((0 : Int) ≤ ((3 * a7) + 1) ∧ ((3 * a7) + 1) < 24) (
    zck ((0 : Int) ≤ x19 ∧ x19 < 14) (zlet (zwr g18 c5 (Int.toNat x19) ((g18.1 c5 (Int.toNat x19)) + (g18.1 c1 (Int.toNat ((3 * a7) + 1))))) (fun g20 =>
    fL_find_p170 fu g20 c0 c1 c2 c3 c4 c5 c6 (a7 + 1)))))))))))))))
    else
    zbd (fL_lamp g 0 c2 c3 c4) (fun v12 =>
    zbd (fL_lamp g 1 c2 c3 c4) (fun v13 =>
    (if i32 v12 < i32 v13 then
    zbd (fL_lamp g 0 c2 c3 c4) (fun v15 =>
    fL_find_p296 zfu g c0 c2 c3 c4 c5 c6 v15 v15 0)
    else
    zbd (fL_lamp g 1 c2 c3 c4) (fun v14 =>
    fL_find_p296 zfu g c0 c2 c3 c4 c5 c6 v14 v14 0))))))
def fL_find_p35  : Nat → zSt → Nat → Nat → Nat → Nat → Nat → Nat → Nat → Int → Option zSt
  | 0, _, _, _, _, _, _, _, _, _ => none
  | fu + 1, g, c0, c1, c2, c3, c4, c5, c6, a7 =>
    zck ((0 : Int) ≤ 0 ∧ 0 < 9) (
    (if i32 a7 < i32 (g.1 c3 (Int.toNat 0)) then
    fL_find_p46 (fL_find_p35 fu) zfu g c0 c1 c2 c3 c4 c5 c6 a7 0
    else
    fL_find_p170 zfu g c0 c1 c2 c3 c4 c5 c6 0))
def fL_find_p13  : Nat → zSt → Nat → Nat → Nat → Nat → Nat → Nat → Nat → Int → Option zSt
  | 0, _, _, _, _, _, _, _, _, _ => none
  | fu + 1, g, c0, c1, c2, c3, c4, c5, c6, a7 =>
    (if i32 a7 < i32 14 then
    zck ((0 : Int) ≤ a7 ∧ a7 < 14) (zlet (zwr g c5 (Int.toNat a7) 0) (fun g21 =>
    fL_find_p13 fu g21 c0 c1 c2 c3 c4 c5 c6 (a7 + 1)))
    else
    fL_find_p35 zfu g c0 c1 c2 c3 c4 c5 c6 1)
def fL_find (g : zSt) (c0 : Nat) (c1 : Nat) (c2 : Nat) (c3 : Nat) (c4 : Nat) (c5 : Nat) (c6 : Nat) : Option zSt :=
    zck ((0 : Int) ≤ 0 ∧ 0 < 14) (zlet (zwr g c4 (Int.toNat 0) 2) (fun g22 =>
    zck ((0 : Int) ≤ 1 ∧ 1 < 14) (zlet (zwr g22 c4 (Int.toNat 1) 3) (fun g23 =>
    fL_find_p13 zfu g23 c0 c1 c2 c3 c4 c5 c6 0))))
theorem wL_find_p128 (cx : zCx Y p s m args meth c RL cL_find 13 none) {k35 : zSt → Nat → Nat → Nat → Nat → Nat → Nat → Nat → Int → Option zSt} {k46 : zSt → Nat → Nat → Nat → Nat → Nat → Nat → Nat → Int → Int → Option zSt} (hk35 : ∀ (g : zSt) (c0 : Nat) (c1 : Nat) (c2 : Nat) (c3 : Nat) (c4 : Nat) (c5 : Nat) (c6 : Nat) (a7 : Int) (hc0 : zV Y c0 = 16) (hc1 : zV Y c1 = 11) (hc2 : zV Y c2 = 17) (hc3 : zV Y c3 = 13) (hc4 : zV Y c4 = 18) (hc5 : zV Y c5 = 18) (hc6 : zV Y c6 = 19), zWo Y p l e (zrm 1) s m args below meth c 13 0 0 (fun g9 : zSt => MQ below (zQv Y g9) args s 0 0 (zA Y)) g [(0, .ref (zad Y c0)), (1, .ref (zad Y c1)), (2, .ref (zad Y c2)), (3, .ref (zad Y c3)), (4, .ref (zad Y c4)), (5, .ref (zad Y c5)), (6, .ref (zad Y c6)), (7, .int (i32 a7))] ([]) 35 (k35 g c0 c1 c2 c3 c4 c5 c6 a7)) (hk46 : ∀ (g : zSt) (c0 : Nat) (c1 : Nat) (c2 : Nat) (c3 : Nat) (c4 : Nat) (c5 : Nat) (c6 : Nat) (a7 : Int) (a8 : Int) (hc0 : zV Y c0 = 16) (hc1 : zV Y c1 = 11) (hc2 : zV Y c2 = 17) (hc3 : zV Y c3 = 13) (hc4 : zV Y c4 = 18) (hc5 : zV Y c5 = 18) (hc6 : zV Y c6 = 19), zWo Y p l e (zrm 1) s m args below meth c 13 0 0 (fun g9 : zSt => MQ below (zQv Y g9) args s 0 0 (zA Y)) g [(0, .ref (zad Y c0)), (1, .ref (zad Y c1)), (2, .ref (zad Y c2)), (3, .ref (zad Y c3)), (4, .ref (zad Y c4)), (5, .ref (zad Y c5)), (6, .ref (zad Y c6)), (7, .int (i32 a7)), (8, .int (i32 a8))] ([]) 46 (k46 g c0 c1 c2 c3 c4 c5 c6 a7 a8)) : ∀ (g : zSt) (y0 : Int) (c0 : Nat) (c1 : Nat) (c2 : Nat) (c3 : Nat) (c4 : Nat) (c5 : Nat) (c6 : Nat) (a7 : Int) (a8 : Int) (a9 : Int) (hc0 : zV Y c0 = 16) (hc1 : zV Y c1 = 11) (hc2 : zV Y c2 = 17) (hc3 : zV Y c3 = 13) (hc4 : zV Y c4 = 18) (hc5 : zV Y c5 = 18) (hc6 : zV Y c6 = 19), zWo Y p l e (zrm 1) s m args below meth c 13 0 0 (fun g9 : zSt => MQ below (zQv Y g9) args s 0 0 (zA Y)) g [(0, .ref (zad Y c0)), (1, .ref (zad Y c1)), (2, .ref (zad Y c2)), (3, .ref (zad Y c3)), (4, .ref (zad Y c4)), (5, .ref (zad Y c5)), (6, .ref (zad Y c6)), (7, .int (i32 a7)), (8, .int (i32 a8)), (9, .int (i32 a9))] (.int (i32 y0) :: []) 128 (fL_find_p128 k35 k46 g y0 c0 c1 c2 c3 c4 c5 c6 a7 a8 a9) := by
  intro g y0 c0 c1 c2 c3 c4 c5 c6 a7 a8 a9 hc0 hc1 hc2 hc3 hc4 hc5 hc6
  unfold fL_find_p128
  refine zr_istore (pc' := 130) cx rfl (lv' := [(10, .int (i32 y0)), (0, .ref (zad Y c0)), (1, .ref (zad Y c1)), (2, .ref (zad Y c2)), (3, .ref (zad Y c3)), (4, .ref (zad Y c4)), (5, .ref (zad Y c5)), (6, .ref (zad Y c6)), (7, .int (i32 a7)), (8, .int (i32 a8)), (9, .int (i32 a9))]) dL_find_128 (by decide) rfl ?_
  refine zr_aload (pc' := 132) cx rfl 5 dL_find_130 rfl ?_
  refine zr_iconst (pc' := 133) cx rfl dL_find_132 ?_
  refine zr_iload (pc' := 135) cx rfl 8 dL_find_133 rfl ?_
  refine zr_imul (pc' := 136) cx rfl dL_find_135 ?_
  refine zr_iload (pc' := 138) cx rfl 9 dL_find_136 rfl ?_
  refine zr_iadd (pc' := 139) cx rfl dL_find_138 ?_
  refine zr_iload (pc' := 141) cx rfl 10 dL_find_139 rfl ?_
  refine zr_iconst (pc' := 142) cx rfl dL_find_141 ?_
  refine zr_irem (pc' := 143) cx rfl (by decide +kernel) dL_find_142 ?_
  refine zr_iload (pc' := 145) cx rfl 0 dL_find_143 rfl ?_
  refine zr_if_eq (pc' := 148) cx rfl (tgt := 152) dL_find_145 rfl ?_ ?_
  · refine zr_iconst (pc' := 153) cx rfl dL_find_152 ?_
    refine zr_iadd (pc' := 154) cx rfl dL_find_153 ?_
    refine zr_iast (pc' := 155) cx rfl 18 hc4 (by decide) (L := 14) rfl dL_find_154 ?_
    refine zr_letS (fun g1 => ?_)
    refine zr_iinc (pc' := 158) cx rfl (lv' := [(8, .int (i32 (a8 + 1))), (10, .int (i32 y0)), (0, .ref (zad Y c0)), (1, .ref (zad Y c1)), (2, .ref (zad Y c2)), (3, .ref (zad Y c3)), (4, .ref (zad Y c4)), (5, .ref (zad Y c5)), (6, .ref (zad Y c6)), (7, .int (i32 a7)), (9, .int (i32 a9))]) 9 dL_find_155 rfl (by decide) rfl ?_
    refine zr_goto cx (tgt := 46) dL_find_158 rfl ?_
    refine zr_sub [2, 3, 4, 5, 6, 7, 8, 9, 0] rfl ?_
    exact hk46 g1 c0 c1 c2 c3 c4 c5 c6 a7 (a8 + 1) hc0 hc1 hc2 hc3 hc4 hc5 hc6
  · refine zr_iconst (pc' := 149) cx rfl dL_find_148 ?_
    refine zr_gotoS cx (tgt := 153) dL_find_149 rfl ?_
    refine zr_iadd (pc' := 154) cx rfl dL_find_153 ?_
    refine zr_iast (pc' := 155) cx rfl 18 hc4 (by decide) (L := 14) rfl dL_find_154 ?_
    refine zr_letS (fun g2 => ?_)
    refine zr_iinc (pc' := 158) cx rfl (lv' := [(8, .int (i32 (a8 + 1))), (10, .int (i32 y0)), (0, .ref (zad Y c0)), (1, .ref (zad Y c1)), (2, .ref (zad Y c2)), (3, .ref (zad Y c3)), (4, .ref (zad Y c4)), (5, .ref (zad Y c5)), (6, .ref (zad Y c6)), (7, .int (i32 a7)), (9, .int (i32 a9))]) 9 dL_find_155 rfl (by decide) rfl ?_
    refine zr_goto cx (tgt := 46) dL_find_158 rfl ?_
    refine zr_sub [2, 3, 4, 5, 6, 7, 8, 9, 0] rfl ?_
    exact hk46 g2 c0 c1 c2 c3 c4 c5 c6 a7 (a8 + 1) hc0 hc1 hc2 hc3 hc4 hc5 hc6
theorem wL_find_p85 (cx : zCx Y p s m args meth c RL cL_find 13 none) {k35 : zSt → Nat → Nat → Nat → Nat → Nat → Nat → Nat → Int → Option zSt} {k46 : zSt → Nat → Nat → Nat → Nat → Nat → Nat → Nat → Int → Int → Option zSt} (hk35 : ∀ (g : zSt) (c0 : Nat) (c1 : Nat) (c2 : Nat) (c3 : Nat) (c4 : Nat) (c5 : Nat) (c6 : Nat) (a7 : Int) (hc0 : zV Y c0 = 16) (hc1 : zV Y c1 = 11) (hc2 : zV Y c2 = 17) (hc3 : zV Y c3 = 13) (hc4 : zV Y c4 = 18) (hc5 : zV Y c5 = 18) (hc6 : zV Y c6 = 19), zWo Y p l e (zrm 1) s m args below meth c 13 0 0 (fun g9 : zSt => MQ below (zQv Y g9) args s 0 0 (zA Y)) g [(0, .ref (zad Y c0)), (1, .ref (zad Y c1)), (2, .ref (zad Y c2)), (3, .ref (zad Y c3)), (4, .ref (zad Y c4)), (5, .ref (zad Y c5)), (6, .ref (zad Y c6)), (7, .int (i32 a7))] ([]) 35 (k35 g c0 c1 c2 c3 c4 c5 c6 a7)) (hk46 : ∀ (g : zSt) (c0 : Nat) (c1 : Nat) (c2 : Nat) (c3 : Nat) (c4 : Nat) (c5 : Nat) (c6 : Nat) (a7 : Int) (a8 : Int) (hc0 : zV Y c0 = 16) (hc1 : zV Y c1 = 11) (hc2 : zV Y c2 = 17) (hc3 : zV Y c3 = 13) (hc4 : zV Y c4 = 18) (hc5 : zV Y c5 = 18) (hc6 : zV Y c6 = 19), zWo Y p l e (zrm 1) s m args below meth c 13 0 0 (fun g9 : zSt => MQ below (zQv Y g9) args s 0 0 (zA Y)) g [(0, .ref (zad Y c0)), (1, .ref (zad Y c1)), (2, .ref (zad Y c2)), (3, .ref (zad Y c3)), (4, .ref (zad Y c4)), (5, .ref (zad Y c5)), (6, .ref (zad Y c6)), (7, .int (i32 a7)), (8, .int (i32 a8))] ([]) 46 (k46 g c0 c1 c2 c3 c4 c5 c6 a7 a8)) : ∀ (g : zSt) (yc0 : Nat) (y1 : Int) (y2 : Int) (c0 : Nat) (c1 : Nat) (c2 : Nat) (c3 : Nat) (c4 : Nat) (c5 : Nat) (c6 : Nat) (a7 : Int) (a8 : Int) (hyc0 : zV Y yc0 = 18) (hc0 : zV Y c0 = 16) (hc1 : zV Y c1 = 11) (hc2 : zV Y c2 = 17) (hc3 : zV Y c3 = 13) (hc4 : zV Y c4 = 18) (hc5 : zV Y c5 = 18) (hc6 : zV Y c6 = 19), zWo Y p l e (zrm 1) s m args below meth c 13 0 0 (fun g9 : zSt => MQ below (zQv Y g9) args s 0 0 (zA Y)) g [(0, .ref (zad Y c0)), (1, .ref (zad Y c1)), (2, .ref (zad Y c2)), (3, .ref (zad Y c3)), (4, .ref (zad Y c4)), (5, .ref (zad Y c5)), (6, .ref (zad Y c6)), (7, .int (i32 a7)), (8, .int (i32 a8))] (.int (i32 y2) :: .int (i32 y1) :: .ref (zad Y yc0) :: []) 85 (fL_find_p85 k35 k46 g yc0 y1 y2 c0 c1 c2 c3 c4 c5 c6 a7 a8) := by
  intro g yc0 y1 y2 c0 c1 c2 c3 c4 c5 c6 a7 a8 hyc0 hc0 hc1 hc2 hc3 hc4 hc5 hc6
  unfold fL_find_p85
  refine zr_iadd (pc' := 86) cx rfl dL_find_85 ?_
  refine zr_iald (pc' := 87) cx rfl 18 hyc0 (by decide) (L := 14) rfl dL_find_86 ?_
  refine zr_leti (fun x3 => ?_)
  refine zr_istore (pc' := 89) cx rfl (lv' := [(9, .int (i32 x3)), (0, .ref (zad Y c0)), (1, .ref (zad Y c1)), (2, .ref (zad Y c2)), (3, .ref (zad Y c3)), (4, .ref (zad Y c4)), (5, .ref (zad Y c5)), (6, .ref (zad Y c6)), (7, .int (i32 a7)), (8, .int (i32 a8))]) dL_find_87 (by decide) rfl ?_
  refine zr_iload (pc' := 91) cx rfl 0 dL_find_89 rfl ?_
  refine zr_iconst (pc' := 92) cx rfl dL_find_91 ?_
  refine zr_icmp_le (pc' := 95) cx rfl (tgt := 127) dL_find_92 rfl ?_ ?_
  · refine zr_iconst (pc' := 128) cx rfl dL_find_127 ?_
    refine zr_sub [1, 2, 3, 4, 5, 6, 7, 8, 9, 0] rfl ?_
    exact wL_find_p128 cx hk35 hk46 g 0 c0 c1 c2 c3 c4 c5 c6 a7 a8 x3 hc0 hc1 hc2 hc3 hc4 hc5 hc6
  · refine zr_aload_n (pc' := 96) cx rfl 1 dL_find_95 rfl rfl ?_
    refine zr_bipush (pc' := 98) cx rfl dL_find_96 (by decide +kernel) ?_
    refine zr_iload (pc' := 100) cx rfl 8 dL_find_98 rfl ?_
    refine zr_imul (pc' := 101) cx rfl dL_find_100 ?_
    refine zr_iconst (pc' := 102) cx rfl dL_find_101 ?_
    refine zr_iadd (pc' := 103) cx rfl dL_find_102 ?_
    refine zr_iald (pc' := 104) cx rfl 16 hc0 (by decide) (L := 56) rfl dL_find_103 ?_
    refine zr_iconst (pc' := 105) cx rfl dL_find_104 ?_
    refine zr_icmp_ne (pc' := 108) cx rfl (tgt := 127) dL_find_105 rfl ?_ ?_
    · refine zr_iconst (pc' := 128) cx rfl dL_find_127 ?_
      refine zr_sub [1, 2, 3, 4, 5, 6, 7, 8, 9, 0] rfl ?_
      exact wL_find_p128 cx hk35 hk46 g 0 c0 c1 c2 c3 c4 c5 c6 a7 a8 x3 hc0 hc1 hc2 hc3 hc4 hc5 hc6
    · refine zr_aload_n (pc' := 109) cx rfl 1 dL_find_108 rfl rfl ?_
      refine zr_bipush (pc' := 111) cx rfl dL_find_109 (by decide +kernel) ?_
      refine zr_iload (pc' := 113) cx rfl 8 dL_find_111 rfl ?_
      refine zr_imul (pc' := 114) cx rfl dL_find_113 ?_
      refine zr_iconst (pc' := 115) cx rfl dL_find_114 ?_
      refine zr_iadd (pc' := 116) cx rfl dL_find_115 ?_
      refine zr_iload (pc' := 118) cx rfl 9 dL_find_116 rfl ?_
      refine zr_iadd (pc' := 119) cx rfl dL_find_118 ?_
      refine zr_iald (pc' := 120) cx rfl 16 hc0 (by decide) (L := 56) rfl dL_find_119 ?_
      refine zr_if_ne (pc' := 123) cx rfl (tgt := 127) dL_find_120 rfl ?_ ?_
      · refine zr_iconst (pc' := 128) cx rfl dL_find_127 ?_
        refine zr_sub [1, 2, 3, 4, 5, 6, 7, 8, 9, 0] rfl ?_
        exact wL_find_p128 cx hk35 hk46 g 0 c0 c1 c2 c3 c4 c5 c6 a7 a8 x3 hc0 hc1 hc2 hc3 hc4 hc5 hc6
      · refine zr_iconst (pc' := 124) cx rfl dL_find_123 ?_
        refine zr_gotoS cx (tgt := 128) dL_find_124 rfl ?_
        refine zr_sub [1, 2, 3, 4, 5, 6, 7, 8, 9, 0] rfl ?_
        exact wL_find_p128 cx hk35 hk46 g 1 c0 c1 c2 c3 c4 c5 c6 a7 a8 x3 hc0 hc1 hc2 hc3 hc4 hc5 hc6
theorem wL_find_p46 (cx : zCx Y p s m args meth c RL cL_find 13 none) {k35 : zSt → Nat → Nat → Nat → Nat → Nat → Nat → Nat → Int → Option zSt} (hk35 : ∀ (g : zSt) (c0 : Nat) (c1 : Nat) (c2 : Nat) (c3 : Nat) (c4 : Nat) (c5 : Nat) (c6 : Nat) (a7 : Int) (hc0 : zV Y c0 = 16) (hc1 : zV Y c1 = 11) (hc2 : zV Y c2 = 17) (hc3 : zV Y c3 = 13) (hc4 : zV Y c4 = 18) (hc5 : zV Y c5 = 18) (hc6 : zV Y c6 = 19), zWo Y p l e (zrm 1) s m args below meth c 13 0 0 (fun g9 : zSt => MQ below (zQv Y g9) args s 0 0 (zA Y)) g [(0, .ref (zad Y c0)), (1, .ref (zad Y c1)), (2, .ref (zad Y c2)), (3, .ref (zad Y c3)), (4, .ref (zad Y c4)), (5, .ref (zad Y c5)), (6, .ref (zad Y c6)), (7, .int (i32 a7))] ([]) 35 (k35 g c0 c1 c2 c3 c4 c5 c6 a7)) : ∀ (fu : Nat) (g : zSt) (c0 : Nat) (c1 : Nat) (c2 : Nat) (c3 : Nat) (c4 : Nat) (c5 : Nat) (c6 : Nat) (a7 : Int) (a8 : Int) (hc0 : zV Y c0 = 16) (hc1 : zV Y c1 = 11) (hc2 : zV Y c2 = 17) (hc3 : zV Y c3 = 13) (hc4 : zV Y c4 = 18) (hc5 : zV Y c5 = 18) (hc6 : zV Y c6 = 19), zWo Y p l e (zrm 1) s m args below meth c 13 0 0 (fun g9 : zSt => MQ below (zQv Y g9) args s 0 0 (zA Y)) g [(0, .ref (zad Y c0)), (1, .ref (zad Y c1)), (2, .ref (zad Y c2)), (3, .ref (zad Y c3)), (4, .ref (zad Y c4)), (5, .ref (zad Y c5)), (6, .ref (zad Y c6)), (7, .int (i32 a7)), (8, .int (i32 a8))] ([]) 46 (fL_find_p46 k35 fu g c0 c1 c2 c3 c4 c5 c6 a7 a8) := by
  intro fu
  induction fu with
  | zero => intro g c0 c1 c2 c3 c4 c5 c6 a7 a8 hc0 hc1 hc2 hc3 hc4 hc5 hc6; exact zr_none
  | succ fu ih =>
    intro g c0 c1 c2 c3 c4 c5 c6 a7 a8 hc0 hc1 hc2 hc3 hc4 hc5 hc6
    rw [fL_find_p46]
    refine zr_iload (pc' := 48) cx rfl 8 dL_find_46 rfl ?_
    refine zr_iconst (pc' := 49) cx rfl dL_find_48 ?_
    refine zr_icmp_ge (pc' := 52) cx rfl (tgt := 161) dL_find_49 rfl ?_ ?_
    · refine zr_iinc (pc' := 164) cx rfl (lv' := [(7, .int (i32 (a7 + 1))), (0, .ref (zad Y c0)), (1, .ref (zad Y c1)), (2, .ref (zad Y c2)), (3, .ref (zad Y c3)), (4, .ref (zad Y c4)), (5, .ref (zad Y c5)), (6, .ref (zad Y c6)), (8, .int (i32 a8))]) 7 dL_find_161 rfl (by decide) rfl ?_
      refine zr_goto cx (tgt := 35) dL_find_164 rfl ?_
      refine zr_sub [1, 2, 3, 4, 5, 6, 7, 0] rfl ?_
      exact hk35 g c0 c1 c2 c3 c4 c5 c6 (a7 + 1) hc0 hc1 hc2 hc3 hc4 hc5 hc6
    · refine zr_aload (pc' := 54) cx rfl 4 dL_find_52 rfl ?_
      refine zr_iconst (pc' := 55) cx rfl dL_find_54 ?_
      refine zr_aload_n (pc' := 56) cx rfl 0 dL_find_55 rfl rfl ?_
      refine zr_bipush (pc' := 58) cx rfl dL_find_56 (by decide +kernel) ?_
      refine zr_iload (pc' := 60) cx rfl 7 dL_find_58 rfl ?_
      refine zr_imul (pc' := 61) cx rfl dL_find_60 ?_
      refine zr_iald (pc' := 62) cx rfl 16 hc0 (by decide) (L := 56) rfl dL_find_61 ?_
      refine zr_imul (pc' := 63) cx rfl dL_find_62 ?_
      refine zr_aload_n (pc' := 64) cx rfl 0 dL_find_63 rfl rfl ?_
      refine zr_bipush (pc' := 66) cx rfl dL_find_64 (by decide +kernel) ?_
      refine zr_iload (pc' := 68) cx rfl 7 dL_find_66 rfl ?_
      refine zr_imul (pc' := 69) cx rfl dL_find_68 ?_
      refine zr_iconst (pc' := 70) cx rfl dL_find_69 ?_
      refine zr_iadd (pc' := 71) cx rfl dL_find_70 ?_
      refine zr_iald (pc' := 72) cx rfl 16 hc0 (by decide) (L := 56) rfl dL_find_71 ?_
      refine zr_iconst (pc' := 73) cx rfl dL_find_72 ?_
      refine zr_icmp_ne (pc' := 76) cx rfl (tgt := 83) dL_find_73 rfl ?_ ?_
      · refine zr_iload (pc' := 85) cx rfl 8 dL_find_83 rfl ?_
        refine zr_sub [0, 1, 2, 3, 4, 5, 6, 7, 8] rfl ?_
        exact wL_find_p85 cx hk35 ih g c4 (2 * (g.1 c0 (Int.toNat (8 * a7)))) a8 c0 c1 c2 c3 c4 c5 c6 a7 a8 hc4 hc0 hc1 hc2 hc3 hc4 hc5 hc6
      · refine zr_iconst (pc' := 77) cx rfl dL_find_76 ?_
        refine zr_iload (pc' := 79) cx rfl 8 dL_find_77 rfl ?_
        refine zr_isub (pc' := 80) cx rfl dL_find_79 ?_
        refine zr_gotoS cx (tgt := 85) dL_find_80 rfl ?_
        refine zr_sub [0, 1, 2, 3, 4, 5, 6, 7, 8] rfl ?_
        exact wL_find_p85 cx hk35 ih g c4 (2 * (g.1 c0 (Int.toNat (8 * a7)))) (1 - a8) c0 c1 c2 c3 c4 c5 c6 a7 a8 hc4 hc0 hc1 hc2 hc3 hc4 hc5 hc6
theorem wL_find_p423 (cx : zCx Y p s m args meth c RL cL_find 13 none) {k296 : zSt → Nat → Nat → Nat → Nat → Nat → Nat → Int → Int → Int → Option zSt} (hk296 : ∀ (g : zSt) (c0 : Nat) (c2 : Nat) (c3 : Nat) (c4 : Nat) (c5 : Nat) (c6 : Nat) (a8 : Int) (a9 : Int) (a10 : Int) (hc0 : zV Y c0 = 16) (hc2 : zV Y c2 = 17) (hc3 : zV Y c3 = 13) (hc4 : zV Y c4 = 18) (hc5 : zV Y c5 = 18) (hc6 : zV Y c6 = 19), zWo Y p l e (zrm 1) s m args below meth c 13 0 0 (fun g9 : zSt => MQ below (zQv Y g9) args s 0 0 (zA Y)) g [(0, .ref (zad Y c0)), (2, .ref (zad Y c2)), (3, .ref (zad Y c3)), (4, .ref (zad Y c4)), (5, .ref (zad Y c5)), (6, .ref (zad Y c6)), (8, .int (i32 a8)), (9, .int (i32 a9)), (10, .int (i32 a10))] ([]) 296 (k296 g c0 c2 c3 c4 c5 c6 a8 a9 a10)) : ∀ (g : zSt) (c0 : Nat) (c2 : Nat) (c3 : Nat) (c4 : Nat) (c5 : Nat) (c6 : Nat) (a8 : Int) (a9 : Int) (a10 : Int) (a11 : Int) (hc0 : zV Y c0 = 16) (hc2 : zV Y c2 = 17) (hc3 : zV Y c3 = 13) (hc4 : zV Y c4 = 18) (hc5 : zV Y c5 = 18) (hc6 : zV Y c6 = 19), zWo Y p l e (zrm 1) s m args below meth c 13 0 0 (fun g9 : zSt => MQ below (zQv Y g9) args s 0 0 (zA Y)) g [(0, .ref (zad Y c0)), (2, .ref (zad Y c2)), (3, .ref (zad Y c3)), (4, .ref (zad Y c4)), (5, .ref (zad Y c5)), (6, .ref (zad Y c6)), (8, .int (i32 a8)), (9, .int (i32 a9)), (10, .int (i32 a10)), (11, .int (i32 a11))] ([]) 423 (fL_find_p423 k296 g c0 c2 c3 c4 c5 c6 a8 a9 a10 a11) := by
  intro g c0 c2 c3 c4 c5 c6 a8 a9 a10 a11 hc0 hc2 hc3 hc4 hc5 hc6
  unfold fL_find_p423
  refine zr_aload (pc' := 425) cx rfl 4 dL_find_423 rfl ?_
  refine zr_iload (pc' := 427) cx rfl 9 dL_find_425 rfl ?_
  refine zr_dup2 (pc' := 428) cx rfl dL_find_427 rfl rfl ?_
  refine zr_iald (pc' := 429) cx rfl 18 hc5 (by decide) (L := 14) rfl dL_find_428 ?_
  refine zr_aload (pc' := 431) cx rfl 5 dL_find_429 rfl ?_
  refine zr_iload (pc' := 433) cx rfl 8 dL_find_431 rfl ?_
  refine zr_iald (pc' := 434) cx rfl 19 hc6 (by decide) (L := 6) rfl dL_find_433 ?_
  refine zr_iadd (pc' := 435) cx rfl dL_find_434 ?_
  refine zr_iast (pc' := 436) cx rfl 18 hc5 (by decide) (L := 14) rfl dL_find_435 ?_
  refine zr_letS (fun g4 => ?_)
  refine zr_iinc (pc' := 439) cx rfl (lv' := [(10, .int (i32 (a10 + 1))), (0, .ref (zad Y c0)), (2, .ref (zad Y c2)), (3, .ref (zad Y c3)), (4, .ref (zad Y c4)), (5, .ref (zad Y c5)), (6, .ref (zad Y c6)), (8, .int (i32 a8)), (9, .int (i32 a9)), (11, .int (i32 a11))]) 8 dL_find_436 rfl (by decide) rfl ?_
  refine zr_goto cx (tgt := 296) dL_find_439 rfl ?_
  refine zr_sub [1, 2, 3, 4, 5, 6, 7, 8, 0] rfl ?_
  exact hk296 g4 c0 c2 c3 c4 c5 c6 a8 a9 (a10 + 1) hc0 hc2 hc3 hc4 hc5 hc6
theorem wL_find_p404 (cx : zCx Y p s m args meth c RL cL_find 13 none) {k296 : zSt → Nat → Nat → Nat → Nat → Nat → Nat → Int → Int → Int → Option zSt} (hk296 : ∀ (g : zSt) (c0 : Nat) (c2 : Nat) (c3 : Nat) (c4 : Nat) (c5 : Nat) (c6 : Nat) (a8 : Int) (a9 : Int) (a10 : Int) (hc0 : zV Y c0 = 16) (hc2 : zV Y c2 = 17) (hc3 : zV Y c3 = 13) (hc4 : zV Y c4 = 18) (hc5 : zV Y c5 = 18) (hc6 : zV Y c6 = 19), zWo Y p l e (zrm 1) s m args below meth c 13 0 0 (fun g9 : zSt => MQ below (zQv Y g9) args s 0 0 (zA Y)) g [(0, .ref (zad Y c0)), (2, .ref (zad Y c2)), (3, .ref (zad Y c3)), (4, .ref (zad Y c4)), (5, .ref (zad Y c5)), (6, .ref (zad Y c6)), (8, .int (i32 a8)), (9, .int (i32 a9)), (10, .int (i32 a10))] ([]) 296 (k296 g c0 c2 c3 c4 c5 c6 a8 a9 a10)) : ∀ (g : zSt) (c0 : Nat) (c2 : Nat) (c3 : Nat) (c4 : Nat) (c5 : Nat) (c6 : Nat) (a8 : Int) (a9 : Int) (a10 : Int) (a11 : Int) (hc0 : zV Y c0 = 16) (hc2 : zV Y c2 = 17) (hc3 : zV Y c3 = 13) (hc4 : zV Y c4 = 18) (hc5 : zV Y c5 = 18) (hc6 : zV Y c6 = 19), zWo Y p l e (zrm 1) s m args below meth c 13 0 0 (fun g9 : zSt => MQ below (zQv Y g9) args s 0 0 (zA Y)) g [(0, .ref (zad Y c0)), (2, .ref (zad Y c2)), (3, .ref (zad Y c3)), (4, .ref (zad Y c4)), (5, .ref (zad Y c5)), (6, .ref (zad Y c6)), (8, .int (i32 a8)), (9, .int (i32 a9)), (10, .int (i32 a10)), (11, .int (i32 a11))] ([]) 404 (fL_find_p404 k296 g c0 c2 c3 c4 c5 c6 a8 a9 a10 a11) := by
  intro g c0 c2 c3 c4 c5 c6 a8 a9 a10 a11 hc0 hc2 hc3 hc4 hc5 hc6
  unfold fL_find_p404
  refine zr_aload (pc' := 406) cx rfl 3 dL_find_404 rfl ?_
  refine zr_iload (pc' := 408) cx rfl 9 dL_find_406 rfl ?_
  refine zr_iald (pc' := 409) cx rfl 18 hc4 (by decide) (L := 14) rfl dL_find_408 ?_
  refine zr_iconst (pc' := 410) cx rfl dL_find_409 ?_
  refine zr_icmp_ne (pc' := 413) cx rfl (tgt := 423) dL_find_410 rfl ?_ ?_
  · refine zr_sub [0, 1, 2, 3, 4, 5, 6, 7, 8, 9] rfl ?_
    exact wL_find_p423 cx hk296 g c0 c2 c3 c4 c5 c6 a8 a9 a10 a11 hc0 hc2 hc3 hc4 hc5 hc6
  · refine zr_iload (pc' := 415) cx rfl 7 dL_find_413 rfl ?_
    refine zr_aload (pc' := 417) cx rfl 5 dL_find_415 rfl ?_
    refine zr_iload (pc' := 419) cx rfl 8 dL_find_417 rfl ?_
    refine zr_iald (pc' := 420) cx rfl 19 hc6 (by decide) (L := 6) rfl dL_find_419 ?_
    refine zr_isub (pc' := 421) cx rfl dL_find_420 ?_
    refine zr_leti (fun x5 => ?_)
    refine zr_istore (pc' := 423) cx rfl (lv' := [(9, .int (i32 x5)), (0, .ref (zad Y c0)), (2, .ref (zad Y c2)), (3, .ref (zad Y c3)), (4, .ref (zad Y c4)), (5, .ref (zad Y c5)), (6, .ref (zad Y c6)), (8, .int (i32 a8)), (10, .int (i32 a10)), (11, .int (i32 a11))]) dL_find_421 (by decide) rfl ?_
    refine zr_sub [1, 2, 3, 4, 5, 6, 7, 0, 8, 9] rfl ?_
    exact wL_find_p423 cx hk296 g c0 c2 c3 c4 c5 c6 a8 x5 a10 a11 hc0 hc2 hc3 hc4 hc5 hc6
theorem wL_find_p384 (cx : zCx Y p s m args meth c RL cL_find 13 none) {k296 : zSt → Nat → Nat → Nat → Nat → Nat → Nat → Int → Int → Int → Option zSt} (hk296 : ∀ (g : zSt) (c0 : Nat) (c2 : Nat) (c3 : Nat) (c4 : Nat) (c5 : Nat) (c6 : Nat) (a8 : Int) (a9 : Int) (a10 : Int) (hc0 : zV Y c0 = 16) (hc2 : zV Y c2 = 17) (hc3 : zV Y c3 = 13) (hc4 : zV Y c4 = 18) (hc5 : zV Y c5 = 18) (hc6 : zV Y c6 = 19), zWo Y p l e (zrm 1) s m args below meth c 13 0 0 (fun g9 : zSt => MQ below (zQv Y g9) args s 0 0 (zA Y)) g [(0, .ref (zad Y c0)), (2, .ref (zad Y c2)), (3, .ref (zad Y c3)), (4, .ref (zad Y c4)), (5, .ref (zad Y c5)), (6, .ref (zad Y c6)), (8, .int (i32 a8)), (9, .int (i32 a9)), (10, .int (i32 a10))] ([]) 296 (k296 g c0 c2 c3 c4 c5 c6 a8 a9 a10)) : ∀ (g : zSt) (yc0 : Nat) (y1 : Int) (y2 : Int) (c0 : Nat) (c2 : Nat) (c3 : Nat) (c4 : Nat) (c5 : Nat) (c6 : Nat) (a8 : Int) (a9 : Int) (a10 : Int) (a11 : Int) (hyc0 : zV Y yc0 = 19) (hc0 : zV Y c0 = 16) (hc2 : zV Y c2 = 17) (hc3 : zV Y c3 = 13) (hc4 : zV Y c4 = 18) (hc5 : zV Y c5 = 18) (hc6 : zV Y c6 = 19), zWo Y p l e (zrm 1) s m args below meth c 13 0 0 (fun g9 : zSt => MQ below (zQv Y g9) args s 0 0 (zA Y)) g [(0, .ref (zad Y c0)), (2, .ref (zad Y c2)), (3, .ref (zad Y c3)), (4, .ref (zad Y c4)), (5, .ref (zad Y c5)), (6, .ref (zad Y c6)), (8, .int (i32 a8)), (9, .int (i32 a9)), (10, .int (i32 a10)), (11, .int (i32 a11))] (.int (i32 y2) :: .int (i32 y1) :: .ref (zad Y yc0) :: []) 384 (fL_find_p384 k296 g yc0 y1 y2 c0 c2 c3 c4 c5 c6 a8 a9 a10 a11) := by
  intro g yc0 y1 y2 c0 c2 c3 c4 c5 c6 a8 a9 a10 a11 hyc0 hc0 hc2 hc3 hc4 hc5 hc6
  unfold fL_find_p384
  refine zr_iast (pc' := 385) cx rfl 19 hyc0 (by decide) (L := 6) rfl dL_find_384 ?_
  refine zr_letS (fun g6 => ?_)
  refine zr_aload (pc' := 387) cx rfl 3 dL_find_385 rfl ?_
  refine zr_iload (pc' := 389) cx rfl 9 dL_find_387 rfl ?_
  refine zr_iald (pc' := 390) cx rfl 18 hc4 (by decide) (L := 14) rfl dL_find_389 ?_
  refine zr_iconst (pc' := 391) cx rfl dL_find_390 ?_
  refine zr_icmp_ne (pc' := 394) cx rfl (tgt := 404) dL_find_391 rfl ?_ ?_
  · refine zr_sub [0, 1, 2, 3, 4, 5, 6, 7, 8, 9] rfl ?_
    exact wL_find_p404 cx hk296 g6 c0 c2 c3 c4 c5 c6 a8 a9 a10 a11 hc0 hc2 hc3 hc4 hc5 hc6
  · refine zr_iload (pc' := 396) cx rfl 6 dL_find_394 rfl ?_
    refine zr_aload (pc' := 398) cx rfl 5 dL_find_396 rfl ?_
    refine zr_iload (pc' := 400) cx rfl 8 dL_find_398 rfl ?_
    refine zr_iald (pc' := 401) cx rfl 19 hc6 (by decide) (L := 6) rfl dL_find_400 ?_
    refine zr_isub (pc' := 402) cx rfl dL_find_401 ?_
    refine zr_leti (fun x7 => ?_)
    refine zr_istore (pc' := 404) cx rfl (lv' := [(8, .int (i32 x7)), (0, .ref (zad Y c0)), (2, .ref (zad Y c2)), (3, .ref (zad Y c3)), (4, .ref (zad Y c4)), (5, .ref (zad Y c5)), (6, .ref (zad Y c6)), (9, .int (i32 a9)), (10, .int (i32 a10)), (11, .int (i32 a11))]) dL_find_402 (by decide) rfl ?_
    refine zr_sub [1, 2, 3, 4, 5, 6, 0, 7, 8, 9] rfl ?_
    exact wL_find_p404 cx hk296 g6 c0 c2 c3 c4 c5 c6 x7 a9 a10 a11 hc0 hc2 hc3 hc4 hc5 hc6
theorem wL_find_p352 (cx : zCx Y p s m args meth c RL cL_find 13 none) {k296 : zSt → Nat → Nat → Nat → Nat → Nat → Nat → Int → Int → Int → Option zSt} (hk296 : ∀ (g : zSt) (c0 : Nat) (c2 : Nat) (c3 : Nat) (c4 : Nat) (c5 : Nat) (c6 : Nat) (a8 : Int) (a9 : Int) (a10 : Int) (hc0 : zV Y c0 = 16) (hc2 : zV Y c2 = 17) (hc3 : zV Y c3 = 13) (hc4 : zV Y c4 = 18) (hc5 : zV Y c5 = 18) (hc6 : zV Y c6 = 19), zWo Y p l e (zrm 1) s m args below meth c 13 0 0 (fun g9 : zSt => MQ below (zQv Y g9) args s 0 0 (zA Y)) g [(0, .ref (zad Y c0)), (2, .ref (zad Y c2)), (3, .ref (zad Y c3)), (4, .ref (zad Y c4)), (5, .ref (zad Y c5)), (6, .ref (zad Y c6)), (8, .int (i32 a8)), (9, .int (i32 a9)), (10, .int (i32 a10))] ([]) 296 (k296 g c0 c2 c3 c4 c5 c6 a8 a9 a10)) : ∀ (g : zSt) (y0 : Int) (c0 : Nat) (c2 : Nat) (c3 : Nat) (c4 : Nat) (c5 : Nat) (c6 : Nat) (a8 : Int) (a9 : Int) (a10 : Int) (a11 : Int) (hc0 : zV Y c0 = 16) (hc2 : zV Y c2 = 17) (hc3 : zV Y c3 = 13) (hc4 : zV Y c4 = 18) (hc5 : zV Y c5 = 18) (hc6 : zV Y c6 = 19), zWo Y p l e (zrm 1) s m args below meth c 13 0 0 (fun g9 : zSt => MQ below (zQv Y g9) args s 0 0 (zA Y)) g [(0, .ref (zad Y c0)), (2, .ref (zad Y c2)), (3, .ref (zad Y c3)), (4, .ref (zad Y c4)), (5, .ref (zad Y c5)), (6, .ref (zad Y c6)), (8, .int (i32 a8)), (9, .int (i32 a9)), (10, .int (i32 a10)), (11, .int (i32 a11))] (.int (i32 y0) :: []) 352 (fL_find_p352 k296 g y0 c0 c2 c3 c4 c5 c6 a8 a9 a10 a11) := by
  intro g y0 c0 c2 c3 c4 c5 c6 a8 a9 a10 a11 hc0 hc2 hc3 hc4 hc5 hc6
  unfold fL_find_p352
  refine zr_istore (pc' := 354) cx rfl (lv' := [(12, .int (i32 y0)), (0, .ref (zad Y c0)), (2, .ref (zad Y c2)), (3, .ref (zad Y c3)), (4, .ref (zad Y c4)), (5, .ref (zad Y c5)), (6, .ref (zad Y c6)), (8, .int (i32 a8)), (9, .int (i32 a9)), (10, .int (i32 a10)), (11, .int (i32 a11))]) dL_find_352 (by decide) rfl ?_
  refine zr_aload (pc' := 356) cx rfl 6 dL_find_354 rfl ?_
  refine zr_iload (pc' := 358) cx rfl 9 dL_find_356 rfl ?_
  refine zr_aload_n (pc' := 359) cx rfl 2 dL_find_358 rfl rfl ?_
  refine zr_iconst (pc' := 360) cx rfl dL_find_359 ?_
  refine zr_iload (pc' := 362) cx rfl 9 dL_find_360 rfl ?_
  refine zr_imul (pc' := 363) cx rfl dL_find_362 ?_
  refine zr_iconst (pc' := 364) cx rfl dL_find_363 ?_
  refine zr_iadd (pc' := 365) cx rfl dL_find_364 ?_
  refine zr_iald (pc' := 366) cx rfl 17 hc2 (by decide) (L := 18) rfl dL_find_365 ?_
  refine zr_iload (pc' := 368) cx rfl 0 dL_find_366 rfl ?_
  refine zr_icmp_ge (pc' := 371) cx rfl (tgt := 382) dL_find_368 rfl ?_ ?_
  · refine zr_iload (pc' := 384) cx rfl 0 dL_find_382 rfl ?_
    refine zr_sub [1, 2, 3, 4, 5, 6, 7, 8, 9, 10] rfl ?_
    exact wL_find_p384 cx hk296 g c6 a10 y0 c0 c2 c3 c4 c5 c6 a8 a9 a10 a11 hc6 hc0 hc2 hc3 hc4 hc5 hc6
  · refine zr_aload_n (pc' := 372) cx rfl 2 dL_find_371 rfl rfl ?_
    refine zr_iconst (pc' := 373) cx rfl dL_find_372 ?_
    refine zr_iload (pc' := 375) cx rfl 9 dL_find_373 rfl ?_
    refine zr_imul (pc' := 376) cx rfl dL_find_375 ?_
    refine zr_iconst (pc' := 377) cx rfl dL_find_376 ?_
    refine zr_iadd (pc' := 378) cx rfl dL_find_377 ?_
    refine zr_iald (pc' := 379) cx rfl 17 hc2 (by decide) (L := 18) rfl dL_find_378 ?_
    refine zr_gotoS cx (tgt := 384) dL_find_379 rfl ?_
    refine zr_sub [1, 2, 3, 4, 5, 6, 7, 8, 9, 10] rfl ?_
    exact wL_find_p384 cx hk296 g c6 a10 (g.1 c2 (Int.toNat ((3 * a10) + 2))) c0 c2 c3 c4 c5 c6 a8 a9 a10 a11 hc6 hc0 hc2 hc3 hc4 hc5 hc6
theorem wL_find_p496 (cx : zCx Y p s m args meth c RL cL_find 13 none) {k449 : zSt → Nat → Nat → Int → Option zSt} {k457 : zSt → Nat → Nat → Int → Int → Option zSt} (hk449 : ∀ (g : zSt) (c0 : Nat) (c5 : Nat) (a10 : Int) (hc0 : zV Y c0 = 16) (hc5 : zV Y c5 = 18), zWo Y p l e (zrm 1) s m args below meth c 13 0 0 (fun g9 : zSt => MQ below (zQv Y g9) args s 0 0 (zA Y)) g [(0, .ref (zad Y c0)), (5, .ref (zad Y c5)), (10, .int (i32 a10))] ([]) 449 (k449 g c0 c5 a10)) (hk457 : ∀ (g : zSt) (c0 : Nat) (c5 : Nat) (a10 : Int) (a11 : Int) (hc0 : zV Y c0 = 16) (hc5 : zV Y c5 = 18), zWo Y p l e (zrm 1) s m args below meth c 13 0 0 (fun g9 : zSt => MQ below (zQv Y g9) args s 0 0 (zA Y)) g [(0, .ref (zad Y c0)), (5, .ref (zad Y c5)), (10, .int (i32 a10)), (11, .int (i32 a11))] ([]) 457 (k457 g c0 c5 a10 a11)) : ∀ (g : zSt) (yc0 : Nat) (y1 : Int) (y2 : Int) (c0 : Nat) (c5 : Nat) (a10 : Int) (a11 : Int) (hyc0 : zV Y yc0 = 18) (hc0 : zV Y c0 = 16) (hc5 : zV Y c5 = 18), zWo Y p l e (zrm 1) s m args below meth c 13 0 0 (fun g9 : zSt => MQ below (zQv Y g9) args s 0 0 (zA Y)) g [(0, .ref (zad Y c0)), (5, .ref (zad Y c5)), (10, .int (i32 a10)), (11, .int (i32 a11))] (.int (i32 y2) :: .int (i32 y1) :: .ref (zad Y yc0) :: []) 496 (fL_find_p496 k449 k457 g yc0 y1 y2 c0 c5 a10 a11) := by
  intro g yc0 y1 y2 c0 c5 a10 a11 hyc0 hc0 hc5
  unfold fL_find_p496
  refine zr_iadd (pc' := 497) cx rfl dL_find_496 ?_
  refine zr_leti (fun x8 => ?_)
  refine zr_dup2 (pc' := 498) cx rfl dL_find_497 rfl rfl ?_
  refine zr_iald (pc' := 499) cx rfl 18 hyc0 (by decide) (L := 14) rfl dL_find_498 ?_
  refine zr_aload (pc' := 501) cx rfl 1 dL_find_499 rfl ?_
  refine zr_iconst (pc' := 502) cx rfl dL_find_501 ?_
  refine zr_iload (pc' := 504) cx rfl 2 dL_find_502 rfl ?_
  refine zr_imul (pc' := 505) cx rfl dL_find_504 ?_
  refine zr_iload (pc' := 507) cx rfl 3 dL_find_505 rfl ?_
  refine zr_iadd (pc' := 508) cx rfl dL_find_507 ?_
  refine zr_iald (pc' := 509) cx rfl 18 hc5 (by decide) (L := 14) rfl dL_find_508 ?_
  refine zr_iadd (pc' := 510) cx rfl dL_find_509 ?_
  refine zr_iast (pc' := 511) cx rfl 18 hyc0 (by decide) (L := 14) rfl dL_find_510 ?_
  refine zr_letS (fun g9 => ?_)
  refine zr_iinc (pc' := 514) cx rfl (lv' := [(11, .int (i32 (a11 + 1))), (0, .ref (zad Y c0)), (5, .ref (zad Y c5)), (10, .int (i32 a10))]) 3 dL_find_511 rfl (by decide) rfl ?_
  refine zr_goto cx (tgt := 457) dL_find_514 rfl ?_
  refine zr_sub [1, 2, 3, 0] rfl ?_
  exact hk457 g9 c0 c5 a10 (a11 + 1) hc0 hc5
theorem wL_find_p457 (cx : zCx Y p s m args meth c RL cL_find 13 none) {k449 : zSt → Nat → Nat → Int → Option zSt} (hk449 : ∀ (g : zSt) (c0 : Nat) (c5 : Nat) (a10 : Int) (hc0 : zV Y c0 = 16) (hc5 : zV Y c5 = 18), zWo Y p l e (zrm 1) s m args below meth c 13 0 0 (fun g9 : zSt => MQ below (zQv Y g9) args s 0 0 (zA Y)) g [(0, .ref (zad Y c0)), (5, .ref (zad Y c5)), (10, .int (i32 a10))] ([]) 449 (k449 g c0 c5 a10)) : ∀ (fu : Nat) (g : zSt) (c0 : Nat) (c5 : Nat) (a10 : Int) (a11 : Int) (hc0 : zV Y c0 = 16) (hc5 : zV Y c5 = 18), zWo Y p l e (zrm 1) s m args below meth c 13 0 0 (fun g9 : zSt => MQ below (zQv Y g9) args s 0 0 (zA Y)) g [(0, .ref (zad Y c0)), (5, .ref (zad Y c5)), (10, .int (i32 a10)), (11, .int (i32 a11))] ([]) 457 (fL_find_p457 k449 fu g c0 c5 a10 a11) := by
  intro fu
  induction fu with
  | zero => intro g c0 c5 a10 a11 hc0 hc5; exact zr_none
  | succ fu ih =>
    intro g c0 c5 a10 a11 hc0 hc5
    rw [fL_find_p457]
    refine zr_iload (pc' := 459) cx rfl 3 dL_find_457 rfl ?_
    refine zr_iconst (pc' := 460) cx rfl dL_find_459 ?_
    refine zr_icmp_ge (pc' := 463) cx rfl (tgt := 517) dL_find_460 rfl ?_ ?_
    · refine zr_iinc (pc' := 520) cx rfl (lv' := [(10, .int (i32 (a10 + (-1)))), (0, .ref (zad Y c0)), (5, .ref (zad Y c5)), (11, .int (i32 a11))]) 2 dL_find_517 rfl (by decide) rfl ?_
      refine zr_goto cx (tgt := 449) dL_find_520 rfl ?_
      refine zr_sub [1, 2, 0] rfl ?_
      exact hk449 g c0 c5 (a10 + (-1)) hc0 hc5
    · refine zr_aload (pc' := 465) cx rfl 1 dL_find_463 rfl ?_
      refine zr_iconst (pc' := 466) cx rfl dL_find_465 ?_
      refine zr_aload_n (pc' := 467) cx rfl 0 dL_find_466 rfl rfl ?_
      refine zr_bipush (pc' := 469) cx rfl dL_find_467 (by decide +kernel) ?_
      refine zr_iload (pc' := 471) cx rfl 2 dL_find_469 rfl ?_
      refine zr_imul (pc' := 472) cx rfl dL_find_471 ?_
      refine zr_iald (pc' := 473) cx rfl 16 hc0 (by decide) (L := 56) rfl dL_find_472 ?_
      refine zr_imul (pc' := 474) cx rfl dL_find_473 ?_
      refine zr_aload_n (pc' := 475) cx rfl 0 dL_find_474 rfl rfl ?_
      refine zr_bipush (pc' := 477) cx rfl dL_find_475 (by decide +kernel) ?_
      refine zr_iload (pc' := 479) cx rfl 2 dL_find_477 rfl ?_
      refine zr_imul (pc' := 480) cx rfl dL_find_479 ?_
      refine zr_iconst (pc' := 481) cx rfl dL_find_480 ?_
      refine zr_iadd (pc' := 482) cx rfl dL_find_481 ?_
      refine zr_iald (pc' := 483) cx rfl 16 hc0 (by decide) (L := 56) rfl dL_find_482 ?_
      refine zr_iconst (pc' := 484) cx rfl dL_find_483 ?_
      refine zr_icmp_ne (pc' := 487) cx rfl (tgt := 494) dL_find_484 rfl ?_ ?_
      · refine zr_iload (pc' := 496) cx rfl 3 dL_find_494 rfl ?_
        refine zr_sub [0, 1, 2, 3] rfl ?_
        exact wL_find_p496 cx hk449 ih g c5 (2 * (g.1 c0 (Int.toNat (8 * a10)))) a11 c0 c5 a10 a11 hc5 hc0 hc5
      · refine zr_iconst (pc' := 488) cx rfl dL_find_487 ?_
        refine zr_iload (pc' := 490) cx rfl 3 dL_find_488 rfl ?_
        refine zr_isub (pc' := 491) cx rfl dL_find_490 ?_
        refine zr_gotoS cx (tgt := 496) dL_find_491 rfl ?_
        refine zr_sub [0, 1, 2, 3] rfl ?_
        exact wL_find_p496 cx hk449 ih g c5 (2 * (g.1 c0 (Int.toNat (8 * a10)))) (1 - a11) c0 c5 a10 a11 hc5 hc0 hc5
theorem wL_find_p449 (cx : zCx Y p s m args meth c RL cL_find 13 none)   : ∀ (fu : Nat) (g : zSt) (c0 : Nat) (c5 : Nat) (a10 : Int) (hc0 : zV Y c0 = 16) (hc5 : zV Y c5 = 18), zWo Y p l e (zrm 1) s m args below meth c 13 0 0 (fun g9 : zSt => MQ below (zQv Y g9) args s 0 0 (zA Y)) g [(0, .ref (zad Y c0)), (5, .ref (zad Y c5)), (10, .int (i32 a10))] ([]) 449 (fL_find_p449 fu g c0 c5 a10) := by
  intro fu
  induction fu with
  | zero => intro g c0 c5 a10 hc0 hc5; exact zr_none
  | succ fu ih =>
    intro g c0 c5 a10 hc0 hc5
    rw [fL_find_p449]
    refine zr_iload (pc' := 451) cx rfl 2 dL_find_449 rfl ?_
    refine zr_if_le (pc' := 454) cx rfl (tgt := 523) dL_find_451 rfl ?_ ?_
    · exact zr_vretE cx dL_find_523
    · refine zr_iconst (pc' := 455) cx rfl dL_find_454 ?_
      refine zr_istore (pc' := 457) cx rfl (lv' := [(11, .int (i32 0)), (0, .ref (zad Y c0)), (5, .ref (zad Y c5)), (10, .int (i32 a10))]) dL_find_455 (by decide) rfl ?_
      refine zr_sub [1, 2, 3, 0] rfl ?_
      exact wL_find_p457 cx ih zfu g c0 c5 a10 0 hc0 hc5
theorem wL_find_p296 (cx : zCx Y p s m args meth c RL cL_find 13 none)   : ∀ (fu : Nat) (g : zSt) (c0 : Nat) (c2 : Nat) (c3 : Nat) (c4 : Nat) (c5 : Nat) (c6 : Nat) (a8 : Int) (a9 : Int) (a10 : Int) (hc0 : zV Y c0 = 16) (hc2 : zV Y c2 = 17) (hc3 : zV Y c3 = 13) (hc4 : zV Y c4 = 18) (hc5 : zV Y c5 = 18) (hc6 : zV Y c6 = 19), zWo Y p l e (zrm 1) s m args below meth c 13 0 0 (fun g9 : zSt => MQ below (zQv Y g9) args s 0 0 (zA Y)) g [(0, .ref (zad Y c0)), (2, .ref (zad Y c2)), (3, .ref (zad Y c3)), (4, .ref (zad Y c4)), (5, .ref (zad Y c5)), (6, .ref (zad Y c6)), (8, .int (i32 a8)), (9, .int (i32 a9)), (10, .int (i32 a10))] ([]) 296 (fL_find_p296 fu g c0 c2 c3 c4 c5 c6 a8 a9 a10) := by
  intro fu
  induction fu with
  | zero => intro g c0 c2 c3 c4 c5 c6 a8 a9 a10 hc0 hc2 hc3 hc4 hc5 hc6; exact zr_none
  | succ fu ih =>
    intro g c0 c2 c3 c4 c5 c6 a8 a9 a10 hc0 hc2 hc3 hc4 hc5 hc6
    rw [fL_find_p296]
    refine zr_iload (pc' := 298) cx rfl 8 dL_find_296 rfl ?_
    refine zr_aload_n (pc' := 299) cx rfl 2 dL_find_298 rfl rfl ?_
    refine zr_iconst (pc' := 300) cx rfl dL_find_299 ?_
    refine zr_iald (pc' := 301) cx rfl 13 hc3 (by decide) (L := 9) rfl dL_find_300 ?_
    refine zr_icmp_ge (pc' := 304) cx rfl (tgt := 442) dL_find_301 rfl ?_ ?_
    · refine zr_aload_n (pc' := 443) cx rfl 2 dL_find_442 rfl rfl ?_
      refine zr_iconst (pc' := 444) cx rfl dL_find_443 ?_
      refine zr_iald (pc' := 445) cx rfl 13 hc3 (by decide) (L := 9) rfl dL_find_444 ?_
      refine zr_iconst (pc' := 446) cx rfl dL_find_445 ?_
      refine zr_isub (pc' := 447) cx rfl dL_find_446 ?_
      refine zr_leti (fun x10 => ?_)
      refine zr_istore (pc' := 449) cx rfl (lv' := [(10, .int (i32 x10)), (0, .ref (zad Y c0)), (2, .ref (zad Y c2)), (3, .ref (zad Y c3)), (4, .ref (zad Y c4)), (5, .ref (zad Y c5)), (6, .ref (zad Y c6)), (8, .int (i32 a8)), (9, .int (i32 a9))]) dL_find_447 (by decide) rfl ?_
      refine zr_sub [1, 5, 0] rfl ?_
      exact wL_find_p449 cx zfu g c0 c5 x10 hc0 hc5
    · refine zr_iconst (pc' := 305) cx rfl dL_find_304 ?_
      refine zr_aload_n (pc' := 306) cx rfl 1 dL_find_305 rfl rfl ?_
      refine zr_iconst (pc' := 307) cx rfl dL_find_306 ?_
      refine zr_iload (pc' := 309) cx rfl 8 dL_find_307 rfl ?_
      refine zr_imul (pc' := 310) cx rfl dL_find_309 ?_
      refine zr_iald (pc' := 311) cx rfl 17 hc2 (by decide) (L := 18) rfl dL_find_310 ?_
      refine zr_imul (pc' := 312) cx rfl dL_find_311 ?_
      refine zr_aload_n (pc' := 313) cx rfl 1 dL_find_312 rfl rfl ?_
      refine zr_iconst (pc' := 314) cx rfl dL_find_313 ?_
      refine zr_iload (pc' := 316) cx rfl 8 dL_find_314 rfl ?_
      refine zr_imul (pc' := 317) cx rfl dL_find_316 ?_
      refine zr_iconst (pc' := 318) cx rfl dL_find_317 ?_
      refine zr_iadd (pc' := 319) cx rfl dL_find_318 ?_
      refine zr_iald (pc' := 320) cx rfl 17 hc2 (by decide) (L := 18) rfl dL_find_319 ?_
      refine zr_iadd (pc' := 321) cx rfl dL_find_320 ?_
      refine zr_leti (fun x11 => ?_)
      refine zr_istore (pc' := 323) cx rfl (lv' := [(11, .int (i32 x11)), (0, .ref (zad Y c0)), (2, .ref (zad Y c2)), (3, .ref (zad Y c3)), (4, .ref (zad Y c4)), (5, .ref (zad Y c5)), (6, .ref (zad Y c6)), (8, .int (i32 a8)), (9, .int (i32 a9)), (10, .int (i32 a10))]) dL_find_321 (by decide) rfl ?_
      refine zr_aload (pc' := 325) cx rfl 4 dL_find_323 rfl ?_
      refine zr_iload (pc' := 327) cx rfl 0 dL_find_325 rfl ?_
      refine zr_iald (pc' := 328) cx rfl 18 hc4 (by decide) (L := 14) rfl dL_find_327 ?_
      refine zr_iconst (pc' := 329) cx rfl dL_find_328 ?_
      refine zr_icmp_ne (pc' := 332) cx rfl (tgt := 337) dL_find_329 rfl ?_ ?_
      · refine zr_aload (pc' := 339) cx rfl 4 dL_find_337 rfl ?_
        refine zr_iload (pc' := 341) cx rfl 0 dL_find_339 rfl ?_
        refine zr_iald (pc' := 342) cx rfl 18 hc4 (by decide) (L := 14) rfl dL_find_341 ?_
        refine zr_iconst (pc' := 343) cx rfl dL_find_342 ?_
        refine zr_icmp_ne (pc' := 346) cx rfl (tgt := 351) dL_find_343 rfl ?_ ?_
        · refine zr_iconst (pc' := 352) cx rfl dL_find_351 ?_
          refine zr_sub [1, 2, 3, 4, 5, 6, 7, 8, 9, 0] rfl ?_
          exact wL_find_p352 cx ih g 0 c0 c2 c3 c4 c5 c6 a8 a9 a10 x11 hc0 hc2 hc3 hc4 hc5 hc6
        · refine zr_iload (pc' := 348) cx rfl 8 dL_find_346 rfl ?_
          refine zr_gotoS cx (tgt := 352) dL_find_348 rfl ?_
          refine zr_sub [1, 2, 3, 4, 5, 6, 7, 8, 9, 0] rfl ?_
          exact wL_find_p352 cx ih g a9 c0 c2 c3 c4 c5 c6 a8 a9 a10 x11 hc0 hc2 hc3 hc4 hc5 hc6
      · refine zr_iload (pc' := 334) cx rfl 7 dL_find_332 rfl ?_
        refine zr_gotoS cx (tgt := 352) dL_find_334 rfl ?_
        refine zr_sub [1, 2, 3, 4, 5, 6, 7, 8, 9, 0] rfl ?_
        exact wL_find_p352 cx ih g a8 c0 c2 c3 c4 c5 c6 a8 a9 a10 x11 hc0 hc2 hc3 hc4 hc5 hc6
theorem wL_find_p170 (cx : zCx Y p s m args meth c RL cL_find 13 none)   : ∀ (fu : Nat) (g : zSt) (c0 : Nat) (c1 : Nat) (c2 : Nat) (c3 : Nat) (c4 : Nat) (c5 : Nat) (c6 : Nat) (a7 : Int) (hc0 : zV Y c0 = 16) (hc1 : zV Y c1 = 11) (hc2 : zV Y c2 = 17) (hc3 : zV Y c3 = 13) (hc4 : zV Y c4 = 18) (hc5 : zV Y c5 = 18) (hc6 : zV Y c6 = 19), zWo Y p l e (zrm 1) s m args below meth c 13 0 0 (fun g9 : zSt => MQ below (zQv Y g9) args s 0 0 (zA Y)) g [(0, .ref (zad Y c0)), (1, .ref (zad Y c1)), (2, .ref (zad Y c2)), (3, .ref (zad Y c3)), (4, .ref (zad Y c4)), (5, .ref (zad Y c5)), (6, .ref (zad Y c6)), (7, .int (i32 a7))] ([]) 170 (fL_find_p170 fu g c0 c1 c2 c3 c4 c5 c6 a7) := by
  intro fu
  induction fu with
  | zero => intro g c0 c1 c2 c3 c4 c5 c6 a7 hc0 hc1 hc2 hc3 hc4 hc5 hc6; exact zr_none
  | succ fu ih =>
    intro g c0 c1 c2 c3 c4 c5 c6 a7 hc0 hc1 hc2 hc3 hc4 hc5 hc6
    rw [fL_find_p170]
    refine zr_iload (pc' := 172) cx rfl 7 dL_find_170 rfl ?_
    refine zr_aload_n (pc' := 173) cx rfl 3 dL_find_172 rfl rfl ?_
    refine zr_iconst (pc' := 174) cx rfl dL_find_173 ?_
    refine zr_iald (pc' := 175) cx rfl 13 hc3 (by decide) (L := 9) rfl dL_find_174 ?_
    refine zr_icmp_ge (pc' := 178) cx rfl (tgt := 245) dL_find_175 rfl ?_ ?_
    · refine zr_iconst (pc' := 246) cx rfl dL_find_245 ?_
      refine zr_aload_n (pc' := 247) cx rfl 2 dL_find_246 rfl rfl ?_
      refine zr_aload_n (pc' := 248) cx rfl 3 dL_find_247 rfl rfl ?_
      refine zr_aload (pc' := 250) cx rfl 4 dL_find_248 rfl ?_
      refine zc_L_14 (pc' := 253) cx rfl hc2 hc3 hc4 ⟨Nat.le_of_ble_eq_true rfl, Nat.le_of_ble_eq_true rfl⟩ ⟨Nat.zero_le _, Nat.zero_le _⟩ (Nat.le_of_ble_eq_true rfl) dL_find_250 (fun v12 => ?_)
      refine zr_iconst (pc' := 254) cx rfl dL_find_253 ?_
      refine zr_aload_n (pc' := 255) cx rfl 2 dL_find_254 rfl rfl ?_
      refine zr_aload_n (pc' := 256) cx rfl 3 dL_find_255 rfl rfl ?_
      refine zr_aload (pc' := 258) cx rfl 4 dL_find_256 rfl ?_
      refine zc_L_14 (pc' := 261) cx rfl hc2 hc3 hc4 ⟨Nat.le_of_ble_eq_true rfl, Nat.le_of_ble_eq_true rfl⟩ ⟨Nat.zero_le _, Nat.zero_le _⟩ (Nat.le_of_ble_eq_true rfl) dL_find_258 (fun v13 => ?_)
      refine zr_icmp_ge (pc' := 264) cx rfl (tgt := 275) dL_find_261 rfl ?_ ?_
      · refine zr_iconst (pc' := 276) cx rfl dL_find_275 ?_
        refine zr_aload_n (pc' := 277) cx rfl 2 dL_find_276 rfl rfl ?_
        refine zr_aload_n (pc' := 278) cx rfl 3 dL_find_277 rfl rfl ?_
        refine zr_aload (pc' := 280) cx rfl 4 dL_find_278 rfl ?_
        refine zc_L_14 (pc' := 283) cx rfl hc2 hc3 hc4 ⟨Nat.le_of_ble_eq_true rfl, Nat.le_of_ble_eq_true rfl⟩ ⟨Nat.zero_le _, Nat.zero_le _⟩ (Nat.le_of_ble_eq_true rfl) dL_find_280 (fun v14 => ?_)
        refine zr_istore (pc' := 285) cx rfl (lv' := [(7, .int (i32 v14)), (0, .ref (zad Y c0)), (1, .ref (zad Y c1)), (2, .ref (zad Y c2)), (3, .ref (zad Y c3)), (4, .ref (zad Y c4)), (5, .ref (zad Y c5)), (6, .ref (zad Y c6))]) dL_find_283 (by decide) rfl ?_
        refine zr_iload (pc' := 287) cx rfl 0 dL_find_285 rfl ?_
        refine zr_istore (pc' := 289) cx rfl (lv' := [(8, .int (i32 v14)), (7, .int (i32 v14)), (0, .ref (zad Y c0)), (1, .ref (zad Y c1)), (2, .ref (zad Y c2)), (3, .ref (zad Y c3)), (4, .ref (zad Y c4)), (5, .ref (zad Y c5)), (6, .ref (zad Y c6))]) dL_find_287 (by decide) rfl ?_
        refine zr_iload (pc' := 291) cx rfl 1 dL_find_289 rfl ?_
        refine zr_istore (pc' := 293) cx rfl (lv' := [(9, .int (i32 v14)), (8, .int (i32 v14)), (7, .int (i32 v14)), (0, .ref (zad Y c0)), (1, .ref (zad Y c1)), (2, .ref (zad Y c2)), (3, .ref (zad Y c3)), (4, .ref (zad Y c4)), (5, .ref (zad Y c5)), (6, .ref (zad Y c6))]) dL_find_291 (by decide) rfl ?_
        refine zr_iconst (pc' := 294) cx rfl dL_find_293 ?_
        refine zr_istore (pc' := 296) cx rfl (lv' := [(10, .int (i32 0)), (9, .int (i32 v14)), (8, .int (i32 v14)), (7, .int (i32 v14)), (0, .ref (zad Y c0)), (1, .ref (zad Y c1)), (2, .ref (zad Y c2)), (3, .ref (zad Y c3)), (4, .ref (zad Y c4)), (5, .ref (zad Y c5)), (6, .ref (zad Y c6))]) dL_find_294 (by decide) rfl ?_
        refine zr_sub [4, 6, 7, 8, 9, 10, 2, 1, 0] rfl ?_
        exact wL_find_p296 cx zfu g c0 c2 c3 c4 c5 c6 v14 v14 0 hc0 hc2 hc3 hc4 hc5 hc6
      · refine zr_iconst (pc' := 265) cx rfl dL_find_264 ?_
        refine zr_aload_n (pc' := 266) cx rfl 2 dL_find_265 rfl rfl ?_
        refine zr_aload_n (pc' := 267) cx rfl 3 dL_find_266 rfl rfl ?_
        refine zr_aload (pc' := 269) cx rfl 4 dL_find_267 rfl ?_
        refine zc_L_14 (pc' := 272) cx rfl hc2 hc3 hc4 ⟨Nat.le_of_ble_eq_true rfl, Nat.le_of_ble_eq_true rfl⟩ ⟨Nat.zero_le _, Nat.zero_le _⟩ (Nat.le_of_ble_eq_true rfl) dL_find_269 (fun v15 => ?_)
        refine zr_gotoS cx (tgt := 283) dL_find_272 rfl ?_
        refine zr_istore (pc' := 285) cx rfl (lv' := [(7, .int (i32 v15)), (0, .ref (zad Y c0)), (1, .ref (zad Y c1)), (2, .ref (zad Y c2)), (3, .ref (zad Y c3)), (4, .ref (zad Y c4)), (5, .ref (zad Y c5)), (6, .ref (zad Y c6))]) dL_find_283 (by decide) rfl ?_
        refine zr_iload (pc' := 287) cx rfl 0 dL_find_285 rfl ?_
        refine zr_istore (pc' := 289) cx rfl (lv' := [(8, .int (i32 v15)), (7, .int (i32 v15)), (0, .ref (zad Y c0)), (1, .ref (zad Y c1)), (2, .ref (zad Y c2)), (3, .ref (zad Y c3)), (4, .ref (zad Y c4)), (5, .ref (zad Y c5)), (6, .ref (zad Y c6))]) dL_find_287 (by decide) rfl ?_
        refine zr_iload (pc' := 291) cx rfl 1 dL_find_289 rfl ?_
        refine zr_istore (pc' := 293) cx rfl (lv' := [(9, .int (i32 v15)), (8, .int (i32 v15)), (7, .int (i32 v15)), (0, .ref (zad Y c0)), (1, .ref (zad Y c1)), (2, .ref (zad Y c2)), (3, .ref (zad Y c3)), (4, .ref (zad Y c4)), (5, .ref (zad Y c5)), (6, .ref (zad Y c6))]) dL_find_291 (by decide) rfl ?_
        refine zr_iconst (pc' := 294) cx rfl dL_find_293 ?_
        refine zr_istore (pc' := 296) cx rfl (lv' := [(10, .int (i32 0)), (9, .int (i32 v15)), (8, .int (i32 v15)), (7, .int (i32 v15)), (0, .ref (zad Y c0)), (1, .ref (zad Y c1)), (2, .ref (zad Y c2)), (3, .ref (zad Y c3)), (4, .ref (zad Y c4)), (5, .ref (zad Y c5)), (6, .ref (zad Y c6))]) dL_find_294 (by decide) rfl ?_
        refine zr_sub [4, 6, 7, 8, 9, 10, 2, 1, 0] rfl ?_
        exact wL_find_p296 cx zfu g c0 c2 c3 c4 c5 c6 v15 v15 0 hc0 hc2 hc3 hc4 hc5 hc6
    · refine zr_iload (pc' := 180) cx rfl 7 dL_find_178 rfl ?_
      refine zr_aload_n (pc' := 181) cx rfl 0 dL_find_180 rfl rfl ?_
      refine zr_aload_n (pc' := 182) cx rfl 1 dL_find_181 rfl rfl ?_
      refine zr_aload (pc' := 184) cx rfl 4 dL_find_182 rfl ?_
      refine zc_L_8 (pc' := 187) cx rfl hc0 hc1 hc4 ⟨Nat.le_of_ble_eq_true rfl, Nat.le_of_ble_eq_true rfl⟩ ⟨Nat.zero_le _, Nat.zero_le _⟩ (Nat.le_of_ble_eq_true rfl) dL_find_184 (fun v16 => ?_)
      refine zr_if_le (pc' := 190) cx rfl (tgt := 193) dL_find_187 rfl ?_ ?_
      · refine zr_aload (pc' := 195) cx rfl 5 dL_find_193 rfl ?_
        refine zr_iconst (pc' := 196) cx rfl dL_find_195 ?_
        refine zr_aload_n (pc' := 197) cx rfl 1 dL_find_196 rfl rfl ?_
        refine zr_iconst (pc' := 198) cx rfl dL_find_197 ?_
        refine zr_iload (pc' := 200) cx rfl 7 dL_find_198 rfl ?_
        refine zr_imul (pc' := 201) cx rfl dL_find_200 ?_
        refine zr_iald (pc' := 202) cx rfl 11 hc1 (by decide) (L := 24) rfl dL_find_201 ?_
        refine zr_imul (pc' := 203) cx rfl dL_find_202 ?_
        refine zr_leti (fun x17 => ?_)
        refine zr_dup2 (pc' := 204) cx rfl dL_find_203 rfl rfl ?_
        refine zr_iald (pc' := 205) cx rfl 18 hc5 (by decide) (L := 14) rfl dL_find_204 ?_
        refine zr_aload_n (pc' := 206) cx rfl 1 dL_find_205 rfl rfl ?_
        refine zr_iconst (pc' := 207) cx rfl dL_find_206 ?_
        refine zr_iload (pc' := 209) cx rfl 7 dL_find_207 rfl ?_
        refine zr_imul (pc' := 210) cx rfl dL_find_209 ?_
        refine zr_iconst (pc' := 211) cx rfl dL_find_210 ?_
        refine zr_iadd (pc' := 212) cx rfl dL_find_211 ?_
        refine zr_iald (pc' := 213) cx rfl 11 hc1 (by decide) (L := 24) rfl dL_find_212 ?_
        refine zr_iadd (pc' := 214) cx rfl dL_find_213 ?_
        refine zr_iast (pc' := 215) cx rfl 18 hc5 (by decide) (L := 14) rfl dL_find_214 ?_
        refine zr_letS (fun g18 => ?_)
        refine zr_aload (pc' := 217) cx rfl 5 dL_find_215 rfl ?_
        refine zr_iconst (pc' := 218) cx rfl dL_find_217 ?_
        refine zr_aload_n (pc' := 219) cx rfl 1 dL_find_218 rfl rfl ?_
        refine zr_iconst (pc' := 220) cx rfl dL_find_219 ?_
        refine zr_iload (pc' := 222) cx rfl 7 dL_find_220 rfl ?_
        refine zr_imul (pc' := 223) cx rfl dL_find_222 ?_
        refine zr_iald (pc' := 224) cx rfl 11 hc1 (by decide) (L := 24) rfl dL_find_223 ?_
        refine zr_imul (pc' := 225) cx rfl dL_find_224 ?_
        refine zr_iconst (pc' := 226) cx rfl dL_find_225 ?_
        refine zr_iadd (pc' := 227) cx rfl dL_find_226 ?_
        refine zr_leti (fun x19 => ?_)
        refine zr_dup2 (pc' := 228) cx rfl dL_find_227 rfl rfl ?_
        refine zr_iald (pc' := 229) cx rfl 18 hc5 (by decide) (L := 14) rfl dL_find_228 ?_
        refine zr_aload_n (pc' := 230) cx rfl 1 dL_find_229 rfl rfl ?_
        refine zr_iconst (pc' := 231) cx rfl dL_find_230 ?_
        refine zr_iload (pc' := 233) cx rfl 7 dL_find_231 rfl ?_
        refine zr_imul (pc' := 234) cx rfl dL_find_233 ?_
        refine zr_iconst (pc' := 235) cx rfl dL_find_234 ?_
        refine zr_iadd (pc' := 236) cx rfl dL_find_235 ?_
        refine zr_iald (pc' := 237) cx rfl 11 hc1 (by decide) (L := 24) rfl dL_find_236 ?_
        refine zr_iadd (pc' := 238) cx rfl dL_find_237 ?_
        refine zr_iast (pc' := 239) cx rfl 18 hc5 (by decide) (L := 14) rfl dL_find_238 ?_
        refine zr_letS (fun g20 => ?_)
        refine zr_iinc (pc' := 242) cx rfl (lv' := [(7, .int (i32 (a7 + 1))), (0, .ref (zad Y c0)), (1, .ref (zad Y c1)), (2, .ref (zad Y c2)), (3, .ref (zad Y c3)), (4, .ref (zad Y c4)), (5, .ref (zad Y c5)), (6, .ref (zad Y c6))]) 7 dL_find_239 rfl (by decide) rfl ?_
        refine zr_goto cx (tgt := 170) dL_find_242 rfl ?_
        refine zr_sub [1, 2, 3, 4, 5, 6, 7, 0] rfl ?_
        exact ih g20 c0 c1 c2 c3 c4 c5 c6 (a7 + 1) hc0 hc1 hc2 hc3 hc4 hc5 hc6
      · refine zr_goto cx (tgt := 239) dL_find_190 rfl ?_
        refine zr_iinc (pc' := 242) cx rfl (lv' := [(7, .int (i32 (a7 + 1))), (0, .ref (zad Y c0)), (1, .ref (zad Y c1)), (2, .ref (zad Y c2)), (3, .ref (zad Y c3)), (4, .ref (zad Y c4)), (5, .ref (zad Y c5)), (6, .ref (zad Y c6))]) 7 dL_find_239 rfl (by decide) rfl ?_
        refine zr_goto cx (tgt := 170) dL_find_242 rfl ?_
        refine zr_sub [1, 2, 3, 4, 5, 6, 7, 0] rfl ?_
        exact ih g c0 c1 c2 c3 c4 c5 c6 (a7 + 1) hc0 hc1 hc2 hc3 hc4 hc5 hc6
theorem wL_find_p35 (cx : zCx Y p s m args meth c RL cL_find 13 none)   : ∀ (fu : Nat) (g : zSt) (c0 : Nat) (c1 : Nat) (c2 : Nat) (c3 : Nat) (c4 : Nat) (c5 : Nat) (c6 : Nat) (a7 : Int) (hc0 : zV Y c0 = 16) (hc1 : zV Y c1 = 11) (hc2 : zV Y c2 = 17) (hc3 : zV Y c3 = 13) (hc4 : zV Y c4 = 18) (hc5 : zV Y c5 = 18) (hc6 : zV Y c6 = 19), zWo Y p l e (zrm 1) s m args below meth c 13 0 0 (fun g9 : zSt => MQ below (zQv Y g9) args s 0 0 (zA Y)) g [(0, .ref (zad Y c0)), (1, .ref (zad Y c1)), (2, .ref (zad Y c2)), (3, .ref (zad Y c3)), (4, .ref (zad Y c4)), (5, .ref (zad Y c5)), (6, .ref (zad Y c6)), (7, .int (i32 a7))] ([]) 35 (fL_find_p35 fu g c0 c1 c2 c3 c4 c5 c6 a7) := by
  intro fu
  induction fu with
  | zero => intro g c0 c1 c2 c3 c4 c5 c6 a7 hc0 hc1 hc2 hc3 hc4 hc5 hc6; exact zr_none
  | succ fu ih =>
    intro g c0 c1 c2 c3 c4 c5 c6 a7 hc0 hc1 hc2 hc3 hc4 hc5 hc6
    rw [fL_find_p35]
    refine zr_iload (pc' := 37) cx rfl 7 dL_find_35 rfl ?_
    refine zr_aload_n (pc' := 38) cx rfl 3 dL_find_37 rfl rfl ?_
    refine zr_iconst (pc' := 39) cx rfl dL_find_38 ?_
    refine zr_iald (pc' := 40) cx rfl 13 hc3 (by decide) (L := 9) rfl dL_find_39 ?_
    refine zr_icmp_ge (pc' := 43) cx rfl (tgt := 167) dL_find_40 rfl ?_ ?_
    · refine zr_iconst (pc' := 168) cx rfl dL_find_167 ?_
      refine zr_istore (pc' := 170) cx rfl (lv' := [(7, .int (i32 0)), (0, .ref (zad Y c0)), (1, .ref (zad Y c1)), (2, .ref (zad Y c2)), (3, .ref (zad Y c3)), (4, .ref (zad Y c4)), (5, .ref (zad Y c5)), (6, .ref (zad Y c6))]) dL_find_168 (by decide) rfl ?_
      refine zr_sub [1, 2, 3, 4, 5, 6, 7, 0] rfl ?_
      exact wL_find_p170 cx zfu g c0 c1 c2 c3 c4 c5 c6 0 hc0 hc1 hc2 hc3 hc4 hc5 hc6
    · refine zr_iconst (pc' := 44) cx rfl dL_find_43 ?_
      refine zr_istore (pc' := 46) cx rfl (lv' := [(8, .int (i32 0)), (0, .ref (zad Y c0)), (1, .ref (zad Y c1)), (2, .ref (zad Y c2)), (3, .ref (zad Y c3)), (4, .ref (zad Y c4)), (5, .ref (zad Y c5)), (6, .ref (zad Y c6)), (7, .int (i32 a7))]) dL_find_44 (by decide) rfl ?_
      refine zr_sub [1, 2, 3, 4, 5, 6, 7, 8, 0] rfl ?_
      exact wL_find_p46 cx ih zfu g c0 c1 c2 c3 c4 c5 c6 a7 0 hc0 hc1 hc2 hc3 hc4 hc5 hc6
theorem wL_find_p13 (cx : zCx Y p s m args meth c RL cL_find 13 none)   : ∀ (fu : Nat) (g : zSt) (c0 : Nat) (c1 : Nat) (c2 : Nat) (c3 : Nat) (c4 : Nat) (c5 : Nat) (c6 : Nat) (a7 : Int) (hc0 : zV Y c0 = 16) (hc1 : zV Y c1 = 11) (hc2 : zV Y c2 = 17) (hc3 : zV Y c3 = 13) (hc4 : zV Y c4 = 18) (hc5 : zV Y c5 = 18) (hc6 : zV Y c6 = 19), zWo Y p l e (zrm 1) s m args below meth c 13 0 0 (fun g9 : zSt => MQ below (zQv Y g9) args s 0 0 (zA Y)) g [(0, .ref (zad Y c0)), (1, .ref (zad Y c1)), (2, .ref (zad Y c2)), (3, .ref (zad Y c3)), (4, .ref (zad Y c4)), (5, .ref (zad Y c5)), (6, .ref (zad Y c6)), (7, .int (i32 a7))] ([]) 13 (fL_find_p13 fu g c0 c1 c2 c3 c4 c5 c6 a7) := by
  intro fu
  induction fu with
  | zero => intro g c0 c1 c2 c3 c4 c5 c6 a7 hc0 hc1 hc2 hc3 hc4 hc5 hc6; exact zr_none
  | succ fu ih =>
    intro g c0 c1 c2 c3 c4 c5 c6 a7 hc0 hc1 hc2 hc3 hc4 hc5 hc6
    rw [fL_find_p13]
    refine zr_iload (pc' := 15) cx rfl 7 dL_find_13 rfl ?_
    refine zr_bipush (pc' := 17) cx rfl dL_find_15 (by decide +kernel) ?_
    refine zr_icmp_ge (pc' := 20) cx rfl (tgt := 32) dL_find_17 rfl ?_ ?_
    · refine zr_iconst (pc' := 33) cx rfl dL_find_32 ?_
      refine zr_istore (pc' := 35) cx rfl (lv' := [(7, .int (i32 1)), (0, .ref (zad Y c0)), (1, .ref (zad Y c1)), (2, .ref (zad Y c2)), (3, .ref (zad Y c3)), (4, .ref (zad Y c4)), (5, .ref (zad Y c5)), (6, .ref (zad Y c6))]) dL_find_33 (by decide) rfl ?_
      refine zr_sub [1, 2, 3, 4, 5, 6, 7, 0] rfl ?_
      exact wL_find_p35 cx zfu g c0 c1 c2 c3 c4 c5 c6 1 hc0 hc1 hc2 hc3 hc4 hc5 hc6
    · refine zr_aload (pc' := 22) cx rfl 5 dL_find_20 rfl ?_
      refine zr_iload (pc' := 24) cx rfl 7 dL_find_22 rfl ?_
      refine zr_iconst (pc' := 25) cx rfl dL_find_24 ?_
      refine zr_iast (pc' := 26) cx rfl 18 hc5 (by decide) (L := 14) rfl dL_find_25 ?_
      refine zr_letS (fun g21 => ?_)
      refine zr_iinc (pc' := 29) cx rfl (lv' := [(7, .int (i32 (a7 + 1))), (0, .ref (zad Y c0)), (1, .ref (zad Y c1)), (2, .ref (zad Y c2)), (3, .ref (zad Y c3)), (4, .ref (zad Y c4)), (5, .ref (zad Y c5)), (6, .ref (zad Y c6))]) 7 dL_find_26 rfl (by decide) rfl ?_
      refine zr_goto cx (tgt := 13) dL_find_29 rfl ?_
      refine zr_sub [1, 2, 3, 4, 5, 6, 7, 0] rfl ?_
      exact ih g21 c0 c1 c2 c3 c4 c5 c6 (a7 + 1) hc0 hc1 hc2 hc3 hc4 hc5 hc6
theorem wL_find (cx : zCx Y p s m args meth c RL cL_find 13 none) (g : zSt) (c0 : Nat) (c1 : Nat) (c2 : Nat) (c3 : Nat) (c4 : Nat) (c5 : Nat) (c6 : Nat) (hc0 : zV Y c0 = 16) (hc1 : zV Y c1 = 11) (hc2 : zV Y c2 = 17) (hc3 : zV Y c3 = 13) (hc4 : zV Y c4 = 18) (hc5 : zV Y c5 = 18) (hc6 : zV Y c6 = 19) : zWo Y p l e (zrm 1) s m args below meth c 13 0 0 (fun g9 : zSt => MQ below (zQv Y g9) args s 0 0 (zA Y)) g [(0, .ref (zad Y c0)), (1, .ref (zad Y c1)), (2, .ref (zad Y c2)), (3, .ref (zad Y c3)), (4, .ref (zad Y c4)), (5, .ref (zad Y c5)), (6, .ref (zad Y c6))] ([]) 0 (fL_find g c0 c1 c2 c3 c4 c5 c6) := by
  unfold fL_find
  refine zr_aload (pc' := 2) cx rfl 4 dL_find_0 rfl ?_
  refine zr_iconst (pc' := 3) cx rfl dL_find_2 ?_
  refine zr_iconst (pc' := 4) cx rfl dL_find_3 ?_
  refine zr_iast (pc' := 5) cx rfl 18 hc4 (by decide) (L := 14) rfl dL_find_4 ?_
  refine zr_letS (fun g22 => ?_)
  refine zr_aload (pc' := 7) cx rfl 4 dL_find_5 rfl ?_
  refine zr_iconst (pc' := 8) cx rfl dL_find_7 ?_
  refine zr_iconst (pc' := 9) cx rfl dL_find_8 ?_
  refine zr_iast (pc' := 10) cx rfl 18 hc4 (by decide) (L := 14) rfl dL_find_9 ?_
  refine zr_letS (fun g23 => ?_)
  refine zr_iconst (pc' := 11) cx rfl dL_find_10 ?_
  refine zr_istore (pc' := 13) cx rfl (lv' := [(7, .int (i32 0)), (0, .ref (zad Y c0)), (1, .ref (zad Y c1)), (2, .ref (zad Y c2)), (3, .ref (zad Y c3)), (4, .ref (zad Y c4)), (5, .ref (zad Y c5)), (6, .ref (zad Y c6))]) dL_find_11 (by decide) rfl ?_
  refine zr_sub [1, 2, 3, 4, 5, 6, 7, 0] rfl ?_
  exact wL_find_p13 cx zfu g23 c0 c1 c2 c3 c4 c5 c6 0 hc0 hc1 hc2 hc3 hc4 hc5 hc6
theorem mL_find (l : Launch) (Y : zLy) (g : zSt) (c0 : Nat) (c1 : Nat) (c2 : Nat) (c3 : Nat) (c4 : Nat) (c5 : Nat) (c6 : Nat) (hc0 : zV Y c0 = 16) (hc1 : zV Y c1 = 11) (hc2 : zV Y c2 = 17) (hc3 : zV Y c3 = 13) (hc4 : zV Y c4 = 18) (hc5 : zV Y c5 = 18) (hc6 : zV Y c6 = 19) : ∀ g2, fL_find g c0 c1 c2 c3 c4 c5 c6 = some g2 → zMt l yL_find cL_find 13 none 1 [.ref (zad Y c0), .ref (zad Y c1), .ref (zad Y c2), .ref (zad Y c3), .ref (zad Y c4), .ref (zad Y c5), .ref (zad Y c6)] Y g (zQv Y g2) := by
  intro g2 hv
  refine zmet_of RL rfl (by decide +kernel) (Nat.le_of_ble_eq_true rfl) ?_
  intro p e s m below meth c cx H locs ls hH hS hl
  exact wL_find cx g c0 c1 c2 c3 c4 c5 c6 hc0 hc1 hc2 hc3 hc4 hc5 hc6 g2 hv H locs ls hH hS hl
theorem zc_L_17 (cx : zCx Y p s m args meth c RL cc nl ret) (hpc : pc + 3 = pc') {g : zSt} {c0 : Nat} {c1 : Nat} {c2 : Nat} {c3 : Nat} {c4 : Nat} {c5 : Nat} {c6 : Nat} (hc0 : zV Y c0 = 16) (hc1 : zV Y c1 = 11) (hc2 : zV Y c2 = 17) (hc3 : zV Y c3 = 13) (hc4 : zV Y c4 = 18) (hc5 : zV Y c5 = 18) (hc6 : zV Y c6 = 19) {fk : zSt → Option ρ} (hR : 1 + 1 ≤ R.frames ∧ 8 + (13 + 11) + 40 * 1 ≤ R.locals) (hkn : k ≤ R.cells ∧ n ≤ R.slots) (hrest : (rest.map fun v => v.category).sum ≤ 8) (hdg : decode cc pc = .ok (.invokestatic 17, 3)) (kk : ∀ g2 : zSt, zWo Y p l e R s m args below meth c nl k n kq g2 lv (rest) pc' (fk g2)) : zWo Y p l e R s m args below meth c nl k n kq g lv (.ref (zad Y c6) :: .ref (zad Y c5) :: .ref (zad Y c4) :: .ref (zad Y c3) :: .ref (zad Y c2) :: .ref (zad Y c1) :: .ref (zad Y c0) :: rest) pc (zbd (fL_find g c0 c1 c2 c3 c4 c5 c6) fk) := zr_callSvE cx (an := 7) (As := [.ref (zad Y c0), .ref (zad Y c1), .ref (zad Y c2), .ref (zad Y c3), .ref (zad Y c4), .ref (zad Y c5), .ref (zad Y c6)])  (mL_find l Y g c0 c1 c2 c3 c4 c5 c6 hc0 hc1 hc2 hc3 hc4 hc5 hc6) (zG_S zw_308 zw_309 zw_25 zw_310) (by decide +kernel) hR hkn rfl rfl hrest hdg hpc kk
def fL_settle_p33 (k8 : zSt → Nat → Nat → Nat → Nat → Nat → Nat → Nat → Int → Option (Int × zSt)) : Nat → zSt → Nat → Nat → Nat → Nat → Nat → Nat → Nat → Int → Int → Int → Option (Int × zSt)
  | 0, _, _, _, _, _, _, _, _, _, _, _ => none
  | fu + 1, g, c0, c1, c2, c3, c4, c5, c6, a7, a8, a9 =>
    (if i32 1 < i32 a9 then
    zck ((0 : Int) ≤ a9 ∧ a9 < 14) (
    (if i32 1 < i32 (g.1 c4 (Int.toNat a9)) then
    zck ((0 : Int) ≤ a9 ∧ a9 < 14) (
    zck ((0 : Int) ≤ (((8 * (zdv a9 2)) + 3) + (zmo a9 2)) ∧ (((8 * (zdv a9 2)) + 3) + (zmo a9 2)) < 56) (
    (if i32 (g.1 c0 (Int.toNat (((8 * (zdv a9 2)) + 3) + (zmo a9 2)))) < i32 (g.1 c5 (Int.toNat a9)) then
    (if i32 a8 < i32 0 then
    fL_settle_p33 k8 fu g c0 c1 c2 c3 c4 c5 c6 a7 a9 (a9 + (-1))
    else
    zck ((0 : Int) ≤ ((8 * (zdv a9 2)) + 7) ∧ ((8 * (zdv a9 2)) + 7) < 56) (
    zck ((0 : Int) ≤ ((8 * (zdv a8 2)) + 7) ∧ ((8 * (zdv a8 2)) + 7) < 56) (
    (if i32 (g.1 c0 (Int.toNat ((8 * (zdv a9 2)) + 7))) < i32 (g.1 c0 (Int.toNat ((8 * (zdv a8 2)) + 7))) then
    fL_settle_p33 k8 fu g c0 c1 c2 c3 c4 c5 c6 a7 a8 (a9 + (-1))
    else
    fL_settle_p33 k8 fu g c0 c1 c2 c3 c4 c5 c6 a7 a9 (a9 + (-1))))))
    else
    fL_settle_p33 k8 fu g c0 c1 c2 c3 c4 c5 c6 a7 a8 (a9 + (-1)))))
    else
    fL_settle_p33 k8 fu g c0 c1 c2 c3 c4 c5 c6 a7 a8 (a9 + (-1))))
    else
    (if i32 a8 < i32 0 then
    some (a7, g)
    else
    zck ((0 : Int) ≤ (((8 * (zdv a8 2)) + 5) + (zmo a8 2)) ∧ (((8 * (zdv a8 2)) + 5) + (zmo a8 2)) < 56) (zlet (zwr g c0 (Int.toNat (((8 * (zdv a8 2)) + 5) + (zmo a8 2))) 1) (fun g1 =>
    (if i32 a7 = i32 0 then
    zck ((0 : Int) ≤ 8 ∧ 8 < 9) (zlet (zwr g1 c3 (Int.toNat 8) a8) (fun g4 =>
    zck ((0 : Int) ≤ 4 ∧ 4 < 9) (
    zck ((0 : Int) ≤ 4 ∧ 4 < 9) (zlet (zwr g4 c3 (Int.toNat 4) ((g4.1 c3 (Int.toNat 4)) + 1)) (fun g5 =>
    k8 g5 c0 c1 c2 c3 c4 c5 c6 (a7 + 1))))))
    else
    zck ((0 : Int) ≤ 8 ∧ 8 < 9) (
    zck ((0 : Int) ≤ 8 ∧ 8 < 9) (zlet (zwr g1 c3 (Int.toNat 8) (g1.1 c3 (Int.toNat 8))) (fun g2 =>
    zck ((0 : Int) ≤ 4 ∧ 4 < 9) (
    zck ((0 : Int) ≤ 4 ∧ 4 < 9) (zlet (zwr g2 c3 (Int.toNat 4) ((g2.1 c3 (Int.toNat 4)) + 1)) (fun g3 =>
    k8 g3 c0 c1 c2 c3 c4 c5 c6 (a7 + 1))))))))))))
def fL_settle_p8  : Nat → zSt → Nat → Nat → Nat → Nat → Nat → Nat → Nat → Int → Option (Int × zSt)
  | 0, _, _, _, _, _, _, _, _, _ => none
  | fu + 1, g, c0, c1, c2, c3, c4, c5, c6, a7 =>
    zbd (fL_find g c0 c1 c2 c3 c4 c5 c6) (fun g6 =>
    zck ((0 : Int) ≤ 0 ∧ 0 < 9) (
    zlet ((2 * (g6.1 c3 (Int.toNat 0))) - 1) (fun x7 =>
    fL_settle_p33 (fL_settle_p8 fu) zfu g6 c0 c1 c2 c3 c4 c5 c6 a7 (-1) x7)))
def fL_settle (g : zSt) (c0 : Nat) (c1 : Nat) (c2 : Nat) (c3 : Nat) (c4 : Nat) (c5 : Nat) (c6 : Nat) : Option (Int × zSt) :=
    zck ((0 : Int) ≤ 8 ∧ 8 < 9) (zlet (zwr g c3 (Int.toNat 8) (-1)) (fun g8 =>
    fL_settle_p8 zfu g8 c0 c1 c2 c3 c4 c5 c6 0))
theorem wL_settle_p33 (cx : zCx Y p s m args meth c RL cL_settle 10 (some .int)) {k8 : zSt → Nat → Nat → Nat → Nat → Nat → Nat → Nat → Int → Option (Int × zSt)} (hk8 : ∀ (g : zSt) (c0 : Nat) (c1 : Nat) (c2 : Nat) (c3 : Nat) (c4 : Nat) (c5 : Nat) (c6 : Nat) (a7 : Int) (hc0 : zV Y c0 = 16) (hc1 : zV Y c1 = 11) (hc2 : zV Y c2 = 17) (hc3 : zV Y c3 = 13) (hc4 : zV Y c4 = 18) (hc5 : zV Y c5 = 18) (hc6 : zV Y c6 = 19), zWo Y p l e (zrm 2) s m args below meth c 10 0 0 (fun q : Int × zSt => MQ below (zQi Y q.1 q.2) args s 0 0 (zA Y)) g [(0, .ref (zad Y c0)), (1, .ref (zad Y c1)), (2, .ref (zad Y c2)), (3, .ref (zad Y c3)), (4, .ref (zad Y c4)), (5, .ref (zad Y c5)), (6, .ref (zad Y c6)), (7, .int (i32 a7))] ([]) 8 (k8 g c0 c1 c2 c3 c4 c5 c6 a7)) : ∀ (fu : Nat) (g : zSt) (c0 : Nat) (c1 : Nat) (c2 : Nat) (c3 : Nat) (c4 : Nat) (c5 : Nat) (c6 : Nat) (a7 : Int) (a8 : Int) (a9 : Int) (hc0 : zV Y c0 = 16) (hc1 : zV Y c1 = 11) (hc2 : zV Y c2 = 17) (hc3 : zV Y c3 = 13) (hc4 : zV Y c4 = 18) (hc5 : zV Y c5 = 18) (hc6 : zV Y c6 = 19), zWo Y p l e (zrm 2) s m args below meth c 10 0 0 (fun q : Int × zSt => MQ below (zQi Y q.1 q.2) args s 0 0 (zA Y)) g [(0, .ref (zad Y c0)), (1, .ref (zad Y c1)), (2, .ref (zad Y c2)), (3, .ref (zad Y c3)), (4, .ref (zad Y c4)), (5, .ref (zad Y c5)), (6, .ref (zad Y c6)), (7, .int (i32 a7)), (8, .int (i32 a8)), (9, .int (i32 a9))] ([]) 33 (fL_settle_p33 k8 fu g c0 c1 c2 c3 c4 c5 c6 a7 a8 a9) := by
  intro fu
  induction fu with
  | zero => intro g c0 c1 c2 c3 c4 c5 c6 a7 a8 a9 hc0 hc1 hc2 hc3 hc4 hc5 hc6; exact zr_none
  | succ fu ih =>
    intro g c0 c1 c2 c3 c4 c5 c6 a7 a8 a9 hc0 hc1 hc2 hc3 hc4 hc5 hc6
    rw [fL_settle_p33]
    refine zr_iload (pc' := 35) cx rfl 9 dL_settle_33 rfl ?_
    refine zr_iconst (pc' := 36) cx rfl dL_settle_35 ?_
    refine zr_icmp_le (pc' := 39) cx rfl (tgt := 114) dL_settle_36 rfl ?_ ?_
    · refine zr_iload (pc' := 116) cx rfl 8 dL_settle_114 rfl ?_
      refine zr_if_ge (pc' := 119) cx rfl (tgt := 122) dL_settle_116 rfl ?_ ?_
      · refine zr_aload_n (pc' := 123) cx rfl 0 dL_settle_122 rfl rfl ?_
        refine zr_bipush (pc' := 125) cx rfl dL_settle_123 (by decide +kernel) ?_
        refine zr_iload (pc' := 127) cx rfl 8 dL_settle_125 rfl ?_
        refine zr_iconst (pc' := 128) cx rfl dL_settle_127 ?_
        refine zr_idiv (pc' := 129) cx rfl (by decide +kernel) dL_settle_128 ?_
        refine zr_imul (pc' := 130) cx rfl dL_settle_129 ?_
        refine zr_iconst (pc' := 131) cx rfl dL_settle_130 ?_
        refine zr_iadd (pc' := 132) cx rfl dL_settle_131 ?_
        refine zr_iload (pc' := 134) cx rfl 8 dL_settle_132 rfl ?_
        refine zr_iconst (pc' := 135) cx rfl dL_settle_134 ?_
        refine zr_irem (pc' := 136) cx rfl (by decide +kernel) dL_settle_135 ?_
        refine zr_iadd (pc' := 137) cx rfl dL_settle_136 ?_
        refine zr_iconst (pc' := 138) cx rfl dL_settle_137 ?_
        refine zr_iast (pc' := 139) cx rfl 16 hc0 (by decide) (L := 56) rfl dL_settle_138 ?_
        refine zr_letS (fun g1 => ?_)
        refine zr_aload_n (pc' := 140) cx rfl 3 dL_settle_139 rfl rfl ?_
        refine zr_bipush (pc' := 142) cx rfl dL_settle_140 (by decide +kernel) ?_
        refine zr_iload (pc' := 144) cx rfl 7 dL_settle_142 rfl ?_
        refine zr_if_ne (pc' := 147) cx rfl (tgt := 152) dL_settle_144 rfl ?_ ?_
        · refine zr_aload_n (pc' := 153) cx rfl 3 dL_settle_152 rfl rfl ?_
          refine zr_bipush (pc' := 155) cx rfl dL_settle_153 (by decide +kernel) ?_
          refine zr_iald (pc' := 156) cx rfl 13 hc3 (by decide) (L := 9) rfl dL_settle_155 ?_
          refine zr_iast (pc' := 157) cx rfl 13 hc3 (by decide) (L := 9) rfl dL_settle_156 ?_
          refine zr_letS (fun g2 => ?_)
          refine zr_aload_n (pc' := 158) cx rfl 3 dL_settle_157 rfl rfl ?_
          refine zr_iconst (pc' := 159) cx rfl dL_settle_158 ?_
          refine zr_dup2 (pc' := 160) cx rfl dL_settle_159 rfl rfl ?_
          refine zr_iald (pc' := 161) cx rfl 13 hc3 (by decide) (L := 9) rfl dL_settle_160 ?_
          refine zr_iconst (pc' := 162) cx rfl dL_settle_161 ?_
          refine zr_iadd (pc' := 163) cx rfl dL_settle_162 ?_
          refine zr_iast (pc' := 164) cx rfl 13 hc3 (by decide) (L := 9) rfl dL_settle_163 ?_
          refine zr_letS (fun g3 => ?_)
          refine zr_iinc (pc' := 167) cx rfl (lv' := [(7, .int (i32 (a7 + 1))), (0, .ref (zad Y c0)), (1, .ref (zad Y c1)), (2, .ref (zad Y c2)), (3, .ref (zad Y c3)), (4, .ref (zad Y c4)), (5, .ref (zad Y c5)), (6, .ref (zad Y c6)), (8, .int (i32 a8)), (9, .int (i32 a9))]) 7 dL_settle_164 rfl (by decide) rfl ?_
          refine zr_goto cx (tgt := 8) dL_settle_167 rfl ?_
          refine zr_sub [1, 2, 3, 4, 5, 6, 7, 0] rfl ?_
          exact hk8 g3 c0 c1 c2 c3 c4 c5 c6 (a7 + 1) hc0 hc1 hc2 hc3 hc4 hc5 hc6
        · refine zr_iload (pc' := 149) cx rfl 8 dL_settle_147 rfl ?_
          refine zr_gotoS cx (tgt := 156) dL_settle_149 rfl ?_
          refine zr_iast (pc' := 157) cx rfl 13 hc3 (by decide) (L := 9) rfl dL_settle_156 ?_
          refine zr_letS (fun g4 => ?_)
          refine zr_aload_n (pc' := 158) cx rfl 3 dL_settle_157 rfl rfl ?_
          refine zr_iconst (pc' := 159) cx rfl dL_settle_158 ?_
          refine zr_dup2 (pc' := 160) cx rfl dL_settle_159 rfl rfl ?_
          refine zr_iald (pc' := 161) cx rfl 13 hc3 (by decide) (L := 9) rfl dL_settle_160 ?_
          refine zr_iconst (pc' := 162) cx rfl dL_settle_161 ?_
          refine zr_iadd (pc' := 163) cx rfl dL_settle_162 ?_
          refine zr_iast (pc' := 164) cx rfl 13 hc3 (by decide) (L := 9) rfl dL_settle_163 ?_
          refine zr_letS (fun g5 => ?_)
          refine zr_iinc (pc' := 167) cx rfl (lv' := [(7, .int (i32 (a7 + 1))), (0, .ref (zad Y c0)), (1, .ref (zad Y c1)), (2, .ref (zad Y c2)), (3, .ref (zad Y c3)), (4, .ref (zad Y c4)), (5, .ref (zad Y c5)), (6, .ref (zad Y c6)), (8, .int (i32 a8)), (9, .int (i32 a9))]) 7 dL_settle_164 rfl (by decide) rfl ?_
          refine zr_goto cx (tgt := 8) dL_settle_167 rfl ?_
          refine zr_sub [1, 2, 3, 4, 5, 6, 7, 0] rfl ?_
          exact hk8 g5 c0 c1 c2 c3 c4 c5 c6 (a7 + 1) hc0 hc1 hc2 hc3 hc4 hc5 hc6
      · refine zr_iload (pc' := 121) cx rfl 7 dL_settle_119 rfl ?_
        exact zr_iretE cx dL_settle_121
    · refine zr_aload (pc' := 41) cx rfl 4 dL_settle_39 rfl ?_
      refine zr_iload (pc' := 43) cx rfl 9 dL_settle_41 rfl ?_
      refine zr_iald (pc' := 44) cx rfl 18 hc4 (by decide) (L := 14) rfl dL_settle_43 ?_
      refine zr_iconst (pc' := 45) cx rfl dL_settle_44 ?_
      refine zr_icmp_le (pc' := 48) cx rfl (tgt := 108) dL_settle_45 rfl ?_ ?_
      · refine zr_iinc (pc' := 111) cx rfl (lv' := [(9, .int (i32 (a9 + (-1)))), (0, .ref (zad Y c0)), (1, .ref (zad Y c1)), (2, .ref (zad Y c2)), (3, .ref (zad Y c3)), (4, .ref (zad Y c4)), (5, .ref (zad Y c5)), (6, .ref (zad Y c6)), (7, .int (i32 a7)), (8, .int (i32 a8))]) 9 dL_settle_108 rfl (by decide) rfl ?_
        refine zr_goto cx (tgt := 33) dL_settle_111 rfl ?_
        refine zr_sub [1, 2, 3, 4, 5, 6, 7, 8, 9, 0] rfl ?_
        exact ih g c0 c1 c2 c3 c4 c5 c6 a7 a8 (a9 + (-1)) hc0 hc1 hc2 hc3 hc4 hc5 hc6
      · refine zr_aload (pc' := 50) cx rfl 5 dL_settle_48 rfl ?_
        refine zr_iload (pc' := 52) cx rfl 9 dL_settle_50 rfl ?_
        refine zr_iald (pc' := 53) cx rfl 18 hc5 (by decide) (L := 14) rfl dL_settle_52 ?_
        refine zr_aload_n (pc' := 54) cx rfl 0 dL_settle_53 rfl rfl ?_
        refine zr_bipush (pc' := 56) cx rfl dL_settle_54 (by decide +kernel) ?_
        refine zr_iload (pc' := 58) cx rfl 9 dL_settle_56 rfl ?_
        refine zr_iconst (pc' := 59) cx rfl dL_settle_58 ?_
        refine zr_idiv (pc' := 60) cx rfl (by decide +kernel) dL_settle_59 ?_
        refine zr_imul (pc' := 61) cx rfl dL_settle_60 ?_
        refine zr_iconst (pc' := 62) cx rfl dL_settle_61 ?_
        refine zr_iadd (pc' := 63) cx rfl dL_settle_62 ?_
        refine zr_iload (pc' := 65) cx rfl 9 dL_settle_63 rfl ?_
        refine zr_iconst (pc' := 66) cx rfl dL_settle_65 ?_
        refine zr_irem (pc' := 67) cx rfl (by decide +kernel) dL_settle_66 ?_
        refine zr_iadd (pc' := 68) cx rfl dL_settle_67 ?_
        refine zr_iald (pc' := 69) cx rfl 16 hc0 (by decide) (L := 56) rfl dL_settle_68 ?_
        refine zr_icmp_le (pc' := 72) cx rfl (tgt := 108) dL_settle_69 rfl ?_ ?_
        · refine zr_iinc (pc' := 111) cx rfl (lv' := [(9, .int (i32 (a9 + (-1)))), (0, .ref (zad Y c0)), (1, .ref (zad Y c1)), (2, .ref (zad Y c2)), (3, .ref (zad Y c3)), (4, .ref (zad Y c4)), (5, .ref (zad Y c5)), (6, .ref (zad Y c6)), (7, .int (i32 a7)), (8, .int (i32 a8))]) 9 dL_settle_108 rfl (by decide) rfl ?_
          refine zr_goto cx (tgt := 33) dL_settle_111 rfl ?_
          refine zr_sub [1, 2, 3, 4, 5, 6, 7, 8, 9, 0] rfl ?_
          exact ih g c0 c1 c2 c3 c4 c5 c6 a7 a8 (a9 + (-1)) hc0 hc1 hc2 hc3 hc4 hc5 hc6
        · refine zr_iload (pc' := 74) cx rfl 8 dL_settle_72 rfl ?_
          refine zr_if_lt (pc' := 77) cx rfl (tgt := 104) dL_settle_74 rfl ?_ ?_
          · refine zr_iload (pc' := 106) cx rfl 9 dL_settle_104 rfl ?_
            refine zr_istore (pc' := 108) cx rfl (lv' := [(8, .int (i32 a9)), (0, .ref (zad Y c0)), (1, .ref (zad Y c1)), (2, .ref (zad Y c2)), (3, .ref (zad Y c3)), (4, .ref (zad Y c4)), (5, .ref (zad Y c5)), (6, .ref (zad Y c6)), (7, .int (i32 a7)), (9, .int (i32 a9))]) dL_settle_106 (by decide) rfl ?_
            refine zr_iinc (pc' := 111) cx rfl (lv' := [(9, .int (i32 (a9 + (-1)))), (8, .int (i32 a9)), (0, .ref (zad Y c0)), (1, .ref (zad Y c1)), (2, .ref (zad Y c2)), (3, .ref (zad Y c3)), (4, .ref (zad Y c4)), (5, .ref (zad Y c5)), (6, .ref (zad Y c6)), (7, .int (i32 a7))]) 9 dL_settle_108 rfl (by decide) rfl ?_
            refine zr_goto cx (tgt := 33) dL_settle_111 rfl ?_
            refine zr_sub [2, 3, 4, 5, 6, 7, 8, 9, 1, 0] rfl ?_
            exact ih g c0 c1 c2 c3 c4 c5 c6 a7 a9 (a9 + (-1)) hc0 hc1 hc2 hc3 hc4 hc5 hc6
          · refine zr_aload_n (pc' := 78) cx rfl 0 dL_settle_77 rfl rfl ?_
            refine zr_bipush (pc' := 80) cx rfl dL_settle_78 (by decide +kernel) ?_
            refine zr_iload (pc' := 82) cx rfl 9 dL_settle_80 rfl ?_
            refine zr_iconst (pc' := 83) cx rfl dL_settle_82 ?_
            refine zr_idiv (pc' := 84) cx rfl (by decide +kernel) dL_settle_83 ?_
            refine zr_imul (pc' := 85) cx rfl dL_settle_84 ?_
            refine zr_bipush (pc' := 87) cx rfl dL_settle_85 (by decide +kernel) ?_
            refine zr_iadd (pc' := 88) cx rfl dL_settle_87 ?_
            refine zr_iald (pc' := 89) cx rfl 16 hc0 (by decide) (L := 56) rfl dL_settle_88 ?_
            refine zr_aload_n (pc' := 90) cx rfl 0 dL_settle_89 rfl rfl ?_
            refine zr_bipush (pc' := 92) cx rfl dL_settle_90 (by decide +kernel) ?_
            refine zr_iload (pc' := 94) cx rfl 8 dL_settle_92 rfl ?_
            refine zr_iconst (pc' := 95) cx rfl dL_settle_94 ?_
            refine zr_idiv (pc' := 96) cx rfl (by decide +kernel) dL_settle_95 ?_
            refine zr_imul (pc' := 97) cx rfl dL_settle_96 ?_
            refine zr_bipush (pc' := 99) cx rfl dL_settle_97 (by decide +kernel) ?_
            refine zr_iadd (pc' := 100) cx rfl dL_settle_99 ?_
            refine zr_iald (pc' := 101) cx rfl 16 hc0 (by decide) (L := 56) rfl dL_settle_100 ?_
            refine zr_icmp_lt (pc' := 104) cx rfl (tgt := 108) dL_settle_101 rfl ?_ ?_
            · refine zr_iinc (pc' := 111) cx rfl (lv' := [(9, .int (i32 (a9 + (-1)))), (0, .ref (zad Y c0)), (1, .ref (zad Y c1)), (2, .ref (zad Y c2)), (3, .ref (zad Y c3)), (4, .ref (zad Y c4)), (5, .ref (zad Y c5)), (6, .ref (zad Y c6)), (7, .int (i32 a7)), (8, .int (i32 a8))]) 9 dL_settle_108 rfl (by decide) rfl ?_
              refine zr_goto cx (tgt := 33) dL_settle_111 rfl ?_
              refine zr_sub [1, 2, 3, 4, 5, 6, 7, 8, 9, 0] rfl ?_
              exact ih g c0 c1 c2 c3 c4 c5 c6 a7 a8 (a9 + (-1)) hc0 hc1 hc2 hc3 hc4 hc5 hc6
            · refine zr_iload (pc' := 106) cx rfl 9 dL_settle_104 rfl ?_
              refine zr_istore (pc' := 108) cx rfl (lv' := [(8, .int (i32 a9)), (0, .ref (zad Y c0)), (1, .ref (zad Y c1)), (2, .ref (zad Y c2)), (3, .ref (zad Y c3)), (4, .ref (zad Y c4)), (5, .ref (zad Y c5)), (6, .ref (zad Y c6)), (7, .int (i32 a7)), (9, .int (i32 a9))]) dL_settle_106 (by decide) rfl ?_
              refine zr_iinc (pc' := 111) cx rfl (lv' := [(9, .int (i32 (a9 + (-1)))), (8, .int (i32 a9)), (0, .ref (zad Y c0)), (1, .ref (zad Y c1)), (2, .ref (zad Y c2)), (3, .ref (zad Y c3)), (4, .ref (zad Y c4)), (5, .ref (zad Y c5)), (6, .ref (zad Y c6)), (7, .int (i32 a7))]) 9 dL_settle_108 rfl (by decide) rfl ?_
              refine zr_goto cx (tgt := 33) dL_settle_111 rfl ?_
              refine zr_sub [2, 3, 4, 5, 6, 7, 8, 9, 1, 0] rfl ?_
              exact ih g c0 c1 c2 c3 c4 c5 c6 a7 a9 (a9 + (-1)) hc0 hc1 hc2 hc3 hc4 hc5 hc6
theorem wL_settle_p8 (cx : zCx Y p s m args meth c RL cL_settle 10 (some .int))   : ∀ (fu : Nat) (g : zSt) (c0 : Nat) (c1 : Nat) (c2 : Nat) (c3 : Nat) (c4 : Nat) (c5 : Nat) (c6 : Nat) (a7 : Int) (hc0 : zV Y c0 = 16) (hc1 : zV Y c1 = 11) (hc2 : zV Y c2 = 17) (hc3 : zV Y c3 = 13) (hc4 : zV Y c4 = 18) (hc5 : zV Y c5 = 18) (hc6 : zV Y c6 = 19), zWo Y p l e (zrm 2) s m args below meth c 10 0 0 (fun q : Int × zSt => MQ below (zQi Y q.1 q.2) args s 0 0 (zA Y)) g [(0, .ref (zad Y c0)), (1, .ref (zad Y c1)), (2, .ref (zad Y c2)), (3, .ref (zad Y c3)), (4, .ref (zad Y c4)), (5, .ref (zad Y c5)), (6, .ref (zad Y c6)), (7, .int (i32 a7))] ([]) 8 (fL_settle_p8 fu g c0 c1 c2 c3 c4 c5 c6 a7) := by
  intro fu
  induction fu with
  | zero => intro g c0 c1 c2 c3 c4 c5 c6 a7 hc0 hc1 hc2 hc3 hc4 hc5 hc6; exact zr_none
  | succ fu ih =>
    intro g c0 c1 c2 c3 c4 c5 c6 a7 hc0 hc1 hc2 hc3 hc4 hc5 hc6
    rw [fL_settle_p8]
    refine zr_aload_n (pc' := 9) cx rfl 0 dL_settle_8 rfl rfl ?_
    refine zr_aload_n (pc' := 10) cx rfl 1 dL_settle_9 rfl rfl ?_
    refine zr_aload_n (pc' := 11) cx rfl 2 dL_settle_10 rfl rfl ?_
    refine zr_aload_n (pc' := 12) cx rfl 3 dL_settle_11 rfl rfl ?_
    refine zr_aload (pc' := 14) cx rfl 4 dL_settle_12 rfl ?_
    refine zr_aload (pc' := 16) cx rfl 5 dL_settle_14 rfl ?_
    refine zr_aload (pc' := 18) cx rfl 6 dL_settle_16 rfl ?_
    refine zc_L_17 (pc' := 21) cx rfl hc0 hc1 hc2 hc3 hc4 hc5 hc6 ⟨Nat.le_of_ble_eq_true rfl, Nat.le_of_ble_eq_true rfl⟩ ⟨Nat.zero_le _, Nat.zero_le _⟩ (Nat.le_of_ble_eq_true rfl) dL_settle_18 (fun g6 => ?_)
    refine zr_iconst (pc' := 22) cx rfl dL_settle_21 ?_
    refine zr_istore (pc' := 24) cx rfl (lv' := [(8, .int (i32 (-1))), (0, .ref (zad Y c0)), (1, .ref (zad Y c1)), (2, .ref (zad Y c2)), (3, .ref (zad Y c3)), (4, .ref (zad Y c4)), (5, .ref (zad Y c5)), (6, .ref (zad Y c6)), (7, .int (i32 a7))]) dL_settle_22 (by decide) rfl ?_
    refine zr_iconst (pc' := 25) cx rfl dL_settle_24 ?_
    refine zr_aload_n (pc' := 26) cx rfl 4 dL_settle_25 rfl rfl ?_
    refine zr_iconst (pc' := 27) cx rfl dL_settle_26 ?_
    refine zr_iald (pc' := 28) cx rfl 13 hc3 (by decide) (L := 9) rfl dL_settle_27 ?_
    refine zr_imul (pc' := 29) cx rfl dL_settle_28 ?_
    refine zr_iconst (pc' := 30) cx rfl dL_settle_29 ?_
    refine zr_isub (pc' := 31) cx rfl dL_settle_30 ?_
    refine zr_leti (fun x7 => ?_)
    refine zr_istore (pc' := 33) cx rfl (lv' := [(9, .int (i32 x7)), (8, .int (i32 (-1))), (0, .ref (zad Y c0)), (1, .ref (zad Y c1)), (2, .ref (zad Y c2)), (3, .ref (zad Y c3)), (4, .ref (zad Y c4)), (5, .ref (zad Y c5)), (6, .ref (zad Y c6)), (7, .int (i32 a7))]) dL_settle_31 (by decide) rfl ?_
    refine zr_sub [2, 3, 4, 5, 6, 7, 8, 9, 1, 0] rfl ?_
    exact wL_settle_p33 cx ih zfu g6 c0 c1 c2 c3 c4 c5 c6 a7 (-1) x7 hc0 hc1 hc2 hc3 hc4 hc5 hc6
theorem wL_settle (cx : zCx Y p s m args meth c RL cL_settle 10 (some .int)) (g : zSt) (c0 : Nat) (c1 : Nat) (c2 : Nat) (c3 : Nat) (c4 : Nat) (c5 : Nat) (c6 : Nat) (hc0 : zV Y c0 = 16) (hc1 : zV Y c1 = 11) (hc2 : zV Y c2 = 17) (hc3 : zV Y c3 = 13) (hc4 : zV Y c4 = 18) (hc5 : zV Y c5 = 18) (hc6 : zV Y c6 = 19) : zWo Y p l e (zrm 2) s m args below meth c 10 0 0 (fun q : Int × zSt => MQ below (zQi Y q.1 q.2) args s 0 0 (zA Y)) g [(0, .ref (zad Y c0)), (1, .ref (zad Y c1)), (2, .ref (zad Y c2)), (3, .ref (zad Y c3)), (4, .ref (zad Y c4)), (5, .ref (zad Y c5)), (6, .ref (zad Y c6))] ([]) 0 (fL_settle g c0 c1 c2 c3 c4 c5 c6) := by
  unfold fL_settle
  refine zr_iconst (pc' := 1) cx rfl dL_settle_0 ?_
  refine zr_istore (pc' := 3) cx rfl (lv' := [(7, .int (i32 0)), (0, .ref (zad Y c0)), (1, .ref (zad Y c1)), (2, .ref (zad Y c2)), (3, .ref (zad Y c3)), (4, .ref (zad Y c4)), (5, .ref (zad Y c5)), (6, .ref (zad Y c6))]) dL_settle_1 (by decide) rfl ?_
  refine zr_aload_n (pc' := 4) cx rfl 4 dL_settle_3 rfl rfl ?_
  refine zr_bipush (pc' := 6) cx rfl dL_settle_4 (by decide +kernel) ?_
  refine zr_iconst (pc' := 7) cx rfl dL_settle_6 ?_
  refine zr_iast (pc' := 8) cx rfl 13 hc3 (by decide) (L := 9) rfl dL_settle_7 ?_
  refine zr_letS (fun g8 => ?_)
  refine zr_sub [1, 2, 3, 4, 5, 6, 7, 0] rfl ?_
  exact wL_settle_p8 cx zfu g8 c0 c1 c2 c3 c4 c5 c6 0 hc0 hc1 hc2 hc3 hc4 hc5 hc6
theorem mL_settle (l : Launch) (Y : zLy) (g : zSt) (c0 : Nat) (c1 : Nat) (c2 : Nat) (c3 : Nat) (c4 : Nat) (c5 : Nat) (c6 : Nat) (hc0 : zV Y c0 = 16) (hc1 : zV Y c1 = 11) (hc2 : zV Y c2 = 17) (hc3 : zV Y c3 = 13) (hc4 : zV Y c4 = 18) (hc5 : zV Y c5 = 18) (hc6 : zV Y c6 = 19) : ∀ v g2, fL_settle g c0 c1 c2 c3 c4 c5 c6 = some (v, g2) → zMt l yL_settle cL_settle 10 (some .int) 2 [.ref (zad Y c0), .ref (zad Y c1), .ref (zad Y c2), .ref (zad Y c3), .ref (zad Y c4), .ref (zad Y c5), .ref (zad Y c6)] Y g (zQi Y v g2) := by
  intro v g2 hv
  refine zmet_of RL rfl (by decide +kernel) (Nat.le_of_ble_eq_true rfl) ?_
  intro p e s m below meth c cx H locs ls hH hS hl
  exact wL_settle cx g c0 c1 c2 c3 c4 c5 c6 hc0 hc1 hc2 hc3 hc4 hc5 hc6 (v, g2) hv H locs ls hH hS hl
theorem zc_L_54 (cx : zCx Y p s m args meth c RL cc nl ret) (hpc : pc + 3 = pc') {g : zSt} {c0 : Nat} {c1 : Nat} {c2 : Nat} {c3 : Nat} {c4 : Nat} {c5 : Nat} {c6 : Nat} (hc0 : zV Y c0 = 16) (hc1 : zV Y c1 = 11) (hc2 : zV Y c2 = 17) (hc3 : zV Y c3 = 13) (hc4 : zV Y c4 = 18) (hc5 : zV Y c5 = 18) (hc6 : zV Y c6 = 19) {fk : Int → zSt → Option ρ} (hR : 2 + 1 ≤ R.frames ∧ 8 + (10 + 11) + 40 * 2 ≤ R.locals) (hkn : k ≤ R.cells ∧ n ≤ R.slots) (hrest : (rest.map fun v => v.category).sum ≤ 8) (hdg : decode cc pc = .ok (.invokestatic 54, 3)) (kk : ∀ (v : Int) (g2 : zSt), zWo Y p l e R s m args below meth c nl k n kq g2 lv (.int (i32 v) :: rest) pc' (fk v g2)) : zWo Y p l e R s m args below meth c nl k n kq g lv (.ref (zad Y c6) :: .ref (zad Y c5) :: .ref (zad Y c4) :: .ref (zad Y c3) :: .ref (zad Y c2) :: .ref (zad Y c1) :: .ref (zad Y c0) :: rest) pc (zbe (fL_settle g c0 c1 c2 c3 c4 c5 c6) fk) := zr_callSiE cx (an := 7) (As := [.ref (zad Y c0), .ref (zad Y c1), .ref (zad Y c2), .ref (zad Y c3), .ref (zad Y c4), .ref (zad Y c5), .ref (zad Y c6)])  (mL_settle l Y g c0 c1 c2 c3 c4 c5 c6 hc0 hc1 hc2 hc3 hc4 hc5 hc6) (zG_S zw_517 zw_518 zw_25 zw_519) (by decide +kernel) hR hkn rfl rfl hrest hdg hpc kk
def fL_burn_p6 (g : zSt)  : Nat → Nat → Nat → Nat → Nat → Int → Int → Int → Option Int
  | 0, _, _, _, _, _, _, _ => none
  | fu + 1, c0, c1, c2, c3, a4, a5, a6 =>
    zck ((0 : Int) ≤ 1 ∧ 1 < 9) (
    (if i32 a6 < i32 (g.1 c2 (Int.toNat 1)) then
    zbd (fL_dark g a6 c0 c1 c3) (fun v1 =>
    (if i32 v1 = i32 0 then
    (if i32 a4 = i32 0 then
    zlet (a5 + 1) (fun x3 =>
    fL_burn_p6 g fu c0 c1 c2 c3 a4 x3 (a6 + 1))
    else
    zck ((0 : Int) ≤ ((3 * a6) + 1) ∧ ((3 * a6) + 1) < 24) (
    zlet (a5 + (g.1 c1 (Int.toNat ((3 * a6) + 1)))) (fun x4 =>
    fL_burn_p6 g fu c0 c1 c2 c3 a4 x4 (a6 + 1))))
    else
    zlet (a5 + 0) (fun x2 =>
    fL_burn_p6 g fu c0 c1 c2 c3 a4 x2 (a6 + 1))))
    else
    some a5))
def fL_burn (g : zSt) (c0 : Nat) (c1 : Nat) (c2 : Nat) (c3 : Nat) (a4 : Int) : Option Int :=
    fL_burn_p6 g zfu c0 c1 c2 c3 a4 0 0
theorem wL_burn_p6 (cx : zCx Y p s m args meth c RL cL_burn 7 (some .int)) (g : zSt)   : ∀ (fu : Nat) (c0 : Nat) (c1 : Nat) (c2 : Nat) (c3 : Nat) (a4 : Int) (a5 : Int) (a6 : Int) (hc0 : zV Y c0 = 16) (hc1 : zV Y c1 = 11) (hc2 : zV Y c2 = 13) (hc3 : zV Y c3 = 18), zWo Y p l e (zrm 1) s m args below meth c 7 0 0 (fun v : Int => MQ below (zQi Y v g) args s 0 0 (zA Y)) g [(0, .ref (zad Y c0)), (1, .ref (zad Y c1)), (2, .ref (zad Y c2)), (3, .ref (zad Y c3)), (4, .int (i32 a4)), (5, .int (i32 a5)), (6, .int (i32 a6))] ([]) 6 (fL_burn_p6 g fu c0 c1 c2 c3 a4 a5 a6) := by
  intro fu
  induction fu with
  | zero => intro c0 c1 c2 c3 a4 a5 a6 hc0 hc1 hc2 hc3; exact zr_none
  | succ fu ih =>
    intro c0 c1 c2 c3 a4 a5 a6 hc0 hc1 hc2 hc3
    rw [fL_burn_p6]
    refine zr_iload (pc' := 8) cx rfl 6 dL_burn_6 rfl ?_
    refine zr_aload_n (pc' := 9) cx rfl 2 dL_burn_8 rfl rfl ?_
    refine zr_iconst (pc' := 10) cx rfl dL_burn_9 ?_
    refine zr_iald (pc' := 11) cx rfl 13 hc2 (by decide) (L := 9) rfl dL_burn_10 ?_
    refine zr_icmp_ge (pc' := 14) cx rfl (tgt := 57) dL_burn_11 rfl ?_ ?_
    · refine zr_iload (pc' := 59) cx rfl 5 dL_burn_57 rfl ?_
      exact zr_iretP cx dL_burn_59
    · refine zr_iload (pc' := 16) cx rfl 5 dL_burn_14 rfl ?_
      refine zr_iload (pc' := 18) cx rfl 6 dL_burn_16 rfl ?_
      refine zr_aload_n (pc' := 19) cx rfl 0 dL_burn_18 rfl rfl ?_
      refine zr_aload_n (pc' := 20) cx rfl 1 dL_burn_19 rfl rfl ?_
      refine zr_aload_n (pc' := 21) cx rfl 3 dL_burn_20 rfl rfl ?_
      refine zc_L_8 (pc' := 24) cx rfl hc0 hc1 hc3 ⟨Nat.le_of_ble_eq_true rfl, Nat.le_of_ble_eq_true rfl⟩ ⟨Nat.zero_le _, Nat.zero_le _⟩ (Nat.le_of_ble_eq_true rfl) dL_burn_21 (fun v1 => ?_)
      refine zr_if_ne (pc' := 27) cx rfl (tgt := 47) dL_burn_24 rfl ?_ ?_
      · refine zr_iconst (pc' := 48) cx rfl dL_burn_47 ?_
        refine zr_iadd (pc' := 49) cx rfl dL_burn_48 ?_
        refine zr_leti (fun x2 => ?_)
        refine zr_istore (pc' := 51) cx rfl (lv' := [(5, .int (i32 x2)), (0, .ref (zad Y c0)), (1, .ref (zad Y c1)), (2, .ref (zad Y c2)), (3, .ref (zad Y c3)), (4, .int (i32 a4)), (6, .int (i32 a6))]) dL_burn_49 (by decide) rfl ?_
        refine zr_iinc (pc' := 54) cx rfl (lv' := [(6, .int (i32 (a6 + 1))), (5, .int (i32 x2)), (0, .ref (zad Y c0)), (1, .ref (zad Y c1)), (2, .ref (zad Y c2)), (3, .ref (zad Y c3)), (4, .int (i32 a4))]) 6 dL_burn_51 rfl (by decide) rfl ?_
        refine zr_goto cx (tgt := 6) dL_burn_54 rfl ?_
        refine zr_sub [2, 3, 4, 5, 6, 1, 0] rfl ?_
        exact ih c0 c1 c2 c3 a4 x2 (a6 + 1) hc0 hc1 hc2 hc3
      · refine zr_iload (pc' := 29) cx rfl 4 dL_burn_27 rfl ?_
        refine zr_if_eq (pc' := 32) cx rfl (tgt := 43) dL_burn_29 rfl ?_ ?_
        · refine zr_iconst (pc' := 44) cx rfl dL_burn_43 ?_
          refine zr_gotoS cx (tgt := 48) dL_burn_44 rfl ?_
          refine zr_iadd (pc' := 49) cx rfl dL_burn_48 ?_
          refine zr_leti (fun x3 => ?_)
          refine zr_istore (pc' := 51) cx rfl (lv' := [(5, .int (i32 x3)), (0, .ref (zad Y c0)), (1, .ref (zad Y c1)), (2, .ref (zad Y c2)), (3, .ref (zad Y c3)), (4, .int (i32 a4)), (6, .int (i32 a6))]) dL_burn_49 (by decide) rfl ?_
          refine zr_iinc (pc' := 54) cx rfl (lv' := [(6, .int (i32 (a6 + 1))), (5, .int (i32 x3)), (0, .ref (zad Y c0)), (1, .ref (zad Y c1)), (2, .ref (zad Y c2)), (3, .ref (zad Y c3)), (4, .int (i32 a4))]) 6 dL_burn_51 rfl (by decide) rfl ?_
          refine zr_goto cx (tgt := 6) dL_burn_54 rfl ?_
          refine zr_sub [2, 3, 4, 5, 6, 1, 0] rfl ?_
          exact ih c0 c1 c2 c3 a4 x3 (a6 + 1) hc0 hc1 hc2 hc3
        · refine zr_aload_n (pc' := 33) cx rfl 1 dL_burn_32 rfl rfl ?_
          refine zr_iconst (pc' := 34) cx rfl dL_burn_33 ?_
          refine zr_iload (pc' := 36) cx rfl 6 dL_burn_34 rfl ?_
          refine zr_imul (pc' := 37) cx rfl dL_burn_36 ?_
          refine zr_iconst (pc' := 38) cx rfl dL_burn_37 ?_
          refine zr_iadd (pc' := 39) cx rfl dL_burn_38 ?_
          refine zr_iald (pc' := 40) cx rfl 11 hc1 (by decide) (L := 24) rfl dL_burn_39 ?_
          refine zr_gotoS cx (tgt := 48) dL_burn_40 rfl ?_
          refine zr_iadd (pc' := 49) cx rfl dL_burn_48 ?_
          refine zr_leti (fun x4 => ?_)
          refine zr_istore (pc' := 51) cx rfl (lv' := [(5, .int (i32 x4)), (0, .ref (zad Y c0)), (1, .ref (zad Y c1)), (2, .ref (zad Y c2)), (3, .ref (zad Y c3)), (4, .int (i32 a4)), (6, .int (i32 a6))]) dL_burn_49 (by decide) rfl ?_
          refine zr_iinc (pc' := 54) cx rfl (lv' := [(6, .int (i32 (a6 + 1))), (5, .int (i32 x4)), (0, .ref (zad Y c0)), (1, .ref (zad Y c1)), (2, .ref (zad Y c2)), (3, .ref (zad Y c3)), (4, .int (i32 a4))]) 6 dL_burn_51 rfl (by decide) rfl ?_
          refine zr_goto cx (tgt := 6) dL_burn_54 rfl ?_
          refine zr_sub [2, 3, 4, 5, 6, 1, 0] rfl ?_
          exact ih c0 c1 c2 c3 a4 x4 (a6 + 1) hc0 hc1 hc2 hc3
theorem wL_burn (cx : zCx Y p s m args meth c RL cL_burn 7 (some .int)) (g : zSt) (c0 : Nat) (c1 : Nat) (c2 : Nat) (c3 : Nat) (a4 : Int) (hc0 : zV Y c0 = 16) (hc1 : zV Y c1 = 11) (hc2 : zV Y c2 = 13) (hc3 : zV Y c3 = 18) : zWo Y p l e (zrm 1) s m args below meth c 7 0 0 (fun v : Int => MQ below (zQi Y v g) args s 0 0 (zA Y)) g [(0, .ref (zad Y c0)), (1, .ref (zad Y c1)), (2, .ref (zad Y c2)), (3, .ref (zad Y c3)), (4, .int (i32 a4))] ([]) 0 (fL_burn g c0 c1 c2 c3 a4) := by
  unfold fL_burn
  refine zr_iconst (pc' := 1) cx rfl dL_burn_0 ?_
  refine zr_istore (pc' := 3) cx rfl (lv' := [(5, .int (i32 0)), (0, .ref (zad Y c0)), (1, .ref (zad Y c1)), (2, .ref (zad Y c2)), (3, .ref (zad Y c3)), (4, .int (i32 a4))]) dL_burn_1 (by decide) rfl ?_
  refine zr_iconst (pc' := 4) cx rfl dL_burn_3 ?_
  refine zr_istore (pc' := 6) cx rfl (lv' := [(6, .int (i32 0)), (5, .int (i32 0)), (0, .ref (zad Y c0)), (1, .ref (zad Y c1)), (2, .ref (zad Y c2)), (3, .ref (zad Y c3)), (4, .int (i32 a4))]) dL_burn_4 (by decide) rfl ?_
  refine zr_sub [2, 3, 4, 5, 6, 1, 0] rfl ?_
  exact wL_burn_p6 cx g zfu c0 c1 c2 c3 a4 0 0 hc0 hc1 hc2 hc3
theorem mL_burn (l : Launch) (Y : zLy) (g : zSt) (c0 : Nat) (c1 : Nat) (c2 : Nat) (c3 : Nat) (a4 : Int) (hc0 : zV Y c0 = 16) (hc1 : zV Y c1 = 11) (hc2 : zV Y c2 = 13) (hc3 : zV Y c3 = 18) : ∀ v, fL_burn g c0 c1 c2 c3 a4 = some v → zMt l yL_burn cL_burn 7 (some .int) 1 [.ref (zad Y c0), .ref (zad Y c1), .ref (zad Y c2), .ref (zad Y c3), .int (i32 a4)] Y g (zQi Y v g) := by
  intro v hv
  refine zmet_of RL rfl (by decide +kernel) (Nat.le_of_ble_eq_true rfl) ?_
  intro p e s m below meth c cx H locs ls hH hS hl
  exact wL_burn cx g c0 c1 c2 c3 a4 hc0 hc1 hc2 hc3 v hv H locs ls hH hS hl
theorem zc_L_47 (cx : zCx Y p s m args meth c RL cc nl ret) (hpc : pc + 3 = pc') {g : zSt} {c0 : Nat} {c1 : Nat} {c2 : Nat} {c3 : Nat} {a4 : Int} (hc0 : zV Y c0 = 16) (hc1 : zV Y c1 = 11) (hc2 : zV Y c2 = 13) (hc3 : zV Y c3 = 18) {fk : Int → Option ρ} (hR : 1 + 1 ≤ R.frames ∧ 8 + (7 + 11) + 40 * 1 ≤ R.locals) (hkn : k ≤ R.cells ∧ n ≤ R.slots) (hrest : (rest.map fun v => v.category).sum ≤ 8) (hdg : decode cc pc = .ok (.invokestatic 47, 3)) (kk : ∀ v : Int, zWo Y p l e R s m args below meth c nl k n kq g lv (.int (i32 v) :: rest) pc' (fk v)) : zWo Y p l e R s m args below meth c nl k n kq g lv (.int (i32 a4) :: .ref (zad Y c3) :: .ref (zad Y c2) :: .ref (zad Y c1) :: .ref (zad Y c0) :: rest) pc (zbd (fL_burn g c0 c1 c2 c3 a4) fk) := zr_callSiP cx (an := 5) (As := [.ref (zad Y c0), .ref (zad Y c1), .ref (zad Y c2), .ref (zad Y c3), .int (i32 a4)])  (mL_burn l Y g c0 c1 c2 c3 a4 hc0 hc1 hc2 hc3) (zG_S zw_511 zw_512 zw_25 zw_513) (by decide +kernel) hR hkn rfl rfl hrest hdg hpc kk
end ZmL
