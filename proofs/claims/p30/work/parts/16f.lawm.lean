section ZLAWM
variable {ρ : Type} {Y : zLy} {p : Program} {l : Launch} {e : Env} {R : Room} {s : State} {m : MethodId} {args : Array Value} {below : List Frame} {meth : Method} {c : Code} {nl k n : Nat} {kq : ρ → State → Prop} {σ : zSt} {Y0 : zLy} {own : String} {lv : List (Nat × Value)} {rest : List Value} {pc pc' : Nat} {o : Option ρ} {cc : ByteArray} {ret : Option FieldType}
def fL_told0 (g : zSt)  : Option (Int × zSt) := fL_told (zNw g 410 413) 
theorem wL_told0 (cx : zCx Y0 p s m args meth c RL cL_told 16 (some .boolean)) (h0 : zlv Y0 = 0) (g : zSt)  : zWo Y0 p l e (zra 3 34 4) s m args below meth c 16 0 0 (fun q : Int × zSt => MQ below (zQi Y0 q.1 q.2) args s 3 34 (zA Y0)) g [(0, .ref (zad Y0 0)), (1, .ref (zad Y0 400)), (2, .ref (zad Y0 401)), (3, .ref (zad Y0 402)), (4, .ref (zad Y0 403))] [] 0 (fL_told0 g ) := by
  unfold fL_told0
  intro r hr H locs ls hH hS hl
  have key : zNo Y0 p l e (zra 3 34 4) s m args below meth c 16 0 0 ((fun q : Int × zSt => MQ below (zQi Y0 q.1 q.2) args s 3 34 (zA Y0)) r) H [] [(0, .ref (zad Y0 0)), (1, .ref (zad Y0 400)), (2, .ref (zad Y0 401)), (3, .ref (zad Y0 402)), (4, .ref (zad Y0 403))] 0 := by
    refine zn_one (p2 := 2) (p4 := 4) (p6 := 6) (w := 14) (N := 14) (lv' := [(5, .ref (H.size + 0)), (0, .ref (zad Y0 0)), (1, .ref (zad Y0 400)), (2, .ref (zad Y0 401)), (3, .ref (zad Y0 402)), (4, .ref (zad Y0 403))]) cx rfl rfl rfl dL_told_0 dL_told_2 dL_told_4 zw_91 (by decide +kernel) (by decide +kernel) (by decide +kernel) (by decide +kernel) ⟨Nat.le_of_ble_eq_true rfl, Nat.le_of_ble_eq_true rfl⟩ (by decide) rfl ?_
    refine zn_one (p2 := 8) (p4 := 10) (p6 := 12) (w := 14) (N := 14) (lv' := [(6, .ref (H.size + 1)), (5, .ref (H.size + 0)), (0, .ref (zad Y0 0)), (1, .ref (zad Y0 400)), (2, .ref (zad Y0 401)), (3, .ref (zad Y0 402)), (4, .ref (zad Y0 403))]) cx rfl rfl rfl dL_told_6 dL_told_8 dL_told_10 zw_91 (by decide +kernel) (by decide +kernel) (by decide +kernel) (by decide +kernel) ⟨Nat.le_of_ble_eq_true rfl, Nat.le_of_ble_eq_true rfl⟩ (by decide) rfl ?_
    refine zn_one (p2 := 14) (p4 := 16) (p6 := 18) (w := 6) (N := 6) (lv' := [(7, .ref (H.size + 2)), (6, .ref (H.size + 1)), (5, .ref (H.size + 0)), (0, .ref (zad Y0 0)), (1, .ref (zad Y0 400)), (2, .ref (zad Y0 401)), (3, .ref (zad Y0 402)), (4, .ref (zad Y0 403))]) cx rfl rfl rfl dL_told_12 dL_told_14 dL_told_16 zw_91 (by decide +kernel) (by decide +kernel) (by decide +kernel) (by decide +kernel) ⟨Nat.le_of_ble_eq_true rfl, Nat.le_of_ble_eq_true rfl⟩ (by decide) rfl ?_
    intro H1 locs1 ls1 z1 o1 n1 hS1 hl1
    obtain ⟨hx, hb, hml, hr0, hlk, hown, hts, hok, hz⟩ := id cx
    obtain ⟨k1, k2, k3, k4⟩ := zup_mk (v := 1) (lo := 410) (N := 3) (Y0 := Y0) (s := s) (σ := g) (H0 := H) (H := H1) (by decide) h0 hok hz hH z1 o1 (fun i hi => n1 i _ (by
      match i, hi with
      | 0, _ => rfl
      | 1, _ => rfl
      | 2, _ => rfl
      | i + 3, hi => exact absurd hi (by omega)))
    exact wL_told (Y := zUp Y0 1 H.size) (Y0 := Y0) ⟨hx, hb, hml, hr0, hlk, hown, hts, k1, k2⟩ rfl k3 (zNw g 410 413)  r hr H1 locs1 ls1 k4 hS1 (lv_sub hl1 [3, 4, 5, 6, 7, 2, 1, 0] rfl)
  exact key H locs ls rfl (fun q _ => rfl) (fun i L h => by simp at h) hS hl
theorem mL_told (l : Launch) (Y0 : zLy) (h0 : zlv Y0 = 0) (g : zSt)  : ∀ v g2, fL_told0 g  = some (v, g2) → zMa l yL_told cL_told 16 3 34 4 [.ref (zad Y0 0), .ref (zad Y0 400), .ref (zad Y0 401), .ref (zad Y0 402), .ref (zad Y0 403)] Y0 g (zQi Y0 v g2) := by
  intro v g2 hv
  refine zma_of RL rfl (by decide +kernel) (Nat.le_of_ble_eq_true rfl) ?_
  intro p e s m below meth c cx H locs ls hH hS hl
  exact wL_told0 cx h0 g  (v, g2) hv H locs ls hH hS hl
theorem zc_L_103 (cx : zCx Y0 p s m args meth c RL cc nl ret) (h0 : zlv Y0 = 0) (hpc : pc + 3 = pc') {g : zSt}  {fk : Int → zSt → Option ρ} (hR : 4 + 1 ≤ R.frames ∧ 8 + (16 + 11) + 40 * 4 ≤ R.locals) (hkn : k + 3 ≤ R.cells ∧ n + 34 ≤ R.slots) (hrest : (rest.map fun v => v.category).sum ≤ 8) (hdg : decode cc pc = .ok (.invokestatic 103, 3)) (kk : ∀ (v : Int) (g2 : zSt), zWo Y0 p l e R s m args below meth c nl (k + 3) (n + 34) kq g2 lv (.int (i32 v) :: rest) pc' (fk v g2)) : zWo Y0 p l e R s m args below meth c nl k n kq g lv (.ref (zad Y0 403) :: .ref (zad Y0 402) :: .ref (zad Y0 401) :: .ref (zad Y0 400) :: .ref (zad Y0 0) :: rest) pc (zbe (fL_told0 g ) fk) := zr_callA cx (an := 5) (As := [.ref (zad Y0 0), .ref (zad Y0 400), .ref (zad Y0 401), .ref (zad Y0 402), .ref (zad Y0 403)]) (mL_told l Y0 h0 g ) (zG_S zw_305 zw_306 zw_25 zw_307) (by decide +kernel) hR hkn rfl rfl hrest hdg hpc kk
def fL_ahead0 (g : zSt) (a1 : Int) (a2 : Int) : Option (Int × zSt) := fL_ahead (zNw g 420 426) a1 a2
theorem wL_ahead0 (cx : zCx Y0 p s m args meth c RL cL_ahead 20 (some .boolean)) (h0 : zlv Y0 = 0) (g : zSt) (a1 : Int) (a2 : Int) : zWo Y0 p l e (zra 6 117 6) s m args below meth c 20 0 0 (fun q : Int × zSt => MQ below (zQi Y0 q.1 q.2) args s 6 117 (zA Y0)) g [(0, .ref (zad Y0 0)), (1, .int (i32 a1)), (2, .int (i32 a2)), (3, .ref (zad Y0 400)), (4, .ref (zad Y0 401)), (5, .ref (zad Y0 402)), (6, .ref (zad Y0 403))] [] 0 (fL_ahead0 g a1 a2) := by
  unfold fL_ahead0
  intro r hr H locs ls hH hS hl
  have key : zNo Y0 p l e (zra 6 117 6) s m args below meth c 20 0 0 ((fun q : Int × zSt => MQ below (zQi Y0 q.1 q.2) args s 6 117 (zA Y0)) r) H [] [(0, .ref (zad Y0 0)), (1, .int (i32 a1)), (2, .int (i32 a2)), (3, .ref (zad Y0 400)), (4, .ref (zad Y0 401)), (5, .ref (zad Y0 402)), (6, .ref (zad Y0 403))] 0 := by
    refine zn_one (p2 := 2) (p4 := 4) (p6 := 6) (w := 56) (N := 56) (lv' := [(7, .ref (H.size + 0)), (0, .ref (zad Y0 0)), (1, .int (i32 a1)), (2, .int (i32 a2)), (3, .ref (zad Y0 400)), (4, .ref (zad Y0 401)), (5, .ref (zad Y0 402)), (6, .ref (zad Y0 403))]) cx rfl rfl rfl dL_ahead_0 dL_ahead_2 dL_ahead_4 zw_91 (by decide +kernel) (by decide +kernel) (by decide +kernel) (by decide +kernel) ⟨Nat.le_of_ble_eq_true rfl, Nat.le_of_ble_eq_true rfl⟩ (by decide) rfl ?_
    refine zn_one (p2 := 8) (p4 := 10) (p6 := 12) (w := 18) (N := 18) (lv' := [(8, .ref (H.size + 1)), (7, .ref (H.size + 0)), (0, .ref (zad Y0 0)), (1, .int (i32 a1)), (2, .int (i32 a2)), (3, .ref (zad Y0 400)), (4, .ref (zad Y0 401)), (5, .ref (zad Y0 402)), (6, .ref (zad Y0 403))]) cx rfl rfl rfl dL_ahead_6 dL_ahead_8 dL_ahead_10 zw_91 (by decide +kernel) (by decide +kernel) (by decide +kernel) (by decide +kernel) ⟨Nat.le_of_ble_eq_true rfl, Nat.le_of_ble_eq_true rfl⟩ (by decide) rfl ?_
    refine zn_one (p2 := 14) (p4 := 16) (p6 := 18) (w := 9) (N := 9) (lv' := [(9, .ref (H.size + 2)), (8, .ref (H.size + 1)), (7, .ref (H.size + 0)), (0, .ref (zad Y0 0)), (1, .int (i32 a1)), (2, .int (i32 a2)), (3, .ref (zad Y0 400)), (4, .ref (zad Y0 401)), (5, .ref (zad Y0 402)), (6, .ref (zad Y0 403))]) cx rfl rfl rfl dL_ahead_12 dL_ahead_14 dL_ahead_16 zw_91 (by decide +kernel) (by decide +kernel) (by decide +kernel) (by decide +kernel) ⟨Nat.le_of_ble_eq_true rfl, Nat.le_of_ble_eq_true rfl⟩ (by decide) rfl ?_
    refine zn_one (p2 := 20) (p4 := 22) (p6 := 24) (w := 14) (N := 14) (lv' := [(10, .ref (H.size + 3)), (9, .ref (H.size + 2)), (8, .ref (H.size + 1)), (7, .ref (H.size + 0)), (0, .ref (zad Y0 0)), (1, .int (i32 a1)), (2, .int (i32 a2)), (3, .ref (zad Y0 400)), (4, .ref (zad Y0 401)), (5, .ref (zad Y0 402)), (6, .ref (zad Y0 403))]) cx rfl rfl rfl dL_ahead_18 dL_ahead_20 dL_ahead_22 zw_91 (by decide +kernel) (by decide +kernel) (by decide +kernel) (by decide +kernel) ⟨Nat.le_of_ble_eq_true rfl, Nat.le_of_ble_eq_true rfl⟩ (by decide) rfl ?_
    refine zn_one (p2 := 26) (p4 := 28) (p6 := 30) (w := 14) (N := 14) (lv' := [(11, .ref (H.size + 4)), (10, .ref (H.size + 3)), (9, .ref (H.size + 2)), (8, .ref (H.size + 1)), (7, .ref (H.size + 0)), (0, .ref (zad Y0 0)), (1, .int (i32 a1)), (2, .int (i32 a2)), (3, .ref (zad Y0 400)), (4, .ref (zad Y0 401)), (5, .ref (zad Y0 402)), (6, .ref (zad Y0 403))]) cx rfl rfl rfl dL_ahead_24 dL_ahead_26 dL_ahead_28 zw_91 (by decide +kernel) (by decide +kernel) (by decide +kernel) (by decide +kernel) ⟨Nat.le_of_ble_eq_true rfl, Nat.le_of_ble_eq_true rfl⟩ (by decide) rfl ?_
    refine zn_one (p2 := 32) (p4 := 34) (p6 := 36) (w := 6) (N := 6) (lv' := [(12, .ref (H.size + 5)), (11, .ref (H.size + 4)), (10, .ref (H.size + 3)), (9, .ref (H.size + 2)), (8, .ref (H.size + 1)), (7, .ref (H.size + 0)), (0, .ref (zad Y0 0)), (1, .int (i32 a1)), (2, .int (i32 a2)), (3, .ref (zad Y0 400)), (4, .ref (zad Y0 401)), (5, .ref (zad Y0 402)), (6, .ref (zad Y0 403))]) cx rfl rfl rfl dL_ahead_30 dL_ahead_32 dL_ahead_34 zw_91 (by decide +kernel) (by decide +kernel) (by decide +kernel) (by decide +kernel) ⟨Nat.le_of_ble_eq_true rfl, Nat.le_of_ble_eq_true rfl⟩ (by decide) rfl ?_
    intro H1 locs1 ls1 z1 o1 n1 hS1 hl1
    obtain ⟨hx, hb, hml, hr0, hlk, hown, hts, hok, hz⟩ := id cx
    obtain ⟨k1, k2, k3, k4⟩ := zup_mk (v := 2) (lo := 420) (N := 6) (Y0 := Y0) (s := s) (σ := g) (H0 := H) (H := H1) (by decide) h0 hok hz hH z1 o1 (fun i hi => n1 i _ (by
      match i, hi with
      | 0, _ => rfl
      | 1, _ => rfl
      | 2, _ => rfl
      | 3, _ => rfl
      | 4, _ => rfl
      | 5, _ => rfl
      | i + 6, hi => exact absurd hi (by omega)))
    exact wL_ahead (Y := zUp Y0 2 H.size) (Y0 := Y0) ⟨hx, hb, hml, hr0, hlk, hown, hts, k1, k2⟩ rfl k3 (zNw g 420 426) a1 a2 r hr H1 locs1 ls1 k4 hS1 (lv_sub hl1 [6, 7, 8, 9, 10, 11, 12, 5, 4, 3, 2, 1, 0] rfl)
  exact key H locs ls rfl (fun q _ => rfl) (fun i L h => by simp at h) hS hl
theorem mL_ahead (l : Launch) (Y0 : zLy) (h0 : zlv Y0 = 0) (g : zSt) (a1 : Int) (a2 : Int) : ∀ v g2, fL_ahead0 g a1 a2 = some (v, g2) → zMa l yL_ahead cL_ahead 20 6 117 6 [.ref (zad Y0 0), .int (i32 a1), .int (i32 a2), .ref (zad Y0 400), .ref (zad Y0 401), .ref (zad Y0 402), .ref (zad Y0 403)] Y0 g (zQi Y0 v g2) := by
  intro v g2 hv
  refine zma_of RL rfl (by decide +kernel) (Nat.le_of_ble_eq_true rfl) ?_
  intro p e s m below meth c cx H locs ls hH hS hl
  exact wL_ahead0 cx h0 g a1 a2 (v, g2) hv H locs ls hH hS hl
theorem zc_L_116 (cx : zCx Y0 p s m args meth c RL cc nl ret) (h0 : zlv Y0 = 0) (hpc : pc + 3 = pc') {g : zSt} {a1 : Int} {a2 : Int} {fk : Int → zSt → Option ρ} (hR : 6 + 1 ≤ R.frames ∧ 8 + (20 + 11) + 40 * 6 ≤ R.locals) (hkn : k + 6 ≤ R.cells ∧ n + 117 ≤ R.slots) (hrest : (rest.map fun v => v.category).sum ≤ 8) (hdg : decode cc pc = .ok (.invokestatic 116, 3)) (kk : ∀ (v : Int) (g2 : zSt), zWo Y0 p l e R s m args below meth c nl (k + 6) (n + 117) kq g2 lv (.int (i32 v) :: rest) pc' (fk v g2)) : zWo Y0 p l e R s m args below meth c nl k n kq g lv (.ref (zad Y0 403) :: .ref (zad Y0 402) :: .ref (zad Y0 401) :: .ref (zad Y0 400) :: .int (i32 a2) :: .int (i32 a1) :: .ref (zad Y0 0) :: rest) pc (zbe (fL_ahead0 g a1 a2) fk) := zr_callA cx (an := 7) (As := [.ref (zad Y0 0), .int (i32 a1), .int (i32 a2), .ref (zad Y0 400), .ref (zad Y0 401), .ref (zad Y0 402), .ref (zad Y0 403)]) (mL_ahead l Y0 h0 g a1 a2) (zG_S zw_514 zw_515 zw_25 zw_516) (by decide +kernel) hR hkn rfl rfl hrest hdg hpc kk
def zsc (xs : Nat → Int32) (i : Int) : Int := (xs i.toNat).toInt
theorem zr_slen (cx : zCx Y p s m args meth c own cc nl ret) (hpc : pc + 1 = pc') (hdg : decode cc pc = .ok (.arraylength, 1)) (kk : zWo Y p l e R s m args below meth c nl k n kq σ lv (.int (i32 (zsL Y : Int)) :: rest) pc' o) : zWo Y p l e R s m args below meth c nl k n kq σ lv (.ref (zsb Y) :: rest) pc o := by
  subst hpc
  obtain ⟨hx, hb, hml, hr0, hlk, hown, hts, hok, hz⟩ := id cx
  intro r hr H locs ls hH hS hl
  exact va_slen hx hb hz.2 (zX_lt hz) (Nat.not_le.mpr hz.1.1) hS hdg (kk r hr H locs ls hH hS hl)
theorem zr_sld (cx : zCx Y p s m args meth c own cc nl ret) (hpc : pc + 1 = pc') {i : Int} (hdg : decode cc pc = .ok (.iaload, 1)) (kk : zWo Y p l e R s m args below meth c nl k n kq σ lv (.int (i32 (zsc (zsx Y) i)) :: rest) pc' o) : zWo Y p l e R s m args below meth c nl k n kq σ lv (.int (i32 i) :: .ref (zsb Y) :: rest) pc (zck (0 ≤ i ∧ i < zsL Y) o) := by
  subst hpc
  obtain ⟨hx, hb, hml, hr0, hlk, hown, hts, hok, hz⟩ := id cx
  intro r hr H locs ls hH hS hl
  obtain ⟨h, hr⟩ := zck_some hr
  obtain ⟨hi, ht⟩ := i32_in h (by have := hz.1.2; omega)
  refine va_sld hx hb hz.2 (zX_lt hz) (Nat.not_le.mpr hz.1.1) hS hi hdg ?_
  rw [ht]
  have := kk r hr H locs ls hH hS hl
  rw [show i32 (zsc (zsx Y) i) = (zsx Y) i.toNat from Int32.ofInt_toInt _] at this
  exact this
def fL_cell (L : Nat) (xs : Nat → Int32) (a1 : Int) : Option Int := (if i32 a1 < i32 (L : Int) then zck (0 ≤ a1 ∧ a1 < L) (some (zsc xs a1)) else some (1291169091 * (a1 + 1)))
theorem wL_cell (cx : zCx Y p s m args meth c RL cL_cell 2 (some .int)) (g : zSt) (a1 : Int) : zWo Y p l e (zrm 0) s m args below meth c 2 0 0 (fun v : Int => MQ below (zQi Y v g) args s 0 0 (zA Y)) g [(0, .ref (zsb Y)), (1, .int (i32 a1))] [] 0 (fL_cell (zsL Y) (zsx Y) a1) := by
  unfold fL_cell
  refine zr_iload_n (pc' := 1) cx rfl 1 dL_cell_0 rfl rfl ?_
  refine zr_aload_n (pc' := 2) cx rfl 0 dL_cell_1 rfl rfl ?_
  refine zr_slen (pc' := 3) cx rfl dL_cell_2 ?_
  refine zr_icmp_ge (pc' := 6) cx rfl (tgt := 12) dL_cell_3 rfl ?_ ?_
  · refine zr_ldc (pc' := 14) cx rfl (v := 1291169091) dL_cell_12 zw_301 (by decide +kernel) ?_
    refine zr_iload_n (pc' := 15) cx rfl 1 dL_cell_14 rfl rfl ?_
    refine zr_iconst (pc' := 16) cx rfl dL_cell_15 ?_
    refine zr_iadd (pc' := 17) cx rfl dL_cell_16 ?_
    refine zr_imul (pc' := 18) cx rfl dL_cell_17 ?_
    exact zr_iretP cx dL_cell_18
  · refine zr_aload_n (pc' := 7) cx rfl 0 dL_cell_6 rfl rfl ?_
    refine zr_iload_n (pc' := 8) cx rfl 1 dL_cell_7 rfl rfl ?_
    refine zr_sld (pc' := 9) cx rfl dL_cell_8 ?_
    refine zr_gotoS cx (tgt := 18) dL_cell_9 rfl ?_
    exact zr_iretP cx dL_cell_18
theorem mL_cell (l : Launch) (Y : zLy) (g : zSt) (a1 : Int) : ∀ v, fL_cell (zsL Y) (zsx Y) a1 = some v → zMt l yL_cell cL_cell 2 (some .int) 0 [.ref (zsb Y), .int (i32 a1)] Y g (zQi Y v g) := by
  intro v hv
  refine zmet_of RL rfl (by decide +kernel) (Nat.le_of_ble_eq_true rfl) ?_
  intro p e s m below meth c cx H locs ls hH hS hl
  exact wL_cell cx g a1 v hv H locs ls hH hS hl
theorem zc_L_107 (cx : zCx Y p s m args meth c RL cc nl ret) (hpc : pc + 3 = pc') {g : zSt} {a1 : Int} {fk : Int → Option ρ} (hR : 0 + 1 ≤ R.frames ∧ 8 + (2 + 11) + 40 * 0 ≤ R.locals) (hkn : k ≤ R.cells ∧ n ≤ R.slots) (hrest : (rest.map fun v => v.category).sum ≤ 8) (hdg : decode cc pc = .ok (.invokestatic 107, 3)) (kk : ∀ v : Int, zWo Y p l e R s m args below meth c nl k n kq g lv (.int (i32 v) :: rest) pc' (fk v)) : zWo Y p l e R s m args below meth c nl k n kq g lv (.int (i32 a1) :: .ref (zsb Y) :: rest) pc (zbd (fL_cell (zsL Y) (zsx Y) a1) fk) := zr_callSiP cx (an := 2) (As := [.ref (zsb Y), .int (i32 a1)]) (mL_cell l Y g a1) (zG_S zw_298 zw_299 zw_25 zw_300) (by decide +kernel) hR hkn rfl rfl hrest hdg hpc kk
end ZLAWM
