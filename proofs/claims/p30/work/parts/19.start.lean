section ZSTARTW
set_option maxRecDepth 100000
variable {Y : zLy} {p : Program} {l : Launch} {e : Env} {s : State} {m : MethodId} {below : List Frame} {meth : Method} {c : Code} {b : Nat} {Q : State → Prop}
def zrB : Nat → va_E := fun _ => .inr (0, [])
def zrF (Y : zLy) : Nat → va_E := (zup (zup (zup (zup (zup (zup (zup (rX7 Y (0 + 1) (zup zrB 0 (.inr (7, [.null, .null, .null, .null, .null, .null, .null, .null, .int 0]))) 0) (0 + 1 + 158) (.inl (zcA Y 0, 56, .inl (fun _ => 0)))) (0 + 1 + 158 + 1) (.inl (zcA Y 0, 24, .inl (fun _ => 0)))) (0 + 1 + 158 + 1 + 1) (.inl (zcA Y 0, 18, .inl (fun _ => 0)))) (0 + 1 + 158 + 1 + 1 + 1) (.inl (zcA Y 0, 9, .inl (fun _ => 0)))) (0 + 1 + 158 + 1 + 1 + 1 + 1) (.inl (zcA Y 0, 14, .inl (fun _ => 0)))) (0 + 1 + 158 + 1 + 1 + 1 + 1 + 1) (.inl (zcA Y 0, 14, .inl (fun _ => 0)))) (0 + 1 + 158 + 1 + 1 + 1 + 1 + 1 + 1) (.inl (zcA Y 0, 6, .inl (fun _ => 0))))
theorem zst_walk (cx : zCv Y p s m #[Value.ref b] meth c RL cL_law 12 ret) (kk : zVo Y p l e room_1 s m #[Value.ref b] below meth c 12 166 2215 Q 166 (zrF Y) [(8, .ref (zB Y + 165)), (7, .ref (zB Y + 164)), (6, .ref (zB Y + 163)), (5, .ref (zB Y + 162)), (4, .ref (zB Y + 161)), (3, .ref (zB Y + 160)), (2, .ref (zB Y + 159)), (1, .ref (zB Y + 0)), (0, .ref b)] [] 48) : zVo Y p l e room_1 s m #[Value.ref b] below meth c 12 0 0 Q 0 zrB [(0, .ref b)] [] 0 := by
  refine zv_new (pc' := 3) cx rfl (fs := [.null, .null, .null, .null, .null, .null, .null, .null, .int 0]) (C := RX7) (T := TX7) (N := 9) (ci := 7) zin_X7 tyX7 tyX7_ok rfl zw_41 zw_42 zw_26 zfs0_7 ⟨Nat.le_of_ble_eq_true rfl, Nat.le_of_ble_eq_true rfl⟩ dL_law_0 ?_
  refine zv_cs (k' := 1) (ns' := 9) rfl rfl ?_
  refine zv_dup (pc' := 4) cx rfl dL_law_3 rfl ?_
  refine zv_call (pc' := 7) cx rfl (vX7 l Y (0 + 1) (zup zrB 0 (.inr (7, [.null, .null, .null, .null, .null, .null, .null, .null, .int 0]))) 0 (by omega) zup_eq) zw_43 zw_44 zw_45 zw_26 rfl (by decide +kernel) ⟨Nat.le_of_ble_eq_true rfl, Nat.le_of_ble_eq_true rfl⟩ ⟨Nat.le_of_ble_eq_true rfl, Nat.le_of_ble_eq_true rfl⟩ (Nat.le_of_ble_eq_true rfl) dL_law_4 ?_
  refine zv_cs (k' := 159) (ns' := 2074) rfl rfl ?_
  refine zv_astore_n (pc' := 8) cx rfl (lv' := [(1, .ref (zB Y + 0)), (0, .ref b)]) dL_law_7 rfl (by decide) rfl ?_
  refine zv_bipush (pc' := 10) cx rfl (w := 56) dL_law_8 (by decide +kernel) ?_
  refine zv_newaI (pc' := 12) cx rfl (L := 56) zw_91 (by decide +kernel) (by decide +kernel) (by decide +kernel) ⟨Nat.le_of_ble_eq_true rfl, Nat.le_of_ble_eq_true rfl⟩ dL_law_10 ?_
  refine zv_cs (k' := 160) (ns' := 2130) rfl rfl ?_
  refine zv_astore_n (pc' := 13) cx rfl (lv' := [(2, .ref (zB Y + (0 + 1 + 158))), (1, .ref (zB Y + 0)), (0, .ref b)]) dL_law_12 rfl (by decide) rfl ?_
  refine zv_bipush (pc' := 15) cx rfl (w := 24) dL_law_13 (by decide +kernel) ?_
  refine zv_newaI (pc' := 17) cx rfl (L := 24) zw_91 (by decide +kernel) (by decide +kernel) (by decide +kernel) ⟨Nat.le_of_ble_eq_true rfl, Nat.le_of_ble_eq_true rfl⟩ dL_law_15 ?_
  refine zv_cs (k' := 161) (ns' := 2154) rfl rfl ?_
  refine zv_astore_n (pc' := 18) cx rfl (lv' := [(3, .ref (zB Y + (0 + 1 + 158 + 1))), (2, .ref (zB Y + (0 + 1 + 158))), (1, .ref (zB Y + 0)), (0, .ref b)]) dL_law_17 rfl (by decide) rfl ?_
  refine zv_bipush (pc' := 20) cx rfl (w := 18) dL_law_18 (by decide +kernel) ?_
  refine zv_newaI (pc' := 22) cx rfl (L := 18) zw_91 (by decide +kernel) (by decide +kernel) (by decide +kernel) ⟨Nat.le_of_ble_eq_true rfl, Nat.le_of_ble_eq_true rfl⟩ dL_law_20 ?_
  refine zv_cs (k' := 162) (ns' := 2172) rfl rfl ?_
  refine zv_astore (pc' := 24) cx rfl (lv' := [(4, .ref (zB Y + (0 + 1 + 158 + 1 + 1))), (3, .ref (zB Y + (0 + 1 + 158 + 1))), (2, .ref (zB Y + (0 + 1 + 158))), (1, .ref (zB Y + 0)), (0, .ref b)]) dL_law_22 (by decide) rfl ?_
  refine zv_bipush (pc' := 26) cx rfl (w := 9) dL_law_24 (by decide +kernel) ?_
  refine zv_newaI (pc' := 28) cx rfl (L := 9) zw_91 (by decide +kernel) (by decide +kernel) (by decide +kernel) ⟨Nat.le_of_ble_eq_true rfl, Nat.le_of_ble_eq_true rfl⟩ dL_law_26 ?_
  refine zv_cs (k' := 163) (ns' := 2181) rfl rfl ?_
  refine zv_astore (pc' := 30) cx rfl (lv' := [(5, .ref (zB Y + (0 + 1 + 158 + 1 + 1 + 1))), (4, .ref (zB Y + (0 + 1 + 158 + 1 + 1))), (3, .ref (zB Y + (0 + 1 + 158 + 1))), (2, .ref (zB Y + (0 + 1 + 158))), (1, .ref (zB Y + 0)), (0, .ref b)]) dL_law_28 (by decide) rfl ?_
  refine zv_bipush (pc' := 32) cx rfl (w := 14) dL_law_30 (by decide +kernel) ?_
  refine zv_newaI (pc' := 34) cx rfl (L := 14) zw_91 (by decide +kernel) (by decide +kernel) (by decide +kernel) ⟨Nat.le_of_ble_eq_true rfl, Nat.le_of_ble_eq_true rfl⟩ dL_law_32 ?_
  refine zv_cs (k' := 164) (ns' := 2195) rfl rfl ?_
  refine zv_astore (pc' := 36) cx rfl (lv' := [(6, .ref (zB Y + (0 + 1 + 158 + 1 + 1 + 1 + 1))), (5, .ref (zB Y + (0 + 1 + 158 + 1 + 1 + 1))), (4, .ref (zB Y + (0 + 1 + 158 + 1 + 1))), (3, .ref (zB Y + (0 + 1 + 158 + 1))), (2, .ref (zB Y + (0 + 1 + 158))), (1, .ref (zB Y + 0)), (0, .ref b)]) dL_law_34 (by decide) rfl ?_
  refine zv_bipush (pc' := 38) cx rfl (w := 14) dL_law_36 (by decide +kernel) ?_
  refine zv_newaI (pc' := 40) cx rfl (L := 14) zw_91 (by decide +kernel) (by decide +kernel) (by decide +kernel) ⟨Nat.le_of_ble_eq_true rfl, Nat.le_of_ble_eq_true rfl⟩ dL_law_38 ?_
  refine zv_cs (k' := 165) (ns' := 2209) rfl rfl ?_
  refine zv_astore (pc' := 42) cx rfl (lv' := [(7, .ref (zB Y + (0 + 1 + 158 + 1 + 1 + 1 + 1 + 1))), (6, .ref (zB Y + (0 + 1 + 158 + 1 + 1 + 1 + 1))), (5, .ref (zB Y + (0 + 1 + 158 + 1 + 1 + 1))), (4, .ref (zB Y + (0 + 1 + 158 + 1 + 1))), (3, .ref (zB Y + (0 + 1 + 158 + 1))), (2, .ref (zB Y + (0 + 1 + 158))), (1, .ref (zB Y + 0)), (0, .ref b)]) dL_law_40 (by decide) rfl ?_
  refine zv_bipush (pc' := 44) cx rfl (w := 6) dL_law_42 (by decide +kernel) ?_
  refine zv_newaI (pc' := 46) cx rfl (L := 6) zw_91 (by decide +kernel) (by decide +kernel) (by decide +kernel) ⟨Nat.le_of_ble_eq_true rfl, Nat.le_of_ble_eq_true rfl⟩ dL_law_44 ?_
  refine zv_cs (k' := 166) (ns' := 2215) rfl rfl ?_
  refine zv_astore (pc' := 48) cx rfl (lv' := [(8, .ref (zB Y + (0 + 1 + 158 + 1 + 1 + 1 + 1 + 1 + 1))), (7, .ref (zB Y + (0 + 1 + 158 + 1 + 1 + 1 + 1 + 1))), (6, .ref (zB Y + (0 + 1 + 158 + 1 + 1 + 1 + 1))), (5, .ref (zB Y + (0 + 1 + 158 + 1 + 1 + 1))), (4, .ref (zB Y + (0 + 1 + 158 + 1 + 1))), (3, .ref (zB Y + (0 + 1 + 158 + 1))), (2, .ref (zB Y + (0 + 1 + 158))), (1, .ref (zB Y + 0)), (0, .ref b)]) dL_law_46 (by decide) rfl ?_
  exact kk
end ZSTARTW
