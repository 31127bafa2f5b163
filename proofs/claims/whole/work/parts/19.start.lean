section ZSTARTW
set_option maxRecDepth 100000
variable {Y : zLy} {p : Program} {l : Launch} {e : Env} {s : State} {m : MethodId} {below : List Frame} {meth : Method} {c : Code} {b : Nat} {Q : State → Prop}
def zrB : Nat → va_E := fun _ => .inr (0, [])
def zrF (Y : zLy) : Nat → va_E := (zup (rX8 Y (0 + 1 + 158 + 1) (zup (rX7 Y (0 + 1) (zup zrB 0 (.inr (7, [.null, .null, .null, .null, .null, .null, .null, .null, .int 0]))) 0) (0 + 1 + 158) (.inr (8, [.int 0, .null, .int 0, .null, .int 0, .null, .int 0, .int 0, .null, .int 0, .int 0, .int 0, .int 0, .null, .long 0]))) (0 + 1 + 158)) (0 + 1 + 158 + 1 + 5) (.inl (zcA Y 2, 1, .inr (.inl (fun _ => 0)))))
theorem zst_walk (cx : zCv Y p s m #[Value.ref b] meth c RL cL_law 9 ret) (kk : zVo Y p l e room_1 s m #[Value.ref b] below meth c 9 166 3574 Q 166 (zrF Y) [(4, .int 0), (3, .ref (zB Y + 165)), (2, .ref (zB Y + 159)), (1, .ref (zB Y + 0)), (0, .ref b)] [] 23) : zVo Y p l e room_1 s m #[Value.ref b] below meth c 9 0 0 Q 0 zrB [(0, .ref b)] [] 0 := by
  refine zv_new (pc' := 3) cx rfl (fs := [.null, .null, .null, .null, .null, .null, .null, .null, .int 0]) (C := RX7) (T := TX7) (N := 9) (ci := 7) zin_X7 tyX7 tyX7_ok rfl zw_118 zw_119 zw_101 zfs0_7 ⟨Nat.le_of_ble_eq_true rfl, Nat.le_of_ble_eq_true rfl⟩ dL_law_0 ?_
  refine zv_cs (k' := 1) (ns' := 9) rfl rfl ?_
  refine zv_dup (pc' := 4) cx rfl dL_law_3 rfl ?_
  refine zv_call (pc' := 7) cx rfl (vX7 l Y (0 + 1) (zup zrB 0 (.inr (7, [.null, .null, .null, .null, .null, .null, .null, .null, .int 0]))) 0 (by omega) zup_eq) zw_120 zw_121 zw_122 zw_101 rfl (by decide +kernel) ⟨Nat.le_of_ble_eq_true rfl, Nat.le_of_ble_eq_true rfl⟩ ⟨Nat.le_of_ble_eq_true rfl, Nat.le_of_ble_eq_true rfl⟩ (Nat.le_of_ble_eq_true rfl) dL_law_4 ?_
  refine zv_cs (k' := 159) (ns' := 2074) rfl rfl ?_
  refine zv_astore_n (pc' := 8) cx rfl (lv' := [(1, .ref (zB Y + 0)), (0, .ref b)]) dL_law_7 rfl (by decide) rfl ?_
  refine zv_new (pc' := 11) cx rfl (fs := [.int 0, .null, .int 0, .null, .int 0, .null, .int 0, .int 0, .null, .int 0, .int 0, .int 0, .int 0, .null, .long 0]) (C := RX8) (T := TX8) (N := 15) (ci := 8) zin_X8 tyX8 tyX8_ok rfl zw_960 zw_961 zw_109 zfs0_8 ⟨Nat.le_of_ble_eq_true rfl, Nat.le_of_ble_eq_true rfl⟩ dL_law_8 ?_
  refine zv_cs (k' := 160) (ns' := 2089) rfl rfl ?_
  refine zv_dup (pc' := 12) cx rfl dL_law_11 rfl ?_
  refine zv_call (pc' := 15) cx rfl (vX8 l Y (0 + 1 + 158 + 1) (zup (rX7 Y (0 + 1) (zup zrB 0 (.inr (7, [.null, .null, .null, .null, .null, .null, .null, .null, .int 0]))) 0) (0 + 1 + 158) (.inr (8, [.int 0, .null, .int 0, .null, .int 0, .null, .int 0, .int 0, .null, .int 0, .int 0, .int 0, .int 0, .null, .long 0]))) (0 + 1 + 158) (by omega) zup_eq) zw_962 zw_963 zw_964 zw_109 rfl (by decide +kernel) ⟨Nat.le_of_ble_eq_true rfl, Nat.le_of_ble_eq_true rfl⟩ ⟨Nat.le_of_ble_eq_true rfl, Nat.le_of_ble_eq_true rfl⟩ (Nat.le_of_ble_eq_true rfl) dL_law_12 ?_
  refine zv_cs (k' := 165) (ns' := 3573) rfl rfl ?_
  refine zv_astore_n (pc' := 16) cx rfl (lv' := [(2, .ref (zB Y + (0 + 1 + 158))), (1, .ref (zB Y + 0)), (0, .ref b)]) dL_law_15 rfl (by decide) rfl ?_
  refine zv_iconst (pc' := 17) cx rfl (w := 1) dL_law_16 (by decide +kernel) ?_
  refine zv_newaJ (pc' := 19) cx rfl (L := 1) zw_1394 (by decide +kernel) (by decide +kernel) (by decide +kernel) ⟨Nat.le_of_ble_eq_true rfl, Nat.le_of_ble_eq_true rfl⟩ dL_law_17 ?_
  refine zv_cs (k' := 166) (ns' := 3574) rfl rfl ?_
  refine zv_astore_n (pc' := 20) cx rfl (lv' := [(3, .ref (zB Y + (0 + 1 + 158 + 1 + 5))), (2, .ref (zB Y + (0 + 1 + 158))), (1, .ref (zB Y + 0)), (0, .ref b)]) dL_law_19 rfl (by decide) rfl ?_
  refine zv_iconst (pc' := 21) cx rfl (w := 0) dL_law_20 (by decide +kernel) ?_
  refine zv_istore (pc' := 23) cx rfl (lv' := [(4, .int 0), (3, .ref (zB Y + (0 + 1 + 158 + 1 + 5))), (2, .ref (zB Y + (0 + 1 + 158))), (1, .ref (zB Y + 0)), (0, .ref b)]) dL_law_21 (by decide) rfl ?_
  exact kk
end ZSTARTW
