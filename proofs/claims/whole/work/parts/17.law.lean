section ZLAWC
variable {ρ : Type} {Y : zLy} {p : Program} {l : Launch} {e : Env} {R : Room} {s : State} {m : MethodId} {args : Array Value} {below : List Frame} {meth : Method} {c : Code} {nl k n : Nat} {kq : ρ → State → Prop} {lv : List (Nat × Value)} {rest : List Value} {pc pc' : Nat} {cc : ByteArray} {ret : Option FieldType}
theorem zc_L_100 (cx : zCx Y p s m args meth c RL cc nl ret) (hpc : pc + 3 = pc') {g : zSt} {a1 : Int} {a2 : Int} {a3 : Int} {a4 : Int} {fk : Int → zSt → Option ρ} (hR : 12 + 1 ≤ R.frames ∧ 8 + (5 + 11) + 40 * 12 ≤ R.locals) (hkn : k ≤ R.cells ∧ n ≤ R.slots) (hrest : (rest.map fun v => v.category).sum ≤ 8) (hdg : decode cc pc = .ok (.invokevirtual 100, 3)) (kk : ∀ (v : Int) (g2 : zSt), zWo Y p l e R s m args below meth c nl k n kq g2 lv (.int (i32 v) :: rest) pc' (fk v g2)) : zWo Y p l e R s m args below meth c nl k n kq g lv (.int (i32 a4) :: .int (i32 a3) :: .int (i32 a2) :: .int (i32 a1) :: .ref (zad Y 400) :: rest) pc (zbe (fX8_addBox g a1 a2 a3 a4) fk) := zr_callViE cx (an := 4) (As := [.int (i32 a1), .int (i32 a2), .int (i32 a3), .int (i32 a4)]) 9 zkc_400 (by decide) rfl (mX8_addBox l Y g a1 a2 a3 a4) (zG_V zw_1020 zw_1021 zw_1022 zw_109 zw_1023) (by decide +kernel) hR hkn rfl rfl hrest hdg hpc kk
theorem zc_L_101 (cx : zCx Y p s m args meth c RL cc nl ret) (hpc : pc + 3 = pc') {g : zSt}  {fk : Int → Option ρ} (hR : 0 + 1 ≤ R.frames ∧ 8 + (1 + 11) + 40 * 0 ≤ R.locals) (hkn : k ≤ R.cells ∧ n ≤ R.slots) (hrest : (rest.map fun v => v.category).sum ≤ 8) (hdg : decode cc pc = .ok (.invokevirtual 101, 3)) (kk : ∀ v : Int, zWo Y p l e R s m args below meth c nl k n kq g lv (.int (i32 v) :: rest) pc' (fk v)) : zWo Y p l e R s m args below meth c nl k n kq g lv (.ref (zad Y 400) :: rest) pc (zbd (fX8_thrown g) fk) := zr_callViP cx (an := 0) (As := []) 9 zkc_400 (by decide) rfl (mX8_thrown l Y g) (zG_V zw_1012 zw_1013 zw_1014 zw_109 zw_1015) (by decide +kernel) hR hkn rfl rfl hrest hdg hpc kk
theorem zc_L_107 (cx : zCx Y p s m args meth c RL cc nl ret) (hpc : pc + 3 = pc') {g : zSt} {a1 : Int} {fk : Int → zSt → Option ρ} (hR : 12 + 1 ≤ R.frames ∧ 8 + (2 + 11) + 40 * 12 ≤ R.locals) (hkn : k ≤ R.cells ∧ n ≤ R.slots) (hrest : (rest.map fun v => v.category).sum ≤ 8) (hdg : decode cc pc = .ok (.invokevirtual 107, 3)) (kk : ∀ (v : Int) (g2 : zSt), zWo Y p l e R s m args below meth c nl k n kq g2 lv (.int (i32 v) :: rest) pc' (fk v g2)) : zWo Y p l e R s m args below meth c nl k n kq g lv (.int (i32 a1) :: .ref (zad Y 400) :: rest) pc (zbe (fX8_toggle g a1) fk) := zr_callViE cx (an := 1) (As := [.int (i32 a1)]) 9 zkc_400 (by decide) rfl (mX8_toggle l Y g a1) (zG_V zw_1126 zw_1127 zw_1128 zw_109 zw_1129) (by decide +kernel) hR hkn rfl rfl hrest hdg hpc kk
theorem zc_L_110 (cx : zCx Y p s m args meth c RL cc nl ret) (hpc : pc + 3 = pc') {g : zSt} {a1 : Int} {fk : Int → zSt → Option ρ} (hR : 12 + 1 ≤ R.frames ∧ 8 + (2 + 11) + 40 * 12 ≤ R.locals) (hkn : k ≤ R.cells ∧ n ≤ R.slots) (hrest : (rest.map fun v => v.category).sum ≤ 8) (hdg : decode cc pc = .ok (.invokevirtual 110, 3)) (kk : ∀ (v : Int) (g2 : zSt), zWo Y p l e R s m args below meth c nl k n kq g2 lv (.int (i32 v) :: rest) pc' (fk v g2)) : zWo Y p l e R s m args below meth c nl k n kq g lv (.int (i32 a1) :: .ref (zad Y 400) :: rest) pc (zbe (fX8_cross g a1) fk) := zr_callViE cx (an := 1) (As := [.int (i32 a1)]) 9 zkc_400 (by decide) rfl (mX8_cross l Y g a1) (zG_V zw_1138 zw_1139 zw_1140 zw_109 zw_1141) (by decide +kernel) hR hkn rfl rfl hrest hdg hpc kk
theorem zc_L_114 (cx : zCx Y p s m args meth c RL cc nl ret) (hpc : pc + 3 = pc') {g : zSt} {a1 : Int} {a2 : Int} {a3 : Int} {fk : Int → zSt → Option ρ} (hR : 11 + 1 ≤ R.frames ∧ 8 + (5 + 11) + 40 * 11 ≤ R.locals) (hkn : k ≤ R.cells ∧ n ≤ R.slots) (hrest : (rest.map fun v => v.category).sum ≤ 8) (hdg : decode cc pc = .ok (.invokevirtual 114, 3)) (kk : ∀ (v : Int) (g2 : zSt), zWo Y p l e R s m args below meth c nl k n kq g2 lv (.int (i32 v) :: rest) pc' (fk v g2)) : zWo Y p l e R s m args below meth c nl k n kq g lv (.int (i32 a3) :: .int (i32 a2) :: .int (i32 a1) :: .ref (zad Y 400) :: rest) pc (zbe (fX8_replace g a1 a2 a3) fk) := zr_callViE cx (an := 3) (As := [.int (i32 a1), .int (i32 a2), .int (i32 a3)]) 9 zkc_400 (by decide) rfl (mX8_replace l Y g a1 a2 a3) (zG_V zw_1146 zw_1147 zw_1148 zw_109 zw_1149) (by decide +kernel) hR hkn rfl rfl hrest hdg hpc kk
theorem zc_L_117 (cx : zCx Y p s m args meth c RL cc nl ret) (hpc : pc + 3 = pc') {g : zSt} {a1 : Int} {fk : Int → zSt → Option ρ} (hR : 1 + 1 ≤ R.frames ∧ 8 + (2 + 11) + 40 * 1 ≤ R.locals) (hkn : k ≤ R.cells ∧ n ≤ R.slots) (hrest : (rest.map fun v => v.category).sum ≤ 8) (hdg : decode cc pc = .ok (.invokevirtual 117, 3)) (kk : ∀ (v : Int) (g2 : zSt), zWo Y p l e R s m args below meth c nl k n kq g2 lv (.int (i32 v) :: rest) pc' (fk v g2)) : zWo Y p l e R s m args below meth c nl k n kq g lv (.int (i32 a1) :: .ref (zad Y 400) :: rest) pc (zbe (fX8_buyFuses g a1) fk) := zr_callViE cx (an := 1) (As := [.int (i32 a1)]) 9 zkc_400 (by decide) rfl (mX8_buyFuses l Y g a1) (zG_V zw_1153 zw_1154 zw_1155 zw_109 zw_1156) (by decide +kernel) hR hkn rfl rfl hrest hdg hpc kk
theorem zc_L_121 (cx : zCx Y p s m args meth c RL cc nl ret) (hpc : pc + 3 = pc') {g : zSt} {a1 : Int} {a2 : Int} {a3 : Int} {fk : Int → zSt → Option ρ} (hR : 12 + 1 ≤ R.frames ∧ 8 + (4 + 11) + 40 * 12 ≤ R.locals) (hkn : k ≤ R.cells ∧ n ≤ R.slots) (hrest : (rest.map fun v => v.category).sum ≤ 8) (hdg : decode cc pc = .ok (.invokevirtual 121, 3)) (kk : ∀ (v : Int) (g2 : zSt), zWo Y p l e R s m args below meth c nl k n kq g2 lv (.int (i32 v) :: rest) pc' (fk v g2)) : zWo Y p l e R s m args below meth c nl k n kq g lv (.int (i32 a3) :: .int (i32 a2) :: .int (i32 a1) :: .ref (zad Y 400) :: rest) pc (zbe (fX8_hang g a1 a2 a3) fk) := zr_callViE cx (an := 3) (As := [.int (i32 a1), .int (i32 a2), .int (i32 a3)]) 9 zkc_400 (by decide) rfl (mX8_hang l Y g a1 a2 a3) (zG_V zw_1157 zw_1158 zw_1159 zw_109 zw_1160) (by decide +kernel) hR hkn rfl rfl hrest hdg hpc kk
theorem zc_L_124 (cx : zCx Y p s m args meth c RL cc nl ret) (hpc : pc + 3 = pc') {g : zSt} {a1 : Int} {fk : Int → zSt → Option ρ} (hR : 11 + 1 ≤ R.frames ∧ 8 + (4 + 11) + 40 * 11 ≤ R.locals) (hkn : k ≤ R.cells ∧ n ≤ R.slots) (hrest : (rest.map fun v => v.category).sum ≤ 8) (hdg : decode cc pc = .ok (.invokevirtual 124, 3)) (kk : ∀ (v : Int) (g2 : zSt), zWo Y p l e R s m args below meth c nl k n kq g2 lv (.int (i32 v) :: rest) pc' (fk v g2)) : zWo Y p l e R s m args below meth c nl k n kq g lv (.int (i32 a1) :: .ref (zad Y 400) :: rest) pc (zbe (fX8_takeDown g a1) fk) := zr_callViE cx (an := 1) (As := [.int (i32 a1)]) 9 zkc_400 (by decide) rfl (mX8_takeDown l Y g a1) (zG_V zw_1169 zw_1170 zw_1171 zw_109 zw_1172) (by decide +kernel) hR hkn rfl rfl hrest hdg hpc kk
theorem zc_L_127 (cx : zCx Y p s m args meth c RL cc nl ret) (hpc : pc + 3 = pc') {g : zSt} {a1 : Int} {a2 : Int} {a3 : Int} {fk : Int → zSt → Option ρ} (hR : 12 + 1 ≤ R.frames ∧ 8 + (4 + 11) + 40 * 12 ≤ R.locals) (hkn : k ≤ R.cells ∧ n ≤ R.slots) (hrest : (rest.map fun v => v.category).sum ≤ 8) (hdg : decode cc pc = .ok (.invokevirtual 127, 3)) (kk : ∀ (v : Int) (g2 : zSt), zWo Y p l e R s m args below meth c nl k n kq g2 lv (.int (i32 v) :: rest) pc' (fk v g2)) : zWo Y p l e R s m args below meth c nl k n kq g lv (.int (i32 a3) :: .int (i32 a2) :: .int (i32 a1) :: .ref (zad Y 400) :: rest) pc (zbe (fX8_fault g a1 a2 a3) fk) := zr_callViE cx (an := 3) (As := [.int (i32 a1), .int (i32 a2), .int (i32 a3)]) 9 zkc_400 (by decide) rfl (mX8_fault l Y g a1 a2 a3) (zG_V zw_1177 zw_1178 zw_1179 zw_109 zw_1180) (by decide +kernel) hR hkn rfl rfl hrest hdg hpc kk
theorem zc_L_130 (cx : zCx Y p s m args meth c RL cc nl ret) (hpc : pc + 3 = pc') {g : zSt} {a1 : Int} {fk : Int → zSt → Option ρ} (hR : 11 + 1 ≤ R.frames ∧ 8 + (4 + 11) + 40 * 11 ≤ R.locals) (hkn : k ≤ R.cells ∧ n ≤ R.slots) (hrest : (rest.map fun v => v.category).sum ≤ 8) (hdg : decode cc pc = .ok (.invokevirtual 130, 3)) (kk : ∀ (v : Int) (g2 : zSt), zWo Y p l e R s m args below meth c nl k n kq g2 lv (.int (i32 v) :: rest) pc' (fk v g2)) : zWo Y p l e R s m args below meth c nl k n kq g lv (.int (i32 a1) :: .ref (zad Y 400) :: rest) pc (zbe (fX8_mend g a1) fk) := zr_callViE cx (an := 1) (As := [.int (i32 a1)]) 9 zkc_400 (by decide) rfl (mX8_mend l Y g a1) (zG_V zw_1189 zw_1190 zw_1191 zw_109 zw_1192) (by decide +kernel) hR hkn rfl rfl hrest hdg hpc kk
theorem zc_L_133 (cx : zCx Y p s m args meth c RL cc nl ret) (hpc : pc + 3 = pc') {g : zSt} {a1 : Int} {fk : Int → zSt → Option ρ} (hR : 7 + 1 ≤ R.frames ∧ 8 + (3 + 11) + 40 * 7 ≤ R.locals) (hkn : k ≤ R.cells ∧ n ≤ R.slots) (hrest : (rest.map fun v => v.category).sum ≤ 8) (hdg : decode cc pc = .ok (.invokevirtual 133, 3)) (kk : ∀ (v : Int) (g2 : zSt), zWo Y p l e R s m args below meth c nl k n kq g2 lv (.int (i32 v) :: rest) pc' (fk v g2)) : zWo Y p l e R s m args below meth c nl k n kq g lv (.int (i32 a1) :: .ref (zad Y 400) :: rest) pc (zbe (fX8_burn g a1) fk) := zr_callViE cx (an := 1) (As := [.int (i32 a1)]) 9 zkc_400 (by decide) rfl (mX8_burn l Y g a1) (zG_V zw_1197 zw_1198 zw_1199 zw_109 zw_1200) (by decide +kernel) hR hkn rfl rfl hrest hdg hpc kk
theorem zc_L_136 (cx : zCx Y p s m args meth c RL cc nl ret) (hpc : pc + 3 = pc') {g : zSt} {a1 : Int} {fk : Int → zSt → Option ρ} (hR : 1 + 1 ≤ R.frames ∧ 8 + (2 + 11) + 40 * 1 ≤ R.locals) (hkn : k ≤ R.cells ∧ n ≤ R.slots) (hrest : (rest.map fun v => v.category).sum ≤ 8) (hdg : decode cc pc = .ok (.invokevirtual 136, 3)) (kk : ∀ (v : Int) (g2 : zSt), zWo Y p l e R s m args below meth c nl k n kq g2 lv (.int (i32 v) :: rest) pc' (fk v g2)) : zWo Y p l e R s m args below meth c nl k n kq g lv (.int (i32 a1) :: .ref (zad Y 400) :: rest) pc (zbe (fX8_append g a1) fk) := zr_callViE cx (an := 1) (As := [.int (i32 a1)]) 9 zkc_400 (by decide) rfl (mX8_append l Y g a1) (zG_V zw_1206 zw_1207 zw_1208 zw_109 zw_1209) (by decide +kernel) hR hkn rfl rfl hrest hdg hpc kk
theorem zc_L_137 (cx : zCx Y p s m args meth c RL cc nl ret) (hpc : pc + 3 = pc') {g : zSt}  {fk : Int → zSt → Option ρ} (hR : 0 + 1 ≤ R.frames ∧ 8 + (2 + 11) + 40 * 0 ≤ R.locals) (hkn : k ≤ R.cells ∧ n ≤ R.slots) (hrest : (rest.map fun v => v.category).sum ≤ 8) (hdg : decode cc pc = .ok (.invokevirtual 137, 3)) (kk : ∀ (v : Int) (g2 : zSt), zWo Y p l e R s m args below meth c nl k n kq g2 lv (.int (i32 v) :: rest) pc' (fk v g2)) : zWo Y p l e R s m args below meth c nl k n kq g lv (.ref (zad Y 0) :: rest) pc (zbe (fX7_clearBuffer g) fk) := zr_callViE cx (an := 0) (As := []) 8 zkc_0 (by decide) rfl (mX7_clearBuffer l Y g) (zG_V zw_377 zw_378 zw_379 zw_101 zw_380) (by decide +kernel) hR hkn rfl rfl hrest hdg hpc kk
theorem zc_L_140 (cx : zCx Y p s m args meth c RL cc nl ret) (hpc : pc + 3 = pc') {g : zSt}  {fk : Int → zSt → Option ρ} (hR : 0 + 1 ≤ R.frames ∧ 8 + (2 + 11) + 40 * 0 ≤ R.locals) (hkn : k ≤ R.cells ∧ n ≤ R.slots) (hrest : (rest.map fun v => v.category).sum ≤ 8) (hdg : decode cc pc = .ok (.invokevirtual 140, 3)) (kk : ∀ (v : Int) (g2 : zSt), zWo Y p l e R s m args below meth c nl k n kq g2 lv (.int (i32 v) :: rest) pc' (fk v g2)) : zWo Y p l e R s m args below meth c nl k n kq g lv (.ref (zad Y 400) :: rest) pc (zbe (fX8_clearBuffer g) fk) := zr_callViE cx (an := 0) (As := []) 9 zkc_400 (by decide) rfl (mX8_clearBuffer l Y g) (zG_V zw_1210 zw_1211 zw_1212 zw_109 zw_1213) (by decide +kernel) hR hkn rfl rfl hrest hdg hpc kk
theorem zc_L_141 (cx : zCx Y p s m args meth c RL cc nl ret) (hpc : pc + 3 = pc') {g : zSt}  {fk : Int → zSt → Option ρ} (hR : 5 + 1 ≤ R.frames ∧ 8 + (1 + 11) + 40 * 5 ≤ R.locals) (hkn : k ≤ R.cells ∧ n ≤ R.slots) (hrest : (rest.map fun v => v.category).sum ≤ 8) (hdg : decode cc pc = .ok (.invokevirtual 141, 3)) (kk : ∀ (v : Int) (g2 : zSt), zWo Y p l e R s m args below meth c nl k n kq g2 lv (.int (i32 v) :: rest) pc' (fk v g2)) : zWo Y p l e R s m args below meth c nl k n kq g lv (.ref (zad Y 0) :: rest) pc (zbe (fX7_firstError g) fk) := zr_callViE cx (an := 0) (As := []) 8 zkc_0 (by decide) rfl (mX7_firstError l Y g) (zG_V zw_381 zw_382 zw_383 zw_101 zw_384) (by decide +kernel) hR hkn rfl rfl hrest hdg hpc kk
theorem zc_L_144 (cx : zCx Y p s m args meth c RL cc nl ret) (hpc : pc + 3 = pc') {g : zSt}  {fk : Int → zSt → Option ρ} (hR : 4 + 1 ≤ R.frames ∧ 8 + (1 + 11) + 40 * 4 ≤ R.locals) (hkn : k ≤ R.cells ∧ n ≤ R.slots) (hrest : (rest.map fun v => v.category).sum ≤ 8) (hdg : decode cc pc = .ok (.invokevirtual 144, 3)) (kk : ∀ (v : Int) (g2 : zSt), zWo Y p l e R s m args below meth c nl k n kq g2 lv (.int (i32 v) :: rest) pc' (fk v g2)) : zWo Y p l e R s m args below meth c nl k n kq g lv (.ref (zad Y 400) :: rest) pc (zbe (fX8_firstError g) fk) := zr_callViE cx (an := 0) (As := []) 9 zkc_400 (by decide) rfl (mX8_firstError l Y g) (zG_V zw_1214 zw_1215 zw_1216 zw_109 zw_1217) (by decide +kernel) hR hkn rfl rfl hrest hdg hpc kk
theorem zc_L_148 (cx : zCx Y p s m args meth c RL cc nl ret) (hpc : pc + 3 = pc') {g : zSt}  {fk : Int → zSt → Option ρ} (hR : 13 + 1 ≤ R.frames ∧ 8 + (3 + 11) + 40 * 13 ≤ R.locals) (hkn : k ≤ R.cells ∧ n ≤ R.slots) (hrest : (rest.map fun v => v.category).sum ≤ 8) (hdg : decode cc pc = .ok (.invokevirtual 148, 3)) (kk : ∀ (v : Int) (g2 : zSt), zWo Y p l e R s m args below meth c nl k n kq g2 lv (.int (i32 v) :: rest) pc' (fk v g2)) : zWo Y p l e R s m args below meth c nl k n kq g lv (.ref (zad Y 400) :: rest) pc (zbe (fX8_load g) fk) := zr_callViE cx (an := 0) (As := []) 9 zkc_400 (by decide) rfl (mX8_load l Y g) (zG_V zw_1250 zw_1251 zw_1252 zw_109 zw_1253) (by decide +kernel) hR hkn rfl rfl hrest hdg hpc kk
theorem zc_L_151 (cx : zCx Y p s m args meth c RL cc nl ret) (hpc : pc + 3 = pc') {g : zSt}  {fk : Int → zSt → Option ρ} (hR : 0 + 1 ≤ R.frames ∧ 8 + (2 + 11) + 40 * 0 ≤ R.locals) (hkn : k ≤ R.cells ∧ n ≤ R.slots) (hrest : (rest.map fun v => v.category).sum ≤ 8) (hdg : decode cc pc = .ok (.invokevirtual 151, 3)) (kk : ∀ (v : Int) (g2 : zSt), zWo Y p l e R s m args below meth c nl k n kq g2 lv (.int (i32 v) :: rest) pc' (fk v g2)) : zWo Y p l e R s m args below meth c nl k n kq g lv (.ref (zad Y 400) :: rest) pc (zbe (fX8_undo g) fk) := zr_callViE cx (an := 0) (As := []) 9 zkc_400 (by decide) rfl (mX8_undo l Y g) (zG_V zw_1016 zw_1017 zw_1018 zw_109 zw_1019) (by decide +kernel) hR hkn rfl rfl hrest hdg hpc kk
theorem zc_L_155 (cx : zCx Y p s m args meth c RL cc nl ret) (hpc : pc + 3 = pc') {g : zSt} {a1 : Int} {a2 : Int} {fk : Int → zSt → Option ρ} (hR : 6 + 1 ≤ R.frames ∧ 8 + (3 + 11) + 40 * 6 ≤ R.locals) (hkn : k ≤ R.cells ∧ n ≤ R.slots) (hrest : (rest.map fun v => v.category).sum ≤ 8) (hdg : decode cc pc = .ok (.invokevirtual 155, 3)) (kk : ∀ (v : Int) (g2 : zSt), zWo Y p l e R s m args below meth c nl k n kq g2 lv (.int (i32 v) :: rest) pc' (fk v g2)) : zWo Y p l e R s m args below meth c nl k n kq g lv (.int (i32 a2) :: .int (i32 a1) :: .ref (zad Y 400) :: rest) pc (zbe (fX8_box g a1 a2) fk) := zr_callViE cx (an := 2) (As := [.int (i32 a1), .int (i32 a2)]) 9 zkc_400 (by decide) rfl (mX8_box l Y g a1 a2) (zG_V zw_1262 zw_1263 zw_1264 zw_109 zw_1265) (by decide +kernel) hR hkn rfl rfl hrest hdg hpc kk
theorem zc_L_158 (cx : zCx Y p s m args meth c RL cc nl ret) (hpc : pc + 3 = pc') {g : zSt} {a1 : Int} {a2 : Int} {a3 : Int} {fk : Int → zSt → Option ρ} (hR : 10 + 1 ≤ R.frames ∧ 8 + (5 + 11) + 40 * 10 ≤ R.locals) (hkn : k ≤ R.cells ∧ n ≤ R.slots) (hrest : (rest.map fun v => v.category).sum ≤ 8) (hdg : decode cc pc = .ok (.invokevirtual 158, 3)) (kk : ∀ (v : Int) (g2 : zSt), zWo Y p l e R s m args below meth c nl k n kq g2 lv (.int (i32 v) :: rest) pc' (fk v g2)) : zWo Y p l e R s m args below meth c nl k n kq g lv (.int (i32 a3) :: .int (i32 a2) :: .int (i32 a1) :: .ref (zad Y 400) :: rest) pc (zbe (fX8_terminal g a1 a2 a3) fk) := zr_callViE cx (an := 3) (As := [.int (i32 a1), .int (i32 a2), .int (i32 a3)]) 9 zkc_400 (by decide) rfl (mX8_terminal l Y g a1 a2 a3) (zG_V zw_1278 zw_1279 zw_1280 zw_109 zw_1281) (by decide +kernel) hR hkn rfl rfl hrest hdg hpc kk
theorem zc_L_161 (cx : zCx Y p s m args meth c RL cc nl ret) (hpc : pc + 3 = pc') {g : zSt} {a1 : Int} {a2 : Int} {fk : Int → zSt → Option ρ} (hR : 5 + 1 ≤ R.frames ∧ 8 + (3 + 11) + 40 * 5 ≤ R.locals) (hkn : k ≤ R.cells ∧ n ≤ R.slots) (hrest : (rest.map fun v => v.category).sum ≤ 8) (hdg : decode cc pc = .ok (.invokevirtual 161, 3)) (kk : ∀ (v : Int) (g2 : zSt), zWo Y p l e R s m args below meth c nl k n kq g2 lv (.int (i32 v) :: rest) pc' (fk v g2)) : zWo Y p l e R s m args below meth c nl k n kq g lv (.int (i32 a2) :: .int (i32 a1) :: .ref (zad Y 400) :: rest) pc (zbe (fX8_lantern g a1 a2) fk) := zr_callViE cx (an := 2) (As := [.int (i32 a1), .int (i32 a2)]) 9 zkc_400 (by decide) rfl (mX8_lantern l Y g a1 a2) (zG_V zw_1290 zw_1291 zw_1292 zw_109 zw_1293) (by decide +kernel) hR hkn rfl rfl hrest hdg hpc kk
theorem zc_L_164 (cx : zCx Y p s m args meth c RL cc nl ret) (hpc : pc + 3 = pc') {g : zSt} {a1 : Int} {a2 : Int} {fk : Int → zSt → Option ρ} (hR : 9 + 1 ≤ R.frames ∧ 8 + (3 + 11) + 40 * 9 ≤ R.locals) (hkn : k ≤ R.cells ∧ n ≤ R.slots) (hrest : (rest.map fun v => v.category).sum ≤ 8) (hdg : decode cc pc = .ok (.invokevirtual 164, 3)) (kk : ∀ (v : Int) (g2 : zSt), zWo Y p l e R s m args below meth c nl k n kq g2 lv (.int (i32 v) :: rest) pc' (fk v g2)) : zWo Y p l e R s m args below meth c nl k n kq g lv (.int (i32 a2) :: .int (i32 a1) :: .ref (zad Y 400) :: rest) pc (zbe (fX8_faultAt g a1 a2) fk) := zr_callViE cx (an := 2) (As := [.int (i32 a1), .int (i32 a2)]) 9 zkc_400 (by decide) rfl (mX8_faultAt l Y g a1 a2) (zG_V zw_1298 zw_1299 zw_1300 zw_109 zw_1301) (by decide +kernel) hR hkn rfl rfl hrest hdg hpc kk
theorem zc_L_167 (cx : zCx Y p s m args meth c RL cc nl ret) (hpc : pc + 3 = pc') {g : zSt} {a1 : Int} {fk : Int → zSt → Option ρ} (hR : 8 + 1 ≤ R.frames ∧ 8 + (2 + 11) + 40 * 8 ≤ R.locals) (hkn : k ≤ R.cells ∧ n ≤ R.slots) (hrest : (rest.map fun v => v.category).sum ≤ 8) (hdg : decode cc pc = .ok (.invokevirtual 167, 3)) (kk : ∀ (v : Int) (g2 : zSt), zWo Y p l e R s m args below meth c nl k n kq g2 lv (.int (i32 v) :: rest) pc' (fk v g2)) : zWo Y p l e R s m args below meth c nl k n kq g lv (.int (i32 a1) :: .ref (zad Y 400) :: rest) pc (zbe (fX8_count g a1) fk) := zr_callViE cx (an := 1) (As := [.int (i32 a1)]) 9 zkc_400 (by decide) rfl (mX8_count l Y g a1) (zG_V zw_1306 zw_1307 zw_1308 zw_109 zw_1309) (by decide +kernel) hR hkn rfl rfl hrest hdg hpc kk
theorem zc_L_170 (cx : zCx Y p s m args meth c RL cc nl ret) (hpc : pc + 3 = pc') {g : zSt} {a1 : Int} {fk : Int → zSt → Option ρ} (hR : 6 + 1 ≤ R.frames ∧ 8 + (2 + 11) + 40 * 6 ≤ R.locals) (hkn : k ≤ R.cells ∧ n ≤ R.slots) (hrest : (rest.map fun v => v.category).sum ≤ 8) (hdg : decode cc pc = .ok (.invokevirtual 170, 3)) (kk : ∀ (v : Int) (g2 : zSt), zWo Y p l e R s m args below meth c nl k n kq g2 lv (.int (i32 v) :: rest) pc' (fk v g2)) : zWo Y p l e R s m args below meth c nl k n kq g lv (.int (i32 a1) :: .ref (zad Y 400) :: rest) pc (zbe (fX8_lamp g a1) fk) := zr_callViE cx (an := 1) (As := [.int (i32 a1)]) 9 zkc_400 (by decide) rfl (mX8_lamp l Y g a1) (zG_V zw_1318 zw_1319 zw_1320 zw_109 zw_1321) (by decide +kernel) hR hkn rfl rfl hrest hdg hpc kk
theorem zc_L_173 (cx : zCx Y p s m args meth c RL cc nl ret) (hpc : pc + 3 = pc') {g : zSt} {a1 : Int} {fk : Int → zSt → Option ρ} (hR : 7 + 1 ≤ R.frames ∧ 8 + (2 + 11) + 40 * 7 ≤ R.locals) (hkn : k ≤ R.cells ∧ n ≤ R.slots) (hrest : (rest.map fun v => v.category).sum ≤ 8) (hdg : decode cc pc = .ok (.invokevirtual 173, 3)) (kk : ∀ (v : Int) (g2 : zSt), zWo Y p l e R s m args below meth c nl k n kq g2 lv (.int (i32 v) :: rest) pc' (fk v g2)) : zWo Y p l e R s m args below meth c nl k n kq g lv (.int (i32 a1) :: .ref (zad Y 400) :: rest) pc (zbe (fX8_locate g a1) fk) := zr_callViE cx (an := 1) (As := [.int (i32 a1)]) 9 zkc_400 (by decide) rfl (mX8_locate l Y g a1) (zG_V zw_1322 zw_1323 zw_1324 zw_109 zw_1325) (by decide +kernel) hR hkn rfl rfl hrest hdg hpc kk
theorem zc_L_177 (cx : zCx Y p s m args meth c RL cc nl ret) (hpc : pc + 3 = pc') {g : zSt} {a1 : Int} {a2 : Int} {a3 : Int} {a4 : Int} {fk : Int → zSt → Option ρ} (hR : 12 + 1 ≤ R.frames ∧ 8 + (7 + 11) + 40 * 12 ≤ R.locals) (hkn : k ≤ R.cells ∧ n ≤ R.slots) (hrest : (rest.map fun v => v.category).sum ≤ 8) (hdg : decode cc pc = .ok (.invokevirtual 177, 3)) (kk : ∀ (v : Int) (g2 : zSt), zWo Y p l e R s m args below meth c nl k n kq g2 lv (.int (i32 v) :: rest) pc' (fk v g2)) : zWo Y p l e R s m args below meth c nl k n kq g lv (.int (i32 a4) :: .int (i32 a3) :: .int (i32 a2) :: .int (i32 a1) :: .ref (zad Y 400) :: rest) pc (zbe (fX8_ifFault g a1 a2 a3 a4) fk) := zr_callViE cx (an := 4) (As := [.int (i32 a1), .int (i32 a2), .int (i32 a3), .int (i32 a4)]) 9 zkc_400 (by decide) rfl (mX8_ifFault l Y g a1 a2 a3 a4) (zG_V zw_1330 zw_1331 zw_1332 zw_109 zw_1333) (by decide +kernel) hR hkn rfl rfl hrest hdg hpc kk
theorem zc_L_180 (cx : zCx Y p s m args meth c RL cc nl ret) (hpc : pc + 3 = pc') {g : zSt} {a1 : Int} {fk : Int → zSt → Option ρ} (hR : 13 + 1 ≤ R.frames ∧ 8 + (2 + 11) + 40 * 13 ≤ R.locals) (hkn : k ≤ R.cells ∧ n ≤ R.slots) (hrest : (rest.map fun v => v.category).sum ≤ 8) (hdg : decode cc pc = .ok (.invokevirtual 180, 3)) (kk : ∀ (v : Int) (g2 : zSt), zWo Y p l e R s m args below meth c nl k n kq g2 lv (.int (i32 v) :: rest) pc' (fk v g2)) : zWo Y p l e R s m args below meth c nl k n kq g lv (.int (i32 a1) :: .ref (zad Y 400) :: rest) pc (zbe (fX8_ifToggled g a1) fk) := zr_callViE cx (an := 1) (As := [.int (i32 a1)]) 9 zkc_400 (by decide) rfl (mX8_ifToggled l Y g a1) (zG_V zw_1346 zw_1347 zw_1348 zw_109 zw_1349) (by decide +kernel) hR hkn rfl rfl hrest hdg hpc kk
theorem zc_L_183 (cx : zCx Y p s m args meth c RL cc nl ret) (hpc : pc + 3 = pc') {g : zSt} {a1 : Int} {a2 : Int} {fk : Int → zSt → Option ρ} (hR : 10 + 1 ≤ R.frames ∧ 8 + (3 + 11) + 40 * 10 ≤ R.locals) (hkn : k ≤ R.cells ∧ n ≤ R.slots) (hrest : (rest.map fun v => v.category).sum ≤ 8) (hdg : decode cc pc = .ok (.invokevirtual 183, 3)) (kk : ∀ (v : Int) (g2 : zSt), zWo Y p l e R s m args below meth c nl k n kq g2 lv (.int (i32 v) :: rest) pc' (fk v g2)) : zWo Y p l e R s m args below meth c nl k n kq g lv (.int (i32 a2) :: .int (i32 a1) :: .ref (zad Y 400) :: rest) pc (zbe (fX8_neededRating g a1 a2) fk) := zr_callViE cx (an := 2) (As := [.int (i32 a1), .int (i32 a2)]) 9 zkc_400 (by decide) rfl (mX8_neededRating l Y g a1 a2) (zG_V zw_1354 zw_1355 zw_1356 zw_109 zw_1357) (by decide +kernel) hR hkn rfl rfl hrest hdg hpc kk
theorem zc_L_184 (cx : zCx Y p s m args meth c RL cc nl ret) (hpc : pc + 3 = pc') {g : zSt}  {fk : UInt64 → Option ρ} (hR : 0 + 1 ≤ R.frames ∧ 8 + (2 + 11) + 40 * 0 ≤ R.locals) (hkn : k ≤ R.cells ∧ n ≤ R.slots) (hrest : (rest.map fun v => v.category).sum ≤ 8) (hdg : decode cc pc = .ok (.invokevirtual 184, 3)) (kk : ∀ v : UInt64, zWo Y p l e R s m args below meth c nl k n kq g lv (.double v :: rest) pc' (fk v)) : zWo Y p l e R s m args below meth c nl k n kq g lv (.ref (zad Y 0) :: rest) pc (zbd (fX7_lossShare g) fk) := zr_callVdP cx (an := 0) (As := []) 8 zkc_0 (by decide) rfl (mX7_lossShare l Y g) (zG_V zw_426 zw_427 zw_428 zw_101 zw_429) (by decide +kernel) hR hkn rfl rfl hrest hdg hpc kk
theorem zc_L_188 (cx : zCx Y p s m args meth c RL cc nl ret) (hpc : pc + 3 = pc') {g : zSt}  {fk : UInt64 → zSt → Option ρ} (hR : 1 + 1 ≤ R.frames ∧ 8 + (1 + 11) + 40 * 1 ≤ R.locals) (hkn : k ≤ R.cells ∧ n ≤ R.slots) (hrest : (rest.map fun v => v.category).sum ≤ 8) (hdg : decode cc pc = .ok (.invokevirtual 188, 3)) (kk : ∀ (v : UInt64) (g2 : zSt), zWo Y p l e R s m args below meth c nl k n kq g2 lv (.double v :: rest) pc' (fk v g2)) : zWo Y p l e R s m args below meth c nl k n kq g lv (.ref (zad Y 400) :: rest) pc (zbe (fX8_lossShare g) fk) := zr_callVdE cx (an := 0) (As := []) 9 zkc_400 (by decide) rfl (mX8_lossShare l Y g) (zG_V zw_1362 zw_1363 zw_1364 zw_109 zw_1365) (by decide +kernel) hR hkn rfl rfl hrest hdg hpc kk
theorem zc_L_189 (cx : zCx Y p s m args meth c RL cc nl ret) (hpc : pc + 3 = pc') {g : zSt}  {fk : Int64 → zSt → Option ρ} (hR : 6 + 1 ≤ R.frames ∧ 8 + (4 + 11) + 40 * 6 ≤ R.locals) (hkn : k ≤ R.cells ∧ n ≤ R.slots) (hrest : (rest.map fun v => v.category).sum ≤ 8) (hdg : decode cc pc = .ok (.invokevirtual 189, 3)) (kk : ∀ (v : Int64) (g2 : zSt), zWo Y p l e R s m args below meth c nl k n kq g2 lv (.long v :: rest) pc' (fk v g2)) : zWo Y p l e R s m args below meth c nl k n kq g lv (.ref (zad Y 0) :: rest) pc (zbe (fX7_digest g) fk) := zr_callVlE cx (an := 0) (As := []) 8 zkc_0 (by decide) rfl (mX7_digest l Y g) (zG_V zw_430 zw_431 zw_432 zw_101 zw_433) (by decide +kernel) hR hkn rfl rfl hrest hdg hpc kk
theorem zc_L_193 (cx : zCx Y p s m args meth c RL cc nl ret) (hpc : pc + 3 = pc') {g : zSt}  {fk : Int64 → zSt → Option ρ} (hR : 13 + 1 ≤ R.frames ∧ 8 + (2 + 11) + 40 * 13 ≤ R.locals) (hkn : k ≤ R.cells ∧ n ≤ R.slots) (hrest : (rest.map fun v => v.category).sum ≤ 8) (hdg : decode cc pc = .ok (.invokevirtual 193, 3)) (kk : ∀ (v : Int64) (g2 : zSt), zWo Y p l e R s m args below meth c nl k n kq g2 lv (.long v :: rest) pc' (fk v g2)) : zWo Y p l e R s m args below meth c nl k n kq g lv (.ref (zad Y 400) :: rest) pc (zbe (fX8_digest g) fk) := zr_callVlE cx (an := 0) (As := []) 9 zkc_400 (by decide) rfl (mX8_digest l Y g) (zG_V zw_1370 zw_1371 zw_1372 zw_109 zw_1373) (by decide +kernel) hR hkn rfl rfl hrest hdg hpc kk
theorem zc_L_95 (hl0 : l.stackTraces = false) (cx : zCx Y p s m args meth c RL cc nl ret) (hpc : pc + 3 = pc') {g : zSt} {a1 : Int} {a2 : Int} {a3 : Int} {a4 : Int} {fk : Int → zSt → Option ρ} (hR : 7 + 1 ≤ R.frames ∧ 8 + (7 + 11) + 40 * 7 ≤ R.locals) (hkn : k + 1 ≤ R.cells ∧ n + 6 ≤ R.slots) (hrest : (rest.map fun v => v.category).sum ≤ 8) (hdg : decode cc pc = .ok (.invokestatic 95, 3)) (kk : ∀ (v : Int) (g2 : zSt), zWo Y p l e R s m args below meth c nl (k + 1) (n + 6) kq g2 lv (.int (i32 v) :: rest) pc' (fk v g2)) : zWo Y p l e R s m args below meth c nl k n kq g lv (.ref (zad Y 500) :: .int (i32 a4) :: .int (i32 a3) :: .int (i32 a2) :: .int (i32 a1) :: .ref (zad Y 0) :: rest) pc (zbe (fL_addBox g a1 a2 a3 a4) fk) := zr_callW cx hpc (an := 6) (As := [.ref (zad Y 0), .int (i32 a1), .int (i32 a2), .int (i32 a3), .int (i32 a4), .ref (zad Y 500)]) (fun q hq => mL_addBox l hl0 Y g a1 a2 a3 a4 q hq) (zG_SW zw_591 zw_592 zw_100 zw_593) (by decide +kernel) hR hkn rfl rfl hrest hdg kk
theorem zc_L_104 (hl0 : l.stackTraces = false) (cx : zCx Y p s m args meth c RL cc nl ret) (hpc : pc + 3 = pc') {g : zSt} {a1 : Int} {fk : Int → zSt → Option ρ} (hR : 7 + 1 ≤ R.frames ∧ 8 + (4 + 11) + 40 * 7 ≤ R.locals) (hkn : k + 1 ≤ R.cells ∧ n + 6 ≤ R.slots) (hrest : (rest.map fun v => v.category).sum ≤ 8) (hdg : decode cc pc = .ok (.invokestatic 104, 3)) (kk : ∀ (v : Int) (g2 : zSt), zWo Y p l e R s m args below meth c nl (k + 1) (n + 6) kq g2 lv (.int (i32 v) :: rest) pc' (fk v g2)) : zWo Y p l e R s m args below meth c nl k n kq g lv (.ref (zad Y 500) :: .int (i32 a1) :: .ref (zad Y 0) :: rest) pc (zbe (fL_toggle g a1) fk) := zr_callW cx hpc (an := 3) (As := [.ref (zad Y 0), .int (i32 a1), .ref (zad Y 500)]) (fun q hq => mL_toggle l hl0 Y g a1 q hq) (zG_SW zw_721 zw_722 zw_100 zw_723) (by decide +kernel) hR hkn rfl rfl hrest hdg kk
theorem zc_L_108 (hl0 : l.stackTraces = false) (cx : zCx Y p s m args meth c RL cc nl ret) (hpc : pc + 3 = pc') {g : zSt} {a1 : Int} {fk : Int → zSt → Option ρ} (hR : 7 + 1 ≤ R.frames ∧ 8 + (4 + 11) + 40 * 7 ≤ R.locals) (hkn : k + 1 ≤ R.cells ∧ n + 6 ≤ R.slots) (hrest : (rest.map fun v => v.category).sum ≤ 8) (hdg : decode cc pc = .ok (.invokestatic 108, 3)) (kk : ∀ (v : Int) (g2 : zSt), zWo Y p l e R s m args below meth c nl (k + 1) (n + 6) kq g2 lv (.int (i32 v) :: rest) pc' (fk v g2)) : zWo Y p l e R s m args below meth c nl k n kq g lv (.ref (zad Y 500) :: .int (i32 a1) :: .ref (zad Y 0) :: rest) pc (zbe (fL_cross g a1) fk) := zr_callW cx hpc (an := 3) (As := [.ref (zad Y 0), .int (i32 a1), .ref (zad Y 500)]) (fun q hq => mL_cross l hl0 Y g a1 q hq) (zG_SW zw_733 zw_734 zw_100 zw_735) (by decide +kernel) hR hkn rfl rfl hrest hdg kk
theorem zc_L_111 (hl0 : l.stackTraces = false) (cx : zCx Y p s m args meth c RL cc nl ret) (hpc : pc + 3 = pc') {g : zSt} {a1 : Int} {a2 : Int} {a3 : Int} {fk : Int → zSt → Option ρ} (hR : 7 + 1 ≤ R.frames ∧ 8 + (6 + 11) + 40 * 7 ≤ R.locals) (hkn : k + 1 ≤ R.cells ∧ n + 6 ≤ R.slots) (hrest : (rest.map fun v => v.category).sum ≤ 8) (hdg : decode cc pc = .ok (.invokestatic 111, 3)) (kk : ∀ (v : Int) (g2 : zSt), zWo Y p l e R s m args below meth c nl (k + 1) (n + 6) kq g2 lv (.int (i32 v) :: rest) pc' (fk v g2)) : zWo Y p l e R s m args below meth c nl k n kq g lv (.ref (zad Y 500) :: .int (i32 a3) :: .int (i32 a2) :: .int (i32 a1) :: .ref (zad Y 0) :: rest) pc (zbe (fL_replace g a1 a2 a3) fk) := zr_callW cx hpc (an := 5) (As := [.ref (zad Y 0), .int (i32 a1), .int (i32 a2), .int (i32 a3), .ref (zad Y 500)]) (fun q hq => mL_replace l hl0 Y g a1 a2 a3 q hq) (zG_SW zw_740 zw_741 zw_100 zw_742) (by decide +kernel) hR hkn rfl rfl hrest hdg kk
theorem zc_L_115 (hl0 : l.stackTraces = false) (cx : zCx Y p s m args meth c RL cc nl ret) (hpc : pc + 3 = pc') {g : zSt} {a1 : Int} {fk : Int → zSt → Option ρ} (hR : 7 + 1 ≤ R.frames ∧ 8 + (4 + 11) + 40 * 7 ≤ R.locals) (hkn : k + 1 ≤ R.cells ∧ n + 6 ≤ R.slots) (hrest : (rest.map fun v => v.category).sum ≤ 8) (hdg : decode cc pc = .ok (.invokestatic 115, 3)) (kk : ∀ (v : Int) (g2 : zSt), zWo Y p l e R s m args below meth c nl (k + 1) (n + 6) kq g2 lv (.int (i32 v) :: rest) pc' (fk v g2)) : zWo Y p l e R s m args below meth c nl k n kq g lv (.ref (zad Y 500) :: .int (i32 a1) :: .ref (zad Y 0) :: rest) pc (zbe (fL_buyFuses g a1) fk) := zr_callW cx hpc (an := 3) (As := [.ref (zad Y 0), .int (i32 a1), .ref (zad Y 500)]) (fun q hq => mL_buyFuses l hl0 Y g a1 q hq) (zG_SW zw_752 zw_753 zw_100 zw_754) (by decide +kernel) hR hkn rfl rfl hrest hdg kk
theorem zc_L_118 (hl0 : l.stackTraces = false) (cx : zCx Y p s m args meth c RL cc nl ret) (hpc : pc + 3 = pc') {g : zSt} {a1 : Int} {a2 : Int} {a3 : Int} {fk : Int → zSt → Option ρ} (hR : 7 + 1 ≤ R.frames ∧ 8 + (6 + 11) + 40 * 7 ≤ R.locals) (hkn : k + 1 ≤ R.cells ∧ n + 6 ≤ R.slots) (hrest : (rest.map fun v => v.category).sum ≤ 8) (hdg : decode cc pc = .ok (.invokestatic 118, 3)) (kk : ∀ (v : Int) (g2 : zSt), zWo Y p l e R s m args below meth c nl (k + 1) (n + 6) kq g2 lv (.int (i32 v) :: rest) pc' (fk v g2)) : zWo Y p l e R s m args below meth c nl k n kq g lv (.ref (zad Y 500) :: .int (i32 a3) :: .int (i32 a2) :: .int (i32 a1) :: .ref (zad Y 0) :: rest) pc (zbe (fL_hang g a1 a2 a3) fk) := zr_callW cx hpc (an := 5) (As := [.ref (zad Y 0), .int (i32 a1), .int (i32 a2), .int (i32 a3), .ref (zad Y 500)]) (fun q hq => mL_hang l hl0 Y g a1 a2 a3 q hq) (zG_SW zw_761 zw_762 zw_100 zw_763) (by decide +kernel) hR hkn rfl rfl hrest hdg kk
theorem zc_L_122 (hl0 : l.stackTraces = false) (cx : zCx Y p s m args meth c RL cc nl ret) (hpc : pc + 3 = pc') {g : zSt} {a1 : Int} {fk : Int → zSt → Option ρ} (hR : 7 + 1 ≤ R.frames ∧ 8 + (4 + 11) + 40 * 7 ≤ R.locals) (hkn : k + 1 ≤ R.cells ∧ n + 6 ≤ R.slots) (hrest : (rest.map fun v => v.category).sum ≤ 8) (hdg : decode cc pc = .ok (.invokestatic 122, 3)) (kk : ∀ (v : Int) (g2 : zSt), zWo Y p l e R s m args below meth c nl (k + 1) (n + 6) kq g2 lv (.int (i32 v) :: rest) pc' (fk v g2)) : zWo Y p l e R s m args below meth c nl k n kq g lv (.ref (zad Y 500) :: .int (i32 a1) :: .ref (zad Y 0) :: rest) pc (zbe (fL_takeDown g a1) fk) := zr_callW cx hpc (an := 3) (As := [.ref (zad Y 0), .int (i32 a1), .ref (zad Y 500)]) (fun q hq => mL_takeDown l hl0 Y g a1 q hq) (zG_SW zw_775 zw_776 zw_100 zw_777) (by decide +kernel) hR hkn rfl rfl hrest hdg kk
theorem zc_L_125 (hl0 : l.stackTraces = false) (cx : zCx Y p s m args meth c RL cc nl ret) (hpc : pc + 3 = pc') {g : zSt} {a1 : Int} {a2 : Int} {a3 : Int} {fk : Int → zSt → Option ρ} (hR : 7 + 1 ≤ R.frames ∧ 8 + (6 + 11) + 40 * 7 ≤ R.locals) (hkn : k + 1 ≤ R.cells ∧ n + 6 ≤ R.slots) (hrest : (rest.map fun v => v.category).sum ≤ 8) (hdg : decode cc pc = .ok (.invokestatic 125, 3)) (kk : ∀ (v : Int) (g2 : zSt), zWo Y p l e R s m args below meth c nl (k + 1) (n + 6) kq g2 lv (.int (i32 v) :: rest) pc' (fk v g2)) : zWo Y p l e R s m args below meth c nl k n kq g lv (.ref (zad Y 500) :: .int (i32 a3) :: .int (i32 a2) :: .int (i32 a1) :: .ref (zad Y 0) :: rest) pc (zbe (fL_fault g a1 a2 a3) fk) := zr_callW cx hpc (an := 5) (As := [.ref (zad Y 0), .int (i32 a1), .int (i32 a2), .int (i32 a3), .ref (zad Y 500)]) (fun q hq => mL_fault l hl0 Y g a1 a2 a3 q hq) (zG_SW zw_791 zw_792 zw_100 zw_793) (by decide +kernel) hR hkn rfl rfl hrest hdg kk
theorem zc_L_128 (hl0 : l.stackTraces = false) (cx : zCx Y p s m args meth c RL cc nl ret) (hpc : pc + 3 = pc') {g : zSt} {a1 : Int} {fk : Int → zSt → Option ρ} (hR : 7 + 1 ≤ R.frames ∧ 8 + (4 + 11) + 40 * 7 ≤ R.locals) (hkn : k + 1 ≤ R.cells ∧ n + 6 ≤ R.slots) (hrest : (rest.map fun v => v.category).sum ≤ 8) (hdg : decode cc pc = .ok (.invokestatic 128, 3)) (kk : ∀ (v : Int) (g2 : zSt), zWo Y p l e R s m args below meth c nl (k + 1) (n + 6) kq g2 lv (.int (i32 v) :: rest) pc' (fk v g2)) : zWo Y p l e R s m args below meth c nl k n kq g lv (.ref (zad Y 500) :: .int (i32 a1) :: .ref (zad Y 0) :: rest) pc (zbe (fL_mend g a1) fk) := zr_callW cx hpc (an := 3) (As := [.ref (zad Y 0), .int (i32 a1), .ref (zad Y 500)]) (fun q hq => mL_mend l hl0 Y g a1 q hq) (zG_SW zw_808 zw_809 zw_100 zw_810) (by decide +kernel) hR hkn rfl rfl hrest hdg kk
theorem zc_L_131 (hl0 : l.stackTraces = false) (cx : zCx Y p s m args meth c RL cc nl ret) (hpc : pc + 3 = pc') {g : zSt} {a1 : Int} {fk : Int → zSt → Option ρ} (hR : 7 + 1 ≤ R.frames ∧ 8 + (4 + 11) + 40 * 7 ≤ R.locals) (hkn : k + 1 ≤ R.cells ∧ n + 6 ≤ R.slots) (hrest : (rest.map fun v => v.category).sum ≤ 8) (hdg : decode cc pc = .ok (.invokestatic 131, 3)) (kk : ∀ (v : Int) (g2 : zSt), zWo Y p l e R s m args below meth c nl (k + 1) (n + 6) kq g2 lv (.int (i32 v) :: rest) pc' (fk v g2)) : zWo Y p l e R s m args below meth c nl k n kq g lv (.ref (zad Y 500) :: .int (i32 a1) :: .ref (zad Y 0) :: rest) pc (zbe (fL_burn g a1) fk) := zr_callW cx hpc (an := 3) (As := [.ref (zad Y 0), .int (i32 a1), .ref (zad Y 500)]) (fun q hq => mL_burn l hl0 Y g a1 q hq) (zG_SW zw_824 zw_825 zw_100 zw_826) (by decide +kernel) hR hkn rfl rfl hrest hdg kk
theorem zc_L_134 (hl0 : l.stackTraces = false) (cx : zCx Y p s m args meth c RL cc nl ret) (hpc : pc + 3 = pc') {g : zSt} {a1 : Int} {fk : Int → zSt → Option ρ} (hR : 7 + 1 ≤ R.frames ∧ 8 + (4 + 11) + 40 * 7 ≤ R.locals) (hkn : k + 1 ≤ R.cells ∧ n + 6 ≤ R.slots) (hrest : (rest.map fun v => v.category).sum ≤ 8) (hdg : decode cc pc = .ok (.invokestatic 134, 3)) (kk : ∀ (v : Int) (g2 : zSt), zWo Y p l e R s m args below meth c nl (k + 1) (n + 6) kq g2 lv (.int (i32 v) :: rest) pc' (fk v g2)) : zWo Y p l e R s m args below meth c nl k n kq g lv (.ref (zad Y 500) :: .int (i32 a1) :: .ref (zad Y 0) :: rest) pc (zbe (fL_append g a1) fk) := zr_callW cx hpc (an := 3) (As := [.ref (zad Y 0), .int (i32 a1), .ref (zad Y 500)]) (fun q hq => mL_append l hl0 Y g a1 q hq) (zG_SW zw_834 zw_835 zw_100 zw_836) (by decide +kernel) hR hkn rfl rfl hrest hdg kk
theorem zc_L_145 (hl0 : l.stackTraces = false) (cx : zCx Y p s m args meth c RL cc nl ret) (hpc : pc + 3 = pc') {g : zSt}  {fk : Int → zSt → Option ρ} (hR : 7 + 1 ≤ R.frames ∧ 8 + (3 + 11) + 40 * 7 ≤ R.locals) (hkn : k + 1 ≤ R.cells ∧ n + 6 ≤ R.slots) (hrest : (rest.map fun v => v.category).sum ≤ 8) (hdg : decode cc pc = .ok (.invokestatic 145, 3)) (kk : ∀ (v : Int) (g2 : zSt), zWo Y p l e R s m args below meth c nl (k + 1) (n + 6) kq g2 lv (.int (i32 v) :: rest) pc' (fk v g2)) : zWo Y p l e R s m args below meth c nl k n kq g lv (.ref (zad Y 500) :: .ref (zad Y 0) :: rest) pc (zbe (fL_load g) fk) := zr_callW cx hpc (an := 2) (As := [.ref (zad Y 0), .ref (zad Y 500)]) (fun q hq => mL_load l hl0 Y g  q hq) (zG_SW zw_843 zw_844 zw_100 zw_845) (by decide +kernel) hR hkn rfl rfl hrest hdg kk
theorem zc_L_149 (hl0 : l.stackTraces = false) (cx : zCx Y p s m args meth c RL cc nl ret) (hpc : pc + 3 = pc') {g : zSt}  {fk : Int → zSt → Option ρ} (hR : 7 + 1 ≤ R.frames ∧ 8 + (3 + 11) + 40 * 7 ≤ R.locals) (hkn : k + 1 ≤ R.cells ∧ n + 6 ≤ R.slots) (hrest : (rest.map fun v => v.category).sum ≤ 8) (hdg : decode cc pc = .ok (.invokestatic 149, 3)) (kk : ∀ (v : Int) (g2 : zSt), zWo Y p l e R s m args below meth c nl (k + 1) (n + 6) kq g2 lv (.int (i32 v) :: rest) pc' (fk v g2)) : zWo Y p l e R s m args below meth c nl k n kq g lv (.ref (zad Y 500) :: .ref (zad Y 0) :: rest) pc (zbe (fL_undo g) fk) := zr_callW cx hpc (an := 2) (As := [.ref (zad Y 0), .ref (zad Y 500)]) (fun q hq => mL_undo l hl0 Y g  q hq) (zG_SW zw_868 zw_869 zw_100 zw_870) (by decide +kernel) hR hkn rfl rfl hrest hdg kk
theorem zc_L_152 (hl0 : l.stackTraces = false) (cx : zCx Y p s m args meth c RL cc nl ret) (hpc : pc + 3 = pc') {g : zSt} {a1 : Int} {a2 : Int} {fk : Int → zSt → Option ρ} (hR : 7 + 1 ≤ R.frames ∧ 8 + (5 + 11) + 40 * 7 ≤ R.locals) (hkn : k + 1 ≤ R.cells ∧ n + 6 ≤ R.slots) (hrest : (rest.map fun v => v.category).sum ≤ 8) (hdg : decode cc pc = .ok (.invokestatic 152, 3)) (kk : ∀ (v : Int) (g2 : zSt), zWo Y p l e R s m args below meth c nl (k + 1) (n + 6) kq g2 lv (.int (i32 v) :: rest) pc' (fk v g2)) : zWo Y p l e R s m args below meth c nl k n kq g lv (.ref (zad Y 500) :: .int (i32 a2) :: .int (i32 a1) :: .ref (zad Y 0) :: rest) pc (zbe (fL_box g a1 a2) fk) := zr_callW cx hpc (an := 4) (As := [.ref (zad Y 0), .int (i32 a1), .int (i32 a2), .ref (zad Y 500)]) (fun q hq => mL_box l hl0 Y g a1 a2 q hq) (zG_SW zw_880 zw_881 zw_100 zw_882) (by decide +kernel) hR hkn rfl rfl hrest hdg kk
theorem zc_L_156 (hl0 : l.stackTraces = false) (cx : zCx Y p s m args meth c RL cc nl ret) (hpc : pc + 3 = pc') {g : zSt} {a1 : Int} {a2 : Int} {a3 : Int} {fk : Int → zSt → Option ρ} (hR : 7 + 1 ≤ R.frames ∧ 8 + (6 + 11) + 40 * 7 ≤ R.locals) (hkn : k + 1 ≤ R.cells ∧ n + 6 ≤ R.slots) (hrest : (rest.map fun v => v.category).sum ≤ 8) (hdg : decode cc pc = .ok (.invokestatic 156, 3)) (kk : ∀ (v : Int) (g2 : zSt), zWo Y p l e R s m args below meth c nl (k + 1) (n + 6) kq g2 lv (.int (i32 v) :: rest) pc' (fk v g2)) : zWo Y p l e R s m args below meth c nl k n kq g lv (.ref (zad Y 500) :: .int (i32 a3) :: .int (i32 a2) :: .int (i32 a1) :: .ref (zad Y 0) :: rest) pc (zbe (fL_terminal g a1 a2 a3) fk) := zr_callW cx hpc (an := 5) (As := [.ref (zad Y 0), .int (i32 a1), .int (i32 a2), .int (i32 a3), .ref (zad Y 500)]) (fun q hq => mL_terminal l hl0 Y g a1 a2 a3 q hq) (zG_SW zw_888 zw_889 zw_100 zw_890) (by decide +kernel) hR hkn rfl rfl hrest hdg kk
theorem zc_L_159 (hl0 : l.stackTraces = false) (cx : zCx Y p s m args meth c RL cc nl ret) (hpc : pc + 3 = pc') {g : zSt} {a1 : Int} {a2 : Int} {fk : Int → zSt → Option ρ} (hR : 7 + 1 ≤ R.frames ∧ 8 + (5 + 11) + 40 * 7 ≤ R.locals) (hkn : k + 1 ≤ R.cells ∧ n + 6 ≤ R.slots) (hrest : (rest.map fun v => v.category).sum ≤ 8) (hdg : decode cc pc = .ok (.invokestatic 159, 3)) (kk : ∀ (v : Int) (g2 : zSt), zWo Y p l e R s m args below meth c nl (k + 1) (n + 6) kq g2 lv (.int (i32 v) :: rest) pc' (fk v g2)) : zWo Y p l e R s m args below meth c nl k n kq g lv (.ref (zad Y 500) :: .int (i32 a2) :: .int (i32 a1) :: .ref (zad Y 0) :: rest) pc (zbe (fL_lantern g a1 a2) fk) := zr_callW cx hpc (an := 4) (As := [.ref (zad Y 0), .int (i32 a1), .int (i32 a2), .ref (zad Y 500)]) (fun q hq => mL_lantern l hl0 Y g a1 a2 q hq) (zG_SW zw_896 zw_897 zw_100 zw_898) (by decide +kernel) hR hkn rfl rfl hrest hdg kk
theorem zc_L_162 (hl0 : l.stackTraces = false) (cx : zCx Y p s m args meth c RL cc nl ret) (hpc : pc + 3 = pc') {g : zSt} {a1 : Int} {a2 : Int} {fk : Int → zSt → Option ρ} (hR : 7 + 1 ≤ R.frames ∧ 8 + (5 + 11) + 40 * 7 ≤ R.locals) (hkn : k + 1 ≤ R.cells ∧ n + 6 ≤ R.slots) (hrest : (rest.map fun v => v.category).sum ≤ 8) (hdg : decode cc pc = .ok (.invokestatic 162, 3)) (kk : ∀ (v : Int) (g2 : zSt), zWo Y p l e R s m args below meth c nl (k + 1) (n + 6) kq g2 lv (.int (i32 v) :: rest) pc' (fk v g2)) : zWo Y p l e R s m args below meth c nl k n kq g lv (.ref (zad Y 500) :: .int (i32 a2) :: .int (i32 a1) :: .ref (zad Y 0) :: rest) pc (zbe (fL_faultAt g a1 a2) fk) := zr_callW cx hpc (an := 4) (As := [.ref (zad Y 0), .int (i32 a1), .int (i32 a2), .ref (zad Y 500)]) (fun q hq => mL_faultAt l hl0 Y g a1 a2 q hq) (zG_SW zw_904 zw_905 zw_100 zw_906) (by decide +kernel) hR hkn rfl rfl hrest hdg kk
theorem zc_L_165 (hl0 : l.stackTraces = false) (cx : zCx Y p s m args meth c RL cc nl ret) (hpc : pc + 3 = pc') {g : zSt} {a1 : Int} {fk : Int → zSt → Option ρ} (hR : 7 + 1 ≤ R.frames ∧ 8 + (4 + 11) + 40 * 7 ≤ R.locals) (hkn : k + 1 ≤ R.cells ∧ n + 6 ≤ R.slots) (hrest : (rest.map fun v => v.category).sum ≤ 8) (hdg : decode cc pc = .ok (.invokestatic 165, 3)) (kk : ∀ (v : Int) (g2 : zSt), zWo Y p l e R s m args below meth c nl (k + 1) (n + 6) kq g2 lv (.int (i32 v) :: rest) pc' (fk v g2)) : zWo Y p l e R s m args below meth c nl k n kq g lv (.ref (zad Y 500) :: .int (i32 a1) :: .ref (zad Y 0) :: rest) pc (zbe (fL_count g a1) fk) := zr_callW cx hpc (an := 3) (As := [.ref (zad Y 0), .int (i32 a1), .ref (zad Y 500)]) (fun q hq => mL_count l hl0 Y g a1 q hq) (zG_SW zw_912 zw_913 zw_100 zw_914) (by decide +kernel) hR hkn rfl rfl hrest hdg kk
theorem zc_L_168 (hl0 : l.stackTraces = false) (cx : zCx Y p s m args meth c RL cc nl ret) (hpc : pc + 3 = pc') {g : zSt} {a1 : Int} {fk : Int → zSt → Option ρ} (hR : 7 + 1 ≤ R.frames ∧ 8 + (4 + 11) + 40 * 7 ≤ R.locals) (hkn : k + 1 ≤ R.cells ∧ n + 6 ≤ R.slots) (hrest : (rest.map fun v => v.category).sum ≤ 8) (hdg : decode cc pc = .ok (.invokestatic 168, 3)) (kk : ∀ (v : Int) (g2 : zSt), zWo Y p l e R s m args below meth c nl (k + 1) (n + 6) kq g2 lv (.int (i32 v) :: rest) pc' (fk v g2)) : zWo Y p l e R s m args below meth c nl k n kq g lv (.ref (zad Y 500) :: .int (i32 a1) :: .ref (zad Y 0) :: rest) pc (zbe (fL_lamp g a1) fk) := zr_callW cx hpc (an := 3) (As := [.ref (zad Y 0), .int (i32 a1), .ref (zad Y 500)]) (fun q hq => mL_lamp l hl0 Y g a1 q hq) (zG_SW zw_920 zw_921 zw_100 zw_922) (by decide +kernel) hR hkn rfl rfl hrest hdg kk
theorem zc_L_171 (hl0 : l.stackTraces = false) (cx : zCx Y p s m args meth c RL cc nl ret) (hpc : pc + 3 = pc') {g : zSt} {a1 : Int} {fk : Int → zSt → Option ρ} (hR : 7 + 1 ≤ R.frames ∧ 8 + (4 + 11) + 40 * 7 ≤ R.locals) (hkn : k + 1 ≤ R.cells ∧ n + 6 ≤ R.slots) (hrest : (rest.map fun v => v.category).sum ≤ 8) (hdg : decode cc pc = .ok (.invokestatic 171, 3)) (kk : ∀ (v : Int) (g2 : zSt), zWo Y p l e R s m args below meth c nl (k + 1) (n + 6) kq g2 lv (.int (i32 v) :: rest) pc' (fk v g2)) : zWo Y p l e R s m args below meth c nl k n kq g lv (.ref (zad Y 500) :: .int (i32 a1) :: .ref (zad Y 0) :: rest) pc (zbe (fL_locate g a1) fk) := zr_callW cx hpc (an := 3) (As := [.ref (zad Y 0), .int (i32 a1), .ref (zad Y 500)]) (fun q hq => mL_locate l hl0 Y g a1 q hq) (zG_SW zw_931 zw_932 zw_100 zw_933) (by decide +kernel) hR hkn rfl rfl hrest hdg kk
theorem zc_L_174 (hl0 : l.stackTraces = false) (cx : zCx Y p s m args meth c RL cc nl ret) (hpc : pc + 3 = pc') {g : zSt} {a1 : Int} {a2 : Int} {a3 : Int} {a4 : Int} {fk : Int → zSt → Option ρ} (hR : 7 + 1 ≤ R.frames ∧ 8 + (7 + 11) + 40 * 7 ≤ R.locals) (hkn : k + 1 ≤ R.cells ∧ n + 6 ≤ R.slots) (hrest : (rest.map fun v => v.category).sum ≤ 8) (hdg : decode cc pc = .ok (.invokestatic 174, 3)) (kk : ∀ (v : Int) (g2 : zSt), zWo Y p l e R s m args below meth c nl (k + 1) (n + 6) kq g2 lv (.int (i32 v) :: rest) pc' (fk v g2)) : zWo Y p l e R s m args below meth c nl k n kq g lv (.ref (zad Y 500) :: .int (i32 a4) :: .int (i32 a3) :: .int (i32 a2) :: .int (i32 a1) :: .ref (zad Y 0) :: rest) pc (zbe (fL_ifFault g a1 a2 a3 a4) fk) := zr_callW cx hpc (an := 6) (As := [.ref (zad Y 0), .int (i32 a1), .int (i32 a2), .int (i32 a3), .int (i32 a4), .ref (zad Y 500)]) (fun q hq => mL_ifFault l hl0 Y g a1 a2 a3 a4 q hq) (zG_SW zw_938 zw_939 zw_100 zw_940) (by decide +kernel) hR hkn rfl rfl hrest hdg kk
theorem zc_L_178 (hl0 : l.stackTraces = false) (cx : zCx Y p s m args meth c RL cc nl ret) (hpc : pc + 3 = pc') {g : zSt} {a1 : Int} {fk : Int → zSt → Option ρ} (hR : 7 + 1 ≤ R.frames ∧ 8 + (4 + 11) + 40 * 7 ≤ R.locals) (hkn : k + 1 ≤ R.cells ∧ n + 6 ≤ R.slots) (hrest : (rest.map fun v => v.category).sum ≤ 8) (hdg : decode cc pc = .ok (.invokestatic 178, 3)) (kk : ∀ (v : Int) (g2 : zSt), zWo Y p l e R s m args below meth c nl (k + 1) (n + 6) kq g2 lv (.int (i32 v) :: rest) pc' (fk v g2)) : zWo Y p l e R s m args below meth c nl k n kq g lv (.ref (zad Y 500) :: .int (i32 a1) :: .ref (zad Y 0) :: rest) pc (zbe (fL_ifToggled g a1) fk) := zr_callW cx hpc (an := 3) (As := [.ref (zad Y 0), .int (i32 a1), .ref (zad Y 500)]) (fun q hq => mL_ifToggled l hl0 Y g a1 q hq) (zG_SW zw_946 zw_947 zw_100 zw_948) (by decide +kernel) hR hkn rfl rfl hrest hdg kk
theorem zc_L_181 (hl0 : l.stackTraces = false) (cx : zCx Y p s m args meth c RL cc nl ret) (hpc : pc + 3 = pc') {g : zSt} {a1 : Int} {a2 : Int} {fk : Int → zSt → Option ρ} (hR : 7 + 1 ≤ R.frames ∧ 8 + (5 + 11) + 40 * 7 ≤ R.locals) (hkn : k + 1 ≤ R.cells ∧ n + 6 ≤ R.slots) (hrest : (rest.map fun v => v.category).sum ≤ 8) (hdg : decode cc pc = .ok (.invokestatic 181, 3)) (kk : ∀ (v : Int) (g2 : zSt), zWo Y p l e R s m args below meth c nl (k + 1) (n + 6) kq g2 lv (.int (i32 v) :: rest) pc' (fk v g2)) : zWo Y p l e R s m args below meth c nl k n kq g lv (.ref (zad Y 500) :: .int (i32 a2) :: .int (i32 a1) :: .ref (zad Y 0) :: rest) pc (zbe (fL_neededRating g a1 a2) fk) := zr_callW cx hpc (an := 4) (As := [.ref (zad Y 0), .int (i32 a1), .int (i32 a2), .ref (zad Y 500)]) (fun q hq => mL_neededRating l hl0 Y g a1 a2 q hq) (zG_SW zw_953 zw_954 zw_100 zw_955) (by decide +kernel) hR hkn rfl rfl hrest hdg kk
end ZLAWC
section ZLAW
variable {Y : zLy} {p : Program} {l : Launch} {e : Env} {s : State} {m : MethodId} {below : List Frame} {meth : Method} {c : Code} {lv : List (Nat × Value)} {rest : List Value} {pc pc' : Nat} {b L : Nat} {xs : Nat → Int32}
def zsc (xs : Nat → Int32) (i : Int) : Int := (xs i.toNat).toInt
def zb0 (x : Int) : Int := if i32 x = i32 0 then 0 else 1
abbrev zLo (Y : zLy) (p : Program) (l : Launch) (e : Env) (s : State) (m : MethodId) (b : Nat) (below : List Frame) (meth : Method) (c : Code) (k n : Nat) (σ : zSt) (lv : List (Nat × Value)) (st : List Value) (pc : Nat) (o : Option Unit) : Prop := zWo Y p l e room_1 s m #[Value.ref b] below meth c 9 k n (fun _ => lw_Z below #[Value.ref b] s) σ lv st pc o
theorem zr_slen {ρ : Type} {R : Room} {args : Array Value} {nl k n : Nat} {kq : ρ → State → Prop} {own : String} {cc : ByteArray} {ret : Option FieldType} {σ : zSt} {o : Option ρ} (cx : zCx Y p s m args meth c own cc nl ret) (hpc : pc + 1 = pc') (hX : va_X b L xs s s.heap) (hbl : b < s.heap.size) (hbA : ¬ zA Y b) (hdg : decode cc pc = .ok (.arraylength, 1)) (kk : zWo Y p l e R s m args below meth c nl k n kq σ lv (.int (i32 (L : Int)) :: rest) pc' o) : zWo Y p l e R s m args below meth c nl k n kq σ lv (.ref b :: rest) pc o := by
  subst hpc
  intro r hr H locs ls hH hS hl
  exact va_slen cx.1 cx.2.1 hX hbl hbA hS hdg (kk r hr H locs ls hH hS hl)
theorem zr_sld {ρ : Type} {R : Room} {args : Array Value} {nl k n : Nat} {kq : ρ → State → Prop} {own : String} {cc : ByteArray} {ret : Option FieldType} {σ : zSt} {o : Option ρ} (cx : zCx Y p s m args meth c own cc nl ret) (hpc : pc + 1 = pc') (hX : va_X b L xs s s.heap) (hbl : b < s.heap.size) (hbA : ¬ zA Y b) (hL : L ≤ 2560) {i : Int} (hdg : decode cc pc = .ok (.iaload, 1)) (kk : zWo Y p l e R s m args below meth c nl k n kq σ lv (.int (i32 (zsc xs i)) :: rest) pc' o) : zWo Y p l e R s m args below meth c nl k n kq σ lv (.int (i32 i) :: .ref b :: rest) pc (zck (0 ≤ i ∧ i < L) o) := by
  subst hpc
  intro r hr H locs ls hH hS hl
  obtain ⟨h, hr⟩ := zck_some hr
  obtain ⟨hi, ht⟩ := i32_in h (by omega)
  refine va_sld cx.1 cx.2.1 hX hbl hbA hS hi hdg ?_
  rw [ht]
  have := kk r hr H locs ls hH hS hl
  rw [show i32 (zsc xs i) = xs i.toNat from Int32.ofInt_toInt _] at this
  exact this
theorem zr_bool {ρ : Type} {R : Room} {args : Array Value} {nl k n : Nat} {kq : ρ → State → Prop} {own : String} {cc : ByteArray} {ret : Option FieldType} {σ : zSt} {o : Option ρ} (cx : zCx Y p s m args meth c own cc nl ret) {x : Int} {off off2 : Int} {q1 q2 q3 : Nat} (h0 : decode cc pc = .ok (.ifCond .eq off, 3)) (h1 : decode cc q1 = .ok (.iconst 1, 1)) (h2 : decode cc q2 = .ok (.goto off2, 3)) (h3 : decode cc q3 = .ok (.iconst 0, 1)) (e1 : pc + 3 = q1) (e2 : q1 + 1 = q2) (e3 : (pc : Int) + off = (q3 : Int)) (e4 : (q2 : Int) + off2 = (pc' : Int)) (e5 : q3 + 1 = pc') (kk : zWo Y p l e R s m args below meth c nl k n kq σ lv (.int (i32 (zb0 x)) :: rest) pc' o) : zWo Y p l e R s m args below meth c nl k n kq σ lv (.int (i32 x) :: rest) pc o := by
  have he : o = (if i32 x = i32 0 then o else o) := by rw [ite_self]
  rw [he]
  unfold zb0 at kk
  refine zr_case (fun h => ?_) (fun h => ?_)
  · rw [if_pos h] at kk
    intro r hr H locs ls hH hS hl
    have := zr_if_eq (pc' := q1) (tgt := q3) (ot := o) (oe := none) (lv := lv) (rest := rest) (σ := σ) (k := k) (n := n) (kq := kq) (l := l) (e := e) (R := R) (below := below) cx e1 h0 e3 (x := x) (zr_iconst (pc' := pc') cx e5 h3 kk) zr_none
    rw [if_pos h] at this
    exact this r hr H locs ls hH hS hl
  · rw [if_neg h] at kk
    intro r hr H locs ls hH hS hl
    have := zr_if_eq (pc' := q1) (tgt := q3) (ot := none) (oe := o) (lv := lv) (rest := rest) (σ := σ) (k := k) (n := n) (kq := kq) (l := l) (e := e) (R := R) (below := below) cx e1 h0 e3 (x := x) zr_none (zr_iconst (pc' := q2) cx e2 h1 (zr_gotoS cx h2 e4 kk))
    rw [if_neg h] at this
    exact this r hr H locs ls hH hS hl
theorem zr_true {k n : Nat} {σ : zSt} (cx : zCx Y p s m #[Value.ref b] meth c RL cL_law 9 ret) (hlw : meth.locks = false) (hnew : ∀ q : Nat, zA Y q → s.heap.size ≤ q) (hk : k ≤ 601024) (hn : n ≤ 7293034) (hdg : decode cL_law pc = .ok (.ireturn, 1)) : zLo Y p l e s m b below meth c k n σ lv (.int (i32 1) :: []) pc (some ()) := by
  intro r hr H locs ls hH hS hl
  refine va_forget (fun q hq => hnew _ (hS.2.2 q hq)) ?_
  refine W.widen (k := 601024) (n := 7293034) hk hn ?_
  exact lw_ret (d0 := s.drawn) (Drawn.sameBut.refl s.drawn lw_cs) cx.1 cx.2.1 cx.2.2.2.1 hlw hdg
def fL_case0 (xs : Nat → Int32) (L : Nat) (K : zSt → Int → Option Unit) (g : zSt) (i : Int) : Option Unit :=
    zck ((0 : Int) ≤ (i + 1) ∧ (i + 1) < L) (
    zck ((0 : Int) ≤ (i + 2) ∧ (i + 2) < L) (
    zck ((0 : Int) ≤ (i + 3) ∧ (i + 3) < L) (
    zck ((0 : Int) ≤ (i + 4) ∧ (i + 4) < L) (
    zbe (fL_addBox g (zsc xs (i + 1)) (zsc xs (i + 2)) (zsc xs (i + 3)) (zb0 (zsc xs (i + 4)))) (fun v1 g2 =>
    zck ((0 : Int) ≤ (i + 1) ∧ (i + 1) < L) (
    zck ((0 : Int) ≤ (i + 2) ∧ (i + 2) < L) (
    zck ((0 : Int) ≤ (i + 3) ∧ (i + 3) < L) (
    zck ((0 : Int) ≤ (i + 4) ∧ (i + 4) < L) (
    zbe (fX8_addBox g2 (zsc xs (i + 1)) (zsc xs (i + 2)) (zsc xs (i + 3)) (zb0 (zsc xs (i + 4)))) (fun v3 g4 =>
    zbd (fX8_thrown g4) (fun v5 =>
    (if i32 v5 = i32 v1 then
    (if i32 v1 = i32 0 then
    (if i32 (zlc (g4.2.2 1) ((i32 v3).toInt64)) = i32 0 then
    K g4 (i + 5)
    else
    none)
    else
    K g4 (i + 5))
    else
    none))))))))))))
theorem wL_case0 (cx : zCx Y p s m #[Value.ref b] meth c RL cL_law 9 ret) (hl0 : l.stackTraces = false) (hX : va_X b L xs s s.heap) (hbl : b < s.heap.size) (hbA : ¬ zA Y b) (hL : L ≤ 2560) {k n : Nat} (hkn : k + 1 ≤ room_1.cells ∧ n + 6 ≤ room_1.slots) (K : zSt → Int → Option Unit) (hk : ∀ k' n' : Nat, k' ≤ k + 1 → n' ≤ n + 6 → ∀ (g : zSt) (i : Int), zLo Y p l e s m b below meth c k' n' g [(0, .ref b), (1, .ref (zad Y 0)), (2, .ref (zad Y 400)), (3, .ref (zad Y 500)), (4, .int (i32 i))] [] 23 (K g i)) (g : zSt) (i : Int) : zLo Y p l e s m b below meth c k n g [(0, .ref b), (1, .ref (zad Y 0)), (2, .ref (zad Y 400)), (3, .ref (zad Y 500)), (4, .int (i32 i))] [] 160 (fL_case0 xs L K g i) := by
  unfold fL_case0
  have hkn1 := hkn
  have hkn0 : k ≤ room_1.cells ∧ n ≤ room_1.slots := ⟨Nat.le_of_succ_le hkn.1, Nat.le_trans (Nat.le_add_right n 6) hkn.2⟩
  refine zr_aload_n (pc' := 161) cx rfl 1 dL_law_160 rfl rfl ?_
  refine zr_aload_n (pc' := 162) cx rfl 0 dL_law_161 rfl rfl ?_
  refine zr_iload (pc' := 164) cx rfl 4 dL_law_162 rfl ?_
  refine zr_iconst (pc' := 165) cx rfl dL_law_164 ?_
  refine zr_iadd (pc' := 166) cx rfl dL_law_165 ?_
  refine zr_sld (pc' := 167) cx rfl hX hbl hbA hL dL_law_166 ?_
  refine zr_aload_n (pc' := 168) cx rfl 0 dL_law_167 rfl rfl ?_
  refine zr_iload (pc' := 170) cx rfl 4 dL_law_168 rfl ?_
  refine zr_iconst (pc' := 171) cx rfl dL_law_170 ?_
  refine zr_iadd (pc' := 172) cx rfl dL_law_171 ?_
  refine zr_sld (pc' := 173) cx rfl hX hbl hbA hL dL_law_172 ?_
  refine zr_aload_n (pc' := 174) cx rfl 0 dL_law_173 rfl rfl ?_
  refine zr_iload (pc' := 176) cx rfl 4 dL_law_174 rfl ?_
  refine zr_iconst (pc' := 177) cx rfl dL_law_176 ?_
  refine zr_iadd (pc' := 178) cx rfl dL_law_177 ?_
  refine zr_sld (pc' := 179) cx rfl hX hbl hbA hL dL_law_178 ?_
  refine zr_aload_n (pc' := 180) cx rfl 0 dL_law_179 rfl rfl ?_
  refine zr_iload (pc' := 182) cx rfl 4 dL_law_180 rfl ?_
  refine zr_iconst (pc' := 183) cx rfl dL_law_182 ?_
  refine zr_iadd (pc' := 184) cx rfl dL_law_183 ?_
  refine zr_sld (pc' := 185) cx rfl hX hbl hbA hL dL_law_184 ?_
  refine zr_bool (pc' := 193) cx dL_law_185 dL_law_188 dL_law_189 dL_law_192 rfl rfl rfl rfl rfl ?_
  refine zr_aload_n (pc' := 194) cx rfl 3 dL_law_193 rfl rfl ?_
  refine zc_L_95 hl0 (pc' := 197) cx rfl ⟨Nat.le_of_ble_eq_true rfl, Nat.le_of_ble_eq_true rfl⟩ hkn (Nat.le_of_ble_eq_true rfl) dL_law_194 (fun v1 g2 => ?_)
  refine zr_istore (pc' := 199) cx rfl (lv' := [(5, .int (i32 v1)), (0, .ref b), (1, .ref (zad Y 0)), (2, .ref (zad Y 400)), (3, .ref (zad Y 500)), (4, .int (i32 i))]) dL_law_197 (by decide) rfl ?_
  refine zr_aload_n (pc' := 200) cx rfl 3 dL_law_199 rfl rfl ?_
  refine zr_aload_n (pc' := 201) cx rfl 1 dL_law_200 rfl rfl ?_
  refine zr_iload (pc' := 203) cx rfl 5 dL_law_201 rfl ?_
  refine zr_iconst (pc' := 204) cx rfl dL_law_203 ?_
  refine zr_iadd (pc' := 205) cx rfl dL_law_204 ?_
  refine zr_sld (pc' := 206) cx rfl hX hbl hbA hL dL_law_205 ?_
  refine zr_aload_n (pc' := 207) cx rfl 1 dL_law_206 rfl rfl ?_
  refine zr_iload (pc' := 209) cx rfl 5 dL_law_207 rfl ?_
  refine zr_iconst (pc' := 210) cx rfl dL_law_209 ?_
  refine zr_iadd (pc' := 211) cx rfl dL_law_210 ?_
  refine zr_sld (pc' := 212) cx rfl hX hbl hbA hL dL_law_211 ?_
  refine zr_aload_n (pc' := 213) cx rfl 1 dL_law_212 rfl rfl ?_
  refine zr_iload (pc' := 215) cx rfl 5 dL_law_213 rfl ?_
  refine zr_iconst (pc' := 216) cx rfl dL_law_215 ?_
  refine zr_iadd (pc' := 217) cx rfl dL_law_216 ?_
  refine zr_sld (pc' := 218) cx rfl hX hbl hbA hL dL_law_217 ?_
  refine zr_aload_n (pc' := 219) cx rfl 1 dL_law_218 rfl rfl ?_
  refine zr_iload (pc' := 221) cx rfl 5 dL_law_219 rfl ?_
  refine zr_iconst (pc' := 222) cx rfl dL_law_221 ?_
  refine zr_iadd (pc' := 223) cx rfl dL_law_222 ?_
  refine zr_sld (pc' := 224) cx rfl hX hbl hbA hL dL_law_223 ?_
  refine zr_bool (pc' := 232) cx dL_law_224 dL_law_227 dL_law_228 dL_law_231 rfl rfl rfl rfl rfl ?_
  refine zc_L_100 (pc' := 235) cx rfl ⟨Nat.le_of_ble_eq_true rfl, Nat.le_of_ble_eq_true rfl⟩ hkn1 (Nat.le_of_ble_eq_true rfl) dL_law_232 (fun v3 g4 => ?_)
  refine zr_istore (pc' := 237) cx rfl (lv' := [(6, .int (i32 v3)), (5, .int (i32 v1)), (0, .ref b), (1, .ref (zad Y 0)), (2, .ref (zad Y 400)), (3, .ref (zad Y 500)), (4, .int (i32 i))]) dL_law_235 (by decide) rfl ?_
  refine zr_aload_n (pc' := 238) cx rfl 4 dL_law_237 rfl rfl ?_
  refine zc_L_101 (pc' := 241) cx rfl ⟨Nat.le_of_ble_eq_true rfl, Nat.le_of_ble_eq_true rfl⟩ hkn1 (Nat.le_of_ble_eq_true rfl) dL_law_238 (fun v5 => ?_)
  refine zr_iload (pc' := 243) cx rfl 1 dL_law_241 rfl ?_
  refine zr_icmp_eq (pc' := 246) cx rfl (tgt := 248) dL_law_243 rfl ?_ ?_
  · refine zr_iload (pc' := 250) cx rfl 1 dL_law_248 rfl ?_
    refine zr_if_ne (pc' := 253) cx rfl (tgt := 265) dL_law_250 rfl ?_ ?_
    · refine zr_goto cx (tgt := 1753) dL_law_265 rfl ?_
      refine zr_iinc (pc' := 1756) cx rfl (lv' := [(4, .int (i32 (i + 5))), (6, .int (i32 v3)), (5, .int (i32 v1)), (0, .ref b), (1, .ref (zad Y 0)), (2, .ref (zad Y 400)), (3, .ref (zad Y 500))]) 6 dL_law_1753 rfl (by decide) rfl ?_
      refine zr_goto cx (tgt := 23) dL_law_1756 rfl ?_
      refine zr_sub [3, 4, 5, 6, 0] rfl ?_
      exact hk _ _ (by omega) (by omega) g4 (i + 5)
    · refine zr_aload_n (pc' := 254) cx rfl 5 dL_law_253 rfl rfl ?_
      refine zr_iconst (pc' := 255) cx rfl dL_law_254 ?_
      refine zr_lald (pc' := 256) cx rfl zkc_500 dL_law_255 ?_
      refine zr_iload (pc' := 258) cx rfl 0 dL_law_256 rfl ?_
      refine zr_i2l (pc' := 259) cx rfl dL_law_258 ?_
      refine zr_lcmp (pc' := 260) cx rfl dL_law_259 ?_
      refine zr_if_eq (pc' := 263) cx rfl (tgt := 265) dL_law_260 rfl ?_ ?_
      · refine zr_goto cx (tgt := 1753) dL_law_265 rfl ?_
        refine zr_iinc (pc' := 1756) cx rfl (lv' := [(4, .int (i32 (i + 5))), (6, .int (i32 v3)), (5, .int (i32 v1)), (0, .ref b), (1, .ref (zad Y 0)), (2, .ref (zad Y 400)), (3, .ref (zad Y 500))]) 6 dL_law_1753 rfl (by decide) rfl ?_
        refine zr_goto cx (tgt := 23) dL_law_1756 rfl ?_
        refine zr_sub [3, 4, 5, 6, 0] rfl ?_
        exact hk _ _ (by omega) (by omega) g4 (i + 5)
      · refine zr_iconst (pc' := 264) cx rfl dL_law_263 ?_
        exact zr_none
  · refine zr_iconst (pc' := 247) cx rfl dL_law_246 ?_
    exact zr_none
def fL_case1 (xs : Nat → Int32) (L : Nat) (K : zSt → Int → Option Unit) (g : zSt) (i : Int) : Option Unit :=
    zck ((0 : Int) ≤ (i + 1) ∧ (i + 1) < L) (
    zbe (fL_toggle g (zsc xs (i + 1))) (fun v1 g2 =>
    zck ((0 : Int) ≤ (i + 1) ∧ (i + 1) < L) (
    zbe (fX8_toggle g2 (zsc xs (i + 1))) (fun v3 g4 =>
    zbd (fX8_thrown g4) (fun v5 =>
    (if i32 v5 = i32 v1 then
    (if i32 v1 = i32 0 then
    (if i32 (zlc (g4.2.2 1) ((i32 v3).toInt64)) = i32 0 then
    K g4 (i + 5)
    else
    none)
    else
    K g4 (i + 5))
    else
    none))))))
theorem wL_case1 (cx : zCx Y p s m #[Value.ref b] meth c RL cL_law 9 ret) (hl0 : l.stackTraces = false) (hX : va_X b L xs s s.heap) (hbl : b < s.heap.size) (hbA : ¬ zA Y b) (hL : L ≤ 2560) {k n : Nat} (hkn : k + 1 ≤ room_1.cells ∧ n + 6 ≤ room_1.slots) (K : zSt → Int → Option Unit) (hk : ∀ k' n' : Nat, k' ≤ k + 1 → n' ≤ n + 6 → ∀ (g : zSt) (i : Int), zLo Y p l e s m b below meth c k' n' g [(0, .ref b), (1, .ref (zad Y 0)), (2, .ref (zad Y 400)), (3, .ref (zad Y 500)), (4, .int (i32 i))] [] 23 (K g i)) (g : zSt) (i : Int) : zLo Y p l e s m b below meth c k n g [(0, .ref b), (1, .ref (zad Y 0)), (2, .ref (zad Y 400)), (3, .ref (zad Y 500)), (4, .int (i32 i))] [] 268 (fL_case1 xs L K g i) := by
  unfold fL_case1
  have hkn1 := hkn
  have hkn0 : k ≤ room_1.cells ∧ n ≤ room_1.slots := ⟨Nat.le_of_succ_le hkn.1, Nat.le_trans (Nat.le_add_right n 6) hkn.2⟩
  refine zr_aload_n (pc' := 269) cx rfl 1 dL_law_268 rfl rfl ?_
  refine zr_aload_n (pc' := 270) cx rfl 0 dL_law_269 rfl rfl ?_
  refine zr_iload (pc' := 272) cx rfl 4 dL_law_270 rfl ?_
  refine zr_iconst (pc' := 273) cx rfl dL_law_272 ?_
  refine zr_iadd (pc' := 274) cx rfl dL_law_273 ?_
  refine zr_sld (pc' := 275) cx rfl hX hbl hbA hL dL_law_274 ?_
  refine zr_aload_n (pc' := 276) cx rfl 3 dL_law_275 rfl rfl ?_
  refine zc_L_104 hl0 (pc' := 279) cx rfl ⟨Nat.le_of_ble_eq_true rfl, Nat.le_of_ble_eq_true rfl⟩ hkn (Nat.le_of_ble_eq_true rfl) dL_law_276 (fun v1 g2 => ?_)
  refine zr_istore (pc' := 281) cx rfl (lv' := [(5, .int (i32 v1)), (0, .ref b), (1, .ref (zad Y 0)), (2, .ref (zad Y 400)), (3, .ref (zad Y 500)), (4, .int (i32 i))]) dL_law_279 (by decide) rfl ?_
  refine zr_aload_n (pc' := 282) cx rfl 3 dL_law_281 rfl rfl ?_
  refine zr_aload_n (pc' := 283) cx rfl 1 dL_law_282 rfl rfl ?_
  refine zr_iload (pc' := 285) cx rfl 5 dL_law_283 rfl ?_
  refine zr_iconst (pc' := 286) cx rfl dL_law_285 ?_
  refine zr_iadd (pc' := 287) cx rfl dL_law_286 ?_
  refine zr_sld (pc' := 288) cx rfl hX hbl hbA hL dL_law_287 ?_
  refine zc_L_107 (pc' := 291) cx rfl ⟨Nat.le_of_ble_eq_true rfl, Nat.le_of_ble_eq_true rfl⟩ hkn1 (Nat.le_of_ble_eq_true rfl) dL_law_288 (fun v3 g4 => ?_)
  refine zr_istore (pc' := 293) cx rfl (lv' := [(6, .int (i32 v3)), (5, .int (i32 v1)), (0, .ref b), (1, .ref (zad Y 0)), (2, .ref (zad Y 400)), (3, .ref (zad Y 500)), (4, .int (i32 i))]) dL_law_291 (by decide) rfl ?_
  refine zr_aload_n (pc' := 294) cx rfl 4 dL_law_293 rfl rfl ?_
  refine zc_L_101 (pc' := 297) cx rfl ⟨Nat.le_of_ble_eq_true rfl, Nat.le_of_ble_eq_true rfl⟩ hkn1 (Nat.le_of_ble_eq_true rfl) dL_law_294 (fun v5 => ?_)
  refine zr_iload (pc' := 299) cx rfl 1 dL_law_297 rfl ?_
  refine zr_icmp_eq (pc' := 302) cx rfl (tgt := 304) dL_law_299 rfl ?_ ?_
  · refine zr_iload (pc' := 306) cx rfl 1 dL_law_304 rfl ?_
    refine zr_if_ne (pc' := 309) cx rfl (tgt := 321) dL_law_306 rfl ?_ ?_
    · refine zr_goto cx (tgt := 1753) dL_law_321 rfl ?_
      refine zr_iinc (pc' := 1756) cx rfl (lv' := [(4, .int (i32 (i + 5))), (6, .int (i32 v3)), (5, .int (i32 v1)), (0, .ref b), (1, .ref (zad Y 0)), (2, .ref (zad Y 400)), (3, .ref (zad Y 500))]) 6 dL_law_1753 rfl (by decide) rfl ?_
      refine zr_goto cx (tgt := 23) dL_law_1756 rfl ?_
      refine zr_sub [3, 4, 5, 6, 0] rfl ?_
      exact hk _ _ (by omega) (by omega) g4 (i + 5)
    · refine zr_aload_n (pc' := 310) cx rfl 5 dL_law_309 rfl rfl ?_
      refine zr_iconst (pc' := 311) cx rfl dL_law_310 ?_
      refine zr_lald (pc' := 312) cx rfl zkc_500 dL_law_311 ?_
      refine zr_iload (pc' := 314) cx rfl 0 dL_law_312 rfl ?_
      refine zr_i2l (pc' := 315) cx rfl dL_law_314 ?_
      refine zr_lcmp (pc' := 316) cx rfl dL_law_315 ?_
      refine zr_if_eq (pc' := 319) cx rfl (tgt := 321) dL_law_316 rfl ?_ ?_
      · refine zr_goto cx (tgt := 1753) dL_law_321 rfl ?_
        refine zr_iinc (pc' := 1756) cx rfl (lv' := [(4, .int (i32 (i + 5))), (6, .int (i32 v3)), (5, .int (i32 v1)), (0, .ref b), (1, .ref (zad Y 0)), (2, .ref (zad Y 400)), (3, .ref (zad Y 500))]) 6 dL_law_1753 rfl (by decide) rfl ?_
        refine zr_goto cx (tgt := 23) dL_law_1756 rfl ?_
        refine zr_sub [3, 4, 5, 6, 0] rfl ?_
        exact hk _ _ (by omega) (by omega) g4 (i + 5)
      · refine zr_iconst (pc' := 320) cx rfl dL_law_319 ?_
        exact zr_none
  · refine zr_iconst (pc' := 303) cx rfl dL_law_302 ?_
    exact zr_none
def fL_case2 (xs : Nat → Int32) (L : Nat) (K : zSt → Int → Option Unit) (g : zSt) (i : Int) : Option Unit :=
    zck ((0 : Int) ≤ (i + 1) ∧ (i + 1) < L) (
    zbe (fL_cross g (zsc xs (i + 1))) (fun v1 g2 =>
    zck ((0 : Int) ≤ (i + 1) ∧ (i + 1) < L) (
    zbe (fX8_cross g2 (zsc xs (i + 1))) (fun v3 g4 =>
    zbd (fX8_thrown g4) (fun v5 =>
    (if i32 v5 = i32 v1 then
    (if i32 v1 = i32 0 then
    (if i32 (zlc (g4.2.2 1) ((i32 v3).toInt64)) = i32 0 then
    K g4 (i + 5)
    else
    none)
    else
    K g4 (i + 5))
    else
    none))))))
theorem wL_case2 (cx : zCx Y p s m #[Value.ref b] meth c RL cL_law 9 ret) (hl0 : l.stackTraces = false) (hX : va_X b L xs s s.heap) (hbl : b < s.heap.size) (hbA : ¬ zA Y b) (hL : L ≤ 2560) {k n : Nat} (hkn : k + 1 ≤ room_1.cells ∧ n + 6 ≤ room_1.slots) (K : zSt → Int → Option Unit) (hk : ∀ k' n' : Nat, k' ≤ k + 1 → n' ≤ n + 6 → ∀ (g : zSt) (i : Int), zLo Y p l e s m b below meth c k' n' g [(0, .ref b), (1, .ref (zad Y 0)), (2, .ref (zad Y 400)), (3, .ref (zad Y 500)), (4, .int (i32 i))] [] 23 (K g i)) (g : zSt) (i : Int) : zLo Y p l e s m b below meth c k n g [(0, .ref b), (1, .ref (zad Y 0)), (2, .ref (zad Y 400)), (3, .ref (zad Y 500)), (4, .int (i32 i))] [] 324 (fL_case2 xs L K g i) := by
  unfold fL_case2
  have hkn1 := hkn
  have hkn0 : k ≤ room_1.cells ∧ n ≤ room_1.slots := ⟨Nat.le_of_succ_le hkn.1, Nat.le_trans (Nat.le_add_right n 6) hkn.2⟩
  refine zr_aload_n (pc' := 325) cx rfl 1 dL_law_324 rfl rfl ?_
  refine zr_aload_n (pc' := 326) cx rfl 0 dL_law_325 rfl rfl ?_
  refine zr_iload (pc' := 328) cx rfl 4 dL_law_326 rfl ?_
  refine zr_iconst (pc' := 329) cx rfl dL_law_328 ?_
  refine zr_iadd (pc' := 330) cx rfl dL_law_329 ?_
  refine zr_sld (pc' := 331) cx rfl hX hbl hbA hL dL_law_330 ?_
  refine zr_aload_n (pc' := 332) cx rfl 3 dL_law_331 rfl rfl ?_
  refine zc_L_108 hl0 (pc' := 335) cx rfl ⟨Nat.le_of_ble_eq_true rfl, Nat.le_of_ble_eq_true rfl⟩ hkn (Nat.le_of_ble_eq_true rfl) dL_law_332 (fun v1 g2 => ?_)
  refine zr_istore (pc' := 337) cx rfl (lv' := [(5, .int (i32 v1)), (0, .ref b), (1, .ref (zad Y 0)), (2, .ref (zad Y 400)), (3, .ref (zad Y 500)), (4, .int (i32 i))]) dL_law_335 (by decide) rfl ?_
  refine zr_aload_n (pc' := 338) cx rfl 3 dL_law_337 rfl rfl ?_
  refine zr_aload_n (pc' := 339) cx rfl 1 dL_law_338 rfl rfl ?_
  refine zr_iload (pc' := 341) cx rfl 5 dL_law_339 rfl ?_
  refine zr_iconst (pc' := 342) cx rfl dL_law_341 ?_
  refine zr_iadd (pc' := 343) cx rfl dL_law_342 ?_
  refine zr_sld (pc' := 344) cx rfl hX hbl hbA hL dL_law_343 ?_
  refine zc_L_110 (pc' := 347) cx rfl ⟨Nat.le_of_ble_eq_true rfl, Nat.le_of_ble_eq_true rfl⟩ hkn1 (Nat.le_of_ble_eq_true rfl) dL_law_344 (fun v3 g4 => ?_)
  refine zr_istore (pc' := 349) cx rfl (lv' := [(6, .int (i32 v3)), (5, .int (i32 v1)), (0, .ref b), (1, .ref (zad Y 0)), (2, .ref (zad Y 400)), (3, .ref (zad Y 500)), (4, .int (i32 i))]) dL_law_347 (by decide) rfl ?_
  refine zr_aload_n (pc' := 350) cx rfl 4 dL_law_349 rfl rfl ?_
  refine zc_L_101 (pc' := 353) cx rfl ⟨Nat.le_of_ble_eq_true rfl, Nat.le_of_ble_eq_true rfl⟩ hkn1 (Nat.le_of_ble_eq_true rfl) dL_law_350 (fun v5 => ?_)
  refine zr_iload (pc' := 355) cx rfl 1 dL_law_353 rfl ?_
  refine zr_icmp_eq (pc' := 358) cx rfl (tgt := 360) dL_law_355 rfl ?_ ?_
  · refine zr_iload (pc' := 362) cx rfl 1 dL_law_360 rfl ?_
    refine zr_if_ne (pc' := 365) cx rfl (tgt := 377) dL_law_362 rfl ?_ ?_
    · refine zr_goto cx (tgt := 1753) dL_law_377 rfl ?_
      refine zr_iinc (pc' := 1756) cx rfl (lv' := [(4, .int (i32 (i + 5))), (6, .int (i32 v3)), (5, .int (i32 v1)), (0, .ref b), (1, .ref (zad Y 0)), (2, .ref (zad Y 400)), (3, .ref (zad Y 500))]) 6 dL_law_1753 rfl (by decide) rfl ?_
      refine zr_goto cx (tgt := 23) dL_law_1756 rfl ?_
      refine zr_sub [3, 4, 5, 6, 0] rfl ?_
      exact hk _ _ (by omega) (by omega) g4 (i + 5)
    · refine zr_aload_n (pc' := 366) cx rfl 5 dL_law_365 rfl rfl ?_
      refine zr_iconst (pc' := 367) cx rfl dL_law_366 ?_
      refine zr_lald (pc' := 368) cx rfl zkc_500 dL_law_367 ?_
      refine zr_iload (pc' := 370) cx rfl 0 dL_law_368 rfl ?_
      refine zr_i2l (pc' := 371) cx rfl dL_law_370 ?_
      refine zr_lcmp (pc' := 372) cx rfl dL_law_371 ?_
      refine zr_if_eq (pc' := 375) cx rfl (tgt := 377) dL_law_372 rfl ?_ ?_
      · refine zr_goto cx (tgt := 1753) dL_law_377 rfl ?_
        refine zr_iinc (pc' := 1756) cx rfl (lv' := [(4, .int (i32 (i + 5))), (6, .int (i32 v3)), (5, .int (i32 v1)), (0, .ref b), (1, .ref (zad Y 0)), (2, .ref (zad Y 400)), (3, .ref (zad Y 500))]) 6 dL_law_1753 rfl (by decide) rfl ?_
        refine zr_goto cx (tgt := 23) dL_law_1756 rfl ?_
        refine zr_sub [3, 4, 5, 6, 0] rfl ?_
        exact hk _ _ (by omega) (by omega) g4 (i + 5)
      · refine zr_iconst (pc' := 376) cx rfl dL_law_375 ?_
        exact zr_none
  · refine zr_iconst (pc' := 359) cx rfl dL_law_358 ?_
    exact zr_none
def fL_case3 (xs : Nat → Int32) (L : Nat) (K : zSt → Int → Option Unit) (g : zSt) (i : Int) : Option Unit :=
    zck ((0 : Int) ≤ (i + 1) ∧ (i + 1) < L) (
    zck ((0 : Int) ≤ (i + 2) ∧ (i + 2) < L) (
    zck ((0 : Int) ≤ (i + 3) ∧ (i + 3) < L) (
    zbe (fL_replace g (zsc xs (i + 1)) (zsc xs (i + 2)) (zsc xs (i + 3))) (fun v1 g2 =>
    zck ((0 : Int) ≤ (i + 1) ∧ (i + 1) < L) (
    zck ((0 : Int) ≤ (i + 2) ∧ (i + 2) < L) (
    zck ((0 : Int) ≤ (i + 3) ∧ (i + 3) < L) (
    zbe (fX8_replace g2 (zsc xs (i + 1)) (zsc xs (i + 2)) (zsc xs (i + 3))) (fun v3 g4 =>
    zbd (fX8_thrown g4) (fun v5 =>
    (if i32 v5 = i32 v1 then
    (if i32 v1 = i32 0 then
    (if i32 (zlc (g4.2.2 1) ((i32 v3).toInt64)) = i32 0 then
    K g4 (i + 5)
    else
    none)
    else
    K g4 (i + 5))
    else
    none))))))))))
theorem wL_case3 (cx : zCx Y p s m #[Value.ref b] meth c RL cL_law 9 ret) (hl0 : l.stackTraces = false) (hX : va_X b L xs s s.heap) (hbl : b < s.heap.size) (hbA : ¬ zA Y b) (hL : L ≤ 2560) {k n : Nat} (hkn : k + 1 ≤ room_1.cells ∧ n + 6 ≤ room_1.slots) (K : zSt → Int → Option Unit) (hk : ∀ k' n' : Nat, k' ≤ k + 1 → n' ≤ n + 6 → ∀ (g : zSt) (i : Int), zLo Y p l e s m b below meth c k' n' g [(0, .ref b), (1, .ref (zad Y 0)), (2, .ref (zad Y 400)), (3, .ref (zad Y 500)), (4, .int (i32 i))] [] 23 (K g i)) (g : zSt) (i : Int) : zLo Y p l e s m b below meth c k n g [(0, .ref b), (1, .ref (zad Y 0)), (2, .ref (zad Y 400)), (3, .ref (zad Y 500)), (4, .int (i32 i))] [] 380 (fL_case3 xs L K g i) := by
  unfold fL_case3
  have hkn1 := hkn
  have hkn0 : k ≤ room_1.cells ∧ n ≤ room_1.slots := ⟨Nat.le_of_succ_le hkn.1, Nat.le_trans (Nat.le_add_right n 6) hkn.2⟩
  refine zr_aload_n (pc' := 381) cx rfl 1 dL_law_380 rfl rfl ?_
  refine zr_aload_n (pc' := 382) cx rfl 0 dL_law_381 rfl rfl ?_
  refine zr_iload (pc' := 384) cx rfl 4 dL_law_382 rfl ?_
  refine zr_iconst (pc' := 385) cx rfl dL_law_384 ?_
  refine zr_iadd (pc' := 386) cx rfl dL_law_385 ?_
  refine zr_sld (pc' := 387) cx rfl hX hbl hbA hL dL_law_386 ?_
  refine zr_aload_n (pc' := 388) cx rfl 0 dL_law_387 rfl rfl ?_
  refine zr_iload (pc' := 390) cx rfl 4 dL_law_388 rfl ?_
  refine zr_iconst (pc' := 391) cx rfl dL_law_390 ?_
  refine zr_iadd (pc' := 392) cx rfl dL_law_391 ?_
  refine zr_sld (pc' := 393) cx rfl hX hbl hbA hL dL_law_392 ?_
  refine zr_aload_n (pc' := 394) cx rfl 0 dL_law_393 rfl rfl ?_
  refine zr_iload (pc' := 396) cx rfl 4 dL_law_394 rfl ?_
  refine zr_iconst (pc' := 397) cx rfl dL_law_396 ?_
  refine zr_iadd (pc' := 398) cx rfl dL_law_397 ?_
  refine zr_sld (pc' := 399) cx rfl hX hbl hbA hL dL_law_398 ?_
  refine zr_aload_n (pc' := 400) cx rfl 3 dL_law_399 rfl rfl ?_
  refine zc_L_111 hl0 (pc' := 403) cx rfl ⟨Nat.le_of_ble_eq_true rfl, Nat.le_of_ble_eq_true rfl⟩ hkn (Nat.le_of_ble_eq_true rfl) dL_law_400 (fun v1 g2 => ?_)
  refine zr_istore (pc' := 405) cx rfl (lv' := [(5, .int (i32 v1)), (0, .ref b), (1, .ref (zad Y 0)), (2, .ref (zad Y 400)), (3, .ref (zad Y 500)), (4, .int (i32 i))]) dL_law_403 (by decide) rfl ?_
  refine zr_aload_n (pc' := 406) cx rfl 3 dL_law_405 rfl rfl ?_
  refine zr_aload_n (pc' := 407) cx rfl 1 dL_law_406 rfl rfl ?_
  refine zr_iload (pc' := 409) cx rfl 5 dL_law_407 rfl ?_
  refine zr_iconst (pc' := 410) cx rfl dL_law_409 ?_
  refine zr_iadd (pc' := 411) cx rfl dL_law_410 ?_
  refine zr_sld (pc' := 412) cx rfl hX hbl hbA hL dL_law_411 ?_
  refine zr_aload_n (pc' := 413) cx rfl 1 dL_law_412 rfl rfl ?_
  refine zr_iload (pc' := 415) cx rfl 5 dL_law_413 rfl ?_
  refine zr_iconst (pc' := 416) cx rfl dL_law_415 ?_
  refine zr_iadd (pc' := 417) cx rfl dL_law_416 ?_
  refine zr_sld (pc' := 418) cx rfl hX hbl hbA hL dL_law_417 ?_
  refine zr_aload_n (pc' := 419) cx rfl 1 dL_law_418 rfl rfl ?_
  refine zr_iload (pc' := 421) cx rfl 5 dL_law_419 rfl ?_
  refine zr_iconst (pc' := 422) cx rfl dL_law_421 ?_
  refine zr_iadd (pc' := 423) cx rfl dL_law_422 ?_
  refine zr_sld (pc' := 424) cx rfl hX hbl hbA hL dL_law_423 ?_
  refine zc_L_114 (pc' := 427) cx rfl ⟨Nat.le_of_ble_eq_true rfl, Nat.le_of_ble_eq_true rfl⟩ hkn1 (Nat.le_of_ble_eq_true rfl) dL_law_424 (fun v3 g4 => ?_)
  refine zr_istore (pc' := 429) cx rfl (lv' := [(6, .int (i32 v3)), (5, .int (i32 v1)), (0, .ref b), (1, .ref (zad Y 0)), (2, .ref (zad Y 400)), (3, .ref (zad Y 500)), (4, .int (i32 i))]) dL_law_427 (by decide) rfl ?_
  refine zr_aload_n (pc' := 430) cx rfl 4 dL_law_429 rfl rfl ?_
  refine zc_L_101 (pc' := 433) cx rfl ⟨Nat.le_of_ble_eq_true rfl, Nat.le_of_ble_eq_true rfl⟩ hkn1 (Nat.le_of_ble_eq_true rfl) dL_law_430 (fun v5 => ?_)
  refine zr_iload (pc' := 435) cx rfl 1 dL_law_433 rfl ?_
  refine zr_icmp_eq (pc' := 438) cx rfl (tgt := 440) dL_law_435 rfl ?_ ?_
  · refine zr_iload (pc' := 442) cx rfl 1 dL_law_440 rfl ?_
    refine zr_if_ne (pc' := 445) cx rfl (tgt := 457) dL_law_442 rfl ?_ ?_
    · refine zr_goto cx (tgt := 1753) dL_law_457 rfl ?_
      refine zr_iinc (pc' := 1756) cx rfl (lv' := [(4, .int (i32 (i + 5))), (6, .int (i32 v3)), (5, .int (i32 v1)), (0, .ref b), (1, .ref (zad Y 0)), (2, .ref (zad Y 400)), (3, .ref (zad Y 500))]) 6 dL_law_1753 rfl (by decide) rfl ?_
      refine zr_goto cx (tgt := 23) dL_law_1756 rfl ?_
      refine zr_sub [3, 4, 5, 6, 0] rfl ?_
      exact hk _ _ (by omega) (by omega) g4 (i + 5)
    · refine zr_aload_n (pc' := 446) cx rfl 5 dL_law_445 rfl rfl ?_
      refine zr_iconst (pc' := 447) cx rfl dL_law_446 ?_
      refine zr_lald (pc' := 448) cx rfl zkc_500 dL_law_447 ?_
      refine zr_iload (pc' := 450) cx rfl 0 dL_law_448 rfl ?_
      refine zr_i2l (pc' := 451) cx rfl dL_law_450 ?_
      refine zr_lcmp (pc' := 452) cx rfl dL_law_451 ?_
      refine zr_if_eq (pc' := 455) cx rfl (tgt := 457) dL_law_452 rfl ?_ ?_
      · refine zr_goto cx (tgt := 1753) dL_law_457 rfl ?_
        refine zr_iinc (pc' := 1756) cx rfl (lv' := [(4, .int (i32 (i + 5))), (6, .int (i32 v3)), (5, .int (i32 v1)), (0, .ref b), (1, .ref (zad Y 0)), (2, .ref (zad Y 400)), (3, .ref (zad Y 500))]) 6 dL_law_1753 rfl (by decide) rfl ?_
        refine zr_goto cx (tgt := 23) dL_law_1756 rfl ?_
        refine zr_sub [3, 4, 5, 6, 0] rfl ?_
        exact hk _ _ (by omega) (by omega) g4 (i + 5)
      · refine zr_iconst (pc' := 456) cx rfl dL_law_455 ?_
        exact zr_none
  · refine zr_iconst (pc' := 439) cx rfl dL_law_438 ?_
    exact zr_none
def fL_case4 (xs : Nat → Int32) (L : Nat) (K : zSt → Int → Option Unit) (g : zSt) (i : Int) : Option Unit :=
    zck ((0 : Int) ≤ (i + 1) ∧ (i + 1) < L) (
    zbe (fL_buyFuses g (zsc xs (i + 1))) (fun v1 g2 =>
    zck ((0 : Int) ≤ (i + 1) ∧ (i + 1) < L) (
    zbe (fX8_buyFuses g2 (zsc xs (i + 1))) (fun v3 g4 =>
    zbd (fX8_thrown g4) (fun v5 =>
    (if i32 v5 = i32 v1 then
    (if i32 v1 = i32 0 then
    (if i32 (zlc (g4.2.2 1) ((i32 v3).toInt64)) = i32 0 then
    K g4 (i + 5)
    else
    none)
    else
    K g4 (i + 5))
    else
    none))))))
theorem wL_case4 (cx : zCx Y p s m #[Value.ref b] meth c RL cL_law 9 ret) (hl0 : l.stackTraces = false) (hX : va_X b L xs s s.heap) (hbl : b < s.heap.size) (hbA : ¬ zA Y b) (hL : L ≤ 2560) {k n : Nat} (hkn : k + 1 ≤ room_1.cells ∧ n + 6 ≤ room_1.slots) (K : zSt → Int → Option Unit) (hk : ∀ k' n' : Nat, k' ≤ k + 1 → n' ≤ n + 6 → ∀ (g : zSt) (i : Int), zLo Y p l e s m b below meth c k' n' g [(0, .ref b), (1, .ref (zad Y 0)), (2, .ref (zad Y 400)), (3, .ref (zad Y 500)), (4, .int (i32 i))] [] 23 (K g i)) (g : zSt) (i : Int) : zLo Y p l e s m b below meth c k n g [(0, .ref b), (1, .ref (zad Y 0)), (2, .ref (zad Y 400)), (3, .ref (zad Y 500)), (4, .int (i32 i))] [] 460 (fL_case4 xs L K g i) := by
  unfold fL_case4
  have hkn1 := hkn
  have hkn0 : k ≤ room_1.cells ∧ n ≤ room_1.slots := ⟨Nat.le_of_succ_le hkn.1, Nat.le_trans (Nat.le_add_right n 6) hkn.2⟩
  refine zr_aload_n (pc' := 461) cx rfl 1 dL_law_460 rfl rfl ?_
  refine zr_aload_n (pc' := 462) cx rfl 0 dL_law_461 rfl rfl ?_
  refine zr_iload (pc' := 464) cx rfl 4 dL_law_462 rfl ?_
  refine zr_iconst (pc' := 465) cx rfl dL_law_464 ?_
  refine zr_iadd (pc' := 466) cx rfl dL_law_465 ?_
  refine zr_sld (pc' := 467) cx rfl hX hbl hbA hL dL_law_466 ?_
  refine zr_aload_n (pc' := 468) cx rfl 3 dL_law_467 rfl rfl ?_
  refine zc_L_115 hl0 (pc' := 471) cx rfl ⟨Nat.le_of_ble_eq_true rfl, Nat.le_of_ble_eq_true rfl⟩ hkn (Nat.le_of_ble_eq_true rfl) dL_law_468 (fun v1 g2 => ?_)
  refine zr_istore (pc' := 473) cx rfl (lv' := [(5, .int (i32 v1)), (0, .ref b), (1, .ref (zad Y 0)), (2, .ref (zad Y 400)), (3, .ref (zad Y 500)), (4, .int (i32 i))]) dL_law_471 (by decide) rfl ?_
  refine zr_aload_n (pc' := 474) cx rfl 3 dL_law_473 rfl rfl ?_
  refine zr_aload_n (pc' := 475) cx rfl 1 dL_law_474 rfl rfl ?_
  refine zr_iload (pc' := 477) cx rfl 5 dL_law_475 rfl ?_
  refine zr_iconst (pc' := 478) cx rfl dL_law_477 ?_
  refine zr_iadd (pc' := 479) cx rfl dL_law_478 ?_
  refine zr_sld (pc' := 480) cx rfl hX hbl hbA hL dL_law_479 ?_
  refine zc_L_117 (pc' := 483) cx rfl ⟨Nat.le_of_ble_eq_true rfl, Nat.le_of_ble_eq_true rfl⟩ hkn1 (Nat.le_of_ble_eq_true rfl) dL_law_480 (fun v3 g4 => ?_)
  refine zr_istore (pc' := 485) cx rfl (lv' := [(6, .int (i32 v3)), (5, .int (i32 v1)), (0, .ref b), (1, .ref (zad Y 0)), (2, .ref (zad Y 400)), (3, .ref (zad Y 500)), (4, .int (i32 i))]) dL_law_483 (by decide) rfl ?_
  refine zr_aload_n (pc' := 486) cx rfl 4 dL_law_485 rfl rfl ?_
  refine zc_L_101 (pc' := 489) cx rfl ⟨Nat.le_of_ble_eq_true rfl, Nat.le_of_ble_eq_true rfl⟩ hkn1 (Nat.le_of_ble_eq_true rfl) dL_law_486 (fun v5 => ?_)
  refine zr_iload (pc' := 491) cx rfl 1 dL_law_489 rfl ?_
  refine zr_icmp_eq (pc' := 494) cx rfl (tgt := 496) dL_law_491 rfl ?_ ?_
  · refine zr_iload (pc' := 498) cx rfl 1 dL_law_496 rfl ?_
    refine zr_if_ne (pc' := 501) cx rfl (tgt := 513) dL_law_498 rfl ?_ ?_
    · refine zr_goto cx (tgt := 1753) dL_law_513 rfl ?_
      refine zr_iinc (pc' := 1756) cx rfl (lv' := [(4, .int (i32 (i + 5))), (6, .int (i32 v3)), (5, .int (i32 v1)), (0, .ref b), (1, .ref (zad Y 0)), (2, .ref (zad Y 400)), (3, .ref (zad Y 500))]) 6 dL_law_1753 rfl (by decide) rfl ?_
      refine zr_goto cx (tgt := 23) dL_law_1756 rfl ?_
      refine zr_sub [3, 4, 5, 6, 0] rfl ?_
      exact hk _ _ (by omega) (by omega) g4 (i + 5)
    · refine zr_aload_n (pc' := 502) cx rfl 5 dL_law_501 rfl rfl ?_
      refine zr_iconst (pc' := 503) cx rfl dL_law_502 ?_
      refine zr_lald (pc' := 504) cx rfl zkc_500 dL_law_503 ?_
      refine zr_iload (pc' := 506) cx rfl 0 dL_law_504 rfl ?_
      refine zr_i2l (pc' := 507) cx rfl dL_law_506 ?_
      refine zr_lcmp (pc' := 508) cx rfl dL_law_507 ?_
      refine zr_if_eq (pc' := 511) cx rfl (tgt := 513) dL_law_508 rfl ?_ ?_
      · refine zr_goto cx (tgt := 1753) dL_law_513 rfl ?_
        refine zr_iinc (pc' := 1756) cx rfl (lv' := [(4, .int (i32 (i + 5))), (6, .int (i32 v3)), (5, .int (i32 v1)), (0, .ref b), (1, .ref (zad Y 0)), (2, .ref (zad Y 400)), (3, .ref (zad Y 500))]) 6 dL_law_1753 rfl (by decide) rfl ?_
        refine zr_goto cx (tgt := 23) dL_law_1756 rfl ?_
        refine zr_sub [3, 4, 5, 6, 0] rfl ?_
        exact hk _ _ (by omega) (by omega) g4 (i + 5)
      · refine zr_iconst (pc' := 512) cx rfl dL_law_511 ?_
        exact zr_none
  · refine zr_iconst (pc' := 495) cx rfl dL_law_494 ?_
    exact zr_none
def fL_case5 (xs : Nat → Int32) (L : Nat) (K : zSt → Int → Option Unit) (g : zSt) (i : Int) : Option Unit :=
    zck ((0 : Int) ≤ (i + 1) ∧ (i + 1) < L) (
    zck ((0 : Int) ≤ (i + 2) ∧ (i + 2) < L) (
    zck ((0 : Int) ≤ (i + 3) ∧ (i + 3) < L) (
    zbe (fL_hang g (zsc xs (i + 1)) (zsc xs (i + 2)) (zb0 (zsc xs (i + 3)))) (fun v1 g2 =>
    zck ((0 : Int) ≤ (i + 1) ∧ (i + 1) < L) (
    zck ((0 : Int) ≤ (i + 2) ∧ (i + 2) < L) (
    zck ((0 : Int) ≤ (i + 3) ∧ (i + 3) < L) (
    zbe (fX8_hang g2 (zsc xs (i + 1)) (zsc xs (i + 2)) (zb0 (zsc xs (i + 3)))) (fun v3 g4 =>
    zbd (fX8_thrown g4) (fun v5 =>
    (if i32 v5 = i32 v1 then
    (if i32 v1 = i32 0 then
    (if i32 (zlc (g4.2.2 1) ((i32 v3).toInt64)) = i32 0 then
    K g4 (i + 5)
    else
    none)
    else
    K g4 (i + 5))
    else
    none))))))))))
theorem wL_case5 (cx : zCx Y p s m #[Value.ref b] meth c RL cL_law 9 ret) (hl0 : l.stackTraces = false) (hX : va_X b L xs s s.heap) (hbl : b < s.heap.size) (hbA : ¬ zA Y b) (hL : L ≤ 2560) {k n : Nat} (hkn : k + 1 ≤ room_1.cells ∧ n + 6 ≤ room_1.slots) (K : zSt → Int → Option Unit) (hk : ∀ k' n' : Nat, k' ≤ k + 1 → n' ≤ n + 6 → ∀ (g : zSt) (i : Int), zLo Y p l e s m b below meth c k' n' g [(0, .ref b), (1, .ref (zad Y 0)), (2, .ref (zad Y 400)), (3, .ref (zad Y 500)), (4, .int (i32 i))] [] 23 (K g i)) (g : zSt) (i : Int) : zLo Y p l e s m b below meth c k n g [(0, .ref b), (1, .ref (zad Y 0)), (2, .ref (zad Y 400)), (3, .ref (zad Y 500)), (4, .int (i32 i))] [] 516 (fL_case5 xs L K g i) := by
  unfold fL_case5
  have hkn1 := hkn
  have hkn0 : k ≤ room_1.cells ∧ n ≤ room_1.slots := ⟨Nat.le_of_succ_le hkn.1, Nat.le_trans (Nat.le_add_right n 6) hkn.2⟩
  refine zr_aload_n (pc' := 517) cx rfl 1 dL_law_516 rfl rfl ?_
  refine zr_aload_n (pc' := 518) cx rfl 0 dL_law_517 rfl rfl ?_
  refine zr_iload (pc' := 520) cx rfl 4 dL_law_518 rfl ?_
  refine zr_iconst (pc' := 521) cx rfl dL_law_520 ?_
  refine zr_iadd (pc' := 522) cx rfl dL_law_521 ?_
  refine zr_sld (pc' := 523) cx rfl hX hbl hbA hL dL_law_522 ?_
  refine zr_aload_n (pc' := 524) cx rfl 0 dL_law_523 rfl rfl ?_
  refine zr_iload (pc' := 526) cx rfl 4 dL_law_524 rfl ?_
  refine zr_iconst (pc' := 527) cx rfl dL_law_526 ?_
  refine zr_iadd (pc' := 528) cx rfl dL_law_527 ?_
  refine zr_sld (pc' := 529) cx rfl hX hbl hbA hL dL_law_528 ?_
  refine zr_aload_n (pc' := 530) cx rfl 0 dL_law_529 rfl rfl ?_
  refine zr_iload (pc' := 532) cx rfl 4 dL_law_530 rfl ?_
  refine zr_iconst (pc' := 533) cx rfl dL_law_532 ?_
  refine zr_iadd (pc' := 534) cx rfl dL_law_533 ?_
  refine zr_sld (pc' := 535) cx rfl hX hbl hbA hL dL_law_534 ?_
  refine zr_bool (pc' := 543) cx dL_law_535 dL_law_538 dL_law_539 dL_law_542 rfl rfl rfl rfl rfl ?_
  refine zr_aload_n (pc' := 544) cx rfl 3 dL_law_543 rfl rfl ?_
  refine zc_L_118 hl0 (pc' := 547) cx rfl ⟨Nat.le_of_ble_eq_true rfl, Nat.le_of_ble_eq_true rfl⟩ hkn (Nat.le_of_ble_eq_true rfl) dL_law_544 (fun v1 g2 => ?_)
  refine zr_istore (pc' := 549) cx rfl (lv' := [(5, .int (i32 v1)), (0, .ref b), (1, .ref (zad Y 0)), (2, .ref (zad Y 400)), (3, .ref (zad Y 500)), (4, .int (i32 i))]) dL_law_547 (by decide) rfl ?_
  refine zr_aload_n (pc' := 550) cx rfl 3 dL_law_549 rfl rfl ?_
  refine zr_aload_n (pc' := 551) cx rfl 1 dL_law_550 rfl rfl ?_
  refine zr_iload (pc' := 553) cx rfl 5 dL_law_551 rfl ?_
  refine zr_iconst (pc' := 554) cx rfl dL_law_553 ?_
  refine zr_iadd (pc' := 555) cx rfl dL_law_554 ?_
  refine zr_sld (pc' := 556) cx rfl hX hbl hbA hL dL_law_555 ?_
  refine zr_aload_n (pc' := 557) cx rfl 1 dL_law_556 rfl rfl ?_
  refine zr_iload (pc' := 559) cx rfl 5 dL_law_557 rfl ?_
  refine zr_iconst (pc' := 560) cx rfl dL_law_559 ?_
  refine zr_iadd (pc' := 561) cx rfl dL_law_560 ?_
  refine zr_sld (pc' := 562) cx rfl hX hbl hbA hL dL_law_561 ?_
  refine zr_aload_n (pc' := 563) cx rfl 1 dL_law_562 rfl rfl ?_
  refine zr_iload (pc' := 565) cx rfl 5 dL_law_563 rfl ?_
  refine zr_iconst (pc' := 566) cx rfl dL_law_565 ?_
  refine zr_iadd (pc' := 567) cx rfl dL_law_566 ?_
  refine zr_sld (pc' := 568) cx rfl hX hbl hbA hL dL_law_567 ?_
  refine zr_bool (pc' := 576) cx dL_law_568 dL_law_571 dL_law_572 dL_law_575 rfl rfl rfl rfl rfl ?_
  refine zc_L_121 (pc' := 579) cx rfl ⟨Nat.le_of_ble_eq_true rfl, Nat.le_of_ble_eq_true rfl⟩ hkn1 (Nat.le_of_ble_eq_true rfl) dL_law_576 (fun v3 g4 => ?_)
  refine zr_istore (pc' := 581) cx rfl (lv' := [(6, .int (i32 v3)), (5, .int (i32 v1)), (0, .ref b), (1, .ref (zad Y 0)), (2, .ref (zad Y 400)), (3, .ref (zad Y 500)), (4, .int (i32 i))]) dL_law_579 (by decide) rfl ?_
  refine zr_aload_n (pc' := 582) cx rfl 4 dL_law_581 rfl rfl ?_
  refine zc_L_101 (pc' := 585) cx rfl ⟨Nat.le_of_ble_eq_true rfl, Nat.le_of_ble_eq_true rfl⟩ hkn1 (Nat.le_of_ble_eq_true rfl) dL_law_582 (fun v5 => ?_)
  refine zr_iload (pc' := 587) cx rfl 1 dL_law_585 rfl ?_
  refine zr_icmp_eq (pc' := 590) cx rfl (tgt := 592) dL_law_587 rfl ?_ ?_
  · refine zr_iload (pc' := 594) cx rfl 1 dL_law_592 rfl ?_
    refine zr_if_ne (pc' := 597) cx rfl (tgt := 609) dL_law_594 rfl ?_ ?_
    · refine zr_goto cx (tgt := 1753) dL_law_609 rfl ?_
      refine zr_iinc (pc' := 1756) cx rfl (lv' := [(4, .int (i32 (i + 5))), (6, .int (i32 v3)), (5, .int (i32 v1)), (0, .ref b), (1, .ref (zad Y 0)), (2, .ref (zad Y 400)), (3, .ref (zad Y 500))]) 6 dL_law_1753 rfl (by decide) rfl ?_
      refine zr_goto cx (tgt := 23) dL_law_1756 rfl ?_
      refine zr_sub [3, 4, 5, 6, 0] rfl ?_
      exact hk _ _ (by omega) (by omega) g4 (i + 5)
    · refine zr_aload_n (pc' := 598) cx rfl 5 dL_law_597 rfl rfl ?_
      refine zr_iconst (pc' := 599) cx rfl dL_law_598 ?_
      refine zr_lald (pc' := 600) cx rfl zkc_500 dL_law_599 ?_
      refine zr_iload (pc' := 602) cx rfl 0 dL_law_600 rfl ?_
      refine zr_i2l (pc' := 603) cx rfl dL_law_602 ?_
      refine zr_lcmp (pc' := 604) cx rfl dL_law_603 ?_
      refine zr_if_eq (pc' := 607) cx rfl (tgt := 609) dL_law_604 rfl ?_ ?_
      · refine zr_goto cx (tgt := 1753) dL_law_609 rfl ?_
        refine zr_iinc (pc' := 1756) cx rfl (lv' := [(4, .int (i32 (i + 5))), (6, .int (i32 v3)), (5, .int (i32 v1)), (0, .ref b), (1, .ref (zad Y 0)), (2, .ref (zad Y 400)), (3, .ref (zad Y 500))]) 6 dL_law_1753 rfl (by decide) rfl ?_
        refine zr_goto cx (tgt := 23) dL_law_1756 rfl ?_
        refine zr_sub [3, 4, 5, 6, 0] rfl ?_
        exact hk _ _ (by omega) (by omega) g4 (i + 5)
      · refine zr_iconst (pc' := 608) cx rfl dL_law_607 ?_
        exact zr_none
  · refine zr_iconst (pc' := 591) cx rfl dL_law_590 ?_
    exact zr_none
def fL_case6 (xs : Nat → Int32) (L : Nat) (K : zSt → Int → Option Unit) (g : zSt) (i : Int) : Option Unit :=
    zck ((0 : Int) ≤ (i + 1) ∧ (i + 1) < L) (
    zbe (fL_takeDown g (zsc xs (i + 1))) (fun v1 g2 =>
    zck ((0 : Int) ≤ (i + 1) ∧ (i + 1) < L) (
    zbe (fX8_takeDown g2 (zsc xs (i + 1))) (fun v3 g4 =>
    zbd (fX8_thrown g4) (fun v5 =>
    (if i32 v5 = i32 v1 then
    (if i32 v1 = i32 0 then
    (if i32 (zlc (g4.2.2 1) ((i32 v3).toInt64)) = i32 0 then
    K g4 (i + 5)
    else
    none)
    else
    K g4 (i + 5))
    else
    none))))))
theorem wL_case6 (cx : zCx Y p s m #[Value.ref b] meth c RL cL_law 9 ret) (hl0 : l.stackTraces = false) (hX : va_X b L xs s s.heap) (hbl : b < s.heap.size) (hbA : ¬ zA Y b) (hL : L ≤ 2560) {k n : Nat} (hkn : k + 1 ≤ room_1.cells ∧ n + 6 ≤ room_1.slots) (K : zSt → Int → Option Unit) (hk : ∀ k' n' : Nat, k' ≤ k + 1 → n' ≤ n + 6 → ∀ (g : zSt) (i : Int), zLo Y p l e s m b below meth c k' n' g [(0, .ref b), (1, .ref (zad Y 0)), (2, .ref (zad Y 400)), (3, .ref (zad Y 500)), (4, .int (i32 i))] [] 23 (K g i)) (g : zSt) (i : Int) : zLo Y p l e s m b below meth c k n g [(0, .ref b), (1, .ref (zad Y 0)), (2, .ref (zad Y 400)), (3, .ref (zad Y 500)), (4, .int (i32 i))] [] 612 (fL_case6 xs L K g i) := by
  unfold fL_case6
  have hkn1 := hkn
  have hkn0 : k ≤ room_1.cells ∧ n ≤ room_1.slots := ⟨Nat.le_of_succ_le hkn.1, Nat.le_trans (Nat.le_add_right n 6) hkn.2⟩
  refine zr_aload_n (pc' := 613) cx rfl 1 dL_law_612 rfl rfl ?_
  refine zr_aload_n (pc' := 614) cx rfl 0 dL_law_613 rfl rfl ?_
  refine zr_iload (pc' := 616) cx rfl 4 dL_law_614 rfl ?_
  refine zr_iconst (pc' := 617) cx rfl dL_law_616 ?_
  refine zr_iadd (pc' := 618) cx rfl dL_law_617 ?_
  refine zr_sld (pc' := 619) cx rfl hX hbl hbA hL dL_law_618 ?_
  refine zr_aload_n (pc' := 620) cx rfl 3 dL_law_619 rfl rfl ?_
  refine zc_L_122 hl0 (pc' := 623) cx rfl ⟨Nat.le_of_ble_eq_true rfl, Nat.le_of_ble_eq_true rfl⟩ hkn (Nat.le_of_ble_eq_true rfl) dL_law_620 (fun v1 g2 => ?_)
  refine zr_istore (pc' := 625) cx rfl (lv' := [(5, .int (i32 v1)), (0, .ref b), (1, .ref (zad Y 0)), (2, .ref (zad Y 400)), (3, .ref (zad Y 500)), (4, .int (i32 i))]) dL_law_623 (by decide) rfl ?_
  refine zr_aload_n (pc' := 626) cx rfl 3 dL_law_625 rfl rfl ?_
  refine zr_aload_n (pc' := 627) cx rfl 1 dL_law_626 rfl rfl ?_
  refine zr_iload (pc' := 629) cx rfl 5 dL_law_627 rfl ?_
  refine zr_iconst (pc' := 630) cx rfl dL_law_629 ?_
  refine zr_iadd (pc' := 631) cx rfl dL_law_630 ?_
  refine zr_sld (pc' := 632) cx rfl hX hbl hbA hL dL_law_631 ?_
  refine zc_L_124 (pc' := 635) cx rfl ⟨Nat.le_of_ble_eq_true rfl, Nat.le_of_ble_eq_true rfl⟩ hkn1 (Nat.le_of_ble_eq_true rfl) dL_law_632 (fun v3 g4 => ?_)
  refine zr_istore (pc' := 637) cx rfl (lv' := [(6, .int (i32 v3)), (5, .int (i32 v1)), (0, .ref b), (1, .ref (zad Y 0)), (2, .ref (zad Y 400)), (3, .ref (zad Y 500)), (4, .int (i32 i))]) dL_law_635 (by decide) rfl ?_
  refine zr_aload_n (pc' := 638) cx rfl 4 dL_law_637 rfl rfl ?_
  refine zc_L_101 (pc' := 641) cx rfl ⟨Nat.le_of_ble_eq_true rfl, Nat.le_of_ble_eq_true rfl⟩ hkn1 (Nat.le_of_ble_eq_true rfl) dL_law_638 (fun v5 => ?_)
  refine zr_iload (pc' := 643) cx rfl 1 dL_law_641 rfl ?_
  refine zr_icmp_eq (pc' := 646) cx rfl (tgt := 648) dL_law_643 rfl ?_ ?_
  · refine zr_iload (pc' := 650) cx rfl 1 dL_law_648 rfl ?_
    refine zr_if_ne (pc' := 653) cx rfl (tgt := 665) dL_law_650 rfl ?_ ?_
    · refine zr_goto cx (tgt := 1753) dL_law_665 rfl ?_
      refine zr_iinc (pc' := 1756) cx rfl (lv' := [(4, .int (i32 (i + 5))), (6, .int (i32 v3)), (5, .int (i32 v1)), (0, .ref b), (1, .ref (zad Y 0)), (2, .ref (zad Y 400)), (3, .ref (zad Y 500))]) 6 dL_law_1753 rfl (by decide) rfl ?_
      refine zr_goto cx (tgt := 23) dL_law_1756 rfl ?_
      refine zr_sub [3, 4, 5, 6, 0] rfl ?_
      exact hk _ _ (by omega) (by omega) g4 (i + 5)
    · refine zr_aload_n (pc' := 654) cx rfl 5 dL_law_653 rfl rfl ?_
      refine zr_iconst (pc' := 655) cx rfl dL_law_654 ?_
      refine zr_lald (pc' := 656) cx rfl zkc_500 dL_law_655 ?_
      refine zr_iload (pc' := 658) cx rfl 0 dL_law_656 rfl ?_
      refine zr_i2l (pc' := 659) cx rfl dL_law_658 ?_
      refine zr_lcmp (pc' := 660) cx rfl dL_law_659 ?_
      refine zr_if_eq (pc' := 663) cx rfl (tgt := 665) dL_law_660 rfl ?_ ?_
      · refine zr_goto cx (tgt := 1753) dL_law_665 rfl ?_
        refine zr_iinc (pc' := 1756) cx rfl (lv' := [(4, .int (i32 (i + 5))), (6, .int (i32 v3)), (5, .int (i32 v1)), (0, .ref b), (1, .ref (zad Y 0)), (2, .ref (zad Y 400)), (3, .ref (zad Y 500))]) 6 dL_law_1753 rfl (by decide) rfl ?_
        refine zr_goto cx (tgt := 23) dL_law_1756 rfl ?_
        refine zr_sub [3, 4, 5, 6, 0] rfl ?_
        exact hk _ _ (by omega) (by omega) g4 (i + 5)
      · refine zr_iconst (pc' := 664) cx rfl dL_law_663 ?_
        exact zr_none
  · refine zr_iconst (pc' := 647) cx rfl dL_law_646 ?_
    exact zr_none
def fL_case7 (xs : Nat → Int32) (L : Nat) (K : zSt → Int → Option Unit) (g : zSt) (i : Int) : Option Unit :=
    zck ((0 : Int) ≤ (i + 1) ∧ (i + 1) < L) (
    zck ((0 : Int) ≤ (i + 2) ∧ (i + 2) < L) (
    zck ((0 : Int) ≤ (i + 3) ∧ (i + 3) < L) (
    zbe (fL_fault g (zsc xs (i + 1)) (zsc xs (i + 2)) (zsc xs (i + 3))) (fun v1 g2 =>
    zck ((0 : Int) ≤ (i + 1) ∧ (i + 1) < L) (
    zck ((0 : Int) ≤ (i + 2) ∧ (i + 2) < L) (
    zck ((0 : Int) ≤ (i + 3) ∧ (i + 3) < L) (
    zbe (fX8_fault g2 (zsc xs (i + 1)) (zsc xs (i + 2)) (zsc xs (i + 3))) (fun v3 g4 =>
    zbd (fX8_thrown g4) (fun v5 =>
    (if i32 v5 = i32 v1 then
    (if i32 v1 = i32 0 then
    (if i32 (zlc (g4.2.2 1) ((i32 v3).toInt64)) = i32 0 then
    K g4 (i + 5)
    else
    none)
    else
    K g4 (i + 5))
    else
    none))))))))))
theorem wL_case7 (cx : zCx Y p s m #[Value.ref b] meth c RL cL_law 9 ret) (hl0 : l.stackTraces = false) (hX : va_X b L xs s s.heap) (hbl : b < s.heap.size) (hbA : ¬ zA Y b) (hL : L ≤ 2560) {k n : Nat} (hkn : k + 1 ≤ room_1.cells ∧ n + 6 ≤ room_1.slots) (K : zSt → Int → Option Unit) (hk : ∀ k' n' : Nat, k' ≤ k + 1 → n' ≤ n + 6 → ∀ (g : zSt) (i : Int), zLo Y p l e s m b below meth c k' n' g [(0, .ref b), (1, .ref (zad Y 0)), (2, .ref (zad Y 400)), (3, .ref (zad Y 500)), (4, .int (i32 i))] [] 23 (K g i)) (g : zSt) (i : Int) : zLo Y p l e s m b below meth c k n g [(0, .ref b), (1, .ref (zad Y 0)), (2, .ref (zad Y 400)), (3, .ref (zad Y 500)), (4, .int (i32 i))] [] 668 (fL_case7 xs L K g i) := by
  unfold fL_case7
  have hkn1 := hkn
  have hkn0 : k ≤ room_1.cells ∧ n ≤ room_1.slots := ⟨Nat.le_of_succ_le hkn.1, Nat.le_trans (Nat.le_add_right n 6) hkn.2⟩
  refine zr_aload_n (pc' := 669) cx rfl 1 dL_law_668 rfl rfl ?_
  refine zr_aload_n (pc' := 670) cx rfl 0 dL_law_669 rfl rfl ?_
  refine zr_iload (pc' := 672) cx rfl 4 dL_law_670 rfl ?_
  refine zr_iconst (pc' := 673) cx rfl dL_law_672 ?_
  refine zr_iadd (pc' := 674) cx rfl dL_law_673 ?_
  refine zr_sld (pc' := 675) cx rfl hX hbl hbA hL dL_law_674 ?_
  refine zr_aload_n (pc' := 676) cx rfl 0 dL_law_675 rfl rfl ?_
  refine zr_iload (pc' := 678) cx rfl 4 dL_law_676 rfl ?_
  refine zr_iconst (pc' := 679) cx rfl dL_law_678 ?_
  refine zr_iadd (pc' := 680) cx rfl dL_law_679 ?_
  refine zr_sld (pc' := 681) cx rfl hX hbl hbA hL dL_law_680 ?_
  refine zr_aload_n (pc' := 682) cx rfl 0 dL_law_681 rfl rfl ?_
  refine zr_iload (pc' := 684) cx rfl 4 dL_law_682 rfl ?_
  refine zr_iconst (pc' := 685) cx rfl dL_law_684 ?_
  refine zr_iadd (pc' := 686) cx rfl dL_law_685 ?_
  refine zr_sld (pc' := 687) cx rfl hX hbl hbA hL dL_law_686 ?_
  refine zr_aload_n (pc' := 688) cx rfl 3 dL_law_687 rfl rfl ?_
  refine zc_L_125 hl0 (pc' := 691) cx rfl ⟨Nat.le_of_ble_eq_true rfl, Nat.le_of_ble_eq_true rfl⟩ hkn (Nat.le_of_ble_eq_true rfl) dL_law_688 (fun v1 g2 => ?_)
  refine zr_istore (pc' := 693) cx rfl (lv' := [(5, .int (i32 v1)), (0, .ref b), (1, .ref (zad Y 0)), (2, .ref (zad Y 400)), (3, .ref (zad Y 500)), (4, .int (i32 i))]) dL_law_691 (by decide) rfl ?_
  refine zr_aload_n (pc' := 694) cx rfl 3 dL_law_693 rfl rfl ?_
  refine zr_aload_n (pc' := 695) cx rfl 1 dL_law_694 rfl rfl ?_
  refine zr_iload (pc' := 697) cx rfl 5 dL_law_695 rfl ?_
  refine zr_iconst (pc' := 698) cx rfl dL_law_697 ?_
  refine zr_iadd (pc' := 699) cx rfl dL_law_698 ?_
  refine zr_sld (pc' := 700) cx rfl hX hbl hbA hL dL_law_699 ?_
  refine zr_aload_n (pc' := 701) cx rfl 1 dL_law_700 rfl rfl ?_
  refine zr_iload (pc' := 703) cx rfl 5 dL_law_701 rfl ?_
  refine zr_iconst (pc' := 704) cx rfl dL_law_703 ?_
  refine zr_iadd (pc' := 705) cx rfl dL_law_704 ?_
  refine zr_sld (pc' := 706) cx rfl hX hbl hbA hL dL_law_705 ?_
  refine zr_aload_n (pc' := 707) cx rfl 1 dL_law_706 rfl rfl ?_
  refine zr_iload (pc' := 709) cx rfl 5 dL_law_707 rfl ?_
  refine zr_iconst (pc' := 710) cx rfl dL_law_709 ?_
  refine zr_iadd (pc' := 711) cx rfl dL_law_710 ?_
  refine zr_sld (pc' := 712) cx rfl hX hbl hbA hL dL_law_711 ?_
  refine zc_L_127 (pc' := 715) cx rfl ⟨Nat.le_of_ble_eq_true rfl, Nat.le_of_ble_eq_true rfl⟩ hkn1 (Nat.le_of_ble_eq_true rfl) dL_law_712 (fun v3 g4 => ?_)
  refine zr_istore (pc' := 717) cx rfl (lv' := [(6, .int (i32 v3)), (5, .int (i32 v1)), (0, .ref b), (1, .ref (zad Y 0)), (2, .ref (zad Y 400)), (3, .ref (zad Y 500)), (4, .int (i32 i))]) dL_law_715 (by decide) rfl ?_
  refine zr_aload_n (pc' := 718) cx rfl 4 dL_law_717 rfl rfl ?_
  refine zc_L_101 (pc' := 721) cx rfl ⟨Nat.le_of_ble_eq_true rfl, Nat.le_of_ble_eq_true rfl⟩ hkn1 (Nat.le_of_ble_eq_true rfl) dL_law_718 (fun v5 => ?_)
  refine zr_iload (pc' := 723) cx rfl 1 dL_law_721 rfl ?_
  refine zr_icmp_eq (pc' := 726) cx rfl (tgt := 728) dL_law_723 rfl ?_ ?_
  · refine zr_iload (pc' := 730) cx rfl 1 dL_law_728 rfl ?_
    refine zr_if_ne (pc' := 733) cx rfl (tgt := 745) dL_law_730 rfl ?_ ?_
    · refine zr_goto cx (tgt := 1753) dL_law_745 rfl ?_
      refine zr_iinc (pc' := 1756) cx rfl (lv' := [(4, .int (i32 (i + 5))), (6, .int (i32 v3)), (5, .int (i32 v1)), (0, .ref b), (1, .ref (zad Y 0)), (2, .ref (zad Y 400)), (3, .ref (zad Y 500))]) 6 dL_law_1753 rfl (by decide) rfl ?_
      refine zr_goto cx (tgt := 23) dL_law_1756 rfl ?_
      refine zr_sub [3, 4, 5, 6, 0] rfl ?_
      exact hk _ _ (by omega) (by omega) g4 (i + 5)
    · refine zr_aload_n (pc' := 734) cx rfl 5 dL_law_733 rfl rfl ?_
      refine zr_iconst (pc' := 735) cx rfl dL_law_734 ?_
      refine zr_lald (pc' := 736) cx rfl zkc_500 dL_law_735 ?_
      refine zr_iload (pc' := 738) cx rfl 0 dL_law_736 rfl ?_
      refine zr_i2l (pc' := 739) cx rfl dL_law_738 ?_
      refine zr_lcmp (pc' := 740) cx rfl dL_law_739 ?_
      refine zr_if_eq (pc' := 743) cx rfl (tgt := 745) dL_law_740 rfl ?_ ?_
      · refine zr_goto cx (tgt := 1753) dL_law_745 rfl ?_
        refine zr_iinc (pc' := 1756) cx rfl (lv' := [(4, .int (i32 (i + 5))), (6, .int (i32 v3)), (5, .int (i32 v1)), (0, .ref b), (1, .ref (zad Y 0)), (2, .ref (zad Y 400)), (3, .ref (zad Y 500))]) 6 dL_law_1753 rfl (by decide) rfl ?_
        refine zr_goto cx (tgt := 23) dL_law_1756 rfl ?_
        refine zr_sub [3, 4, 5, 6, 0] rfl ?_
        exact hk _ _ (by omega) (by omega) g4 (i + 5)
      · refine zr_iconst (pc' := 744) cx rfl dL_law_743 ?_
        exact zr_none
  · refine zr_iconst (pc' := 727) cx rfl dL_law_726 ?_
    exact zr_none
def fL_case8 (xs : Nat → Int32) (L : Nat) (K : zSt → Int → Option Unit) (g : zSt) (i : Int) : Option Unit :=
    zck ((0 : Int) ≤ (i + 1) ∧ (i + 1) < L) (
    zbe (fL_mend g (zsc xs (i + 1))) (fun v1 g2 =>
    zck ((0 : Int) ≤ (i + 1) ∧ (i + 1) < L) (
    zbe (fX8_mend g2 (zsc xs (i + 1))) (fun v3 g4 =>
    zbd (fX8_thrown g4) (fun v5 =>
    (if i32 v5 = i32 v1 then
    (if i32 v1 = i32 0 then
    (if i32 (zlc (g4.2.2 1) ((i32 v3).toInt64)) = i32 0 then
    K g4 (i + 5)
    else
    none)
    else
    K g4 (i + 5))
    else
    none))))))
theorem wL_case8 (cx : zCx Y p s m #[Value.ref b] meth c RL cL_law 9 ret) (hl0 : l.stackTraces = false) (hX : va_X b L xs s s.heap) (hbl : b < s.heap.size) (hbA : ¬ zA Y b) (hL : L ≤ 2560) {k n : Nat} (hkn : k + 1 ≤ room_1.cells ∧ n + 6 ≤ room_1.slots) (K : zSt → Int → Option Unit) (hk : ∀ k' n' : Nat, k' ≤ k + 1 → n' ≤ n + 6 → ∀ (g : zSt) (i : Int), zLo Y p l e s m b below meth c k' n' g [(0, .ref b), (1, .ref (zad Y 0)), (2, .ref (zad Y 400)), (3, .ref (zad Y 500)), (4, .int (i32 i))] [] 23 (K g i)) (g : zSt) (i : Int) : zLo Y p l e s m b below meth c k n g [(0, .ref b), (1, .ref (zad Y 0)), (2, .ref (zad Y 400)), (3, .ref (zad Y 500)), (4, .int (i32 i))] [] 748 (fL_case8 xs L K g i) := by
  unfold fL_case8
  have hkn1 := hkn
  have hkn0 : k ≤ room_1.cells ∧ n ≤ room_1.slots := ⟨Nat.le_of_succ_le hkn.1, Nat.le_trans (Nat.le_add_right n 6) hkn.2⟩
  refine zr_aload_n (pc' := 749) cx rfl 1 dL_law_748 rfl rfl ?_
  refine zr_aload_n (pc' := 750) cx rfl 0 dL_law_749 rfl rfl ?_
  refine zr_iload (pc' := 752) cx rfl 4 dL_law_750 rfl ?_
  refine zr_iconst (pc' := 753) cx rfl dL_law_752 ?_
  refine zr_iadd (pc' := 754) cx rfl dL_law_753 ?_
  refine zr_sld (pc' := 755) cx rfl hX hbl hbA hL dL_law_754 ?_
  refine zr_aload_n (pc' := 756) cx rfl 3 dL_law_755 rfl rfl ?_
  refine zc_L_128 hl0 (pc' := 759) cx rfl ⟨Nat.le_of_ble_eq_true rfl, Nat.le_of_ble_eq_true rfl⟩ hkn (Nat.le_of_ble_eq_true rfl) dL_law_756 (fun v1 g2 => ?_)
  refine zr_istore (pc' := 761) cx rfl (lv' := [(5, .int (i32 v1)), (0, .ref b), (1, .ref (zad Y 0)), (2, .ref (zad Y 400)), (3, .ref (zad Y 500)), (4, .int (i32 i))]) dL_law_759 (by decide) rfl ?_
  refine zr_aload_n (pc' := 762) cx rfl 3 dL_law_761 rfl rfl ?_
  refine zr_aload_n (pc' := 763) cx rfl 1 dL_law_762 rfl rfl ?_
  refine zr_iload (pc' := 765) cx rfl 5 dL_law_763 rfl ?_
  refine zr_iconst (pc' := 766) cx rfl dL_law_765 ?_
  refine zr_iadd (pc' := 767) cx rfl dL_law_766 ?_
  refine zr_sld (pc' := 768) cx rfl hX hbl hbA hL dL_law_767 ?_
  refine zc_L_130 (pc' := 771) cx rfl ⟨Nat.le_of_ble_eq_true rfl, Nat.le_of_ble_eq_true rfl⟩ hkn1 (Nat.le_of_ble_eq_true rfl) dL_law_768 (fun v3 g4 => ?_)
  refine zr_istore (pc' := 773) cx rfl (lv' := [(6, .int (i32 v3)), (5, .int (i32 v1)), (0, .ref b), (1, .ref (zad Y 0)), (2, .ref (zad Y 400)), (3, .ref (zad Y 500)), (4, .int (i32 i))]) dL_law_771 (by decide) rfl ?_
  refine zr_aload_n (pc' := 774) cx rfl 4 dL_law_773 rfl rfl ?_
  refine zc_L_101 (pc' := 777) cx rfl ⟨Nat.le_of_ble_eq_true rfl, Nat.le_of_ble_eq_true rfl⟩ hkn1 (Nat.le_of_ble_eq_true rfl) dL_law_774 (fun v5 => ?_)
  refine zr_iload (pc' := 779) cx rfl 1 dL_law_777 rfl ?_
  refine zr_icmp_eq (pc' := 782) cx rfl (tgt := 784) dL_law_779 rfl ?_ ?_
  · refine zr_iload (pc' := 786) cx rfl 1 dL_law_784 rfl ?_
    refine zr_if_ne (pc' := 789) cx rfl (tgt := 801) dL_law_786 rfl ?_ ?_
    · refine zr_goto cx (tgt := 1753) dL_law_801 rfl ?_
      refine zr_iinc (pc' := 1756) cx rfl (lv' := [(4, .int (i32 (i + 5))), (6, .int (i32 v3)), (5, .int (i32 v1)), (0, .ref b), (1, .ref (zad Y 0)), (2, .ref (zad Y 400)), (3, .ref (zad Y 500))]) 6 dL_law_1753 rfl (by decide) rfl ?_
      refine zr_goto cx (tgt := 23) dL_law_1756 rfl ?_
      refine zr_sub [3, 4, 5, 6, 0] rfl ?_
      exact hk _ _ (by omega) (by omega) g4 (i + 5)
    · refine zr_aload_n (pc' := 790) cx rfl 5 dL_law_789 rfl rfl ?_
      refine zr_iconst (pc' := 791) cx rfl dL_law_790 ?_
      refine zr_lald (pc' := 792) cx rfl zkc_500 dL_law_791 ?_
      refine zr_iload (pc' := 794) cx rfl 0 dL_law_792 rfl ?_
      refine zr_i2l (pc' := 795) cx rfl dL_law_794 ?_
      refine zr_lcmp (pc' := 796) cx rfl dL_law_795 ?_
      refine zr_if_eq (pc' := 799) cx rfl (tgt := 801) dL_law_796 rfl ?_ ?_
      · refine zr_goto cx (tgt := 1753) dL_law_801 rfl ?_
        refine zr_iinc (pc' := 1756) cx rfl (lv' := [(4, .int (i32 (i + 5))), (6, .int (i32 v3)), (5, .int (i32 v1)), (0, .ref b), (1, .ref (zad Y 0)), (2, .ref (zad Y 400)), (3, .ref (zad Y 500))]) 6 dL_law_1753 rfl (by decide) rfl ?_
        refine zr_goto cx (tgt := 23) dL_law_1756 rfl ?_
        refine zr_sub [3, 4, 5, 6, 0] rfl ?_
        exact hk _ _ (by omega) (by omega) g4 (i + 5)
      · refine zr_iconst (pc' := 800) cx rfl dL_law_799 ?_
        exact zr_none
  · refine zr_iconst (pc' := 783) cx rfl dL_law_782 ?_
    exact zr_none
def fL_case9 (xs : Nat → Int32) (L : Nat) (K : zSt → Int → Option Unit) (g : zSt) (i : Int) : Option Unit :=
    zck ((0 : Int) ≤ (i + 1) ∧ (i + 1) < L) (
    zbe (fL_burn g (zsc xs (i + 1))) (fun v1 g2 =>
    zck ((0 : Int) ≤ (i + 1) ∧ (i + 1) < L) (
    zbe (fX8_burn g2 (zsc xs (i + 1))) (fun v3 g4 =>
    zbd (fX8_thrown g4) (fun v5 =>
    (if i32 v5 = i32 v1 then
    (if i32 v1 = i32 0 then
    (if i32 (zlc (g4.2.2 1) ((i32 v3).toInt64)) = i32 0 then
    K g4 (i + 5)
    else
    none)
    else
    K g4 (i + 5))
    else
    none))))))
theorem wL_case9 (cx : zCx Y p s m #[Value.ref b] meth c RL cL_law 9 ret) (hl0 : l.stackTraces = false) (hX : va_X b L xs s s.heap) (hbl : b < s.heap.size) (hbA : ¬ zA Y b) (hL : L ≤ 2560) {k n : Nat} (hkn : k + 1 ≤ room_1.cells ∧ n + 6 ≤ room_1.slots) (K : zSt → Int → Option Unit) (hk : ∀ k' n' : Nat, k' ≤ k + 1 → n' ≤ n + 6 → ∀ (g : zSt) (i : Int), zLo Y p l e s m b below meth c k' n' g [(0, .ref b), (1, .ref (zad Y 0)), (2, .ref (zad Y 400)), (3, .ref (zad Y 500)), (4, .int (i32 i))] [] 23 (K g i)) (g : zSt) (i : Int) : zLo Y p l e s m b below meth c k n g [(0, .ref b), (1, .ref (zad Y 0)), (2, .ref (zad Y 400)), (3, .ref (zad Y 500)), (4, .int (i32 i))] [] 804 (fL_case9 xs L K g i) := by
  unfold fL_case9
  have hkn1 := hkn
  have hkn0 : k ≤ room_1.cells ∧ n ≤ room_1.slots := ⟨Nat.le_of_succ_le hkn.1, Nat.le_trans (Nat.le_add_right n 6) hkn.2⟩
  refine zr_aload_n (pc' := 805) cx rfl 1 dL_law_804 rfl rfl ?_
  refine zr_aload_n (pc' := 806) cx rfl 0 dL_law_805 rfl rfl ?_
  refine zr_iload (pc' := 808) cx rfl 4 dL_law_806 rfl ?_
  refine zr_iconst (pc' := 809) cx rfl dL_law_808 ?_
  refine zr_iadd (pc' := 810) cx rfl dL_law_809 ?_
  refine zr_sld (pc' := 811) cx rfl hX hbl hbA hL dL_law_810 ?_
  refine zr_aload_n (pc' := 812) cx rfl 3 dL_law_811 rfl rfl ?_
  refine zc_L_131 hl0 (pc' := 815) cx rfl ⟨Nat.le_of_ble_eq_true rfl, Nat.le_of_ble_eq_true rfl⟩ hkn (Nat.le_of_ble_eq_true rfl) dL_law_812 (fun v1 g2 => ?_)
  refine zr_istore (pc' := 817) cx rfl (lv' := [(5, .int (i32 v1)), (0, .ref b), (1, .ref (zad Y 0)), (2, .ref (zad Y 400)), (3, .ref (zad Y 500)), (4, .int (i32 i))]) dL_law_815 (by decide) rfl ?_
  refine zr_aload_n (pc' := 818) cx rfl 3 dL_law_817 rfl rfl ?_
  refine zr_aload_n (pc' := 819) cx rfl 1 dL_law_818 rfl rfl ?_
  refine zr_iload (pc' := 821) cx rfl 5 dL_law_819 rfl ?_
  refine zr_iconst (pc' := 822) cx rfl dL_law_821 ?_
  refine zr_iadd (pc' := 823) cx rfl dL_law_822 ?_
  refine zr_sld (pc' := 824) cx rfl hX hbl hbA hL dL_law_823 ?_
  refine zc_L_133 (pc' := 827) cx rfl ⟨Nat.le_of_ble_eq_true rfl, Nat.le_of_ble_eq_true rfl⟩ hkn1 (Nat.le_of_ble_eq_true rfl) dL_law_824 (fun v3 g4 => ?_)
  refine zr_istore (pc' := 829) cx rfl (lv' := [(6, .int (i32 v3)), (5, .int (i32 v1)), (0, .ref b), (1, .ref (zad Y 0)), (2, .ref (zad Y 400)), (3, .ref (zad Y 500)), (4, .int (i32 i))]) dL_law_827 (by decide) rfl ?_
  refine zr_aload_n (pc' := 830) cx rfl 4 dL_law_829 rfl rfl ?_
  refine zc_L_101 (pc' := 833) cx rfl ⟨Nat.le_of_ble_eq_true rfl, Nat.le_of_ble_eq_true rfl⟩ hkn1 (Nat.le_of_ble_eq_true rfl) dL_law_830 (fun v5 => ?_)
  refine zr_iload (pc' := 835) cx rfl 1 dL_law_833 rfl ?_
  refine zr_icmp_eq (pc' := 838) cx rfl (tgt := 840) dL_law_835 rfl ?_ ?_
  · refine zr_iload (pc' := 842) cx rfl 1 dL_law_840 rfl ?_
    refine zr_if_ne (pc' := 845) cx rfl (tgt := 857) dL_law_842 rfl ?_ ?_
    · refine zr_goto cx (tgt := 1753) dL_law_857 rfl ?_
      refine zr_iinc (pc' := 1756) cx rfl (lv' := [(4, .int (i32 (i + 5))), (6, .int (i32 v3)), (5, .int (i32 v1)), (0, .ref b), (1, .ref (zad Y 0)), (2, .ref (zad Y 400)), (3, .ref (zad Y 500))]) 6 dL_law_1753 rfl (by decide) rfl ?_
      refine zr_goto cx (tgt := 23) dL_law_1756 rfl ?_
      refine zr_sub [3, 4, 5, 6, 0] rfl ?_
      exact hk _ _ (by omega) (by omega) g4 (i + 5)
    · refine zr_aload_n (pc' := 846) cx rfl 5 dL_law_845 rfl rfl ?_
      refine zr_iconst (pc' := 847) cx rfl dL_law_846 ?_
      refine zr_lald (pc' := 848) cx rfl zkc_500 dL_law_847 ?_
      refine zr_iload (pc' := 850) cx rfl 0 dL_law_848 rfl ?_
      refine zr_i2l (pc' := 851) cx rfl dL_law_850 ?_
      refine zr_lcmp (pc' := 852) cx rfl dL_law_851 ?_
      refine zr_if_eq (pc' := 855) cx rfl (tgt := 857) dL_law_852 rfl ?_ ?_
      · refine zr_goto cx (tgt := 1753) dL_law_857 rfl ?_
        refine zr_iinc (pc' := 1756) cx rfl (lv' := [(4, .int (i32 (i + 5))), (6, .int (i32 v3)), (5, .int (i32 v1)), (0, .ref b), (1, .ref (zad Y 0)), (2, .ref (zad Y 400)), (3, .ref (zad Y 500))]) 6 dL_law_1753 rfl (by decide) rfl ?_
        refine zr_goto cx (tgt := 23) dL_law_1756 rfl ?_
        refine zr_sub [3, 4, 5, 6, 0] rfl ?_
        exact hk _ _ (by omega) (by omega) g4 (i + 5)
      · refine zr_iconst (pc' := 856) cx rfl dL_law_855 ?_
        exact zr_none
  · refine zr_iconst (pc' := 839) cx rfl dL_law_838 ?_
    exact zr_none
def fL_case10 (xs : Nat → Int32) (L : Nat) (K : zSt → Int → Option Unit) (g : zSt) (i : Int) : Option Unit :=
    zck ((0 : Int) ≤ (i + 1) ∧ (i + 1) < L) (
    zbe (fL_append g (zsc xs (i + 1))) (fun v1 g2 =>
    zck ((0 : Int) ≤ (i + 1) ∧ (i + 1) < L) (
    zbe (fX8_append g2 (zsc xs (i + 1))) (fun v3 g4 =>
    zbd (fX8_thrown g4) (fun v5 =>
    (if i32 v5 = i32 v1 then
    (if i32 v1 = i32 0 then
    (if i32 (zlc (g4.2.2 1) ((i32 v3).toInt64)) = i32 0 then
    K g4 (i + 5)
    else
    none)
    else
    K g4 (i + 5))
    else
    none))))))
theorem wL_case10 (cx : zCx Y p s m #[Value.ref b] meth c RL cL_law 9 ret) (hl0 : l.stackTraces = false) (hX : va_X b L xs s s.heap) (hbl : b < s.heap.size) (hbA : ¬ zA Y b) (hL : L ≤ 2560) {k n : Nat} (hkn : k + 1 ≤ room_1.cells ∧ n + 6 ≤ room_1.slots) (K : zSt → Int → Option Unit) (hk : ∀ k' n' : Nat, k' ≤ k + 1 → n' ≤ n + 6 → ∀ (g : zSt) (i : Int), zLo Y p l e s m b below meth c k' n' g [(0, .ref b), (1, .ref (zad Y 0)), (2, .ref (zad Y 400)), (3, .ref (zad Y 500)), (4, .int (i32 i))] [] 23 (K g i)) (g : zSt) (i : Int) : zLo Y p l e s m b below meth c k n g [(0, .ref b), (1, .ref (zad Y 0)), (2, .ref (zad Y 400)), (3, .ref (zad Y 500)), (4, .int (i32 i))] [] 860 (fL_case10 xs L K g i) := by
  unfold fL_case10
  have hkn1 := hkn
  have hkn0 : k ≤ room_1.cells ∧ n ≤ room_1.slots := ⟨Nat.le_of_succ_le hkn.1, Nat.le_trans (Nat.le_add_right n 6) hkn.2⟩
  refine zr_aload_n (pc' := 861) cx rfl 1 dL_law_860 rfl rfl ?_
  refine zr_aload_n (pc' := 862) cx rfl 0 dL_law_861 rfl rfl ?_
  refine zr_iload (pc' := 864) cx rfl 4 dL_law_862 rfl ?_
  refine zr_iconst (pc' := 865) cx rfl dL_law_864 ?_
  refine zr_iadd (pc' := 866) cx rfl dL_law_865 ?_
  refine zr_sld (pc' := 867) cx rfl hX hbl hbA hL dL_law_866 ?_
  refine zr_aload_n (pc' := 868) cx rfl 3 dL_law_867 rfl rfl ?_
  refine zc_L_134 hl0 (pc' := 871) cx rfl ⟨Nat.le_of_ble_eq_true rfl, Nat.le_of_ble_eq_true rfl⟩ hkn (Nat.le_of_ble_eq_true rfl) dL_law_868 (fun v1 g2 => ?_)
  refine zr_istore (pc' := 873) cx rfl (lv' := [(5, .int (i32 v1)), (0, .ref b), (1, .ref (zad Y 0)), (2, .ref (zad Y 400)), (3, .ref (zad Y 500)), (4, .int (i32 i))]) dL_law_871 (by decide) rfl ?_
  refine zr_aload_n (pc' := 874) cx rfl 3 dL_law_873 rfl rfl ?_
  refine zr_aload_n (pc' := 875) cx rfl 1 dL_law_874 rfl rfl ?_
  refine zr_iload (pc' := 877) cx rfl 5 dL_law_875 rfl ?_
  refine zr_iconst (pc' := 878) cx rfl dL_law_877 ?_
  refine zr_iadd (pc' := 879) cx rfl dL_law_878 ?_
  refine zr_sld (pc' := 880) cx rfl hX hbl hbA hL dL_law_879 ?_
  refine zc_L_136 (pc' := 883) cx rfl ⟨Nat.le_of_ble_eq_true rfl, Nat.le_of_ble_eq_true rfl⟩ hkn1 (Nat.le_of_ble_eq_true rfl) dL_law_880 (fun v3 g4 => ?_)
  refine zr_istore (pc' := 885) cx rfl (lv' := [(6, .int (i32 v3)), (5, .int (i32 v1)), (0, .ref b), (1, .ref (zad Y 0)), (2, .ref (zad Y 400)), (3, .ref (zad Y 500)), (4, .int (i32 i))]) dL_law_883 (by decide) rfl ?_
  refine zr_aload_n (pc' := 886) cx rfl 4 dL_law_885 rfl rfl ?_
  refine zc_L_101 (pc' := 889) cx rfl ⟨Nat.le_of_ble_eq_true rfl, Nat.le_of_ble_eq_true rfl⟩ hkn1 (Nat.le_of_ble_eq_true rfl) dL_law_886 (fun v5 => ?_)
  refine zr_iload (pc' := 891) cx rfl 1 dL_law_889 rfl ?_
  refine zr_icmp_eq (pc' := 894) cx rfl (tgt := 896) dL_law_891 rfl ?_ ?_
  · refine zr_iload (pc' := 898) cx rfl 1 dL_law_896 rfl ?_
    refine zr_if_ne (pc' := 901) cx rfl (tgt := 913) dL_law_898 rfl ?_ ?_
    · refine zr_goto cx (tgt := 1753) dL_law_913 rfl ?_
      refine zr_iinc (pc' := 1756) cx rfl (lv' := [(4, .int (i32 (i + 5))), (6, .int (i32 v3)), (5, .int (i32 v1)), (0, .ref b), (1, .ref (zad Y 0)), (2, .ref (zad Y 400)), (3, .ref (zad Y 500))]) 6 dL_law_1753 rfl (by decide) rfl ?_
      refine zr_goto cx (tgt := 23) dL_law_1756 rfl ?_
      refine zr_sub [3, 4, 5, 6, 0] rfl ?_
      exact hk _ _ (by omega) (by omega) g4 (i + 5)
    · refine zr_aload_n (pc' := 902) cx rfl 5 dL_law_901 rfl rfl ?_
      refine zr_iconst (pc' := 903) cx rfl dL_law_902 ?_
      refine zr_lald (pc' := 904) cx rfl zkc_500 dL_law_903 ?_
      refine zr_iload (pc' := 906) cx rfl 0 dL_law_904 rfl ?_
      refine zr_i2l (pc' := 907) cx rfl dL_law_906 ?_
      refine zr_lcmp (pc' := 908) cx rfl dL_law_907 ?_
      refine zr_if_eq (pc' := 911) cx rfl (tgt := 913) dL_law_908 rfl ?_ ?_
      · refine zr_goto cx (tgt := 1753) dL_law_913 rfl ?_
        refine zr_iinc (pc' := 1756) cx rfl (lv' := [(4, .int (i32 (i + 5))), (6, .int (i32 v3)), (5, .int (i32 v1)), (0, .ref b), (1, .ref (zad Y 0)), (2, .ref (zad Y 400)), (3, .ref (zad Y 500))]) 6 dL_law_1753 rfl (by decide) rfl ?_
        refine zr_goto cx (tgt := 23) dL_law_1756 rfl ?_
        refine zr_sub [3, 4, 5, 6, 0] rfl ?_
        exact hk _ _ (by omega) (by omega) g4 (i + 5)
      · refine zr_iconst (pc' := 912) cx rfl dL_law_911 ?_
        exact zr_none
  · refine zr_iconst (pc' := 895) cx rfl dL_law_894 ?_
    exact zr_none
def fL_case11 (xs : Nat → Int32) (L : Nat) (K : zSt → Int → Option Unit) (g : zSt) (i : Int) : Option Unit :=
    zbe (fX7_clearBuffer g) (fun v1 g2 =>
    zbe (fX8_clearBuffer g2) (fun v3 g4 =>
    (if i32 v1 = i32 v3 then
    K g4 (i + 5)
    else
    none)))
theorem wL_case11 (cx : zCx Y p s m #[Value.ref b] meth c RL cL_law 9 ret) (hl0 : l.stackTraces = false) (hX : va_X b L xs s s.heap) (hbl : b < s.heap.size) (hbA : ¬ zA Y b) (hL : L ≤ 2560) {k n : Nat} (hkn : k + 1 ≤ room_1.cells ∧ n + 6 ≤ room_1.slots) (K : zSt → Int → Option Unit) (hk : ∀ k' n' : Nat, k' ≤ k + 1 → n' ≤ n + 6 → ∀ (g : zSt) (i : Int), zLo Y p l e s m b below meth c k' n' g [(0, .ref b), (1, .ref (zad Y 0)), (2, .ref (zad Y 400)), (3, .ref (zad Y 500)), (4, .int (i32 i))] [] 23 (K g i)) (g : zSt) (i : Int) : zLo Y p l e s m b below meth c k n g [(0, .ref b), (1, .ref (zad Y 0)), (2, .ref (zad Y 400)), (3, .ref (zad Y 500)), (4, .int (i32 i))] [] 916 (fL_case11 xs L K g i) := by
  unfold fL_case11
  have hkn1 := hkn
  have hkn0 : k ≤ room_1.cells ∧ n ≤ room_1.slots := ⟨Nat.le_of_succ_le hkn.1, Nat.le_trans (Nat.le_add_right n 6) hkn.2⟩
  refine zr_aload_n (pc' := 917) cx rfl 1 dL_law_916 rfl rfl ?_
  refine zc_L_137 (pc' := 920) cx rfl ⟨Nat.le_of_ble_eq_true rfl, Nat.le_of_ble_eq_true rfl⟩ hkn0 (Nat.le_of_ble_eq_true rfl) dL_law_917 (fun v1 g2 => ?_)
  refine zr_aload_n (pc' := 921) cx rfl 2 dL_law_920 rfl rfl ?_
  refine zc_L_140 (pc' := 924) cx rfl ⟨Nat.le_of_ble_eq_true rfl, Nat.le_of_ble_eq_true rfl⟩ hkn0 (Nat.le_of_ble_eq_true rfl) dL_law_921 (fun v3 g4 => ?_)
  refine zr_icmp_eq (pc' := 927) cx rfl (tgt := 1753) dL_law_924 rfl ?_ ?_
  · refine zr_iinc (pc' := 1756) cx rfl (lv' := [(4, .int (i32 (i + 5))), (0, .ref b), (1, .ref (zad Y 0)), (2, .ref (zad Y 400)), (3, .ref (zad Y 500))]) 4 dL_law_1753 rfl (by decide) rfl ?_
    refine zr_goto cx (tgt := 23) dL_law_1756 rfl ?_
    refine zr_sub [1, 2, 3, 4, 0] rfl ?_
    exact hk _ _ (by omega) (by omega) g4 (i + 5)
  · refine zr_iconst (pc' := 928) cx rfl dL_law_927 ?_
    exact zr_none
def fL_case12 (xs : Nat → Int32) (L : Nat) (K : zSt → Int → Option Unit) (g : zSt) (i : Int) : Option Unit :=
    zbe (fX7_firstError g) (fun v1 g2 =>
    zbe (fX8_firstError g2) (fun v3 g4 =>
    (if i32 v1 = i32 v3 then
    K g4 (i + 5)
    else
    none)))
theorem wL_case12 (cx : zCx Y p s m #[Value.ref b] meth c RL cL_law 9 ret) (hl0 : l.stackTraces = false) (hX : va_X b L xs s s.heap) (hbl : b < s.heap.size) (hbA : ¬ zA Y b) (hL : L ≤ 2560) {k n : Nat} (hkn : k + 1 ≤ room_1.cells ∧ n + 6 ≤ room_1.slots) (K : zSt → Int → Option Unit) (hk : ∀ k' n' : Nat, k' ≤ k + 1 → n' ≤ n + 6 → ∀ (g : zSt) (i : Int), zLo Y p l e s m b below meth c k' n' g [(0, .ref b), (1, .ref (zad Y 0)), (2, .ref (zad Y 400)), (3, .ref (zad Y 500)), (4, .int (i32 i))] [] 23 (K g i)) (g : zSt) (i : Int) : zLo Y p l e s m b below meth c k n g [(0, .ref b), (1, .ref (zad Y 0)), (2, .ref (zad Y 400)), (3, .ref (zad Y 500)), (4, .int (i32 i))] [] 929 (fL_case12 xs L K g i) := by
  unfold fL_case12
  have hkn1 := hkn
  have hkn0 : k ≤ room_1.cells ∧ n ≤ room_1.slots := ⟨Nat.le_of_succ_le hkn.1, Nat.le_trans (Nat.le_add_right n 6) hkn.2⟩
  refine zr_aload_n (pc' := 930) cx rfl 1 dL_law_929 rfl rfl ?_
  refine zc_L_141 (pc' := 933) cx rfl ⟨Nat.le_of_ble_eq_true rfl, Nat.le_of_ble_eq_true rfl⟩ hkn0 (Nat.le_of_ble_eq_true rfl) dL_law_930 (fun v1 g2 => ?_)
  refine zr_aload_n (pc' := 934) cx rfl 2 dL_law_933 rfl rfl ?_
  refine zc_L_144 (pc' := 937) cx rfl ⟨Nat.le_of_ble_eq_true rfl, Nat.le_of_ble_eq_true rfl⟩ hkn0 (Nat.le_of_ble_eq_true rfl) dL_law_934 (fun v3 g4 => ?_)
  refine zr_icmp_eq (pc' := 940) cx rfl (tgt := 1753) dL_law_937 rfl ?_ ?_
  · refine zr_iinc (pc' := 1756) cx rfl (lv' := [(4, .int (i32 (i + 5))), (0, .ref b), (1, .ref (zad Y 0)), (2, .ref (zad Y 400)), (3, .ref (zad Y 500))]) 4 dL_law_1753 rfl (by decide) rfl ?_
    refine zr_goto cx (tgt := 23) dL_law_1756 rfl ?_
    refine zr_sub [1, 2, 3, 4, 0] rfl ?_
    exact hk _ _ (by omega) (by omega) g4 (i + 5)
  · refine zr_iconst (pc' := 941) cx rfl dL_law_940 ?_
    exact zr_none
def fL_case13 (xs : Nat → Int32) (L : Nat) (K : zSt → Int → Option Unit) (g : zSt) (i : Int) : Option Unit :=
    zbe (fL_load g) (fun v1 g2 =>
    zbe (fX8_load g2) (fun v3 g4 =>
    zbd (fX8_thrown g4) (fun v5 =>
    (if i32 v5 = i32 v1 then
    (if i32 v1 = i32 0 then
    (if i32 (zlc (g4.2.2 1) ((i32 v3).toInt64)) = i32 0 then
    K g4 (i + 5)
    else
    none)
    else
    K g4 (i + 5))
    else
    none))))
theorem wL_case13 (cx : zCx Y p s m #[Value.ref b] meth c RL cL_law 9 ret) (hl0 : l.stackTraces = false) (hX : va_X b L xs s s.heap) (hbl : b < s.heap.size) (hbA : ¬ zA Y b) (hL : L ≤ 2560) {k n : Nat} (hkn : k + 1 ≤ room_1.cells ∧ n + 6 ≤ room_1.slots) (K : zSt → Int → Option Unit) (hk : ∀ k' n' : Nat, k' ≤ k + 1 → n' ≤ n + 6 → ∀ (g : zSt) (i : Int), zLo Y p l e s m b below meth c k' n' g [(0, .ref b), (1, .ref (zad Y 0)), (2, .ref (zad Y 400)), (3, .ref (zad Y 500)), (4, .int (i32 i))] [] 23 (K g i)) (g : zSt) (i : Int) : zLo Y p l e s m b below meth c k n g [(0, .ref b), (1, .ref (zad Y 0)), (2, .ref (zad Y 400)), (3, .ref (zad Y 500)), (4, .int (i32 i))] [] 942 (fL_case13 xs L K g i) := by
  unfold fL_case13
  have hkn1 := hkn
  have hkn0 : k ≤ room_1.cells ∧ n ≤ room_1.slots := ⟨Nat.le_of_succ_le hkn.1, Nat.le_trans (Nat.le_add_right n 6) hkn.2⟩
  refine zr_aload_n (pc' := 943) cx rfl 1 dL_law_942 rfl rfl ?_
  refine zr_aload_n (pc' := 944) cx rfl 3 dL_law_943 rfl rfl ?_
  refine zc_L_145 hl0 (pc' := 947) cx rfl ⟨Nat.le_of_ble_eq_true rfl, Nat.le_of_ble_eq_true rfl⟩ hkn (Nat.le_of_ble_eq_true rfl) dL_law_944 (fun v1 g2 => ?_)
  refine zr_istore (pc' := 949) cx rfl (lv' := [(5, .int (i32 v1)), (0, .ref b), (1, .ref (zad Y 0)), (2, .ref (zad Y 400)), (3, .ref (zad Y 500)), (4, .int (i32 i))]) dL_law_947 (by decide) rfl ?_
  refine zr_aload_n (pc' := 950) cx rfl 3 dL_law_949 rfl rfl ?_
  refine zc_L_148 (pc' := 953) cx rfl ⟨Nat.le_of_ble_eq_true rfl, Nat.le_of_ble_eq_true rfl⟩ hkn1 (Nat.le_of_ble_eq_true rfl) dL_law_950 (fun v3 g4 => ?_)
  refine zr_istore (pc' := 955) cx rfl (lv' := [(6, .int (i32 v3)), (5, .int (i32 v1)), (0, .ref b), (1, .ref (zad Y 0)), (2, .ref (zad Y 400)), (3, .ref (zad Y 500)), (4, .int (i32 i))]) dL_law_953 (by decide) rfl ?_
  refine zr_aload_n (pc' := 956) cx rfl 4 dL_law_955 rfl rfl ?_
  refine zc_L_101 (pc' := 959) cx rfl ⟨Nat.le_of_ble_eq_true rfl, Nat.le_of_ble_eq_true rfl⟩ hkn1 (Nat.le_of_ble_eq_true rfl) dL_law_956 (fun v5 => ?_)
  refine zr_iload (pc' := 961) cx rfl 1 dL_law_959 rfl ?_
  refine zr_icmp_eq (pc' := 964) cx rfl (tgt := 966) dL_law_961 rfl ?_ ?_
  · refine zr_iload (pc' := 968) cx rfl 1 dL_law_966 rfl ?_
    refine zr_if_ne (pc' := 971) cx rfl (tgt := 983) dL_law_968 rfl ?_ ?_
    · refine zr_goto cx (tgt := 1753) dL_law_983 rfl ?_
      refine zr_iinc (pc' := 1756) cx rfl (lv' := [(4, .int (i32 (i + 5))), (6, .int (i32 v3)), (5, .int (i32 v1)), (0, .ref b), (1, .ref (zad Y 0)), (2, .ref (zad Y 400)), (3, .ref (zad Y 500))]) 6 dL_law_1753 rfl (by decide) rfl ?_
      refine zr_goto cx (tgt := 23) dL_law_1756 rfl ?_
      refine zr_sub [3, 4, 5, 6, 0] rfl ?_
      exact hk _ _ (by omega) (by omega) g4 (i + 5)
    · refine zr_aload_n (pc' := 972) cx rfl 5 dL_law_971 rfl rfl ?_
      refine zr_iconst (pc' := 973) cx rfl dL_law_972 ?_
      refine zr_lald (pc' := 974) cx rfl zkc_500 dL_law_973 ?_
      refine zr_iload (pc' := 976) cx rfl 0 dL_law_974 rfl ?_
      refine zr_i2l (pc' := 977) cx rfl dL_law_976 ?_
      refine zr_lcmp (pc' := 978) cx rfl dL_law_977 ?_
      refine zr_if_eq (pc' := 981) cx rfl (tgt := 983) dL_law_978 rfl ?_ ?_
      · refine zr_goto cx (tgt := 1753) dL_law_983 rfl ?_
        refine zr_iinc (pc' := 1756) cx rfl (lv' := [(4, .int (i32 (i + 5))), (6, .int (i32 v3)), (5, .int (i32 v1)), (0, .ref b), (1, .ref (zad Y 0)), (2, .ref (zad Y 400)), (3, .ref (zad Y 500))]) 6 dL_law_1753 rfl (by decide) rfl ?_
        refine zr_goto cx (tgt := 23) dL_law_1756 rfl ?_
        refine zr_sub [3, 4, 5, 6, 0] rfl ?_
        exact hk _ _ (by omega) (by omega) g4 (i + 5)
      · refine zr_iconst (pc' := 982) cx rfl dL_law_981 ?_
        exact zr_none
  · refine zr_iconst (pc' := 965) cx rfl dL_law_964 ?_
    exact zr_none
def fL_case14 (xs : Nat → Int32) (L : Nat) (K : zSt → Int → Option Unit) (g : zSt) (i : Int) : Option Unit :=
    zbe (fL_undo g) (fun v1 g2 =>
    zbe (fX8_undo g2) (fun v3 g4 =>
    zbd (fX8_thrown g4) (fun v5 =>
    (if i32 v5 = i32 v1 then
    (if i32 v1 = i32 0 then
    (if i32 (zlc (g4.2.2 1) ((i32 v3).toInt64)) = i32 0 then
    K g4 (i + 5)
    else
    none)
    else
    K g4 (i + 5))
    else
    none))))
theorem wL_case14 (cx : zCx Y p s m #[Value.ref b] meth c RL cL_law 9 ret) (hl0 : l.stackTraces = false) (hX : va_X b L xs s s.heap) (hbl : b < s.heap.size) (hbA : ¬ zA Y b) (hL : L ≤ 2560) {k n : Nat} (hkn : k + 1 ≤ room_1.cells ∧ n + 6 ≤ room_1.slots) (K : zSt → Int → Option Unit) (hk : ∀ k' n' : Nat, k' ≤ k + 1 → n' ≤ n + 6 → ∀ (g : zSt) (i : Int), zLo Y p l e s m b below meth c k' n' g [(0, .ref b), (1, .ref (zad Y 0)), (2, .ref (zad Y 400)), (3, .ref (zad Y 500)), (4, .int (i32 i))] [] 23 (K g i)) (g : zSt) (i : Int) : zLo Y p l e s m b below meth c k n g [(0, .ref b), (1, .ref (zad Y 0)), (2, .ref (zad Y 400)), (3, .ref (zad Y 500)), (4, .int (i32 i))] [] 986 (fL_case14 xs L K g i) := by
  unfold fL_case14
  have hkn1 := hkn
  have hkn0 : k ≤ room_1.cells ∧ n ≤ room_1.slots := ⟨Nat.le_of_succ_le hkn.1, Nat.le_trans (Nat.le_add_right n 6) hkn.2⟩
  refine zr_aload_n (pc' := 987) cx rfl 1 dL_law_986 rfl rfl ?_
  refine zr_aload_n (pc' := 988) cx rfl 3 dL_law_987 rfl rfl ?_
  refine zc_L_149 hl0 (pc' := 991) cx rfl ⟨Nat.le_of_ble_eq_true rfl, Nat.le_of_ble_eq_true rfl⟩ hkn (Nat.le_of_ble_eq_true rfl) dL_law_988 (fun v1 g2 => ?_)
  refine zr_istore (pc' := 993) cx rfl (lv' := [(5, .int (i32 v1)), (0, .ref b), (1, .ref (zad Y 0)), (2, .ref (zad Y 400)), (3, .ref (zad Y 500)), (4, .int (i32 i))]) dL_law_991 (by decide) rfl ?_
  refine zr_aload_n (pc' := 994) cx rfl 3 dL_law_993 rfl rfl ?_
  refine zc_L_151 (pc' := 997) cx rfl ⟨Nat.le_of_ble_eq_true rfl, Nat.le_of_ble_eq_true rfl⟩ hkn1 (Nat.le_of_ble_eq_true rfl) dL_law_994 (fun v3 g4 => ?_)
  refine zr_istore (pc' := 999) cx rfl (lv' := [(6, .int (i32 v3)), (5, .int (i32 v1)), (0, .ref b), (1, .ref (zad Y 0)), (2, .ref (zad Y 400)), (3, .ref (zad Y 500)), (4, .int (i32 i))]) dL_law_997 (by decide) rfl ?_
  refine zr_aload_n (pc' := 1000) cx rfl 4 dL_law_999 rfl rfl ?_
  refine zc_L_101 (pc' := 1003) cx rfl ⟨Nat.le_of_ble_eq_true rfl, Nat.le_of_ble_eq_true rfl⟩ hkn1 (Nat.le_of_ble_eq_true rfl) dL_law_1000 (fun v5 => ?_)
  refine zr_iload (pc' := 1005) cx rfl 1 dL_law_1003 rfl ?_
  refine zr_icmp_eq (pc' := 1008) cx rfl (tgt := 1010) dL_law_1005 rfl ?_ ?_
  · refine zr_iload (pc' := 1012) cx rfl 1 dL_law_1010 rfl ?_
    refine zr_if_ne (pc' := 1015) cx rfl (tgt := 1027) dL_law_1012 rfl ?_ ?_
    · refine zr_goto cx (tgt := 1753) dL_law_1027 rfl ?_
      refine zr_iinc (pc' := 1756) cx rfl (lv' := [(4, .int (i32 (i + 5))), (6, .int (i32 v3)), (5, .int (i32 v1)), (0, .ref b), (1, .ref (zad Y 0)), (2, .ref (zad Y 400)), (3, .ref (zad Y 500))]) 6 dL_law_1753 rfl (by decide) rfl ?_
      refine zr_goto cx (tgt := 23) dL_law_1756 rfl ?_
      refine zr_sub [3, 4, 5, 6, 0] rfl ?_
      exact hk _ _ (by omega) (by omega) g4 (i + 5)
    · refine zr_aload_n (pc' := 1016) cx rfl 5 dL_law_1015 rfl rfl ?_
      refine zr_iconst (pc' := 1017) cx rfl dL_law_1016 ?_
      refine zr_lald (pc' := 1018) cx rfl zkc_500 dL_law_1017 ?_
      refine zr_iload (pc' := 1020) cx rfl 0 dL_law_1018 rfl ?_
      refine zr_i2l (pc' := 1021) cx rfl dL_law_1020 ?_
      refine zr_lcmp (pc' := 1022) cx rfl dL_law_1021 ?_
      refine zr_if_eq (pc' := 1025) cx rfl (tgt := 1027) dL_law_1022 rfl ?_ ?_
      · refine zr_goto cx (tgt := 1753) dL_law_1027 rfl ?_
        refine zr_iinc (pc' := 1756) cx rfl (lv' := [(4, .int (i32 (i + 5))), (6, .int (i32 v3)), (5, .int (i32 v1)), (0, .ref b), (1, .ref (zad Y 0)), (2, .ref (zad Y 400)), (3, .ref (zad Y 500))]) 6 dL_law_1753 rfl (by decide) rfl ?_
        refine zr_goto cx (tgt := 23) dL_law_1756 rfl ?_
        refine zr_sub [3, 4, 5, 6, 0] rfl ?_
        exact hk _ _ (by omega) (by omega) g4 (i + 5)
      · refine zr_iconst (pc' := 1026) cx rfl dL_law_1025 ?_
        exact zr_none
  · refine zr_iconst (pc' := 1009) cx rfl dL_law_1008 ?_
    exact zr_none
def fL_case15 (xs : Nat → Int32) (L : Nat) (K : zSt → Int → Option Unit) (g : zSt) (i : Int) : Option Unit :=
    zck ((0 : Int) ≤ (i + 1) ∧ (i + 1) < L) (
    zck ((0 : Int) ≤ (i + 2) ∧ (i + 2) < L) (
    zbe (fL_box g (zsc xs (i + 1)) (zsc xs (i + 2))) (fun v1 g2 =>
    zck ((0 : Int) ≤ (i + 1) ∧ (i + 1) < L) (
    zck ((0 : Int) ≤ (i + 2) ∧ (i + 2) < L) (
    zbe (fX8_box g2 (zsc xs (i + 1)) (zsc xs (i + 2))) (fun v3 g4 =>
    zbd (fX8_thrown g4) (fun v5 =>
    (if i32 v5 = i32 v1 then
    (if i32 v1 = i32 0 then
    (if i32 (zlc (g4.2.2 1) ((i32 v3).toInt64)) = i32 0 then
    K g4 (i + 5)
    else
    none)
    else
    K g4 (i + 5))
    else
    none))))))))
theorem wL_case15 (cx : zCx Y p s m #[Value.ref b] meth c RL cL_law 9 ret) (hl0 : l.stackTraces = false) (hX : va_X b L xs s s.heap) (hbl : b < s.heap.size) (hbA : ¬ zA Y b) (hL : L ≤ 2560) {k n : Nat} (hkn : k + 1 ≤ room_1.cells ∧ n + 6 ≤ room_1.slots) (K : zSt → Int → Option Unit) (hk : ∀ k' n' : Nat, k' ≤ k + 1 → n' ≤ n + 6 → ∀ (g : zSt) (i : Int), zLo Y p l e s m b below meth c k' n' g [(0, .ref b), (1, .ref (zad Y 0)), (2, .ref (zad Y 400)), (3, .ref (zad Y 500)), (4, .int (i32 i))] [] 23 (K g i)) (g : zSt) (i : Int) : zLo Y p l e s m b below meth c k n g [(0, .ref b), (1, .ref (zad Y 0)), (2, .ref (zad Y 400)), (3, .ref (zad Y 500)), (4, .int (i32 i))] [] 1030 (fL_case15 xs L K g i) := by
  unfold fL_case15
  have hkn1 := hkn
  have hkn0 : k ≤ room_1.cells ∧ n ≤ room_1.slots := ⟨Nat.le_of_succ_le hkn.1, Nat.le_trans (Nat.le_add_right n 6) hkn.2⟩
  refine zr_aload_n (pc' := 1031) cx rfl 1 dL_law_1030 rfl rfl ?_
  refine zr_aload_n (pc' := 1032) cx rfl 0 dL_law_1031 rfl rfl ?_
  refine zr_iload (pc' := 1034) cx rfl 4 dL_law_1032 rfl ?_
  refine zr_iconst (pc' := 1035) cx rfl dL_law_1034 ?_
  refine zr_iadd (pc' := 1036) cx rfl dL_law_1035 ?_
  refine zr_sld (pc' := 1037) cx rfl hX hbl hbA hL dL_law_1036 ?_
  refine zr_aload_n (pc' := 1038) cx rfl 0 dL_law_1037 rfl rfl ?_
  refine zr_iload (pc' := 1040) cx rfl 4 dL_law_1038 rfl ?_
  refine zr_iconst (pc' := 1041) cx rfl dL_law_1040 ?_
  refine zr_iadd (pc' := 1042) cx rfl dL_law_1041 ?_
  refine zr_sld (pc' := 1043) cx rfl hX hbl hbA hL dL_law_1042 ?_
  refine zr_aload_n (pc' := 1044) cx rfl 3 dL_law_1043 rfl rfl ?_
  refine zc_L_152 hl0 (pc' := 1047) cx rfl ⟨Nat.le_of_ble_eq_true rfl, Nat.le_of_ble_eq_true rfl⟩ hkn (Nat.le_of_ble_eq_true rfl) dL_law_1044 (fun v1 g2 => ?_)
  refine zr_istore (pc' := 1049) cx rfl (lv' := [(5, .int (i32 v1)), (0, .ref b), (1, .ref (zad Y 0)), (2, .ref (zad Y 400)), (3, .ref (zad Y 500)), (4, .int (i32 i))]) dL_law_1047 (by decide) rfl ?_
  refine zr_aload_n (pc' := 1050) cx rfl 3 dL_law_1049 rfl rfl ?_
  refine zr_aload_n (pc' := 1051) cx rfl 1 dL_law_1050 rfl rfl ?_
  refine zr_iload (pc' := 1053) cx rfl 5 dL_law_1051 rfl ?_
  refine zr_iconst (pc' := 1054) cx rfl dL_law_1053 ?_
  refine zr_iadd (pc' := 1055) cx rfl dL_law_1054 ?_
  refine zr_sld (pc' := 1056) cx rfl hX hbl hbA hL dL_law_1055 ?_
  refine zr_aload_n (pc' := 1057) cx rfl 1 dL_law_1056 rfl rfl ?_
  refine zr_iload (pc' := 1059) cx rfl 5 dL_law_1057 rfl ?_
  refine zr_iconst (pc' := 1060) cx rfl dL_law_1059 ?_
  refine zr_iadd (pc' := 1061) cx rfl dL_law_1060 ?_
  refine zr_sld (pc' := 1062) cx rfl hX hbl hbA hL dL_law_1061 ?_
  refine zc_L_155 (pc' := 1065) cx rfl ⟨Nat.le_of_ble_eq_true rfl, Nat.le_of_ble_eq_true rfl⟩ hkn1 (Nat.le_of_ble_eq_true rfl) dL_law_1062 (fun v3 g4 => ?_)
  refine zr_istore (pc' := 1067) cx rfl (lv' := [(6, .int (i32 v3)), (5, .int (i32 v1)), (0, .ref b), (1, .ref (zad Y 0)), (2, .ref (zad Y 400)), (3, .ref (zad Y 500)), (4, .int (i32 i))]) dL_law_1065 (by decide) rfl ?_
  refine zr_aload_n (pc' := 1068) cx rfl 4 dL_law_1067 rfl rfl ?_
  refine zc_L_101 (pc' := 1071) cx rfl ⟨Nat.le_of_ble_eq_true rfl, Nat.le_of_ble_eq_true rfl⟩ hkn1 (Nat.le_of_ble_eq_true rfl) dL_law_1068 (fun v5 => ?_)
  refine zr_iload (pc' := 1073) cx rfl 1 dL_law_1071 rfl ?_
  refine zr_icmp_eq (pc' := 1076) cx rfl (tgt := 1078) dL_law_1073 rfl ?_ ?_
  · refine zr_iload (pc' := 1080) cx rfl 1 dL_law_1078 rfl ?_
    refine zr_if_ne (pc' := 1083) cx rfl (tgt := 1095) dL_law_1080 rfl ?_ ?_
    · refine zr_goto cx (tgt := 1753) dL_law_1095 rfl ?_
      refine zr_iinc (pc' := 1756) cx rfl (lv' := [(4, .int (i32 (i + 5))), (6, .int (i32 v3)), (5, .int (i32 v1)), (0, .ref b), (1, .ref (zad Y 0)), (2, .ref (zad Y 400)), (3, .ref (zad Y 500))]) 6 dL_law_1753 rfl (by decide) rfl ?_
      refine zr_goto cx (tgt := 23) dL_law_1756 rfl ?_
      refine zr_sub [3, 4, 5, 6, 0] rfl ?_
      exact hk _ _ (by omega) (by omega) g4 (i + 5)
    · refine zr_aload_n (pc' := 1084) cx rfl 5 dL_law_1083 rfl rfl ?_
      refine zr_iconst (pc' := 1085) cx rfl dL_law_1084 ?_
      refine zr_lald (pc' := 1086) cx rfl zkc_500 dL_law_1085 ?_
      refine zr_iload (pc' := 1088) cx rfl 0 dL_law_1086 rfl ?_
      refine zr_i2l (pc' := 1089) cx rfl dL_law_1088 ?_
      refine zr_lcmp (pc' := 1090) cx rfl dL_law_1089 ?_
      refine zr_if_eq (pc' := 1093) cx rfl (tgt := 1095) dL_law_1090 rfl ?_ ?_
      · refine zr_goto cx (tgt := 1753) dL_law_1095 rfl ?_
        refine zr_iinc (pc' := 1756) cx rfl (lv' := [(4, .int (i32 (i + 5))), (6, .int (i32 v3)), (5, .int (i32 v1)), (0, .ref b), (1, .ref (zad Y 0)), (2, .ref (zad Y 400)), (3, .ref (zad Y 500))]) 6 dL_law_1753 rfl (by decide) rfl ?_
        refine zr_goto cx (tgt := 23) dL_law_1756 rfl ?_
        refine zr_sub [3, 4, 5, 6, 0] rfl ?_
        exact hk _ _ (by omega) (by omega) g4 (i + 5)
      · refine zr_iconst (pc' := 1094) cx rfl dL_law_1093 ?_
        exact zr_none
  · refine zr_iconst (pc' := 1077) cx rfl dL_law_1076 ?_
    exact zr_none
def fL_case16 (xs : Nat → Int32) (L : Nat) (K : zSt → Int → Option Unit) (g : zSt) (i : Int) : Option Unit :=
    zck ((0 : Int) ≤ (i + 1) ∧ (i + 1) < L) (
    zck ((0 : Int) ≤ (i + 2) ∧ (i + 2) < L) (
    zck ((0 : Int) ≤ (i + 3) ∧ (i + 3) < L) (
    zbe (fL_terminal g (zsc xs (i + 1)) (zsc xs (i + 2)) (zsc xs (i + 3))) (fun v1 g2 =>
    zck ((0 : Int) ≤ (i + 1) ∧ (i + 1) < L) (
    zck ((0 : Int) ≤ (i + 2) ∧ (i + 2) < L) (
    zck ((0 : Int) ≤ (i + 3) ∧ (i + 3) < L) (
    zbe (fX8_terminal g2 (zsc xs (i + 1)) (zsc xs (i + 2)) (zsc xs (i + 3))) (fun v3 g4 =>
    zbd (fX8_thrown g4) (fun v5 =>
    (if i32 v5 = i32 v1 then
    (if i32 v1 = i32 0 then
    (if i32 (zlc (g4.2.2 1) ((i32 v3).toInt64)) = i32 0 then
    K g4 (i + 5)
    else
    none)
    else
    K g4 (i + 5))
    else
    none))))))))))
theorem wL_case16 (cx : zCx Y p s m #[Value.ref b] meth c RL cL_law 9 ret) (hl0 : l.stackTraces = false) (hX : va_X b L xs s s.heap) (hbl : b < s.heap.size) (hbA : ¬ zA Y b) (hL : L ≤ 2560) {k n : Nat} (hkn : k + 1 ≤ room_1.cells ∧ n + 6 ≤ room_1.slots) (K : zSt → Int → Option Unit) (hk : ∀ k' n' : Nat, k' ≤ k + 1 → n' ≤ n + 6 → ∀ (g : zSt) (i : Int), zLo Y p l e s m b below meth c k' n' g [(0, .ref b), (1, .ref (zad Y 0)), (2, .ref (zad Y 400)), (3, .ref (zad Y 500)), (4, .int (i32 i))] [] 23 (K g i)) (g : zSt) (i : Int) : zLo Y p l e s m b below meth c k n g [(0, .ref b), (1, .ref (zad Y 0)), (2, .ref (zad Y 400)), (3, .ref (zad Y 500)), (4, .int (i32 i))] [] 1098 (fL_case16 xs L K g i) := by
  unfold fL_case16
  have hkn1 := hkn
  have hkn0 : k ≤ room_1.cells ∧ n ≤ room_1.slots := ⟨Nat.le_of_succ_le hkn.1, Nat.le_trans (Nat.le_add_right n 6) hkn.2⟩
  refine zr_aload_n (pc' := 1099) cx rfl 1 dL_law_1098 rfl rfl ?_
  refine zr_aload_n (pc' := 1100) cx rfl 0 dL_law_1099 rfl rfl ?_
  refine zr_iload (pc' := 1102) cx rfl 4 dL_law_1100 rfl ?_
  refine zr_iconst (pc' := 1103) cx rfl dL_law_1102 ?_
  refine zr_iadd (pc' := 1104) cx rfl dL_law_1103 ?_
  refine zr_sld (pc' := 1105) cx rfl hX hbl hbA hL dL_law_1104 ?_
  refine zr_aload_n (pc' := 1106) cx rfl 0 dL_law_1105 rfl rfl ?_
  refine zr_iload (pc' := 1108) cx rfl 4 dL_law_1106 rfl ?_
  refine zr_iconst (pc' := 1109) cx rfl dL_law_1108 ?_
  refine zr_iadd (pc' := 1110) cx rfl dL_law_1109 ?_
  refine zr_sld (pc' := 1111) cx rfl hX hbl hbA hL dL_law_1110 ?_
  refine zr_aload_n (pc' := 1112) cx rfl 0 dL_law_1111 rfl rfl ?_
  refine zr_iload (pc' := 1114) cx rfl 4 dL_law_1112 rfl ?_
  refine zr_iconst (pc' := 1115) cx rfl dL_law_1114 ?_
  refine zr_iadd (pc' := 1116) cx rfl dL_law_1115 ?_
  refine zr_sld (pc' := 1117) cx rfl hX hbl hbA hL dL_law_1116 ?_
  refine zr_aload_n (pc' := 1118) cx rfl 3 dL_law_1117 rfl rfl ?_
  refine zc_L_156 hl0 (pc' := 1121) cx rfl ⟨Nat.le_of_ble_eq_true rfl, Nat.le_of_ble_eq_true rfl⟩ hkn (Nat.le_of_ble_eq_true rfl) dL_law_1118 (fun v1 g2 => ?_)
  refine zr_istore (pc' := 1123) cx rfl (lv' := [(5, .int (i32 v1)), (0, .ref b), (1, .ref (zad Y 0)), (2, .ref (zad Y 400)), (3, .ref (zad Y 500)), (4, .int (i32 i))]) dL_law_1121 (by decide) rfl ?_
  refine zr_aload_n (pc' := 1124) cx rfl 3 dL_law_1123 rfl rfl ?_
  refine zr_aload_n (pc' := 1125) cx rfl 1 dL_law_1124 rfl rfl ?_
  refine zr_iload (pc' := 1127) cx rfl 5 dL_law_1125 rfl ?_
  refine zr_iconst (pc' := 1128) cx rfl dL_law_1127 ?_
  refine zr_iadd (pc' := 1129) cx rfl dL_law_1128 ?_
  refine zr_sld (pc' := 1130) cx rfl hX hbl hbA hL dL_law_1129 ?_
  refine zr_aload_n (pc' := 1131) cx rfl 1 dL_law_1130 rfl rfl ?_
  refine zr_iload (pc' := 1133) cx rfl 5 dL_law_1131 rfl ?_
  refine zr_iconst (pc' := 1134) cx rfl dL_law_1133 ?_
  refine zr_iadd (pc' := 1135) cx rfl dL_law_1134 ?_
  refine zr_sld (pc' := 1136) cx rfl hX hbl hbA hL dL_law_1135 ?_
  refine zr_aload_n (pc' := 1137) cx rfl 1 dL_law_1136 rfl rfl ?_
  refine zr_iload (pc' := 1139) cx rfl 5 dL_law_1137 rfl ?_
  refine zr_iconst (pc' := 1140) cx rfl dL_law_1139 ?_
  refine zr_iadd (pc' := 1141) cx rfl dL_law_1140 ?_
  refine zr_sld (pc' := 1142) cx rfl hX hbl hbA hL dL_law_1141 ?_
  refine zc_L_158 (pc' := 1145) cx rfl ⟨Nat.le_of_ble_eq_true rfl, Nat.le_of_ble_eq_true rfl⟩ hkn1 (Nat.le_of_ble_eq_true rfl) dL_law_1142 (fun v3 g4 => ?_)
  refine zr_istore (pc' := 1147) cx rfl (lv' := [(6, .int (i32 v3)), (5, .int (i32 v1)), (0, .ref b), (1, .ref (zad Y 0)), (2, .ref (zad Y 400)), (3, .ref (zad Y 500)), (4, .int (i32 i))]) dL_law_1145 (by decide) rfl ?_
  refine zr_aload_n (pc' := 1148) cx rfl 4 dL_law_1147 rfl rfl ?_
  refine zc_L_101 (pc' := 1151) cx rfl ⟨Nat.le_of_ble_eq_true rfl, Nat.le_of_ble_eq_true rfl⟩ hkn1 (Nat.le_of_ble_eq_true rfl) dL_law_1148 (fun v5 => ?_)
  refine zr_iload (pc' := 1153) cx rfl 1 dL_law_1151 rfl ?_
  refine zr_icmp_eq (pc' := 1156) cx rfl (tgt := 1158) dL_law_1153 rfl ?_ ?_
  · refine zr_iload (pc' := 1160) cx rfl 1 dL_law_1158 rfl ?_
    refine zr_if_ne (pc' := 1163) cx rfl (tgt := 1175) dL_law_1160 rfl ?_ ?_
    · refine zr_goto cx (tgt := 1753) dL_law_1175 rfl ?_
      refine zr_iinc (pc' := 1756) cx rfl (lv' := [(4, .int (i32 (i + 5))), (6, .int (i32 v3)), (5, .int (i32 v1)), (0, .ref b), (1, .ref (zad Y 0)), (2, .ref (zad Y 400)), (3, .ref (zad Y 500))]) 6 dL_law_1753 rfl (by decide) rfl ?_
      refine zr_goto cx (tgt := 23) dL_law_1756 rfl ?_
      refine zr_sub [3, 4, 5, 6, 0] rfl ?_
      exact hk _ _ (by omega) (by omega) g4 (i + 5)
    · refine zr_aload_n (pc' := 1164) cx rfl 5 dL_law_1163 rfl rfl ?_
      refine zr_iconst (pc' := 1165) cx rfl dL_law_1164 ?_
      refine zr_lald (pc' := 1166) cx rfl zkc_500 dL_law_1165 ?_
      refine zr_iload (pc' := 1168) cx rfl 0 dL_law_1166 rfl ?_
      refine zr_i2l (pc' := 1169) cx rfl dL_law_1168 ?_
      refine zr_lcmp (pc' := 1170) cx rfl dL_law_1169 ?_
      refine zr_if_eq (pc' := 1173) cx rfl (tgt := 1175) dL_law_1170 rfl ?_ ?_
      · refine zr_goto cx (tgt := 1753) dL_law_1175 rfl ?_
        refine zr_iinc (pc' := 1756) cx rfl (lv' := [(4, .int (i32 (i + 5))), (6, .int (i32 v3)), (5, .int (i32 v1)), (0, .ref b), (1, .ref (zad Y 0)), (2, .ref (zad Y 400)), (3, .ref (zad Y 500))]) 6 dL_law_1753 rfl (by decide) rfl ?_
        refine zr_goto cx (tgt := 23) dL_law_1756 rfl ?_
        refine zr_sub [3, 4, 5, 6, 0] rfl ?_
        exact hk _ _ (by omega) (by omega) g4 (i + 5)
      · refine zr_iconst (pc' := 1174) cx rfl dL_law_1173 ?_
        exact zr_none
  · refine zr_iconst (pc' := 1157) cx rfl dL_law_1156 ?_
    exact zr_none
def fL_case17 (xs : Nat → Int32) (L : Nat) (K : zSt → Int → Option Unit) (g : zSt) (i : Int) : Option Unit :=
    zck ((0 : Int) ≤ (i + 1) ∧ (i + 1) < L) (
    zck ((0 : Int) ≤ (i + 2) ∧ (i + 2) < L) (
    zbe (fL_lantern g (zsc xs (i + 1)) (zsc xs (i + 2))) (fun v1 g2 =>
    zck ((0 : Int) ≤ (i + 1) ∧ (i + 1) < L) (
    zck ((0 : Int) ≤ (i + 2) ∧ (i + 2) < L) (
    zbe (fX8_lantern g2 (zsc xs (i + 1)) (zsc xs (i + 2))) (fun v3 g4 =>
    zbd (fX8_thrown g4) (fun v5 =>
    (if i32 v5 = i32 v1 then
    (if i32 v1 = i32 0 then
    (if i32 (zlc (g4.2.2 1) ((i32 v3).toInt64)) = i32 0 then
    K g4 (i + 5)
    else
    none)
    else
    K g4 (i + 5))
    else
    none))))))))
theorem wL_case17 (cx : zCx Y p s m #[Value.ref b] meth c RL cL_law 9 ret) (hl0 : l.stackTraces = false) (hX : va_X b L xs s s.heap) (hbl : b < s.heap.size) (hbA : ¬ zA Y b) (hL : L ≤ 2560) {k n : Nat} (hkn : k + 1 ≤ room_1.cells ∧ n + 6 ≤ room_1.slots) (K : zSt → Int → Option Unit) (hk : ∀ k' n' : Nat, k' ≤ k + 1 → n' ≤ n + 6 → ∀ (g : zSt) (i : Int), zLo Y p l e s m b below meth c k' n' g [(0, .ref b), (1, .ref (zad Y 0)), (2, .ref (zad Y 400)), (3, .ref (zad Y 500)), (4, .int (i32 i))] [] 23 (K g i)) (g : zSt) (i : Int) : zLo Y p l e s m b below meth c k n g [(0, .ref b), (1, .ref (zad Y 0)), (2, .ref (zad Y 400)), (3, .ref (zad Y 500)), (4, .int (i32 i))] [] 1178 (fL_case17 xs L K g i) := by
  unfold fL_case17
  have hkn1 := hkn
  have hkn0 : k ≤ room_1.cells ∧ n ≤ room_1.slots := ⟨Nat.le_of_succ_le hkn.1, Nat.le_trans (Nat.le_add_right n 6) hkn.2⟩
  refine zr_aload_n (pc' := 1179) cx rfl 1 dL_law_1178 rfl rfl ?_
  refine zr_aload_n (pc' := 1180) cx rfl 0 dL_law_1179 rfl rfl ?_
  refine zr_iload (pc' := 1182) cx rfl 4 dL_law_1180 rfl ?_
  refine zr_iconst (pc' := 1183) cx rfl dL_law_1182 ?_
  refine zr_iadd (pc' := 1184) cx rfl dL_law_1183 ?_
  refine zr_sld (pc' := 1185) cx rfl hX hbl hbA hL dL_law_1184 ?_
  refine zr_aload_n (pc' := 1186) cx rfl 0 dL_law_1185 rfl rfl ?_
  refine zr_iload (pc' := 1188) cx rfl 4 dL_law_1186 rfl ?_
  refine zr_iconst (pc' := 1189) cx rfl dL_law_1188 ?_
  refine zr_iadd (pc' := 1190) cx rfl dL_law_1189 ?_
  refine zr_sld (pc' := 1191) cx rfl hX hbl hbA hL dL_law_1190 ?_
  refine zr_aload_n (pc' := 1192) cx rfl 3 dL_law_1191 rfl rfl ?_
  refine zc_L_159 hl0 (pc' := 1195) cx rfl ⟨Nat.le_of_ble_eq_true rfl, Nat.le_of_ble_eq_true rfl⟩ hkn (Nat.le_of_ble_eq_true rfl) dL_law_1192 (fun v1 g2 => ?_)
  refine zr_istore (pc' := 1197) cx rfl (lv' := [(5, .int (i32 v1)), (0, .ref b), (1, .ref (zad Y 0)), (2, .ref (zad Y 400)), (3, .ref (zad Y 500)), (4, .int (i32 i))]) dL_law_1195 (by decide) rfl ?_
  refine zr_aload_n (pc' := 1198) cx rfl 3 dL_law_1197 rfl rfl ?_
  refine zr_aload_n (pc' := 1199) cx rfl 1 dL_law_1198 rfl rfl ?_
  refine zr_iload (pc' := 1201) cx rfl 5 dL_law_1199 rfl ?_
  refine zr_iconst (pc' := 1202) cx rfl dL_law_1201 ?_
  refine zr_iadd (pc' := 1203) cx rfl dL_law_1202 ?_
  refine zr_sld (pc' := 1204) cx rfl hX hbl hbA hL dL_law_1203 ?_
  refine zr_aload_n (pc' := 1205) cx rfl 1 dL_law_1204 rfl rfl ?_
  refine zr_iload (pc' := 1207) cx rfl 5 dL_law_1205 rfl ?_
  refine zr_iconst (pc' := 1208) cx rfl dL_law_1207 ?_
  refine zr_iadd (pc' := 1209) cx rfl dL_law_1208 ?_
  refine zr_sld (pc' := 1210) cx rfl hX hbl hbA hL dL_law_1209 ?_
  refine zc_L_161 (pc' := 1213) cx rfl ⟨Nat.le_of_ble_eq_true rfl, Nat.le_of_ble_eq_true rfl⟩ hkn1 (Nat.le_of_ble_eq_true rfl) dL_law_1210 (fun v3 g4 => ?_)
  refine zr_istore (pc' := 1215) cx rfl (lv' := [(6, .int (i32 v3)), (5, .int (i32 v1)), (0, .ref b), (1, .ref (zad Y 0)), (2, .ref (zad Y 400)), (3, .ref (zad Y 500)), (4, .int (i32 i))]) dL_law_1213 (by decide) rfl ?_
  refine zr_aload_n (pc' := 1216) cx rfl 4 dL_law_1215 rfl rfl ?_
  refine zc_L_101 (pc' := 1219) cx rfl ⟨Nat.le_of_ble_eq_true rfl, Nat.le_of_ble_eq_true rfl⟩ hkn1 (Nat.le_of_ble_eq_true rfl) dL_law_1216 (fun v5 => ?_)
  refine zr_iload (pc' := 1221) cx rfl 1 dL_law_1219 rfl ?_
  refine zr_icmp_eq (pc' := 1224) cx rfl (tgt := 1226) dL_law_1221 rfl ?_ ?_
  · refine zr_iload (pc' := 1228) cx rfl 1 dL_law_1226 rfl ?_
    refine zr_if_ne (pc' := 1231) cx rfl (tgt := 1243) dL_law_1228 rfl ?_ ?_
    · refine zr_goto cx (tgt := 1753) dL_law_1243 rfl ?_
      refine zr_iinc (pc' := 1756) cx rfl (lv' := [(4, .int (i32 (i + 5))), (6, .int (i32 v3)), (5, .int (i32 v1)), (0, .ref b), (1, .ref (zad Y 0)), (2, .ref (zad Y 400)), (3, .ref (zad Y 500))]) 6 dL_law_1753 rfl (by decide) rfl ?_
      refine zr_goto cx (tgt := 23) dL_law_1756 rfl ?_
      refine zr_sub [3, 4, 5, 6, 0] rfl ?_
      exact hk _ _ (by omega) (by omega) g4 (i + 5)
    · refine zr_aload_n (pc' := 1232) cx rfl 5 dL_law_1231 rfl rfl ?_
      refine zr_iconst (pc' := 1233) cx rfl dL_law_1232 ?_
      refine zr_lald (pc' := 1234) cx rfl zkc_500 dL_law_1233 ?_
      refine zr_iload (pc' := 1236) cx rfl 0 dL_law_1234 rfl ?_
      refine zr_i2l (pc' := 1237) cx rfl dL_law_1236 ?_
      refine zr_lcmp (pc' := 1238) cx rfl dL_law_1237 ?_
      refine zr_if_eq (pc' := 1241) cx rfl (tgt := 1243) dL_law_1238 rfl ?_ ?_
      · refine zr_goto cx (tgt := 1753) dL_law_1243 rfl ?_
        refine zr_iinc (pc' := 1756) cx rfl (lv' := [(4, .int (i32 (i + 5))), (6, .int (i32 v3)), (5, .int (i32 v1)), (0, .ref b), (1, .ref (zad Y 0)), (2, .ref (zad Y 400)), (3, .ref (zad Y 500))]) 6 dL_law_1753 rfl (by decide) rfl ?_
        refine zr_goto cx (tgt := 23) dL_law_1756 rfl ?_
        refine zr_sub [3, 4, 5, 6, 0] rfl ?_
        exact hk _ _ (by omega) (by omega) g4 (i + 5)
      · refine zr_iconst (pc' := 1242) cx rfl dL_law_1241 ?_
        exact zr_none
  · refine zr_iconst (pc' := 1225) cx rfl dL_law_1224 ?_
    exact zr_none
def fL_case18 (xs : Nat → Int32) (L : Nat) (K : zSt → Int → Option Unit) (g : zSt) (i : Int) : Option Unit :=
    zck ((0 : Int) ≤ (i + 1) ∧ (i + 1) < L) (
    zck ((0 : Int) ≤ (i + 2) ∧ (i + 2) < L) (
    zbe (fL_faultAt g (zsc xs (i + 1)) (zsc xs (i + 2))) (fun v1 g2 =>
    zck ((0 : Int) ≤ (i + 1) ∧ (i + 1) < L) (
    zck ((0 : Int) ≤ (i + 2) ∧ (i + 2) < L) (
    zbe (fX8_faultAt g2 (zsc xs (i + 1)) (zsc xs (i + 2))) (fun v3 g4 =>
    zbd (fX8_thrown g4) (fun v5 =>
    (if i32 v5 = i32 v1 then
    (if i32 v1 = i32 0 then
    (if i32 (zlc (g4.2.2 1) ((i32 v3).toInt64)) = i32 0 then
    K g4 (i + 5)
    else
    none)
    else
    K g4 (i + 5))
    else
    none))))))))
theorem wL_case18 (cx : zCx Y p s m #[Value.ref b] meth c RL cL_law 9 ret) (hl0 : l.stackTraces = false) (hX : va_X b L xs s s.heap) (hbl : b < s.heap.size) (hbA : ¬ zA Y b) (hL : L ≤ 2560) {k n : Nat} (hkn : k + 1 ≤ room_1.cells ∧ n + 6 ≤ room_1.slots) (K : zSt → Int → Option Unit) (hk : ∀ k' n' : Nat, k' ≤ k + 1 → n' ≤ n + 6 → ∀ (g : zSt) (i : Int), zLo Y p l e s m b below meth c k' n' g [(0, .ref b), (1, .ref (zad Y 0)), (2, .ref (zad Y 400)), (3, .ref (zad Y 500)), (4, .int (i32 i))] [] 23 (K g i)) (g : zSt) (i : Int) : zLo Y p l e s m b below meth c k n g [(0, .ref b), (1, .ref (zad Y 0)), (2, .ref (zad Y 400)), (3, .ref (zad Y 500)), (4, .int (i32 i))] [] 1246 (fL_case18 xs L K g i) := by
  unfold fL_case18
  have hkn1 := hkn
  have hkn0 : k ≤ room_1.cells ∧ n ≤ room_1.slots := ⟨Nat.le_of_succ_le hkn.1, Nat.le_trans (Nat.le_add_right n 6) hkn.2⟩
  refine zr_aload_n (pc' := 1247) cx rfl 1 dL_law_1246 rfl rfl ?_
  refine zr_aload_n (pc' := 1248) cx rfl 0 dL_law_1247 rfl rfl ?_
  refine zr_iload (pc' := 1250) cx rfl 4 dL_law_1248 rfl ?_
  refine zr_iconst (pc' := 1251) cx rfl dL_law_1250 ?_
  refine zr_iadd (pc' := 1252) cx rfl dL_law_1251 ?_
  refine zr_sld (pc' := 1253) cx rfl hX hbl hbA hL dL_law_1252 ?_
  refine zr_aload_n (pc' := 1254) cx rfl 0 dL_law_1253 rfl rfl ?_
  refine zr_iload (pc' := 1256) cx rfl 4 dL_law_1254 rfl ?_
  refine zr_iconst (pc' := 1257) cx rfl dL_law_1256 ?_
  refine zr_iadd (pc' := 1258) cx rfl dL_law_1257 ?_
  refine zr_sld (pc' := 1259) cx rfl hX hbl hbA hL dL_law_1258 ?_
  refine zr_aload_n (pc' := 1260) cx rfl 3 dL_law_1259 rfl rfl ?_
  refine zc_L_162 hl0 (pc' := 1263) cx rfl ⟨Nat.le_of_ble_eq_true rfl, Nat.le_of_ble_eq_true rfl⟩ hkn (Nat.le_of_ble_eq_true rfl) dL_law_1260 (fun v1 g2 => ?_)
  refine zr_istore (pc' := 1265) cx rfl (lv' := [(5, .int (i32 v1)), (0, .ref b), (1, .ref (zad Y 0)), (2, .ref (zad Y 400)), (3, .ref (zad Y 500)), (4, .int (i32 i))]) dL_law_1263 (by decide) rfl ?_
  refine zr_aload_n (pc' := 1266) cx rfl 3 dL_law_1265 rfl rfl ?_
  refine zr_aload_n (pc' := 1267) cx rfl 1 dL_law_1266 rfl rfl ?_
  refine zr_iload (pc' := 1269) cx rfl 5 dL_law_1267 rfl ?_
  refine zr_iconst (pc' := 1270) cx rfl dL_law_1269 ?_
  refine zr_iadd (pc' := 1271) cx rfl dL_law_1270 ?_
  refine zr_sld (pc' := 1272) cx rfl hX hbl hbA hL dL_law_1271 ?_
  refine zr_aload_n (pc' := 1273) cx rfl 1 dL_law_1272 rfl rfl ?_
  refine zr_iload (pc' := 1275) cx rfl 5 dL_law_1273 rfl ?_
  refine zr_iconst (pc' := 1276) cx rfl dL_law_1275 ?_
  refine zr_iadd (pc' := 1277) cx rfl dL_law_1276 ?_
  refine zr_sld (pc' := 1278) cx rfl hX hbl hbA hL dL_law_1277 ?_
  refine zc_L_164 (pc' := 1281) cx rfl ⟨Nat.le_of_ble_eq_true rfl, Nat.le_of_ble_eq_true rfl⟩ hkn1 (Nat.le_of_ble_eq_true rfl) dL_law_1278 (fun v3 g4 => ?_)
  refine zr_istore (pc' := 1283) cx rfl (lv' := [(6, .int (i32 v3)), (5, .int (i32 v1)), (0, .ref b), (1, .ref (zad Y 0)), (2, .ref (zad Y 400)), (3, .ref (zad Y 500)), (4, .int (i32 i))]) dL_law_1281 (by decide) rfl ?_
  refine zr_aload_n (pc' := 1284) cx rfl 4 dL_law_1283 rfl rfl ?_
  refine zc_L_101 (pc' := 1287) cx rfl ⟨Nat.le_of_ble_eq_true rfl, Nat.le_of_ble_eq_true rfl⟩ hkn1 (Nat.le_of_ble_eq_true rfl) dL_law_1284 (fun v5 => ?_)
  refine zr_iload (pc' := 1289) cx rfl 1 dL_law_1287 rfl ?_
  refine zr_icmp_eq (pc' := 1292) cx rfl (tgt := 1294) dL_law_1289 rfl ?_ ?_
  · refine zr_iload (pc' := 1296) cx rfl 1 dL_law_1294 rfl ?_
    refine zr_if_ne (pc' := 1299) cx rfl (tgt := 1311) dL_law_1296 rfl ?_ ?_
    · refine zr_goto cx (tgt := 1753) dL_law_1311 rfl ?_
      refine zr_iinc (pc' := 1756) cx rfl (lv' := [(4, .int (i32 (i + 5))), (6, .int (i32 v3)), (5, .int (i32 v1)), (0, .ref b), (1, .ref (zad Y 0)), (2, .ref (zad Y 400)), (3, .ref (zad Y 500))]) 6 dL_law_1753 rfl (by decide) rfl ?_
      refine zr_goto cx (tgt := 23) dL_law_1756 rfl ?_
      refine zr_sub [3, 4, 5, 6, 0] rfl ?_
      exact hk _ _ (by omega) (by omega) g4 (i + 5)
    · refine zr_aload_n (pc' := 1300) cx rfl 5 dL_law_1299 rfl rfl ?_
      refine zr_iconst (pc' := 1301) cx rfl dL_law_1300 ?_
      refine zr_lald (pc' := 1302) cx rfl zkc_500 dL_law_1301 ?_
      refine zr_iload (pc' := 1304) cx rfl 0 dL_law_1302 rfl ?_
      refine zr_i2l (pc' := 1305) cx rfl dL_law_1304 ?_
      refine zr_lcmp (pc' := 1306) cx rfl dL_law_1305 ?_
      refine zr_if_eq (pc' := 1309) cx rfl (tgt := 1311) dL_law_1306 rfl ?_ ?_
      · refine zr_goto cx (tgt := 1753) dL_law_1311 rfl ?_
        refine zr_iinc (pc' := 1756) cx rfl (lv' := [(4, .int (i32 (i + 5))), (6, .int (i32 v3)), (5, .int (i32 v1)), (0, .ref b), (1, .ref (zad Y 0)), (2, .ref (zad Y 400)), (3, .ref (zad Y 500))]) 6 dL_law_1753 rfl (by decide) rfl ?_
        refine zr_goto cx (tgt := 23) dL_law_1756 rfl ?_
        refine zr_sub [3, 4, 5, 6, 0] rfl ?_
        exact hk _ _ (by omega) (by omega) g4 (i + 5)
      · refine zr_iconst (pc' := 1310) cx rfl dL_law_1309 ?_
        exact zr_none
  · refine zr_iconst (pc' := 1293) cx rfl dL_law_1292 ?_
    exact zr_none
def fL_case19 (xs : Nat → Int32) (L : Nat) (K : zSt → Int → Option Unit) (g : zSt) (i : Int) : Option Unit :=
    zck ((0 : Int) ≤ (i + 1) ∧ (i + 1) < L) (
    zbe (fL_count g (zsc xs (i + 1))) (fun v1 g2 =>
    zck ((0 : Int) ≤ (i + 1) ∧ (i + 1) < L) (
    zbe (fX8_count g2 (zsc xs (i + 1))) (fun v3 g4 =>
    zbd (fX8_thrown g4) (fun v5 =>
    (if i32 v5 = i32 v1 then
    (if i32 v1 = i32 0 then
    (if i32 (zlc (g4.2.2 1) ((i32 v3).toInt64)) = i32 0 then
    K g4 (i + 5)
    else
    none)
    else
    K g4 (i + 5))
    else
    none))))))
theorem wL_case19 (cx : zCx Y p s m #[Value.ref b] meth c RL cL_law 9 ret) (hl0 : l.stackTraces = false) (hX : va_X b L xs s s.heap) (hbl : b < s.heap.size) (hbA : ¬ zA Y b) (hL : L ≤ 2560) {k n : Nat} (hkn : k + 1 ≤ room_1.cells ∧ n + 6 ≤ room_1.slots) (K : zSt → Int → Option Unit) (hk : ∀ k' n' : Nat, k' ≤ k + 1 → n' ≤ n + 6 → ∀ (g : zSt) (i : Int), zLo Y p l e s m b below meth c k' n' g [(0, .ref b), (1, .ref (zad Y 0)), (2, .ref (zad Y 400)), (3, .ref (zad Y 500)), (4, .int (i32 i))] [] 23 (K g i)) (g : zSt) (i : Int) : zLo Y p l e s m b below meth c k n g [(0, .ref b), (1, .ref (zad Y 0)), (2, .ref (zad Y 400)), (3, .ref (zad Y 500)), (4, .int (i32 i))] [] 1314 (fL_case19 xs L K g i) := by
  unfold fL_case19
  have hkn1 := hkn
  have hkn0 : k ≤ room_1.cells ∧ n ≤ room_1.slots := ⟨Nat.le_of_succ_le hkn.1, Nat.le_trans (Nat.le_add_right n 6) hkn.2⟩
  refine zr_aload_n (pc' := 1315) cx rfl 1 dL_law_1314 rfl rfl ?_
  refine zr_aload_n (pc' := 1316) cx rfl 0 dL_law_1315 rfl rfl ?_
  refine zr_iload (pc' := 1318) cx rfl 4 dL_law_1316 rfl ?_
  refine zr_iconst (pc' := 1319) cx rfl dL_law_1318 ?_
  refine zr_iadd (pc' := 1320) cx rfl dL_law_1319 ?_
  refine zr_sld (pc' := 1321) cx rfl hX hbl hbA hL dL_law_1320 ?_
  refine zr_aload_n (pc' := 1322) cx rfl 3 dL_law_1321 rfl rfl ?_
  refine zc_L_165 hl0 (pc' := 1325) cx rfl ⟨Nat.le_of_ble_eq_true rfl, Nat.le_of_ble_eq_true rfl⟩ hkn (Nat.le_of_ble_eq_true rfl) dL_law_1322 (fun v1 g2 => ?_)
  refine zr_istore (pc' := 1327) cx rfl (lv' := [(5, .int (i32 v1)), (0, .ref b), (1, .ref (zad Y 0)), (2, .ref (zad Y 400)), (3, .ref (zad Y 500)), (4, .int (i32 i))]) dL_law_1325 (by decide) rfl ?_
  refine zr_aload_n (pc' := 1328) cx rfl 3 dL_law_1327 rfl rfl ?_
  refine zr_aload_n (pc' := 1329) cx rfl 1 dL_law_1328 rfl rfl ?_
  refine zr_iload (pc' := 1331) cx rfl 5 dL_law_1329 rfl ?_
  refine zr_iconst (pc' := 1332) cx rfl dL_law_1331 ?_
  refine zr_iadd (pc' := 1333) cx rfl dL_law_1332 ?_
  refine zr_sld (pc' := 1334) cx rfl hX hbl hbA hL dL_law_1333 ?_
  refine zc_L_167 (pc' := 1337) cx rfl ⟨Nat.le_of_ble_eq_true rfl, Nat.le_of_ble_eq_true rfl⟩ hkn1 (Nat.le_of_ble_eq_true rfl) dL_law_1334 (fun v3 g4 => ?_)
  refine zr_istore (pc' := 1339) cx rfl (lv' := [(6, .int (i32 v3)), (5, .int (i32 v1)), (0, .ref b), (1, .ref (zad Y 0)), (2, .ref (zad Y 400)), (3, .ref (zad Y 500)), (4, .int (i32 i))]) dL_law_1337 (by decide) rfl ?_
  refine zr_aload_n (pc' := 1340) cx rfl 4 dL_law_1339 rfl rfl ?_
  refine zc_L_101 (pc' := 1343) cx rfl ⟨Nat.le_of_ble_eq_true rfl, Nat.le_of_ble_eq_true rfl⟩ hkn1 (Nat.le_of_ble_eq_true rfl) dL_law_1340 (fun v5 => ?_)
  refine zr_iload (pc' := 1345) cx rfl 1 dL_law_1343 rfl ?_
  refine zr_icmp_eq (pc' := 1348) cx rfl (tgt := 1350) dL_law_1345 rfl ?_ ?_
  · refine zr_iload (pc' := 1352) cx rfl 1 dL_law_1350 rfl ?_
    refine zr_if_ne (pc' := 1355) cx rfl (tgt := 1367) dL_law_1352 rfl ?_ ?_
    · refine zr_goto cx (tgt := 1753) dL_law_1367 rfl ?_
      refine zr_iinc (pc' := 1756) cx rfl (lv' := [(4, .int (i32 (i + 5))), (6, .int (i32 v3)), (5, .int (i32 v1)), (0, .ref b), (1, .ref (zad Y 0)), (2, .ref (zad Y 400)), (3, .ref (zad Y 500))]) 6 dL_law_1753 rfl (by decide) rfl ?_
      refine zr_goto cx (tgt := 23) dL_law_1756 rfl ?_
      refine zr_sub [3, 4, 5, 6, 0] rfl ?_
      exact hk _ _ (by omega) (by omega) g4 (i + 5)
    · refine zr_aload_n (pc' := 1356) cx rfl 5 dL_law_1355 rfl rfl ?_
      refine zr_iconst (pc' := 1357) cx rfl dL_law_1356 ?_
      refine zr_lald (pc' := 1358) cx rfl zkc_500 dL_law_1357 ?_
      refine zr_iload (pc' := 1360) cx rfl 0 dL_law_1358 rfl ?_
      refine zr_i2l (pc' := 1361) cx rfl dL_law_1360 ?_
      refine zr_lcmp (pc' := 1362) cx rfl dL_law_1361 ?_
      refine zr_if_eq (pc' := 1365) cx rfl (tgt := 1367) dL_law_1362 rfl ?_ ?_
      · refine zr_goto cx (tgt := 1753) dL_law_1367 rfl ?_
        refine zr_iinc (pc' := 1756) cx rfl (lv' := [(4, .int (i32 (i + 5))), (6, .int (i32 v3)), (5, .int (i32 v1)), (0, .ref b), (1, .ref (zad Y 0)), (2, .ref (zad Y 400)), (3, .ref (zad Y 500))]) 6 dL_law_1753 rfl (by decide) rfl ?_
        refine zr_goto cx (tgt := 23) dL_law_1756 rfl ?_
        refine zr_sub [3, 4, 5, 6, 0] rfl ?_
        exact hk _ _ (by omega) (by omega) g4 (i + 5)
      · refine zr_iconst (pc' := 1366) cx rfl dL_law_1365 ?_
        exact zr_none
  · refine zr_iconst (pc' := 1349) cx rfl dL_law_1348 ?_
    exact zr_none
def fL_case20 (xs : Nat → Int32) (L : Nat) (K : zSt → Int → Option Unit) (g : zSt) (i : Int) : Option Unit :=
    zck ((0 : Int) ≤ (i + 1) ∧ (i + 1) < L) (
    zbe (fL_lamp g (zsc xs (i + 1))) (fun v1 g2 =>
    zck ((0 : Int) ≤ (i + 1) ∧ (i + 1) < L) (
    zbe (fX8_lamp g2 (zsc xs (i + 1))) (fun v3 g4 =>
    zbd (fX8_thrown g4) (fun v5 =>
    (if i32 v5 = i32 v1 then
    (if i32 v1 = i32 0 then
    (if i32 (zlc (g4.2.2 1) ((i32 v3).toInt64)) = i32 0 then
    K g4 (i + 5)
    else
    none)
    else
    K g4 (i + 5))
    else
    none))))))
theorem wL_case20 (cx : zCx Y p s m #[Value.ref b] meth c RL cL_law 9 ret) (hl0 : l.stackTraces = false) (hX : va_X b L xs s s.heap) (hbl : b < s.heap.size) (hbA : ¬ zA Y b) (hL : L ≤ 2560) {k n : Nat} (hkn : k + 1 ≤ room_1.cells ∧ n + 6 ≤ room_1.slots) (K : zSt → Int → Option Unit) (hk : ∀ k' n' : Nat, k' ≤ k + 1 → n' ≤ n + 6 → ∀ (g : zSt) (i : Int), zLo Y p l e s m b below meth c k' n' g [(0, .ref b), (1, .ref (zad Y 0)), (2, .ref (zad Y 400)), (3, .ref (zad Y 500)), (4, .int (i32 i))] [] 23 (K g i)) (g : zSt) (i : Int) : zLo Y p l e s m b below meth c k n g [(0, .ref b), (1, .ref (zad Y 0)), (2, .ref (zad Y 400)), (3, .ref (zad Y 500)), (4, .int (i32 i))] [] 1370 (fL_case20 xs L K g i) := by
  unfold fL_case20
  have hkn1 := hkn
  have hkn0 : k ≤ room_1.cells ∧ n ≤ room_1.slots := ⟨Nat.le_of_succ_le hkn.1, Nat.le_trans (Nat.le_add_right n 6) hkn.2⟩
  refine zr_aload_n (pc' := 1371) cx rfl 1 dL_law_1370 rfl rfl ?_
  refine zr_aload_n (pc' := 1372) cx rfl 0 dL_law_1371 rfl rfl ?_
  refine zr_iload (pc' := 1374) cx rfl 4 dL_law_1372 rfl ?_
  refine zr_iconst (pc' := 1375) cx rfl dL_law_1374 ?_
  refine zr_iadd (pc' := 1376) cx rfl dL_law_1375 ?_
  refine zr_sld (pc' := 1377) cx rfl hX hbl hbA hL dL_law_1376 ?_
  refine zr_aload_n (pc' := 1378) cx rfl 3 dL_law_1377 rfl rfl ?_
  refine zc_L_168 hl0 (pc' := 1381) cx rfl ⟨Nat.le_of_ble_eq_true rfl, Nat.le_of_ble_eq_true rfl⟩ hkn (Nat.le_of_ble_eq_true rfl) dL_law_1378 (fun v1 g2 => ?_)
  refine zr_istore (pc' := 1383) cx rfl (lv' := [(5, .int (i32 v1)), (0, .ref b), (1, .ref (zad Y 0)), (2, .ref (zad Y 400)), (3, .ref (zad Y 500)), (4, .int (i32 i))]) dL_law_1381 (by decide) rfl ?_
  refine zr_aload_n (pc' := 1384) cx rfl 3 dL_law_1383 rfl rfl ?_
  refine zr_aload_n (pc' := 1385) cx rfl 1 dL_law_1384 rfl rfl ?_
  refine zr_iload (pc' := 1387) cx rfl 5 dL_law_1385 rfl ?_
  refine zr_iconst (pc' := 1388) cx rfl dL_law_1387 ?_
  refine zr_iadd (pc' := 1389) cx rfl dL_law_1388 ?_
  refine zr_sld (pc' := 1390) cx rfl hX hbl hbA hL dL_law_1389 ?_
  refine zc_L_170 (pc' := 1393) cx rfl ⟨Nat.le_of_ble_eq_true rfl, Nat.le_of_ble_eq_true rfl⟩ hkn1 (Nat.le_of_ble_eq_true rfl) dL_law_1390 (fun v3 g4 => ?_)
  refine zr_istore (pc' := 1395) cx rfl (lv' := [(6, .int (i32 v3)), (5, .int (i32 v1)), (0, .ref b), (1, .ref (zad Y 0)), (2, .ref (zad Y 400)), (3, .ref (zad Y 500)), (4, .int (i32 i))]) dL_law_1393 (by decide) rfl ?_
  refine zr_aload_n (pc' := 1396) cx rfl 4 dL_law_1395 rfl rfl ?_
  refine zc_L_101 (pc' := 1399) cx rfl ⟨Nat.le_of_ble_eq_true rfl, Nat.le_of_ble_eq_true rfl⟩ hkn1 (Nat.le_of_ble_eq_true rfl) dL_law_1396 (fun v5 => ?_)
  refine zr_iload (pc' := 1401) cx rfl 1 dL_law_1399 rfl ?_
  refine zr_icmp_eq (pc' := 1404) cx rfl (tgt := 1406) dL_law_1401 rfl ?_ ?_
  · refine zr_iload (pc' := 1408) cx rfl 1 dL_law_1406 rfl ?_
    refine zr_if_ne (pc' := 1411) cx rfl (tgt := 1423) dL_law_1408 rfl ?_ ?_
    · refine zr_goto cx (tgt := 1753) dL_law_1423 rfl ?_
      refine zr_iinc (pc' := 1756) cx rfl (lv' := [(4, .int (i32 (i + 5))), (6, .int (i32 v3)), (5, .int (i32 v1)), (0, .ref b), (1, .ref (zad Y 0)), (2, .ref (zad Y 400)), (3, .ref (zad Y 500))]) 6 dL_law_1753 rfl (by decide) rfl ?_
      refine zr_goto cx (tgt := 23) dL_law_1756 rfl ?_
      refine zr_sub [3, 4, 5, 6, 0] rfl ?_
      exact hk _ _ (by omega) (by omega) g4 (i + 5)
    · refine zr_aload_n (pc' := 1412) cx rfl 5 dL_law_1411 rfl rfl ?_
      refine zr_iconst (pc' := 1413) cx rfl dL_law_1412 ?_
      refine zr_lald (pc' := 1414) cx rfl zkc_500 dL_law_1413 ?_
      refine zr_iload (pc' := 1416) cx rfl 0 dL_law_1414 rfl ?_
      refine zr_i2l (pc' := 1417) cx rfl dL_law_1416 ?_
      refine zr_lcmp (pc' := 1418) cx rfl dL_law_1417 ?_
      refine zr_if_eq (pc' := 1421) cx rfl (tgt := 1423) dL_law_1418 rfl ?_ ?_
      · refine zr_goto cx (tgt := 1753) dL_law_1423 rfl ?_
        refine zr_iinc (pc' := 1756) cx rfl (lv' := [(4, .int (i32 (i + 5))), (6, .int (i32 v3)), (5, .int (i32 v1)), (0, .ref b), (1, .ref (zad Y 0)), (2, .ref (zad Y 400)), (3, .ref (zad Y 500))]) 6 dL_law_1753 rfl (by decide) rfl ?_
        refine zr_goto cx (tgt := 23) dL_law_1756 rfl ?_
        refine zr_sub [3, 4, 5, 6, 0] rfl ?_
        exact hk _ _ (by omega) (by omega) g4 (i + 5)
      · refine zr_iconst (pc' := 1422) cx rfl dL_law_1421 ?_
        exact zr_none
  · refine zr_iconst (pc' := 1405) cx rfl dL_law_1404 ?_
    exact zr_none
def fL_case21 (xs : Nat → Int32) (L : Nat) (K : zSt → Int → Option Unit) (g : zSt) (i : Int) : Option Unit :=
    zck ((0 : Int) ≤ (i + 1) ∧ (i + 1) < L) (
    zbe (fL_locate g (zsc xs (i + 1))) (fun v1 g2 =>
    zck ((0 : Int) ≤ (i + 1) ∧ (i + 1) < L) (
    zbe (fX8_locate g2 (zsc xs (i + 1))) (fun v3 g4 =>
    zbd (fX8_thrown g4) (fun v5 =>
    (if i32 v5 = i32 v1 then
    (if i32 v1 = i32 0 then
    (if i32 (zlc (g4.2.2 1) ((i32 v3).toInt64)) = i32 0 then
    K g4 (i + 5)
    else
    none)
    else
    K g4 (i + 5))
    else
    none))))))
theorem wL_case21 (cx : zCx Y p s m #[Value.ref b] meth c RL cL_law 9 ret) (hl0 : l.stackTraces = false) (hX : va_X b L xs s s.heap) (hbl : b < s.heap.size) (hbA : ¬ zA Y b) (hL : L ≤ 2560) {k n : Nat} (hkn : k + 1 ≤ room_1.cells ∧ n + 6 ≤ room_1.slots) (K : zSt → Int → Option Unit) (hk : ∀ k' n' : Nat, k' ≤ k + 1 → n' ≤ n + 6 → ∀ (g : zSt) (i : Int), zLo Y p l e s m b below meth c k' n' g [(0, .ref b), (1, .ref (zad Y 0)), (2, .ref (zad Y 400)), (3, .ref (zad Y 500)), (4, .int (i32 i))] [] 23 (K g i)) (g : zSt) (i : Int) : zLo Y p l e s m b below meth c k n g [(0, .ref b), (1, .ref (zad Y 0)), (2, .ref (zad Y 400)), (3, .ref (zad Y 500)), (4, .int (i32 i))] [] 1426 (fL_case21 xs L K g i) := by
  unfold fL_case21
  have hkn1 := hkn
  have hkn0 : k ≤ room_1.cells ∧ n ≤ room_1.slots := ⟨Nat.le_of_succ_le hkn.1, Nat.le_trans (Nat.le_add_right n 6) hkn.2⟩
  refine zr_aload_n (pc' := 1427) cx rfl 1 dL_law_1426 rfl rfl ?_
  refine zr_aload_n (pc' := 1428) cx rfl 0 dL_law_1427 rfl rfl ?_
  refine zr_iload (pc' := 1430) cx rfl 4 dL_law_1428 rfl ?_
  refine zr_iconst (pc' := 1431) cx rfl dL_law_1430 ?_
  refine zr_iadd (pc' := 1432) cx rfl dL_law_1431 ?_
  refine zr_sld (pc' := 1433) cx rfl hX hbl hbA hL dL_law_1432 ?_
  refine zr_aload_n (pc' := 1434) cx rfl 3 dL_law_1433 rfl rfl ?_
  refine zc_L_171 hl0 (pc' := 1437) cx rfl ⟨Nat.le_of_ble_eq_true rfl, Nat.le_of_ble_eq_true rfl⟩ hkn (Nat.le_of_ble_eq_true rfl) dL_law_1434 (fun v1 g2 => ?_)
  refine zr_istore (pc' := 1439) cx rfl (lv' := [(5, .int (i32 v1)), (0, .ref b), (1, .ref (zad Y 0)), (2, .ref (zad Y 400)), (3, .ref (zad Y 500)), (4, .int (i32 i))]) dL_law_1437 (by decide) rfl ?_
  refine zr_aload_n (pc' := 1440) cx rfl 3 dL_law_1439 rfl rfl ?_
  refine zr_aload_n (pc' := 1441) cx rfl 1 dL_law_1440 rfl rfl ?_
  refine zr_iload (pc' := 1443) cx rfl 5 dL_law_1441 rfl ?_
  refine zr_iconst (pc' := 1444) cx rfl dL_law_1443 ?_
  refine zr_iadd (pc' := 1445) cx rfl dL_law_1444 ?_
  refine zr_sld (pc' := 1446) cx rfl hX hbl hbA hL dL_law_1445 ?_
  refine zc_L_173 (pc' := 1449) cx rfl ⟨Nat.le_of_ble_eq_true rfl, Nat.le_of_ble_eq_true rfl⟩ hkn1 (Nat.le_of_ble_eq_true rfl) dL_law_1446 (fun v3 g4 => ?_)
  refine zr_istore (pc' := 1451) cx rfl (lv' := [(6, .int (i32 v3)), (5, .int (i32 v1)), (0, .ref b), (1, .ref (zad Y 0)), (2, .ref (zad Y 400)), (3, .ref (zad Y 500)), (4, .int (i32 i))]) dL_law_1449 (by decide) rfl ?_
  refine zr_aload_n (pc' := 1452) cx rfl 4 dL_law_1451 rfl rfl ?_
  refine zc_L_101 (pc' := 1455) cx rfl ⟨Nat.le_of_ble_eq_true rfl, Nat.le_of_ble_eq_true rfl⟩ hkn1 (Nat.le_of_ble_eq_true rfl) dL_law_1452 (fun v5 => ?_)
  refine zr_iload (pc' := 1457) cx rfl 1 dL_law_1455 rfl ?_
  refine zr_icmp_eq (pc' := 1460) cx rfl (tgt := 1462) dL_law_1457 rfl ?_ ?_
  · refine zr_iload (pc' := 1464) cx rfl 1 dL_law_1462 rfl ?_
    refine zr_if_ne (pc' := 1467) cx rfl (tgt := 1479) dL_law_1464 rfl ?_ ?_
    · refine zr_goto cx (tgt := 1753) dL_law_1479 rfl ?_
      refine zr_iinc (pc' := 1756) cx rfl (lv' := [(4, .int (i32 (i + 5))), (6, .int (i32 v3)), (5, .int (i32 v1)), (0, .ref b), (1, .ref (zad Y 0)), (2, .ref (zad Y 400)), (3, .ref (zad Y 500))]) 6 dL_law_1753 rfl (by decide) rfl ?_
      refine zr_goto cx (tgt := 23) dL_law_1756 rfl ?_
      refine zr_sub [3, 4, 5, 6, 0] rfl ?_
      exact hk _ _ (by omega) (by omega) g4 (i + 5)
    · refine zr_aload_n (pc' := 1468) cx rfl 5 dL_law_1467 rfl rfl ?_
      refine zr_iconst (pc' := 1469) cx rfl dL_law_1468 ?_
      refine zr_lald (pc' := 1470) cx rfl zkc_500 dL_law_1469 ?_
      refine zr_iload (pc' := 1472) cx rfl 0 dL_law_1470 rfl ?_
      refine zr_i2l (pc' := 1473) cx rfl dL_law_1472 ?_
      refine zr_lcmp (pc' := 1474) cx rfl dL_law_1473 ?_
      refine zr_if_eq (pc' := 1477) cx rfl (tgt := 1479) dL_law_1474 rfl ?_ ?_
      · refine zr_goto cx (tgt := 1753) dL_law_1479 rfl ?_
        refine zr_iinc (pc' := 1756) cx rfl (lv' := [(4, .int (i32 (i + 5))), (6, .int (i32 v3)), (5, .int (i32 v1)), (0, .ref b), (1, .ref (zad Y 0)), (2, .ref (zad Y 400)), (3, .ref (zad Y 500))]) 6 dL_law_1753 rfl (by decide) rfl ?_
        refine zr_goto cx (tgt := 23) dL_law_1756 rfl ?_
        refine zr_sub [3, 4, 5, 6, 0] rfl ?_
        exact hk _ _ (by omega) (by omega) g4 (i + 5)
      · refine zr_iconst (pc' := 1478) cx rfl dL_law_1477 ?_
        exact zr_none
  · refine zr_iconst (pc' := 1461) cx rfl dL_law_1460 ?_
    exact zr_none
def fL_case22 (xs : Nat → Int32) (L : Nat) (K : zSt → Int → Option Unit) (g : zSt) (i : Int) : Option Unit :=
    zck ((0 : Int) ≤ (i + 1) ∧ (i + 1) < L) (
    zck ((0 : Int) ≤ (i + 2) ∧ (i + 2) < L) (
    zck ((0 : Int) ≤ (i + 3) ∧ (i + 3) < L) (
    zck ((0 : Int) ≤ (i + 4) ∧ (i + 4) < L) (
    zbe (fL_ifFault g (zsc xs (i + 1)) (zsc xs (i + 2)) (zsc xs (i + 3)) (zsc xs (i + 4))) (fun v1 g2 =>
    zck ((0 : Int) ≤ (i + 1) ∧ (i + 1) < L) (
    zck ((0 : Int) ≤ (i + 2) ∧ (i + 2) < L) (
    zck ((0 : Int) ≤ (i + 3) ∧ (i + 3) < L) (
    zck ((0 : Int) ≤ (i + 4) ∧ (i + 4) < L) (
    zbe (fX8_ifFault g2 (zsc xs (i + 1)) (zsc xs (i + 2)) (zsc xs (i + 3)) (zsc xs (i + 4))) (fun v3 g4 =>
    zbd (fX8_thrown g4) (fun v5 =>
    (if i32 v5 = i32 v1 then
    (if i32 v1 = i32 0 then
    (if i32 (zlc (g4.2.2 1) ((i32 v3).toInt64)) = i32 0 then
    K g4 (i + 5)
    else
    none)
    else
    K g4 (i + 5))
    else
    none))))))))))))
theorem wL_case22 (cx : zCx Y p s m #[Value.ref b] meth c RL cL_law 9 ret) (hl0 : l.stackTraces = false) (hX : va_X b L xs s s.heap) (hbl : b < s.heap.size) (hbA : ¬ zA Y b) (hL : L ≤ 2560) {k n : Nat} (hkn : k + 1 ≤ room_1.cells ∧ n + 6 ≤ room_1.slots) (K : zSt → Int → Option Unit) (hk : ∀ k' n' : Nat, k' ≤ k + 1 → n' ≤ n + 6 → ∀ (g : zSt) (i : Int), zLo Y p l e s m b below meth c k' n' g [(0, .ref b), (1, .ref (zad Y 0)), (2, .ref (zad Y 400)), (3, .ref (zad Y 500)), (4, .int (i32 i))] [] 23 (K g i)) (g : zSt) (i : Int) : zLo Y p l e s m b below meth c k n g [(0, .ref b), (1, .ref (zad Y 0)), (2, .ref (zad Y 400)), (3, .ref (zad Y 500)), (4, .int (i32 i))] [] 1482 (fL_case22 xs L K g i) := by
  unfold fL_case22
  have hkn1 := hkn
  have hkn0 : k ≤ room_1.cells ∧ n ≤ room_1.slots := ⟨Nat.le_of_succ_le hkn.1, Nat.le_trans (Nat.le_add_right n 6) hkn.2⟩
  refine zr_aload_n (pc' := 1483) cx rfl 1 dL_law_1482 rfl rfl ?_
  refine zr_aload_n (pc' := 1484) cx rfl 0 dL_law_1483 rfl rfl ?_
  refine zr_iload (pc' := 1486) cx rfl 4 dL_law_1484 rfl ?_
  refine zr_iconst (pc' := 1487) cx rfl dL_law_1486 ?_
  refine zr_iadd (pc' := 1488) cx rfl dL_law_1487 ?_
  refine zr_sld (pc' := 1489) cx rfl hX hbl hbA hL dL_law_1488 ?_
  refine zr_aload_n (pc' := 1490) cx rfl 0 dL_law_1489 rfl rfl ?_
  refine zr_iload (pc' := 1492) cx rfl 4 dL_law_1490 rfl ?_
  refine zr_iconst (pc' := 1493) cx rfl dL_law_1492 ?_
  refine zr_iadd (pc' := 1494) cx rfl dL_law_1493 ?_
  refine zr_sld (pc' := 1495) cx rfl hX hbl hbA hL dL_law_1494 ?_
  refine zr_aload_n (pc' := 1496) cx rfl 0 dL_law_1495 rfl rfl ?_
  refine zr_iload (pc' := 1498) cx rfl 4 dL_law_1496 rfl ?_
  refine zr_iconst (pc' := 1499) cx rfl dL_law_1498 ?_
  refine zr_iadd (pc' := 1500) cx rfl dL_law_1499 ?_
  refine zr_sld (pc' := 1501) cx rfl hX hbl hbA hL dL_law_1500 ?_
  refine zr_aload_n (pc' := 1502) cx rfl 0 dL_law_1501 rfl rfl ?_
  refine zr_iload (pc' := 1504) cx rfl 4 dL_law_1502 rfl ?_
  refine zr_iconst (pc' := 1505) cx rfl dL_law_1504 ?_
  refine zr_iadd (pc' := 1506) cx rfl dL_law_1505 ?_
  refine zr_sld (pc' := 1507) cx rfl hX hbl hbA hL dL_law_1506 ?_
  refine zr_aload_n (pc' := 1508) cx rfl 3 dL_law_1507 rfl rfl ?_
  refine zc_L_174 hl0 (pc' := 1511) cx rfl ⟨Nat.le_of_ble_eq_true rfl, Nat.le_of_ble_eq_true rfl⟩ hkn (Nat.le_of_ble_eq_true rfl) dL_law_1508 (fun v1 g2 => ?_)
  refine zr_istore (pc' := 1513) cx rfl (lv' := [(5, .int (i32 v1)), (0, .ref b), (1, .ref (zad Y 0)), (2, .ref (zad Y 400)), (3, .ref (zad Y 500)), (4, .int (i32 i))]) dL_law_1511 (by decide) rfl ?_
  refine zr_aload_n (pc' := 1514) cx rfl 3 dL_law_1513 rfl rfl ?_
  refine zr_aload_n (pc' := 1515) cx rfl 1 dL_law_1514 rfl rfl ?_
  refine zr_iload (pc' := 1517) cx rfl 5 dL_law_1515 rfl ?_
  refine zr_iconst (pc' := 1518) cx rfl dL_law_1517 ?_
  refine zr_iadd (pc' := 1519) cx rfl dL_law_1518 ?_
  refine zr_sld (pc' := 1520) cx rfl hX hbl hbA hL dL_law_1519 ?_
  refine zr_aload_n (pc' := 1521) cx rfl 1 dL_law_1520 rfl rfl ?_
  refine zr_iload (pc' := 1523) cx rfl 5 dL_law_1521 rfl ?_
  refine zr_iconst (pc' := 1524) cx rfl dL_law_1523 ?_
  refine zr_iadd (pc' := 1525) cx rfl dL_law_1524 ?_
  refine zr_sld (pc' := 1526) cx rfl hX hbl hbA hL dL_law_1525 ?_
  refine zr_aload_n (pc' := 1527) cx rfl 1 dL_law_1526 rfl rfl ?_
  refine zr_iload (pc' := 1529) cx rfl 5 dL_law_1527 rfl ?_
  refine zr_iconst (pc' := 1530) cx rfl dL_law_1529 ?_
  refine zr_iadd (pc' := 1531) cx rfl dL_law_1530 ?_
  refine zr_sld (pc' := 1532) cx rfl hX hbl hbA hL dL_law_1531 ?_
  refine zr_aload_n (pc' := 1533) cx rfl 1 dL_law_1532 rfl rfl ?_
  refine zr_iload (pc' := 1535) cx rfl 5 dL_law_1533 rfl ?_
  refine zr_iconst (pc' := 1536) cx rfl dL_law_1535 ?_
  refine zr_iadd (pc' := 1537) cx rfl dL_law_1536 ?_
  refine zr_sld (pc' := 1538) cx rfl hX hbl hbA hL dL_law_1537 ?_
  refine zc_L_177 (pc' := 1541) cx rfl ⟨Nat.le_of_ble_eq_true rfl, Nat.le_of_ble_eq_true rfl⟩ hkn1 (Nat.le_of_ble_eq_true rfl) dL_law_1538 (fun v3 g4 => ?_)
  refine zr_istore (pc' := 1543) cx rfl (lv' := [(6, .int (i32 v3)), (5, .int (i32 v1)), (0, .ref b), (1, .ref (zad Y 0)), (2, .ref (zad Y 400)), (3, .ref (zad Y 500)), (4, .int (i32 i))]) dL_law_1541 (by decide) rfl ?_
  refine zr_aload_n (pc' := 1544) cx rfl 4 dL_law_1543 rfl rfl ?_
  refine zc_L_101 (pc' := 1547) cx rfl ⟨Nat.le_of_ble_eq_true rfl, Nat.le_of_ble_eq_true rfl⟩ hkn1 (Nat.le_of_ble_eq_true rfl) dL_law_1544 (fun v5 => ?_)
  refine zr_iload (pc' := 1549) cx rfl 1 dL_law_1547 rfl ?_
  refine zr_icmp_eq (pc' := 1552) cx rfl (tgt := 1554) dL_law_1549 rfl ?_ ?_
  · refine zr_iload (pc' := 1556) cx rfl 1 dL_law_1554 rfl ?_
    refine zr_if_ne (pc' := 1559) cx rfl (tgt := 1571) dL_law_1556 rfl ?_ ?_
    · refine zr_goto cx (tgt := 1753) dL_law_1571 rfl ?_
      refine zr_iinc (pc' := 1756) cx rfl (lv' := [(4, .int (i32 (i + 5))), (6, .int (i32 v3)), (5, .int (i32 v1)), (0, .ref b), (1, .ref (zad Y 0)), (2, .ref (zad Y 400)), (3, .ref (zad Y 500))]) 6 dL_law_1753 rfl (by decide) rfl ?_
      refine zr_goto cx (tgt := 23) dL_law_1756 rfl ?_
      refine zr_sub [3, 4, 5, 6, 0] rfl ?_
      exact hk _ _ (by omega) (by omega) g4 (i + 5)
    · refine zr_aload_n (pc' := 1560) cx rfl 5 dL_law_1559 rfl rfl ?_
      refine zr_iconst (pc' := 1561) cx rfl dL_law_1560 ?_
      refine zr_lald (pc' := 1562) cx rfl zkc_500 dL_law_1561 ?_
      refine zr_iload (pc' := 1564) cx rfl 0 dL_law_1562 rfl ?_
      refine zr_i2l (pc' := 1565) cx rfl dL_law_1564 ?_
      refine zr_lcmp (pc' := 1566) cx rfl dL_law_1565 ?_
      refine zr_if_eq (pc' := 1569) cx rfl (tgt := 1571) dL_law_1566 rfl ?_ ?_
      · refine zr_goto cx (tgt := 1753) dL_law_1571 rfl ?_
        refine zr_iinc (pc' := 1756) cx rfl (lv' := [(4, .int (i32 (i + 5))), (6, .int (i32 v3)), (5, .int (i32 v1)), (0, .ref b), (1, .ref (zad Y 0)), (2, .ref (zad Y 400)), (3, .ref (zad Y 500))]) 6 dL_law_1753 rfl (by decide) rfl ?_
        refine zr_goto cx (tgt := 23) dL_law_1756 rfl ?_
        refine zr_sub [3, 4, 5, 6, 0] rfl ?_
        exact hk _ _ (by omega) (by omega) g4 (i + 5)
      · refine zr_iconst (pc' := 1570) cx rfl dL_law_1569 ?_
        exact zr_none
  · refine zr_iconst (pc' := 1553) cx rfl dL_law_1552 ?_
    exact zr_none
def fL_case23 (xs : Nat → Int32) (L : Nat) (K : zSt → Int → Option Unit) (g : zSt) (i : Int) : Option Unit :=
    zck ((0 : Int) ≤ (i + 1) ∧ (i + 1) < L) (
    zbe (fL_ifToggled g (zsc xs (i + 1))) (fun v1 g2 =>
    zck ((0 : Int) ≤ (i + 1) ∧ (i + 1) < L) (
    zbe (fX8_ifToggled g2 (zsc xs (i + 1))) (fun v3 g4 =>
    zbd (fX8_thrown g4) (fun v5 =>
    (if i32 v5 = i32 v1 then
    (if i32 v1 = i32 0 then
    (if i32 (zlc (g4.2.2 1) ((i32 v3).toInt64)) = i32 0 then
    K g4 (i + 5)
    else
    none)
    else
    K g4 (i + 5))
    else
    none))))))
theorem wL_case23 (cx : zCx Y p s m #[Value.ref b] meth c RL cL_law 9 ret) (hl0 : l.stackTraces = false) (hX : va_X b L xs s s.heap) (hbl : b < s.heap.size) (hbA : ¬ zA Y b) (hL : L ≤ 2560) {k n : Nat} (hkn : k + 1 ≤ room_1.cells ∧ n + 6 ≤ room_1.slots) (K : zSt → Int → Option Unit) (hk : ∀ k' n' : Nat, k' ≤ k + 1 → n' ≤ n + 6 → ∀ (g : zSt) (i : Int), zLo Y p l e s m b below meth c k' n' g [(0, .ref b), (1, .ref (zad Y 0)), (2, .ref (zad Y 400)), (3, .ref (zad Y 500)), (4, .int (i32 i))] [] 23 (K g i)) (g : zSt) (i : Int) : zLo Y p l e s m b below meth c k n g [(0, .ref b), (1, .ref (zad Y 0)), (2, .ref (zad Y 400)), (3, .ref (zad Y 500)), (4, .int (i32 i))] [] 1574 (fL_case23 xs L K g i) := by
  unfold fL_case23
  have hkn1 := hkn
  have hkn0 : k ≤ room_1.cells ∧ n ≤ room_1.slots := ⟨Nat.le_of_succ_le hkn.1, Nat.le_trans (Nat.le_add_right n 6) hkn.2⟩
  refine zr_aload_n (pc' := 1575) cx rfl 1 dL_law_1574 rfl rfl ?_
  refine zr_aload_n (pc' := 1576) cx rfl 0 dL_law_1575 rfl rfl ?_
  refine zr_iload (pc' := 1578) cx rfl 4 dL_law_1576 rfl ?_
  refine zr_iconst (pc' := 1579) cx rfl dL_law_1578 ?_
  refine zr_iadd (pc' := 1580) cx rfl dL_law_1579 ?_
  refine zr_sld (pc' := 1581) cx rfl hX hbl hbA hL dL_law_1580 ?_
  refine zr_aload_n (pc' := 1582) cx rfl 3 dL_law_1581 rfl rfl ?_
  refine zc_L_178 hl0 (pc' := 1585) cx rfl ⟨Nat.le_of_ble_eq_true rfl, Nat.le_of_ble_eq_true rfl⟩ hkn (Nat.le_of_ble_eq_true rfl) dL_law_1582 (fun v1 g2 => ?_)
  refine zr_istore (pc' := 1587) cx rfl (lv' := [(5, .int (i32 v1)), (0, .ref b), (1, .ref (zad Y 0)), (2, .ref (zad Y 400)), (3, .ref (zad Y 500)), (4, .int (i32 i))]) dL_law_1585 (by decide) rfl ?_
  refine zr_aload_n (pc' := 1588) cx rfl 3 dL_law_1587 rfl rfl ?_
  refine zr_aload_n (pc' := 1589) cx rfl 1 dL_law_1588 rfl rfl ?_
  refine zr_iload (pc' := 1591) cx rfl 5 dL_law_1589 rfl ?_
  refine zr_iconst (pc' := 1592) cx rfl dL_law_1591 ?_
  refine zr_iadd (pc' := 1593) cx rfl dL_law_1592 ?_
  refine zr_sld (pc' := 1594) cx rfl hX hbl hbA hL dL_law_1593 ?_
  refine zc_L_180 (pc' := 1597) cx rfl ⟨Nat.le_of_ble_eq_true rfl, Nat.le_of_ble_eq_true rfl⟩ hkn1 (Nat.le_of_ble_eq_true rfl) dL_law_1594 (fun v3 g4 => ?_)
  refine zr_istore (pc' := 1599) cx rfl (lv' := [(6, .int (i32 v3)), (5, .int (i32 v1)), (0, .ref b), (1, .ref (zad Y 0)), (2, .ref (zad Y 400)), (3, .ref (zad Y 500)), (4, .int (i32 i))]) dL_law_1597 (by decide) rfl ?_
  refine zr_aload_n (pc' := 1600) cx rfl 4 dL_law_1599 rfl rfl ?_
  refine zc_L_101 (pc' := 1603) cx rfl ⟨Nat.le_of_ble_eq_true rfl, Nat.le_of_ble_eq_true rfl⟩ hkn1 (Nat.le_of_ble_eq_true rfl) dL_law_1600 (fun v5 => ?_)
  refine zr_iload (pc' := 1605) cx rfl 1 dL_law_1603 rfl ?_
  refine zr_icmp_eq (pc' := 1608) cx rfl (tgt := 1610) dL_law_1605 rfl ?_ ?_
  · refine zr_iload (pc' := 1612) cx rfl 1 dL_law_1610 rfl ?_
    refine zr_if_ne (pc' := 1615) cx rfl (tgt := 1627) dL_law_1612 rfl ?_ ?_
    · refine zr_goto cx (tgt := 1753) dL_law_1627 rfl ?_
      refine zr_iinc (pc' := 1756) cx rfl (lv' := [(4, .int (i32 (i + 5))), (6, .int (i32 v3)), (5, .int (i32 v1)), (0, .ref b), (1, .ref (zad Y 0)), (2, .ref (zad Y 400)), (3, .ref (zad Y 500))]) 6 dL_law_1753 rfl (by decide) rfl ?_
      refine zr_goto cx (tgt := 23) dL_law_1756 rfl ?_
      refine zr_sub [3, 4, 5, 6, 0] rfl ?_
      exact hk _ _ (by omega) (by omega) g4 (i + 5)
    · refine zr_aload_n (pc' := 1616) cx rfl 5 dL_law_1615 rfl rfl ?_
      refine zr_iconst (pc' := 1617) cx rfl dL_law_1616 ?_
      refine zr_lald (pc' := 1618) cx rfl zkc_500 dL_law_1617 ?_
      refine zr_iload (pc' := 1620) cx rfl 0 dL_law_1618 rfl ?_
      refine zr_i2l (pc' := 1621) cx rfl dL_law_1620 ?_
      refine zr_lcmp (pc' := 1622) cx rfl dL_law_1621 ?_
      refine zr_if_eq (pc' := 1625) cx rfl (tgt := 1627) dL_law_1622 rfl ?_ ?_
      · refine zr_goto cx (tgt := 1753) dL_law_1627 rfl ?_
        refine zr_iinc (pc' := 1756) cx rfl (lv' := [(4, .int (i32 (i + 5))), (6, .int (i32 v3)), (5, .int (i32 v1)), (0, .ref b), (1, .ref (zad Y 0)), (2, .ref (zad Y 400)), (3, .ref (zad Y 500))]) 6 dL_law_1753 rfl (by decide) rfl ?_
        refine zr_goto cx (tgt := 23) dL_law_1756 rfl ?_
        refine zr_sub [3, 4, 5, 6, 0] rfl ?_
        exact hk _ _ (by omega) (by omega) g4 (i + 5)
      · refine zr_iconst (pc' := 1626) cx rfl dL_law_1625 ?_
        exact zr_none
  · refine zr_iconst (pc' := 1609) cx rfl dL_law_1608 ?_
    exact zr_none
def fL_case24 (xs : Nat → Int32) (L : Nat) (K : zSt → Int → Option Unit) (g : zSt) (i : Int) : Option Unit :=
    zck ((0 : Int) ≤ (i + 1) ∧ (i + 1) < L) (
    zck ((0 : Int) ≤ (i + 2) ∧ (i + 2) < L) (
    zbe (fL_neededRating g (zsc xs (i + 1)) (zsc xs (i + 2))) (fun v1 g2 =>
    zck ((0 : Int) ≤ (i + 1) ∧ (i + 1) < L) (
    zck ((0 : Int) ≤ (i + 2) ∧ (i + 2) < L) (
    zbe (fX8_neededRating g2 (zsc xs (i + 1)) (zsc xs (i + 2))) (fun v3 g4 =>
    zbd (fX8_thrown g4) (fun v5 =>
    (if i32 v5 = i32 v1 then
    (if i32 v1 = i32 0 then
    (if i32 (zlc (g4.2.2 1) ((i32 v3).toInt64)) = i32 0 then
    K g4 (i + 5)
    else
    none)
    else
    K g4 (i + 5))
    else
    none))))))))
theorem wL_case24 (cx : zCx Y p s m #[Value.ref b] meth c RL cL_law 9 ret) (hl0 : l.stackTraces = false) (hX : va_X b L xs s s.heap) (hbl : b < s.heap.size) (hbA : ¬ zA Y b) (hL : L ≤ 2560) {k n : Nat} (hkn : k + 1 ≤ room_1.cells ∧ n + 6 ≤ room_1.slots) (K : zSt → Int → Option Unit) (hk : ∀ k' n' : Nat, k' ≤ k + 1 → n' ≤ n + 6 → ∀ (g : zSt) (i : Int), zLo Y p l e s m b below meth c k' n' g [(0, .ref b), (1, .ref (zad Y 0)), (2, .ref (zad Y 400)), (3, .ref (zad Y 500)), (4, .int (i32 i))] [] 23 (K g i)) (g : zSt) (i : Int) : zLo Y p l e s m b below meth c k n g [(0, .ref b), (1, .ref (zad Y 0)), (2, .ref (zad Y 400)), (3, .ref (zad Y 500)), (4, .int (i32 i))] [] 1630 (fL_case24 xs L K g i) := by
  unfold fL_case24
  have hkn1 := hkn
  have hkn0 : k ≤ room_1.cells ∧ n ≤ room_1.slots := ⟨Nat.le_of_succ_le hkn.1, Nat.le_trans (Nat.le_add_right n 6) hkn.2⟩
  refine zr_aload_n (pc' := 1631) cx rfl 1 dL_law_1630 rfl rfl ?_
  refine zr_aload_n (pc' := 1632) cx rfl 0 dL_law_1631 rfl rfl ?_
  refine zr_iload (pc' := 1634) cx rfl 4 dL_law_1632 rfl ?_
  refine zr_iconst (pc' := 1635) cx rfl dL_law_1634 ?_
  refine zr_iadd (pc' := 1636) cx rfl dL_law_1635 ?_
  refine zr_sld (pc' := 1637) cx rfl hX hbl hbA hL dL_law_1636 ?_
  refine zr_aload_n (pc' := 1638) cx rfl 0 dL_law_1637 rfl rfl ?_
  refine zr_iload (pc' := 1640) cx rfl 4 dL_law_1638 rfl ?_
  refine zr_iconst (pc' := 1641) cx rfl dL_law_1640 ?_
  refine zr_iadd (pc' := 1642) cx rfl dL_law_1641 ?_
  refine zr_sld (pc' := 1643) cx rfl hX hbl hbA hL dL_law_1642 ?_
  refine zr_aload_n (pc' := 1644) cx rfl 3 dL_law_1643 rfl rfl ?_
  refine zc_L_181 hl0 (pc' := 1647) cx rfl ⟨Nat.le_of_ble_eq_true rfl, Nat.le_of_ble_eq_true rfl⟩ hkn (Nat.le_of_ble_eq_true rfl) dL_law_1644 (fun v1 g2 => ?_)
  refine zr_istore (pc' := 1649) cx rfl (lv' := [(5, .int (i32 v1)), (0, .ref b), (1, .ref (zad Y 0)), (2, .ref (zad Y 400)), (3, .ref (zad Y 500)), (4, .int (i32 i))]) dL_law_1647 (by decide) rfl ?_
  refine zr_aload_n (pc' := 1650) cx rfl 3 dL_law_1649 rfl rfl ?_
  refine zr_aload_n (pc' := 1651) cx rfl 1 dL_law_1650 rfl rfl ?_
  refine zr_iload (pc' := 1653) cx rfl 5 dL_law_1651 rfl ?_
  refine zr_iconst (pc' := 1654) cx rfl dL_law_1653 ?_
  refine zr_iadd (pc' := 1655) cx rfl dL_law_1654 ?_
  refine zr_sld (pc' := 1656) cx rfl hX hbl hbA hL dL_law_1655 ?_
  refine zr_aload_n (pc' := 1657) cx rfl 1 dL_law_1656 rfl rfl ?_
  refine zr_iload (pc' := 1659) cx rfl 5 dL_law_1657 rfl ?_
  refine zr_iconst (pc' := 1660) cx rfl dL_law_1659 ?_
  refine zr_iadd (pc' := 1661) cx rfl dL_law_1660 ?_
  refine zr_sld (pc' := 1662) cx rfl hX hbl hbA hL dL_law_1661 ?_
  refine zc_L_183 (pc' := 1665) cx rfl ⟨Nat.le_of_ble_eq_true rfl, Nat.le_of_ble_eq_true rfl⟩ hkn1 (Nat.le_of_ble_eq_true rfl) dL_law_1662 (fun v3 g4 => ?_)
  refine zr_istore (pc' := 1667) cx rfl (lv' := [(6, .int (i32 v3)), (5, .int (i32 v1)), (0, .ref b), (1, .ref (zad Y 0)), (2, .ref (zad Y 400)), (3, .ref (zad Y 500)), (4, .int (i32 i))]) dL_law_1665 (by decide) rfl ?_
  refine zr_aload_n (pc' := 1668) cx rfl 4 dL_law_1667 rfl rfl ?_
  refine zc_L_101 (pc' := 1671) cx rfl ⟨Nat.le_of_ble_eq_true rfl, Nat.le_of_ble_eq_true rfl⟩ hkn1 (Nat.le_of_ble_eq_true rfl) dL_law_1668 (fun v5 => ?_)
  refine zr_iload (pc' := 1673) cx rfl 1 dL_law_1671 rfl ?_
  refine zr_icmp_eq (pc' := 1676) cx rfl (tgt := 1678) dL_law_1673 rfl ?_ ?_
  · refine zr_iload (pc' := 1680) cx rfl 1 dL_law_1678 rfl ?_
    refine zr_if_ne (pc' := 1683) cx rfl (tgt := 1695) dL_law_1680 rfl ?_ ?_
    · refine zr_goto cx (tgt := 1753) dL_law_1695 rfl ?_
      refine zr_iinc (pc' := 1756) cx rfl (lv' := [(4, .int (i32 (i + 5))), (6, .int (i32 v3)), (5, .int (i32 v1)), (0, .ref b), (1, .ref (zad Y 0)), (2, .ref (zad Y 400)), (3, .ref (zad Y 500))]) 6 dL_law_1753 rfl (by decide) rfl ?_
      refine zr_goto cx (tgt := 23) dL_law_1756 rfl ?_
      refine zr_sub [3, 4, 5, 6, 0] rfl ?_
      exact hk _ _ (by omega) (by omega) g4 (i + 5)
    · refine zr_aload_n (pc' := 1684) cx rfl 5 dL_law_1683 rfl rfl ?_
      refine zr_iconst (pc' := 1685) cx rfl dL_law_1684 ?_
      refine zr_lald (pc' := 1686) cx rfl zkc_500 dL_law_1685 ?_
      refine zr_iload (pc' := 1688) cx rfl 0 dL_law_1686 rfl ?_
      refine zr_i2l (pc' := 1689) cx rfl dL_law_1688 ?_
      refine zr_lcmp (pc' := 1690) cx rfl dL_law_1689 ?_
      refine zr_if_eq (pc' := 1693) cx rfl (tgt := 1695) dL_law_1690 rfl ?_ ?_
      · refine zr_goto cx (tgt := 1753) dL_law_1695 rfl ?_
        refine zr_iinc (pc' := 1756) cx rfl (lv' := [(4, .int (i32 (i + 5))), (6, .int (i32 v3)), (5, .int (i32 v1)), (0, .ref b), (1, .ref (zad Y 0)), (2, .ref (zad Y 400)), (3, .ref (zad Y 500))]) 6 dL_law_1753 rfl (by decide) rfl ?_
        refine zr_goto cx (tgt := 23) dL_law_1756 rfl ?_
        refine zr_sub [3, 4, 5, 6, 0] rfl ?_
        exact hk _ _ (by omega) (by omega) g4 (i + 5)
      · refine zr_iconst (pc' := 1694) cx rfl dL_law_1693 ?_
        exact zr_none
  · refine zr_iconst (pc' := 1677) cx rfl dL_law_1676 ?_
    exact zr_none
def fL_case25 (xs : Nat → Int32) (L : Nat) (K : zSt → Int → Option Unit) (g : zSt) (i : Int) : Option Unit :=
    zbd (fX7_lossShare g) (fun u1 =>
    zbe (fX8_lossShare g) (fun u2 g3 =>
    (if i32 (zdc u1 u2 .l) = i32 0 then
    K g3 (i + 5)
    else
    (if i32 (zdc u1 u1 .l) = i32 0 then
    none
    else
    (if i32 (zdc u2 u2 .l) = i32 0 then
    none
    else
    K g3 (i + 5))))))
theorem wL_case25 (cx : zCx Y p s m #[Value.ref b] meth c RL cL_law 9 ret) (hl0 : l.stackTraces = false) (hX : va_X b L xs s s.heap) (hbl : b < s.heap.size) (hbA : ¬ zA Y b) (hL : L ≤ 2560) {k n : Nat} (hkn : k + 1 ≤ room_1.cells ∧ n + 6 ≤ room_1.slots) (K : zSt → Int → Option Unit) (hk : ∀ k' n' : Nat, k' ≤ k + 1 → n' ≤ n + 6 → ∀ (g : zSt) (i : Int), zLo Y p l e s m b below meth c k' n' g [(0, .ref b), (1, .ref (zad Y 0)), (2, .ref (zad Y 400)), (3, .ref (zad Y 500)), (4, .int (i32 i))] [] 23 (K g i)) (g : zSt) (i : Int) : zLo Y p l e s m b below meth c k n g [(0, .ref b), (1, .ref (zad Y 0)), (2, .ref (zad Y 400)), (3, .ref (zad Y 500)), (4, .int (i32 i))] [] 1698 (fL_case25 xs L K g i) := by
  unfold fL_case25
  have hkn1 := hkn
  have hkn0 : k ≤ room_1.cells ∧ n ≤ room_1.slots := ⟨Nat.le_of_succ_le hkn.1, Nat.le_trans (Nat.le_add_right n 6) hkn.2⟩
  refine zr_aload_n (pc' := 1699) cx rfl 1 dL_law_1698 rfl rfl ?_
  refine zc_L_184 (pc' := 1702) cx rfl ⟨Nat.le_of_ble_eq_true rfl, Nat.le_of_ble_eq_true rfl⟩ hkn0 (Nat.le_of_ble_eq_true rfl) dL_law_1699 (fun u1 => ?_)
  refine zr_dstore (pc' := 1704) cx rfl (lv' := [(5, .double u1), (0, .ref b), (1, .ref (zad Y 0)), (2, .ref (zad Y 400)), (3, .ref (zad Y 500)), (4, .int (i32 i))]) dL_law_1702 (by decide) rfl ?_
  refine zr_aload_n (pc' := 1705) cx rfl 3 dL_law_1704 rfl rfl ?_
  refine zc_L_188 (pc' := 1708) cx rfl ⟨Nat.le_of_ble_eq_true rfl, Nat.le_of_ble_eq_true rfl⟩ hkn0 (Nat.le_of_ble_eq_true rfl) dL_law_1705 (fun u2 g3 => ?_)
  refine zr_dstore (pc' := 1710) cx rfl (lv' := [(7, .double u2), (5, .double u1), (0, .ref b), (1, .ref (zad Y 0)), (2, .ref (zad Y 400)), (3, .ref (zad Y 500)), (4, .int (i32 i))]) dL_law_1708 (by decide) rfl ?_
  refine zr_dload (pc' := 1712) cx rfl 1 dL_law_1710 rfl ?_
  refine zr_dload (pc' := 1714) cx rfl 0 dL_law_1712 rfl ?_
  refine zr_dcmp (pc' := 1715) cx rfl dL_law_1714 ?_
  refine zr_if_eq (pc' := 1718) cx rfl (tgt := 1736) dL_law_1715 rfl ?_ ?_
  · refine zr_goto cx (tgt := 1753) dL_law_1736 rfl ?_
    refine zr_iinc (pc' := 1756) cx rfl (lv' := [(4, .int (i32 (i + 5))), (7, .double u2), (5, .double u1), (0, .ref b), (1, .ref (zad Y 0)), (2, .ref (zad Y 400)), (3, .ref (zad Y 500))]) 6 dL_law_1753 rfl (by decide) rfl ?_
    refine zr_goto cx (tgt := 23) dL_law_1756 rfl ?_
    refine zr_sub [3, 4, 5, 6, 0] rfl ?_
    exact hk _ _ (by omega) (by omega) g3 (i + 5)
  · refine zr_dload (pc' := 1720) cx rfl 1 dL_law_1718 rfl ?_
    refine zr_dload (pc' := 1722) cx rfl 1 dL_law_1720 rfl ?_
    refine zr_dcmp (pc' := 1723) cx rfl dL_law_1722 ?_
    refine zr_if_eq (pc' := 1726) cx rfl (tgt := 1734) dL_law_1723 rfl ?_ ?_
    · refine zr_iconst (pc' := 1735) cx rfl dL_law_1734 ?_
      exact zr_none
    · refine zr_dload (pc' := 1728) cx rfl 0 dL_law_1726 rfl ?_
      refine zr_dload (pc' := 1730) cx rfl 0 dL_law_1728 rfl ?_
      refine zr_dcmp (pc' := 1731) cx rfl dL_law_1730 ?_
      refine zr_if_ne (pc' := 1734) cx rfl (tgt := 1736) dL_law_1731 rfl ?_ ?_
      · refine zr_goto cx (tgt := 1753) dL_law_1736 rfl ?_
        refine zr_iinc (pc' := 1756) cx rfl (lv' := [(4, .int (i32 (i + 5))), (7, .double u2), (5, .double u1), (0, .ref b), (1, .ref (zad Y 0)), (2, .ref (zad Y 400)), (3, .ref (zad Y 500))]) 6 dL_law_1753 rfl (by decide) rfl ?_
        refine zr_goto cx (tgt := 23) dL_law_1756 rfl ?_
        refine zr_sub [3, 4, 5, 6, 0] rfl ?_
        exact hk _ _ (by omega) (by omega) g3 (i + 5)
      · refine zr_iconst (pc' := 1735) cx rfl dL_law_1734 ?_
        exact zr_none
def fL_case26 (xs : Nat → Int32) (L : Nat) (K : zSt → Int → Option Unit) (g : zSt) (i : Int) : Option Unit :=
    zbe (fX7_digest g) (fun h1 g2 =>
    zbe (fX8_digest g2) (fun h3 g4 =>
    (if i32 (zlc h1 h3) = i32 0 then
    K g4 (i + 5)
    else
    none)))
theorem wL_case26 (cx : zCx Y p s m #[Value.ref b] meth c RL cL_law 9 ret) (hl0 : l.stackTraces = false) (hX : va_X b L xs s s.heap) (hbl : b < s.heap.size) (hbA : ¬ zA Y b) (hL : L ≤ 2560) {k n : Nat} (hkn : k + 1 ≤ room_1.cells ∧ n + 6 ≤ room_1.slots) (K : zSt → Int → Option Unit) (hk : ∀ k' n' : Nat, k' ≤ k + 1 → n' ≤ n + 6 → ∀ (g : zSt) (i : Int), zLo Y p l e s m b below meth c k' n' g [(0, .ref b), (1, .ref (zad Y 0)), (2, .ref (zad Y 400)), (3, .ref (zad Y 500)), (4, .int (i32 i))] [] 23 (K g i)) (g : zSt) (i : Int) : zLo Y p l e s m b below meth c k n g [(0, .ref b), (1, .ref (zad Y 0)), (2, .ref (zad Y 400)), (3, .ref (zad Y 500)), (4, .int (i32 i))] [] 1739 (fL_case26 xs L K g i) := by
  unfold fL_case26
  have hkn1 := hkn
  have hkn0 : k ≤ room_1.cells ∧ n ≤ room_1.slots := ⟨Nat.le_of_succ_le hkn.1, Nat.le_trans (Nat.le_add_right n 6) hkn.2⟩
  refine zr_aload_n (pc' := 1740) cx rfl 1 dL_law_1739 rfl rfl ?_
  refine zc_L_189 (pc' := 1743) cx rfl ⟨Nat.le_of_ble_eq_true rfl, Nat.le_of_ble_eq_true rfl⟩ hkn0 (Nat.le_of_ble_eq_true rfl) dL_law_1740 (fun h1 g2 => ?_)
  refine zr_aload_n (pc' := 1744) cx rfl 2 dL_law_1743 rfl rfl ?_
  refine zc_L_193 (pc' := 1747) cx rfl ⟨Nat.le_of_ble_eq_true rfl, Nat.le_of_ble_eq_true rfl⟩ hkn0 (Nat.le_of_ble_eq_true rfl) dL_law_1744 (fun h3 g4 => ?_)
  refine zr_lcmp (pc' := 1748) cx rfl dL_law_1747 ?_
  refine zr_if_eq (pc' := 1751) cx rfl (tgt := 1753) dL_law_1748 rfl ?_ ?_
  · refine zr_iinc (pc' := 1756) cx rfl (lv' := [(4, .int (i32 (i + 5))), (0, .ref b), (1, .ref (zad Y 0)), (2, .ref (zad Y 400)), (3, .ref (zad Y 500))]) 4 dL_law_1753 rfl (by decide) rfl ?_
    refine zr_goto cx (tgt := 23) dL_law_1756 rfl ?_
    refine zr_sub [1, 2, 3, 4, 0] rfl ?_
    exact hk _ _ (by omega) (by omega) g4 (i + 5)
  · refine zr_iconst (pc' := 1752) cx rfl dL_law_1751 ?_
    exact zr_none
def fL_p23 (xs : Nat → Int32) (L : Nat) : Nat → zSt → Int → Option Unit
  | 0, _, _ => none
  | fu + 1, g, i => (if i32 ((L : Int) - 5) < i32 i then some () else zck ((0 : Int) ≤ i ∧ i < L) (
(if i32 (zan (zsc xs i) 31) = i32 0 then fL_case0 xs L (fL_p23 xs L fu) g i else 
(if i32 (zan (zsc xs i) 31) = i32 1 then fL_case1 xs L (fL_p23 xs L fu) g i else 
(if i32 (zan (zsc xs i) 31) = i32 2 then fL_case2 xs L (fL_p23 xs L fu) g i else 
(if i32 (zan (zsc xs i) 31) = i32 3 then fL_case3 xs L (fL_p23 xs L fu) g i else 
(if i32 (zan (zsc xs i) 31) = i32 4 then fL_case4 xs L (fL_p23 xs L fu) g i else 
(if i32 (zan (zsc xs i) 31) = i32 5 then fL_case5 xs L (fL_p23 xs L fu) g i else 
(if i32 (zan (zsc xs i) 31) = i32 6 then fL_case6 xs L (fL_p23 xs L fu) g i else 
(if i32 (zan (zsc xs i) 31) = i32 7 then fL_case7 xs L (fL_p23 xs L fu) g i else 
(if i32 (zan (zsc xs i) 31) = i32 8 then fL_case8 xs L (fL_p23 xs L fu) g i else 
(if i32 (zan (zsc xs i) 31) = i32 9 then fL_case9 xs L (fL_p23 xs L fu) g i else 
(if i32 (zan (zsc xs i) 31) = i32 10 then fL_case10 xs L (fL_p23 xs L fu) g i else 
(if i32 (zan (zsc xs i) 31) = i32 11 then fL_case11 xs L (fL_p23 xs L fu) g i else 
(if i32 (zan (zsc xs i) 31) = i32 12 then fL_case12 xs L (fL_p23 xs L fu) g i else 
(if i32 (zan (zsc xs i) 31) = i32 13 then fL_case13 xs L (fL_p23 xs L fu) g i else 
(if i32 (zan (zsc xs i) 31) = i32 14 then fL_case14 xs L (fL_p23 xs L fu) g i else 
(if i32 (zan (zsc xs i) 31) = i32 15 then fL_case15 xs L (fL_p23 xs L fu) g i else 
(if i32 (zan (zsc xs i) 31) = i32 16 then fL_case16 xs L (fL_p23 xs L fu) g i else 
(if i32 (zan (zsc xs i) 31) = i32 17 then fL_case17 xs L (fL_p23 xs L fu) g i else 
(if i32 (zan (zsc xs i) 31) = i32 18 then fL_case18 xs L (fL_p23 xs L fu) g i else 
(if i32 (zan (zsc xs i) 31) = i32 19 then fL_case19 xs L (fL_p23 xs L fu) g i else 
(if i32 (zan (zsc xs i) 31) = i32 20 then fL_case20 xs L (fL_p23 xs L fu) g i else 
(if i32 (zan (zsc xs i) 31) = i32 21 then fL_case21 xs L (fL_p23 xs L fu) g i else 
(if i32 (zan (zsc xs i) 31) = i32 22 then fL_case22 xs L (fL_p23 xs L fu) g i else 
(if i32 (zan (zsc xs i) 31) = i32 23 then fL_case23 xs L (fL_p23 xs L fu) g i else 
(if i32 (zan (zsc xs i) 31) = i32 24 then fL_case24 xs L (fL_p23 xs L fu) g i else 
(if i32 (zan (zsc xs i) 31) = i32 25 then fL_case25 xs L (fL_p23 xs L fu) g i else 
(if i32 (zan (zsc xs i) 31) = i32 26 then fL_case26 xs L (fL_p23 xs L fu) g i else 
fL_p23 xs L fu g (i + 5))))))))))))))))))))))))))))))
theorem wL_p23 (cx : zCx Y p s m #[Value.ref b] meth c RL cL_law 9 ret) (hl0 : l.stackTraces = false) (hX : va_X b L xs s s.heap) (hbl : b < s.heap.size) (hbA : ¬ zA Y b) (hL : L ≤ 2560) (hlw : meth.locks = false) (hnew : ∀ q : Nat, zA Y q → s.heap.size ≤ q) : ∀ (fu k n : Nat), k + fu ≤ 601024 → n + 6 * fu ≤ 7293034 → ∀ (g : zSt) (i : Int), zLo Y p l e s m b below meth c k n g [(0, .ref b), (1, .ref (zad Y 0)), (2, .ref (zad Y 400)), (3, .ref (zad Y 500)), (4, .int (i32 i))] [] 23 (fL_p23 xs L fu g i) := by
  intro fu
  induction fu with
  | zero => intro k n hk hn g i; exact zr_none
  | succ fu ih =>
    intro k n hk hn g i
    rw [fL_p23]
    have hkn : k + 1 ≤ room_1.cells ∧ n + 6 ≤ room_1.slots := ⟨by show k + 1 ≤ 601024; omega, by show n + 6 ≤ 7293034; omega⟩
    have hk2 : ∀ k' n' : Nat, k' ≤ k + 1 → n' ≤ n + 6 → ∀ (g : zSt) (i : Int), zLo Y p l e s m b below meth c k' n' g [(0, .ref b), (1, .ref (zad Y 0)), (2, .ref (zad Y 400)), (3, .ref (zad Y 500)), (4, .int (i32 i))] [] 23 (fL_p23 xs L fu g i) := fun k' n' h1 h2 g i => ih k' n' (by omega) (by omega) g i
    refine zr_iload (pc' := 25) cx rfl 4 dL_law_23 rfl ?_
    refine zr_aload_n (pc' := 26) cx rfl 0 dL_law_25 rfl rfl ?_
    refine zr_slen (pc' := 27) cx rfl hX hbl hbA dL_law_26 ?_
    refine zr_iconst (pc' := 28) cx rfl dL_law_27 ?_
    refine zr_isub (pc' := 29) cx rfl dL_law_28 ?_
    refine zr_icmp_gt (pc' := 32) cx rfl (tgt := 1759) dL_law_29 rfl ?_ ?_
    · refine zr_iconst (pc' := 1760) cx rfl dL_law_1759 ?_
      exact zr_true cx hlw hnew (by omega) (by omega) dL_law_1760
    refine zr_aload_n (pc' := 33) cx rfl 0 dL_law_32 rfl rfl ?_
    refine zr_iload (pc' := 35) cx rfl 4 dL_law_33 rfl ?_
    refine zr_sld (pc' := 36) cx rfl hX hbl hbA hL dL_law_35 ?_
    refine zr_bipush (pc' := 38) cx rfl dL_law_36 (by decide +kernel) ?_
    refine zr_iand (pc' := 39) cx rfl dL_law_38 ?_
    refine zr_case (fun h => ?_) (fun n0 => ?_)
    · refine zr_tabIn cx (off := 121) (tgt := 160) dL_law_39 (v := 0) (by rw [h]; decide +kernel) (by decide) rfl rfl ?_
      exact wL_case0 cx hl0 hX hbl hbA hL hkn _ hk2 g i
    refine zr_case (fun h => ?_) (fun n1 => ?_)
    · refine zr_tabIn cx (off := 229) (tgt := 268) dL_law_39 (v := 1) (by rw [h]; decide +kernel) (by decide) rfl rfl ?_
      exact wL_case1 cx hl0 hX hbl hbA hL hkn _ hk2 g i
    refine zr_case (fun h => ?_) (fun n2 => ?_)
    · refine zr_tabIn cx (off := 285) (tgt := 324) dL_law_39 (v := 2) (by rw [h]; decide +kernel) (by decide) rfl rfl ?_
      exact wL_case2 cx hl0 hX hbl hbA hL hkn _ hk2 g i
    refine zr_case (fun h => ?_) (fun n3 => ?_)
    · refine zr_tabIn cx (off := 341) (tgt := 380) dL_law_39 (v := 3) (by rw [h]; decide +kernel) (by decide) rfl rfl ?_
      exact wL_case3 cx hl0 hX hbl hbA hL hkn _ hk2 g i
    refine zr_case (fun h => ?_) (fun n4 => ?_)
    · refine zr_tabIn cx (off := 421) (tgt := 460) dL_law_39 (v := 4) (by rw [h]; decide +kernel) (by decide) rfl rfl ?_
      exact wL_case4 cx hl0 hX hbl hbA hL hkn _ hk2 g i
    refine zr_case (fun h => ?_) (fun n5 => ?_)
    · refine zr_tabIn cx (off := 477) (tgt := 516) dL_law_39 (v := 5) (by rw [h]; decide +kernel) (by decide) rfl rfl ?_
      exact wL_case5 cx hl0 hX hbl hbA hL hkn _ hk2 g i
    refine zr_case (fun h => ?_) (fun n6 => ?_)
    · refine zr_tabIn cx (off := 573) (tgt := 612) dL_law_39 (v := 6) (by rw [h]; decide +kernel) (by decide) rfl rfl ?_
      exact wL_case6 cx hl0 hX hbl hbA hL hkn _ hk2 g i
    refine zr_case (fun h => ?_) (fun n7 => ?_)
    · refine zr_tabIn cx (off := 629) (tgt := 668) dL_law_39 (v := 7) (by rw [h]; decide +kernel) (by decide) rfl rfl ?_
      exact wL_case7 cx hl0 hX hbl hbA hL hkn _ hk2 g i
    refine zr_case (fun h => ?_) (fun n8 => ?_)
    · refine zr_tabIn cx (off := 709) (tgt := 748) dL_law_39 (v := 8) (by rw [h]; decide +kernel) (by decide) rfl rfl ?_
      exact wL_case8 cx hl0 hX hbl hbA hL hkn _ hk2 g i
    refine zr_case (fun h => ?_) (fun n9 => ?_)
    · refine zr_tabIn cx (off := 765) (tgt := 804) dL_law_39 (v := 9) (by rw [h]; decide +kernel) (by decide) rfl rfl ?_
      exact wL_case9 cx hl0 hX hbl hbA hL hkn _ hk2 g i
    refine zr_case (fun h => ?_) (fun n10 => ?_)
    · refine zr_tabIn cx (off := 821) (tgt := 860) dL_law_39 (v := 10) (by rw [h]; decide +kernel) (by decide) rfl rfl ?_
      exact wL_case10 cx hl0 hX hbl hbA hL hkn _ hk2 g i
    refine zr_case (fun h => ?_) (fun n11 => ?_)
    · refine zr_tabIn cx (off := 877) (tgt := 916) dL_law_39 (v := 11) (by rw [h]; decide +kernel) (by decide) rfl rfl ?_
      exact wL_case11 cx hl0 hX hbl hbA hL hkn _ hk2 g i
    refine zr_case (fun h => ?_) (fun n12 => ?_)
    · refine zr_tabIn cx (off := 890) (tgt := 929) dL_law_39 (v := 12) (by rw [h]; decide +kernel) (by decide) rfl rfl ?_
      exact wL_case12 cx hl0 hX hbl hbA hL hkn _ hk2 g i
    refine zr_case (fun h => ?_) (fun n13 => ?_)
    · refine zr_tabIn cx (off := 903) (tgt := 942) dL_law_39 (v := 13) (by rw [h]; decide +kernel) (by decide) rfl rfl ?_
      exact wL_case13 cx hl0 hX hbl hbA hL hkn _ hk2 g i
    refine zr_case (fun h => ?_) (fun n14 => ?_)
    · refine zr_tabIn cx (off := 947) (tgt := 986) dL_law_39 (v := 14) (by rw [h]; decide +kernel) (by decide) rfl rfl ?_
      exact wL_case14 cx hl0 hX hbl hbA hL hkn _ hk2 g i
    refine zr_case (fun h => ?_) (fun n15 => ?_)
    · refine zr_tabIn cx (off := 991) (tgt := 1030) dL_law_39 (v := 15) (by rw [h]; decide +kernel) (by decide) rfl rfl ?_
      exact wL_case15 cx hl0 hX hbl hbA hL hkn _ hk2 g i
    refine zr_case (fun h => ?_) (fun n16 => ?_)
    · refine zr_tabIn cx (off := 1059) (tgt := 1098) dL_law_39 (v := 16) (by rw [h]; decide +kernel) (by decide) rfl rfl ?_
      exact wL_case16 cx hl0 hX hbl hbA hL hkn _ hk2 g i
    refine zr_case (fun h => ?_) (fun n17 => ?_)
    · refine zr_tabIn cx (off := 1139) (tgt := 1178) dL_law_39 (v := 17) (by rw [h]; decide +kernel) (by decide) rfl rfl ?_
      exact wL_case17 cx hl0 hX hbl hbA hL hkn _ hk2 g i
    refine zr_case (fun h => ?_) (fun n18 => ?_)
    · refine zr_tabIn cx (off := 1207) (tgt := 1246) dL_law_39 (v := 18) (by rw [h]; decide +kernel) (by decide) rfl rfl ?_
      exact wL_case18 cx hl0 hX hbl hbA hL hkn _ hk2 g i
    refine zr_case (fun h => ?_) (fun n19 => ?_)
    · refine zr_tabIn cx (off := 1275) (tgt := 1314) dL_law_39 (v := 19) (by rw [h]; decide +kernel) (by decide) rfl rfl ?_
      exact wL_case19 cx hl0 hX hbl hbA hL hkn _ hk2 g i
    refine zr_case (fun h => ?_) (fun n20 => ?_)
    · refine zr_tabIn cx (off := 1331) (tgt := 1370) dL_law_39 (v := 20) (by rw [h]; decide +kernel) (by decide) rfl rfl ?_
      exact wL_case20 cx hl0 hX hbl hbA hL hkn _ hk2 g i
    refine zr_case (fun h => ?_) (fun n21 => ?_)
    · refine zr_tabIn cx (off := 1387) (tgt := 1426) dL_law_39 (v := 21) (by rw [h]; decide +kernel) (by decide) rfl rfl ?_
      exact wL_case21 cx hl0 hX hbl hbA hL hkn _ hk2 g i
    refine zr_case (fun h => ?_) (fun n22 => ?_)
    · refine zr_tabIn cx (off := 1443) (tgt := 1482) dL_law_39 (v := 22) (by rw [h]; decide +kernel) (by decide) rfl rfl ?_
      exact wL_case22 cx hl0 hX hbl hbA hL hkn _ hk2 g i
    refine zr_case (fun h => ?_) (fun n23 => ?_)
    · refine zr_tabIn cx (off := 1535) (tgt := 1574) dL_law_39 (v := 23) (by rw [h]; decide +kernel) (by decide) rfl rfl ?_
      exact wL_case23 cx hl0 hX hbl hbA hL hkn _ hk2 g i
    refine zr_case (fun h => ?_) (fun n24 => ?_)
    · refine zr_tabIn cx (off := 1591) (tgt := 1630) dL_law_39 (v := 24) (by rw [h]; decide +kernel) (by decide) rfl rfl ?_
      exact wL_case24 cx hl0 hX hbl hbA hL hkn _ hk2 g i
    refine zr_case (fun h => ?_) (fun n25 => ?_)
    · refine zr_tabIn cx (off := 1659) (tgt := 1698) dL_law_39 (v := 25) (by rw [h]; decide +kernel) (by decide) rfl rfl ?_
      exact wL_case25 cx hl0 hX hbl hbA hL hkn _ hk2 g i
    refine zr_case (fun h => ?_) (fun n26 => ?_)
    · refine zr_tabIn cx (off := 1700) (tgt := 1739) dL_law_39 (v := 26) (by rw [h]; decide +kernel) (by decide) rfl rfl ?_
      exact wL_case26 cx hl0 hX hbl hbA hL hkn _ hk2 g i
    refine zr_tabOut cx (tgt := 1753) dL_law_39 (by have := zne n0 (k := 0) (by decide +kernel); have := zne n1 (k := 1) (by decide +kernel); have := zne n2 (k := 2) (by decide +kernel); have := zne n3 (k := 3) (by decide +kernel); have := zne n4 (k := 4) (by decide +kernel); have := zne n5 (k := 5) (by decide +kernel); have := zne n6 (k := 6) (by decide +kernel); have := zne n7 (k := 7) (by decide +kernel); have := zne n8 (k := 8) (by decide +kernel); have := zne n9 (k := 9) (by decide +kernel); have := zne n10 (k := 10) (by decide +kernel); have := zne n11 (k := 11) (by decide +kernel); have := zne n12 (k := 12) (by decide +kernel); have := zne n13 (k := 13) (by decide +kernel); have := zne n14 (k := 14) (by decide +kernel); have := zne n15 (k := 15) (by decide +kernel); have := zne n16 (k := 16) (by decide +kernel); have := zne n17 (k := 17) (by decide +kernel); have := zne n18 (k := 18) (by decide +kernel); have := zne n19 (k := 19) (by decide +kernel); have := zne n20 (k := 20) (by decide +kernel); have := zne n21 (k := 21) (by decide +kernel); have := zne n22 (k := 22) (by decide +kernel); have := zne n23 (k := 23) (by decide +kernel); have := zne n24 (k := 24) (by decide +kernel); have := zne n25 (k := 25) (by decide +kernel); have := zne n26 (k := 26) (by decide +kernel); omega) rfl ?_
    refine zr_iinc (pc' := 1756) cx rfl (lv' := [(4, .int (i32 (i + 5))), (0, .ref b), (1, .ref (zad Y 0)), (2, .ref (zad Y 400)), (3, .ref (zad Y 500))]) 4 dL_law_1753 rfl (by decide) rfl ?_
    refine zr_goto cx (tgt := 23) dL_law_1756 rfl ?_
    refine zr_sub [1, 2, 3, 4, 0] rfl ?_
    exact hk2 _ _ (by omega) (by omega) g (i + 5)
end ZLAW
