section ZFIELDS
theorem zk1_1 {c : Nat} (h : zK c = 1) : zK (c + 1) = 10 := (zK_all (P := fun c => zK c = 1 → zK (c + 1) = 10) (by decide +kernel) (c := c) (by omega)) h
theorem zk1_2 {c : Nat} (h : zK c = 1) : zK (c + 2) = 20 := (zK_all (P := fun c => zK c = 1 → zK (c + 2) = 20) (by decide +kernel) (c := c) (by omega)) h
theorem zk1_3 {c : Nat} (h : zK c = 1) : zK (c + 3) = 20 := (zK_all (P := fun c => zK c = 1 → zK (c + 3) = 20) (by decide +kernel) (c := c) (by omega)) h
theorem zk1_4 {c : Nat} (h : zK c = 1) : zK (c + 4) = 11 := (zK_all (P := fun c => zK c = 1 → zK (c + 4) = 11) (by decide +kernel) (c := c) (by omega)) h
theorem zk1_5 {c : Nat} (h : zK c = 1) : zK (c + 5) = 21 := (zK_all (P := fun c => zK c = 1 → zK (c + 5) = 21) (by decide +kernel) (c := c) (by omega)) h
theorem zk2_1 {c : Nat} (h : zK c = 2) : zK (c + 1) = 13 := (zK_all (P := fun c => zK c = 2 → zK (c + 1) = 13) (by decide +kernel) (c := c) (by omega)) h
theorem zk2_2 {c : Nat} (h : zK c = 2) : zK (c + 2) = 13 := (zK_all (P := fun c => zK c = 2 → zK (c + 2) = 13) (by decide +kernel) (c := c) (by omega)) h
theorem zk2_3 {c : Nat} (h : zK c = 2) : zK (c + 3) = 13 := (zK_all (P := fun c => zK c = 2 → zK (c + 3) = 13) (by decide +kernel) (c := c) (by omega)) h
theorem zk4_1 {c : Nat} (h : zK c = 4) : zK (c + 1) = 12 := (zK_all (P := fun c => zK c = 4 → zK (c + 1) = 12) (by decide +kernel) (c := c) (by omega)) h
theorem zk4_2 {c : Nat} (h : zK c = 4) : zK (c + 2) = 12 := (zK_all (P := fun c => zK c = 4 → zK (c + 2) = 12) (by decide +kernel) (c := c) (by omega)) h
theorem zk4_3 {c : Nat} (h : zK c = 4) : zK (c + 3) = 22 := (zK_all (P := fun c => zK c = 4 → zK (c + 3) = 22) (by decide +kernel) (c := c) (by omega)) h
theorem zk6_1 {c : Nat} (h : zK c = 6) : zK (c + 1) = 1 := (zK_all (P := fun c => zK c = 6 → zK (c + 1) = 1) (by decide +kernel) (c := c) (by omega)) h
theorem zk6_2 {c : Nat} (h : zK c = 6) : zK (c + 2) = 10 := (zK_all (P := fun c => zK c = 6 → zK (c + 2) = 10) (by decide +kernel) (c := c) (by omega)) h
theorem zk6_3 {c : Nat} (h : zK c = 6) : zK (c + 3) = 20 := (zK_all (P := fun c => zK c = 6 → zK (c + 3) = 20) (by decide +kernel) (c := c) (by omega)) h
theorem zk6_4 {c : Nat} (h : zK c = 6) : zK (c + 4) = 20 := (zK_all (P := fun c => zK c = 6 → zK (c + 4) = 20) (by decide +kernel) (c := c) (by omega)) h
theorem zk6_5 {c : Nat} (h : zK c = 6) : zK (c + 5) = 11 := (zK_all (P := fun c => zK c = 6 → zK (c + 5) = 11) (by decide +kernel) (c := c) (by omega)) h
theorem zk6_6 {c : Nat} (h : zK c = 6) : zK (c + 6) = 21 := (zK_all (P := fun c => zK c = 6 → zK (c + 6) = 21) (by decide +kernel) (c := c) (by omega)) h
theorem zk6_7 {c : Nat} (h : zK c = 6) : zK (c + 7) = 4 := (zK_all (P := fun c => zK c = 6 → zK (c + 7) = 4) (by decide +kernel) (c := c) (by omega)) h
theorem zk6_8 {c : Nat} (h : zK c = 6) : zK (c + 8) = 12 := (zK_all (P := fun c => zK c = 6 → zK (c + 8) = 12) (by decide +kernel) (c := c) (by omega)) h
theorem zk6_9 {c : Nat} (h : zK c = 6) : zK (c + 9) = 12 := (zK_all (P := fun c => zK c = 6 → zK (c + 9) = 12) (by decide +kernel) (c := c) (by omega)) h
theorem zk6_10 {c : Nat} (h : zK c = 6) : zK (c + 10) = 22 := (zK_all (P := fun c => zK c = 6 → zK (c + 10) = 22) (by decide +kernel) (c := c) (by omega)) h
theorem zk6_11 {c : Nat} (h : zK c = 6) : zK (c + 11) = 2 := (zK_all (P := fun c => zK c = 6 → zK (c + 11) = 2) (by decide +kernel) (c := c) (by omega)) h
theorem zk6_12 {c : Nat} (h : zK c = 6) : zK (c + 12) = 13 := (zK_all (P := fun c => zK c = 6 → zK (c + 12) = 13) (by decide +kernel) (c := c) (by omega)) h
theorem zk6_13 {c : Nat} (h : zK c = 6) : zK (c + 13) = 13 := (zK_all (P := fun c => zK c = 6 → zK (c + 13) = 13) (by decide +kernel) (c := c) (by omega)) h
theorem zk6_14 {c : Nat} (h : zK c = 6) : zK (c + 14) = 13 := (zK_all (P := fun c => zK c = 6 → zK (c + 14) = 13) (by decide +kernel) (c := c) (by omega)) h
theorem zk7_1 {c : Nat} (h : zK c = 7) : zK (c + 1) = 10 := (zK_all (P := fun c => zK c = 7 → zK (c + 1) = 10) (by decide +kernel) (c := c) (by omega)) h
theorem zk7_2 {c : Nat} (h : zK c = 7) : zK (c + 2) = 10 := (zK_all (P := fun c => zK c = 7 → zK (c + 2) = 10) (by decide +kernel) (c := c) (by omega)) h
theorem zk7_3 {c : Nat} (h : zK c = 7) : zK (c + 3) = 20 := (zK_all (P := fun c => zK c = 7 → zK (c + 3) = 20) (by decide +kernel) (c := c) (by omega)) h
theorem zk7_4 {c : Nat} (h : zK c = 7) : zK (c + 4) = 21 := (zK_all (P := fun c => zK c = 7 → zK (c + 4) = 21) (by decide +kernel) (c := c) (by omega)) h
theorem zk7_5 {c : Nat} (h : zK c = 7) : zK (c + 5) = 11 := (zK_all (P := fun c => zK c = 7 → zK (c + 5) = 11) (by decide +kernel) (c := c) (by omega)) h
theorem zk7_6 {c : Nat} (h : zK c = 7) : zK (c + 6) = 22 := (zK_all (P := fun c => zK c = 7 → zK (c + 6) = 22) (by decide +kernel) (c := c) (by omega)) h
theorem zk7_7 {c : Nat} (h : zK c = 7) : zK (c + 7) = 13 := (zK_all (P := fun c => zK c = 7 → zK (c + 7) = 13) (by decide +kernel) (c := c) (by omega)) h
theorem zk7_8 {c : Nat} (h : zK c = 7) : zK (c + 8) = 10 := (zK_all (P := fun c => zK c = 7 → zK (c + 8) = 10) (by decide +kernel) (c := c) (by omega)) h
theorem zk7_9 {c : Nat} (h : zK c = 7) : zK (c + 9) = 11 := (zK_all (P := fun c => zK c = 7 → zK (c + 9) = 11) (by decide +kernel) (c := c) (by omega)) h
theorem zk7_10 {c : Nat} (h : zK c = 7) : zK (c + 10) = 11 := (zK_all (P := fun c => zK c = 7 → zK (c + 10) = 11) (by decide +kernel) (c := c) (by omega)) h
theorem zkc_0 : zK 0 = 8 := by decide +kernel
theorem zkc_10 : zK 10 = 6 := by decide +kernel
theorem zkc_11 : zK 11 = 1 := by decide +kernel
theorem zkc_12 : zK 12 = 10 := by decide +kernel
theorem zkc_13 : zK 13 = 20 := by decide +kernel
theorem zkc_14 : zK 14 = 20 := by decide +kernel
theorem zkc_15 : zK 15 = 11 := by decide +kernel
theorem zkc_16 : zK 16 = 21 := by decide +kernel
theorem zkc_17 : zK 17 = 4 := by decide +kernel
theorem zkc_18 : zK 18 = 12 := by decide +kernel
theorem zkc_19 : zK 19 = 12 := by decide +kernel
theorem zkc_20 : zK 20 = 22 := by decide +kernel
theorem zkc_21 : zK 21 = 2 := by decide +kernel
theorem zkc_22 : zK 22 = 13 := by decide +kernel
theorem zkc_23 : zK 23 = 13 := by decide +kernel
theorem zkc_24 : zK 24 = 13 := by decide +kernel
theorem zkc_30 : zK 30 = 6 := by decide +kernel
theorem zkc_31 : zK 31 = 1 := by decide +kernel
theorem zkc_32 : zK 32 = 10 := by decide +kernel
theorem zkc_33 : zK 33 = 20 := by decide +kernel
theorem zkc_34 : zK 34 = 20 := by decide +kernel
theorem zkc_35 : zK 35 = 11 := by decide +kernel
theorem zkc_36 : zK 36 = 21 := by decide +kernel
theorem zkc_37 : zK 37 = 4 := by decide +kernel
theorem zkc_38 : zK 38 = 12 := by decide +kernel
theorem zkc_39 : zK 39 = 12 := by decide +kernel
theorem zkc_40 : zK 40 = 22 := by decide +kernel
theorem zkc_41 : zK 41 = 2 := by decide +kernel
theorem zkc_42 : zK 42 = 13 := by decide +kernel
theorem zkc_43 : zK 43 = 13 := by decide +kernel
theorem zkc_44 : zK 44 = 13 := by decide +kernel
theorem zkc_50 : zK 50 = 6 := by decide +kernel
theorem zkc_51 : zK 51 = 1 := by decide +kernel
theorem zkc_52 : zK 52 = 10 := by decide +kernel
theorem zkc_53 : zK 53 = 20 := by decide +kernel
theorem zkc_54 : zK 54 = 20 := by decide +kernel
theorem zkc_55 : zK 55 = 11 := by decide +kernel
theorem zkc_56 : zK 56 = 21 := by decide +kernel
theorem zkc_57 : zK 57 = 4 := by decide +kernel
theorem zkc_58 : zK 58 = 12 := by decide +kernel
theorem zkc_59 : zK 59 = 12 := by decide +kernel
theorem zkc_60 : zK 60 = 22 := by decide +kernel
theorem zkc_61 : zK 61 = 2 := by decide +kernel
theorem zkc_62 : zK 62 = 13 := by decide +kernel
theorem zkc_63 : zK 63 = 13 := by decide +kernel
theorem zkc_64 : zK 64 = 13 := by decide +kernel
theorem zkc_70 : zK 70 = 6 := by decide +kernel
theorem zkc_71 : zK 71 = 1 := by decide +kernel
theorem zkc_72 : zK 72 = 10 := by decide +kernel
theorem zkc_73 : zK 73 = 20 := by decide +kernel
theorem zkc_74 : zK 74 = 20 := by decide +kernel
theorem zkc_75 : zK 75 = 11 := by decide +kernel
theorem zkc_76 : zK 76 = 21 := by decide +kernel
theorem zkc_77 : zK 77 = 4 := by decide +kernel
theorem zkc_78 : zK 78 = 12 := by decide +kernel
theorem zkc_79 : zK 79 = 12 := by decide +kernel
theorem zkc_80 : zK 80 = 22 := by decide +kernel
theorem zkc_81 : zK 81 = 2 := by decide +kernel
theorem zkc_82 : zK 82 = 13 := by decide +kernel
theorem zkc_83 : zK 83 = 13 := by decide +kernel
theorem zkc_84 : zK 84 = 13 := by decide +kernel
theorem zkc_90 : zK 90 = 6 := by decide +kernel
theorem zkc_91 : zK 91 = 1 := by decide +kernel
theorem zkc_92 : zK 92 = 10 := by decide +kernel
theorem zkc_93 : zK 93 = 20 := by decide +kernel
theorem zkc_94 : zK 94 = 20 := by decide +kernel
theorem zkc_95 : zK 95 = 11 := by decide +kernel
theorem zkc_96 : zK 96 = 21 := by decide +kernel
theorem zkc_97 : zK 97 = 4 := by decide +kernel
theorem zkc_98 : zK 98 = 12 := by decide +kernel
theorem zkc_99 : zK 99 = 12 := by decide +kernel
theorem zkc_100 : zK 100 = 22 := by decide +kernel
theorem zkc_101 : zK 101 = 2 := by decide +kernel
theorem zkc_102 : zK 102 = 13 := by decide +kernel
theorem zkc_103 : zK 103 = 13 := by decide +kernel
theorem zkc_104 : zK 104 = 13 := by decide +kernel
theorem zkc_110 : zK 110 = 6 := by decide +kernel
theorem zkc_111 : zK 111 = 1 := by decide +kernel
theorem zkc_112 : zK 112 = 10 := by decide +kernel
theorem zkc_113 : zK 113 = 20 := by decide +kernel
theorem zkc_114 : zK 114 = 20 := by decide +kernel
theorem zkc_115 : zK 115 = 11 := by decide +kernel
theorem zkc_116 : zK 116 = 21 := by decide +kernel
theorem zkc_117 : zK 117 = 4 := by decide +kernel
theorem zkc_118 : zK 118 = 12 := by decide +kernel
theorem zkc_119 : zK 119 = 12 := by decide +kernel
theorem zkc_120 : zK 120 = 22 := by decide +kernel
theorem zkc_121 : zK 121 = 2 := by decide +kernel
theorem zkc_122 : zK 122 = 13 := by decide +kernel
theorem zkc_123 : zK 123 = 13 := by decide +kernel
theorem zkc_124 : zK 124 = 13 := by decide +kernel
theorem zkc_130 : zK 130 = 6 := by decide +kernel
theorem zkc_131 : zK 131 = 1 := by decide +kernel
theorem zkc_132 : zK 132 = 10 := by decide +kernel
theorem zkc_133 : zK 133 = 20 := by decide +kernel
theorem zkc_134 : zK 134 = 20 := by decide +kernel
theorem zkc_135 : zK 135 = 11 := by decide +kernel
theorem zkc_136 : zK 136 = 21 := by decide +kernel
theorem zkc_137 : zK 137 = 4 := by decide +kernel
theorem zkc_138 : zK 138 = 12 := by decide +kernel
theorem zkc_139 : zK 139 = 12 := by decide +kernel
theorem zkc_140 : zK 140 = 22 := by decide +kernel
theorem zkc_141 : zK 141 = 2 := by decide +kernel
theorem zkc_142 : zK 142 = 13 := by decide +kernel
theorem zkc_143 : zK 143 = 13 := by decide +kernel
theorem zkc_144 : zK 144 = 13 := by decide +kernel
theorem zkc_150 : zK 150 = 6 := by decide +kernel
theorem zkc_151 : zK 151 = 1 := by decide +kernel
theorem zkc_152 : zK 152 = 10 := by decide +kernel
theorem zkc_153 : zK 153 = 20 := by decide +kernel
theorem zkc_154 : zK 154 = 20 := by decide +kernel
theorem zkc_155 : zK 155 = 11 := by decide +kernel
theorem zkc_156 : zK 156 = 21 := by decide +kernel
theorem zkc_157 : zK 157 = 4 := by decide +kernel
theorem zkc_158 : zK 158 = 12 := by decide +kernel
theorem zkc_159 : zK 159 = 12 := by decide +kernel
theorem zkc_160 : zK 160 = 22 := by decide +kernel
theorem zkc_161 : zK 161 = 2 := by decide +kernel
theorem zkc_162 : zK 162 = 13 := by decide +kernel
theorem zkc_163 : zK 163 = 13 := by decide +kernel
theorem zkc_164 : zK 164 = 13 := by decide +kernel
theorem zkc_200 : zK 200 = 7 := by decide +kernel
theorem zkc_201 : zK 201 = 10 := by decide +kernel
theorem zkc_202 : zK 202 = 10 := by decide +kernel
theorem zkc_203 : zK 203 = 20 := by decide +kernel
theorem zkc_204 : zK 204 = 21 := by decide +kernel
theorem zkc_205 : zK 205 = 11 := by decide +kernel
theorem zkc_206 : zK 206 = 22 := by decide +kernel
theorem zkc_207 : zK 207 = 13 := by decide +kernel
theorem zkc_208 : zK 208 = 10 := by decide +kernel
theorem zkc_209 : zK 209 = 11 := by decide +kernel
theorem zkc_210 : zK 210 = 11 := by decide +kernel
theorem zkc_220 : zK 220 = 7 := by decide +kernel
theorem zkc_221 : zK 221 = 10 := by decide +kernel
theorem zkc_222 : zK 222 = 10 := by decide +kernel
theorem zkc_223 : zK 223 = 20 := by decide +kernel
theorem zkc_224 : zK 224 = 21 := by decide +kernel
theorem zkc_225 : zK 225 = 11 := by decide +kernel
theorem zkc_226 : zK 226 = 22 := by decide +kernel
theorem zkc_227 : zK 227 = 13 := by decide +kernel
theorem zkc_228 : zK 228 = 10 := by decide +kernel
theorem zkc_229 : zK 229 = 11 := by decide +kernel
theorem zkc_230 : zK 230 = 11 := by decide +kernel
theorem zkc_240 : zK 240 = 7 := by decide +kernel
theorem zkc_241 : zK 241 = 10 := by decide +kernel
theorem zkc_242 : zK 242 = 10 := by decide +kernel
theorem zkc_243 : zK 243 = 20 := by decide +kernel
theorem zkc_244 : zK 244 = 21 := by decide +kernel
theorem zkc_245 : zK 245 = 11 := by decide +kernel
theorem zkc_246 : zK 246 = 22 := by decide +kernel
theorem zkc_247 : zK 247 = 13 := by decide +kernel
theorem zkc_248 : zK 248 = 10 := by decide +kernel
theorem zkc_249 : zK 249 = 11 := by decide +kernel
theorem zkc_250 : zK 250 = 11 := by decide +kernel
theorem zkc_300 : zK 300 = 3 := by decide +kernel
theorem zkc_301 : zK 301 = 30 := by decide +kernel
theorem zkc_310 : zK 310 = 5 := by decide +kernel
theorem zkc_311 : zK 311 = 14 := by decide +kernel
theorem zkc_320 : zK 320 = 15 := by decide +kernel
theorem zkc_400 : zK 400 = 9 := by decide +kernel
theorem zkc_401 : zK 401 = 16 := by decide +kernel
theorem zkc_402 : zK 402 = 17 := by decide +kernel
theorem zkc_403 : zK 403 = 15 := by decide +kernel
theorem zkc_404 : zK 404 = 16 := by decide +kernel
theorem zkc_405 : zK 405 = 18 := by decide +kernel
theorem zkc_500 : zK 500 = 31 := by decide +kernel
theorem zk9_one : ∀ c', zK c' = 9 → c' = 400 := fun c' h => (zK_all (P := fun c => zK c = 9 → c = 400) (by decide +kernel) (c := c') (by omega)) h
theorem zk30_one : ∀ c', zK c' = 30 → c' = 301 := fun c' h => (zK_all (P := fun c => zK c = 30 → c = 301) (by decide +kernel) (c := c') (by omega)) h
theorem zk31_one : ∀ c', zK c' ≠ 0 → c' ≠ 500 → zK c' ≤ 30 := fun c' h => (zK_all (P := fun c => c ≠ 500 → zK c ≤ 30) (by decide +kernel) (c := c') h)
variable {ρ : Type} {Y : zLy} {p : Program} {l : Launch} {e : Env} {R : Room} {s : State} {m : MethodId} {args : Array Value} {below : List Frame} {meth : Method} {c : Code} {nl k n : Nat} {kq : ρ → State → Prop} {σ : zSt} {lv : List (Nat × Value)} {rest : List Value} {pc pc' : Nat} {o : Option ρ} {cc : ByteArray} {ret : Option FieldType}
theorem zg_X7_12 (cx : zCx Y p s m args meth c RX7 cc nl ret) (hpc : pc + 3 = pc') {c1 : Nat} (hk : zK c1 = 8) (hdg : decode cc pc = .ok (.getfield 12, 3)) (kk : zWo Y p l e R s m args below meth c nl k n kq σ lv (.ref (zad Y 10) :: rest) pc' (o)) : zWo Y p l e R s m args below meth c nl k n kq σ lv (.ref (zad Y c1) :: rest) pc (o) := zr_get cx hpc 8 hk (by decide) rfl zin_X7 0 (by decide) zw_349 rfl rfl hdg kk
theorem zg_X7_19 (cx : zCx Y p s m args meth c RX7 cc nl ret) (hpc : pc + 3 = pc') {c1 : Nat} (hk : zK c1 = 8) (hdg : decode cc pc = .ok (.getfield 19, 3)) (kk : zWo Y p l e R s m args below meth c nl k n kq σ lv (.ref (zad Y 200) :: rest) pc' (o)) : zWo Y p l e R s m args below meth c nl k n kq σ lv (.ref (zad Y c1) :: rest) pc (o) := zr_get cx hpc 8 hk (by decide) rfl zin_X7 1 (by decide) zw_350 rfl rfl hdg kk
theorem zg_X7_23 (cx : zCx Y p s m args meth c RX7 cc nl ret) (hpc : pc + 3 = pc') {c1 : Nat} (hk : zK c1 = 8) (hdg : decode cc pc = .ok (.getfield 23, 3)) (kk : zWo Y p l e R s m args below meth c nl k n kq σ lv (.ref (zad Y 30) :: rest) pc' (o)) : zWo Y p l e R s m args below meth c nl k n kq σ lv (.ref (zad Y c1) :: rest) pc (o) := zr_get cx hpc 8 hk (by decide) rfl zin_X7 2 (by decide) zw_351 rfl rfl hdg kk
theorem zg_X7_26 (cx : zCx Y p s m args meth c RX7 cc nl ret) (hpc : pc + 3 = pc') {c1 : Nat} (hk : zK c1 = 8) (hdg : decode cc pc = .ok (.getfield 26, 3)) (kk : zWo Y p l e R s m args below meth c nl k n kq σ lv (.ref (zad Y 220) :: rest) pc' (o)) : zWo Y p l e R s m args below meth c nl k n kq σ lv (.ref (zad Y c1) :: rest) pc (o) := zr_get cx hpc 8 hk (by decide) rfl zin_X7 3 (by decide) zw_352 rfl rfl hdg kk
theorem zg_X7_29 (cx : zCx Y p s m args meth c RX7 cc nl ret) (hpc : pc + 3 = pc') {c1 : Nat} (hk : zK c1 = 8) (hdg : decode cc pc = .ok (.getfield 29, 3)) (kk : zWo Y p l e R s m args below meth c nl k n kq σ lv (.ref (zad Y 240) :: rest) pc' (o)) : zWo Y p l e R s m args below meth c nl k n kq σ lv (.ref (zad Y c1) :: rest) pc (o) := zr_get cx hpc 8 hk (by decide) rfl zin_X7 4 (by decide) zw_353 rfl rfl hdg kk
theorem zg_X7_35 (cx : zCx Y p s m args meth c RX7 cc nl ret) (hpc : pc + 3 = pc') {c1 : Nat} (hk : zK c1 = 8) (hdg : decode cc pc = .ok (.getfield 35, 3)) (kk : zWo Y p l e R s m args below meth c nl k n kq σ lv (.ref (zad Y 300) :: rest) pc' (o)) : zWo Y p l e R s m args below meth c nl k n kq σ lv (.ref (zad Y c1) :: rest) pc (o) := zr_get cx hpc 8 hk (by decide) rfl zin_X7 5 (by decide) zw_354 rfl rfl hdg kk
theorem zg_X7_42 (cx : zCx Y p s m args meth c RX7 cc nl ret) (hpc : pc + 3 = pc') {c1 : Nat} (hk : zK c1 = 8) (hdg : decode cc pc = .ok (.getfield 42, 3)) (kk : zWo Y p l e R s m args below meth c nl k n kq σ lv (.ref (zad Y 310) :: rest) pc' (o)) : zWo Y p l e R s m args below meth c nl k n kq σ lv (.ref (zad Y c1) :: rest) pc (o) := zr_get cx hpc 8 hk (by decide) rfl zin_X7 6 (by decide) zw_355 rfl rfl hdg kk
theorem zg_X7_46 (cx : zCx Y p s m args meth c RX7 cc nl ret) (hpc : pc + 3 = pc') {c1 : Nat} (hk : zK c1 = 8) (hdg : decode cc pc = .ok (.getfield 46, 3)) (kk : zWo Y p l e R s m args below meth c nl k n kq σ lv (.ref (zad Y 320) :: rest) pc' (o)) : zWo Y p l e R s m args below meth c nl k n kq σ lv (.ref (zad Y c1) :: rest) pc (o) := zr_get cx hpc 8 hk (by decide) rfl zin_X7 7 (by decide) zw_356 rfl rfl hdg kk
theorem zg_X7_50 (cx : zCx Y p s m args meth c RX7 cc nl ret) (hpc : pc + 3 = pc') {c1 : Nat} (hk : zK c1 = 8) (hdg : decode cc pc = .ok (.getfield 50, 3)) (kk : zWo Y p l e R s m args below meth c nl k n kq σ lv (.int (i32 (σ.1 c1 8)) :: rest) pc' (o)) : zWo Y p l e R s m args below meth c nl k n kq σ lv (.ref (zad Y c1) :: rest) pc (o) := zr_get cx hpc 8 hk (by decide) rfl zin_X7 8 (by decide) zw_357 rfl rfl hdg kk
theorem zp_X7_50 (cx : zCx Y p s m args meth c RX7 cc nl ret) (hpc : pc + 3 = pc') {c1 : Nat} (hk : zK c1 = 8) {x : Int} (hdg : decode cc pc = .ok (.putfield 50, 3)) (kk : zWo Y p l e R s m args below meth c nl k n kq (zwr σ c1 8 x) lv (rest) pc' (o)) : zWo Y p l e R s m args below meth c nl k n kq σ lv (.int (i32 x) :: .ref (zad Y c1) :: rest) pc (o) := zr_put cx hpc 8 hk (by decide) rfl zin_X7 tyX7 tyX7_ok nmX7 8 (by decide) zw_357 rfl rfl (by decide +kernel) (Nat.le_of_ble_eq_true rfl) (by simp [zfs, zwr]) hdg kk
theorem zg_X7_73 (cx : zCx Y p s m args meth c RX7 cc nl ret) (hpc : pc + 3 = pc') {c1 c2 : Nat} (hk : zK c1 = 6) (h2 : c1 + 1 = c2) (hdg : decode cc pc = .ok (.getfield 73, 3)) (kk : zWo Y p l e R s m args below meth c nl k n kq σ lv (.ref (zad Y c2) :: rest) pc' (o)) : zWo Y p l e R s m args below meth c nl k n kq σ lv (.ref (zad Y c1) :: rest) pc (o) := by
  subst h2
  exact zr_get cx hpc 6 hk (by decide) rfl zin_X5 0 (by decide) zw_226 rfl rfl hdg kk
theorem zg_X7_77 (cx : zCx Y p s m args meth c RX7 cc nl ret) (hpc : pc + 3 = pc') {c1 : Nat} (hk : zK c1 = 1) (hdg : decode cc pc = .ok (.getfield 77, 3)) (kk : zWo Y p l e R s m args below meth c nl k n kq σ lv (.int (i32 (σ.1 c1 0)) :: rest) pc' (o)) : zWo Y p l e R s m args below meth c nl k n kq σ lv (.ref (zad Y c1) :: rest) pc (o) := zr_get cx hpc 1 hk (by decide) rfl zin_X0 0 (by decide) zw_140 rfl rfl hdg kk
theorem zp_X7_77 (cx : zCx Y p s m args meth c RX7 cc nl ret) (hpc : pc + 3 = pc') {c1 : Nat} (hk : zK c1 = 1) {x : Int} (hdg : decode cc pc = .ok (.putfield 77, 3)) (kk : zWo Y p l e R s m args below meth c nl k n kq (zwr σ c1 0 x) lv (rest) pc' (o)) : zWo Y p l e R s m args below meth c nl k n kq σ lv (.int (i32 x) :: .ref (zad Y c1) :: rest) pc (o) := zr_put cx hpc 1 hk (by decide) rfl zin_X0 tyX0 tyX0_ok nmX0 0 (by decide) zw_140 rfl rfl (by decide +kernel) (Nat.le_of_ble_eq_true rfl) (by simp [zfs, zwr]) hdg kk
theorem zg_X7_104 (cx : zCx Y p s m args meth c RX7 cc nl ret) (hpc : pc + 3 = pc') {c1 c2 : Nat} (hk : zK c1 = 1) (h2 : c1 + 3 = c2) (hdg : decode cc pc = .ok (.getfield 104, 3)) (kk : zWo Y p l e R s m args below meth c nl k n kq σ lv (.ref (zad Y c2) :: rest) pc' (o)) : zWo Y p l e R s m args below meth c nl k n kq σ lv (.ref (zad Y c1) :: rest) pc (o) := by
  subst h2
  exact zr_get cx hpc 1 hk (by decide) rfl zin_X0 3 (by decide) zw_147 rfl rfl hdg kk
theorem zg_X7_112 (cx : zCx Y p s m args meth c RX7 cc nl ret) (hpc : pc + 3 = pc') {c1 c2 : Nat} (hk : zK c1 = 1) (h2 : c1 + 2 = c2) (hdg : decode cc pc = .ok (.getfield 112, 3)) (kk : zWo Y p l e R s m args below meth c nl k n kq σ lv (.ref (zad Y c2) :: rest) pc' (o)) : zWo Y p l e R s m args below meth c nl k n kq σ lv (.ref (zad Y c1) :: rest) pc (o) := by
  subst h2
  exact zr_get cx hpc 1 hk (by decide) rfl zin_X0 2 (by decide) zw_145 rfl rfl hdg kk
theorem zg_X7_115 (cx : zCx Y p s m args meth c RX7 cc nl ret) (hpc : pc + 3 = pc') {c1 : Nat} (hk : zK c1 = 7) (hdg : decode cc pc = .ok (.getfield 115, 3)) (kk : zWo Y p l e R s m args below meth c nl k n kq σ lv (.int (i32 (σ.1 c1 6)) :: rest) pc' (o)) : zWo Y p l e R s m args below meth c nl k n kq σ lv (.ref (zad Y c1) :: rest) pc (o) := zr_get cx hpc 7 hk (by decide) rfl zin_X6 6 (by decide) zw_279 rfl rfl hdg kk
theorem zp_X7_115 (cx : zCx Y p s m args meth c RX7 cc nl ret) (hpc : pc + 3 = pc') {c1 : Nat} (hk : zK c1 = 7) {x : Int} (hdg : decode cc pc = .ok (.putfield 115, 3)) (kk : zWo Y p l e R s m args below meth c nl k n kq (zwr σ c1 6 x) lv (rest) pc' (o)) : zWo Y p l e R s m args below meth c nl k n kq σ lv (.int (i32 x) :: .ref (zad Y c1) :: rest) pc (o) := zr_put cx hpc 7 hk (by decide) rfl zin_X6 tyX6 tyX6_ok nmX6 6 (by decide) zw_279 rfl rfl (by decide +kernel) (Nat.le_of_ble_eq_true rfl) (by simp [zfs, zwr]) hdg kk
theorem zg_X7_123 (cx : zCx Y p s m args meth c RX7 cc nl ret) (hpc : pc + 3 = pc') {c1 : Nat} (hk : zK c1 = 6) (hdg : decode cc pc = .ok (.getfield 123, 3)) (kk : zWo Y p l e R s m args below meth c nl k n kq σ lv (.int (i32 (σ.1 c1 3)) :: rest) pc' (o)) : zWo Y p l e R s m args below meth c nl k n kq σ lv (.ref (zad Y c1) :: rest) pc (o) := zr_get cx hpc 6 hk (by decide) rfl zin_X5 3 (by decide) zw_234 rfl rfl hdg kk
theorem zp_X7_123 (cx : zCx Y p s m args meth c RX7 cc nl ret) (hpc : pc + 3 = pc') {c1 : Nat} (hk : zK c1 = 6) {x : Int} (hdg : decode cc pc = .ok (.putfield 123, 3)) (kk : zWo Y p l e R s m args below meth c nl k n kq (zwr σ c1 3 x) lv (rest) pc' (o)) : zWo Y p l e R s m args below meth c nl k n kq σ lv (.int (i32 x) :: .ref (zad Y c1) :: rest) pc (o) := zr_put cx hpc 6 hk (by decide) rfl zin_X5 tyX5 tyX5_ok nmX5 3 (by decide) zw_234 rfl rfl (by decide +kernel) (Nat.le_of_ble_eq_true rfl) (by simp [zfs, zwr]) hdg kk
theorem zg_X7_128 (cx : zCx Y p s m args meth c RX7 cc nl ret) (hpc : pc + 3 = pc') {c1 c2 : Nat} (hk : zK c1 = 1) (h2 : c1 + 4 = c2) (hdg : decode cc pc = .ok (.getfield 128, 3)) (kk : zWo Y p l e R s m args below meth c nl k n kq σ lv (.ref (zad Y c2) :: rest) pc' (o)) : zWo Y p l e R s m args below meth c nl k n kq σ lv (.ref (zad Y c1) :: rest) pc (o) := by
  subst h2
  exact zr_get cx hpc 1 hk (by decide) rfl zin_X0 4 (by decide) zw_150 rfl rfl hdg kk
theorem zg_X7_131 (cx : zCx Y p s m args meth c RX7 cc nl ret) (hpc : pc + 3 = pc') {c1 c2 : Nat} (hk : zK c1 = 1) (h2 : c1 + 5 = c2) (hdg : decode cc pc = .ok (.getfield 131, 3)) (kk : zWo Y p l e R s m args below meth c nl k n kq σ lv (.ref (zad Y c2) :: rest) pc' (o)) : zWo Y p l e R s m args below meth c nl k n kq σ lv (.ref (zad Y c1) :: rest) pc (o) := by
  subst h2
  exact zr_get cx hpc 1 hk (by decide) rfl zin_X0 5 (by decide) zw_153 rfl rfl hdg kk
theorem zg_X7_142 (cx : zCx Y p s m args meth c RX7 cc nl ret) (hpc : pc + 3 = pc') {c1 c2 : Nat} (hk : zK c1 = 6) (h2 : c1 + 7 = c2) (hdg : decode cc pc = .ok (.getfield 142, 3)) (kk : zWo Y p l e R s m args below meth c nl k n kq σ lv (.ref (zad Y c2) :: rest) pc' (o)) : zWo Y p l e R s m args below meth c nl k n kq σ lv (.ref (zad Y c1) :: rest) pc (o) := by
  subst h2
  exact zr_get cx hpc 6 hk (by decide) rfl zin_X5 1 (by decide) zw_229 rfl rfl hdg kk
theorem zg_X7_146 (cx : zCx Y p s m args meth c RX7 cc nl ret) (hpc : pc + 3 = pc') {c1 : Nat} (hk : zK c1 = 4) (hdg : decode cc pc = .ok (.getfield 146, 3)) (kk : zWo Y p l e R s m args below meth c nl k n kq σ lv (.int (i32 (σ.1 c1 0)) :: rest) pc' (o)) : zWo Y p l e R s m args below meth c nl k n kq σ lv (.ref (zad Y c1) :: rest) pc (o) := zr_get cx hpc 4 hk (by decide) rfl zin_X3 0 (by decide) zw_177 rfl rfl hdg kk
theorem zp_X7_146 (cx : zCx Y p s m args meth c RX7 cc nl ret) (hpc : pc + 3 = pc') {c1 : Nat} (hk : zK c1 = 4) {x : Int} (hdg : decode cc pc = .ok (.putfield 146, 3)) (kk : zWo Y p l e R s m args below meth c nl k n kq (zwr σ c1 0 x) lv (rest) pc' (o)) : zWo Y p l e R s m args below meth c nl k n kq σ lv (.int (i32 x) :: .ref (zad Y c1) :: rest) pc (o) := zr_put cx hpc 4 hk (by decide) rfl zin_X3 tyX3 tyX3_ok nmX3 0 (by decide) zw_177 rfl rfl (by decide +kernel) (Nat.le_of_ble_eq_true rfl) (by simp [zfs, zwr]) hdg kk
theorem zg_X7_161 (cx : zCx Y p s m args meth c RX7 cc nl ret) (hpc : pc + 3 = pc') {c1 c2 : Nat} (hk : zK c1 = 7) (h2 : c1 + 6 = c2) (hdg : decode cc pc = .ok (.getfield 161, 3)) (kk : zWo Y p l e R s m args below meth c nl k n kq σ lv (.ref (zad Y c2) :: rest) pc' (o)) : zWo Y p l e R s m args below meth c nl k n kq σ lv (.ref (zad Y c1) :: rest) pc (o) := by
  subst h2
  exact zr_get cx hpc 7 hk (by decide) rfl zin_X6 5 (by decide) zw_277 rfl rfl hdg kk
theorem zg_X7_175 (cx : zCx Y p s m args meth c RX7 cc nl ret) (hpc : pc + 3 = pc') {c1 c2 : Nat} (hk : zK c1 = 6) (h2 : c1 + 11 = c2) (hdg : decode cc pc = .ok (.getfield 175, 3)) (kk : zWo Y p l e R s m args below meth c nl k n kq σ lv (.ref (zad Y c2) :: rest) pc' (o)) : zWo Y p l e R s m args below meth c nl k n kq σ lv (.ref (zad Y c1) :: rest) pc (o) := by
  subst h2
  exact zr_get cx hpc 6 hk (by decide) rfl zin_X5 2 (by decide) zw_232 rfl rfl hdg kk
theorem zg_X7_179 (cx : zCx Y p s m args meth c RX7 cc nl ret) (hpc : pc + 3 = pc') {c1 : Nat} (hk : zK c1 = 2) (hdg : decode cc pc = .ok (.getfield 179, 3)) (kk : zWo Y p l e R s m args below meth c nl k n kq σ lv (.int (i32 (σ.1 c1 0)) :: rest) pc' (o)) : zWo Y p l e R s m args below meth c nl k n kq σ lv (.ref (zad Y c1) :: rest) pc (o) := zr_get cx hpc 2 hk (by decide) rfl zin_X1 0 (by decide) zw_204 rfl rfl hdg kk
theorem zp_X7_179 (cx : zCx Y p s m args meth c RX7 cc nl ret) (hpc : pc + 3 = pc') {c1 : Nat} (hk : zK c1 = 2) {x : Int} (hdg : decode cc pc = .ok (.putfield 179, 3)) (kk : zWo Y p l e R s m args below meth c nl k n kq (zwr σ c1 0 x) lv (rest) pc' (o)) : zWo Y p l e R s m args below meth c nl k n kq σ lv (.int (i32 x) :: .ref (zad Y c1) :: rest) pc (o) := zr_put cx hpc 2 hk (by decide) rfl zin_X1 tyX1 tyX1_ok nmX1 0 (by decide) zw_204 rfl rfl (by decide +kernel) (Nat.le_of_ble_eq_true rfl) (by simp [zfs, zwr]) hdg kk
theorem zg_X7_192 (cx : zCx Y p s m args meth c RX7 cc nl ret) (hpc : pc + 3 = pc') {c1 c2 : Nat} (hk : zK c1 = 2) (h2 : c1 + 3 = c2) (hdg : decode cc pc = .ok (.getfield 192, 3)) (kk : zWo Y p l e R s m args below meth c nl k n kq σ lv (.ref (zad Y c2) :: rest) pc' (o)) : zWo Y p l e R s m args below meth c nl k n kq σ lv (.ref (zad Y c1) :: rest) pc (o) := by
  subst h2
  exact zr_get cx hpc 2 hk (by decide) rfl zin_X1 3 (by decide) zw_213 rfl rfl hdg kk
theorem zg_X7_198 (cx : zCx Y p s m args meth c RX7 cc nl ret) (hpc : pc + 3 = pc') {c1 : Nat} (hk : zK c1 = 6) (hdg : decode cc pc = .ok (.getfield 198, 3)) (kk : zWo Y p l e R s m args below meth c nl k n kq σ lv (.int (i32 (σ.1 c1 5)) :: rest) pc' (o)) : zWo Y p l e R s m args below meth c nl k n kq σ lv (.ref (zad Y c1) :: rest) pc (o) := zr_get cx hpc 6 hk (by decide) rfl zin_X5 5 (by decide) zw_238 rfl rfl hdg kk
theorem zp_X7_198 (cx : zCx Y p s m args meth c RX7 cc nl ret) (hpc : pc + 3 = pc') {c1 : Nat} (hk : zK c1 = 6) {x : Int} (hdg : decode cc pc = .ok (.putfield 198, 3)) (kk : zWo Y p l e R s m args below meth c nl k n kq (zwr σ c1 5 x) lv (rest) pc' (o)) : zWo Y p l e R s m args below meth c nl k n kq σ lv (.int (i32 x) :: .ref (zad Y c1) :: rest) pc (o) := zr_put cx hpc 6 hk (by decide) rfl zin_X5 tyX5 tyX5_ok nmX5 5 (by decide) zw_238 rfl rfl (by decide +kernel) (Nat.le_of_ble_eq_true rfl) (by simp [zfs, zwr]) hdg kk
theorem zg_X7_204 (cx : zCx Y p s m args meth c RX7 cc nl ret) (hpc : pc + 3 = pc') {c1 c2 : Nat} (hk : zK c1 = 7) (h2 : c1 + 8 = c2) (hdg : decode cc pc = .ok (.getfield 204, 3)) (kk : zWo Y p l e R s m args below meth c nl k n kq σ lv (.ref (zad Y c2) :: rest) pc' (o)) : zWo Y p l e R s m args below meth c nl k n kq σ lv (.ref (zad Y c1) :: rest) pc (o) := by
  subst h2
  exact zr_get cx hpc 7 hk (by decide) rfl zin_X6 9 (by decide) zw_285 rfl rfl hdg kk
theorem zg_X7_207 (cx : zCx Y p s m args meth c RX7 cc nl ret) (hpc : pc + 3 = pc') {c1 : Nat} (hk : zK c1 = 6) (hdg : decode cc pc = .ok (.getfield 207, 3)) (kk : zWo Y p l e R s m args below meth c nl k n kq σ lv (.int (i32 (σ.1 c1 6)) :: rest) pc' (o)) : zWo Y p l e R s m args below meth c nl k n kq σ lv (.ref (zad Y c1) :: rest) pc (o) := zr_get cx hpc 6 hk (by decide) rfl zin_X5 6 (by decide) zw_240 rfl rfl hdg kk
theorem zp_X7_207 (cx : zCx Y p s m args meth c RX7 cc nl ret) (hpc : pc + 3 = pc') {c1 : Nat} (hk : zK c1 = 6) {x : Int} (hdg : decode cc pc = .ok (.putfield 207, 3)) (kk : zWo Y p l e R s m args below meth c nl k n kq (zwr σ c1 6 x) lv (rest) pc' (o)) : zWo Y p l e R s m args below meth c nl k n kq σ lv (.int (i32 x) :: .ref (zad Y c1) :: rest) pc (o) := zr_put cx hpc 6 hk (by decide) rfl zin_X5 tyX5 tyX5_ok nmX5 6 (by decide) zw_240 rfl rfl (by decide +kernel) (Nat.le_of_ble_eq_true rfl) (by simp [zfs, zwr]) hdg kk
theorem zg_X7_210 (cx : zCx Y p s m args meth c RX7 cc nl ret) (hpc : pc + 3 = pc') {c1 : Nat} (hk : zK c1 = 6) (hdg : decode cc pc = .ok (.getfield 210, 3)) (kk : zWo Y p l e R s m args below meth c nl k n kq σ lv (.int (i32 (σ.1 c1 7)) :: rest) pc' (o)) : zWo Y p l e R s m args below meth c nl k n kq σ lv (.ref (zad Y c1) :: rest) pc (o) := zr_get cx hpc 6 hk (by decide) rfl zin_X5 7 (by decide) zw_242 rfl rfl hdg kk
theorem zp_X7_210 (cx : zCx Y p s m args meth c RX7 cc nl ret) (hpc : pc + 3 = pc') {c1 : Nat} (hk : zK c1 = 6) {x : Int} (hdg : decode cc pc = .ok (.putfield 210, 3)) (kk : zWo Y p l e R s m args below meth c nl k n kq (zwr σ c1 7 x) lv (rest) pc' (o)) : zWo Y p l e R s m args below meth c nl k n kq σ lv (.int (i32 x) :: .ref (zad Y c1) :: rest) pc (o) := zr_put cx hpc 6 hk (by decide) rfl zin_X5 tyX5 tyX5_ok nmX5 7 (by decide) zw_242 rfl rfl (by decide +kernel) (Nat.le_of_ble_eq_true rfl) (by simp [zfs, zwr]) hdg kk
theorem zg_X7_213 (cx : zCx Y p s m args meth c RX7 cc nl ret) (hpc : pc + 3 = pc') {c1 : Nat} (hk : zK c1 = 7) (hdg : decode cc pc = .ok (.getfield 213, 3)) (kk : zWo Y p l e R s m args below meth c nl k n kq σ lv (.int (i32 (σ.1 c1 7)) :: rest) pc' (o)) : zWo Y p l e R s m args below meth c nl k n kq σ lv (.ref (zad Y c1) :: rest) pc (o) := zr_get cx hpc 7 hk (by decide) rfl zin_X6 7 (by decide) zw_281 rfl rfl hdg kk
theorem zp_X7_213 (cx : zCx Y p s m args meth c RX7 cc nl ret) (hpc : pc + 3 = pc') {c1 : Nat} (hk : zK c1 = 7) {x : Int} (hdg : decode cc pc = .ok (.putfield 213, 3)) (kk : zWo Y p l e R s m args below meth c nl k n kq (zwr σ c1 7 x) lv (rest) pc' (o)) : zWo Y p l e R s m args below meth c nl k n kq σ lv (.int (i32 x) :: .ref (zad Y c1) :: rest) pc (o) := zr_put cx hpc 7 hk (by decide) rfl zin_X6 tyX6 tyX6_ok nmX6 7 (by decide) zw_281 rfl rfl (by decide +kernel) (Nat.le_of_ble_eq_true rfl) (by simp [zfs, zwr]) hdg kk
theorem zg_X7_233 (cx : zCx Y p s m args meth c RX7 cc nl ret) (hpc : pc + 3 = pc') {c1 : Nat} (hk : zK c1 = 3) (hdg : decode cc pc = .ok (.getfield 233, 3)) (kk : zWo Y p l e R s m args below meth c nl k n kq σ lv (.int (i32 (σ.1 c1 0)) :: rest) pc' (o)) : zWo Y p l e R s m args below meth c nl k n kq σ lv (.ref (zad Y c1) :: rest) pc (o) := zr_get cx hpc 3 hk (by decide) rfl zin_X2 0 (by decide) zw_324 rfl rfl hdg kk
theorem zp_X7_233 (cx : zCx Y p s m args meth c RX7 cc nl ret) (hpc : pc + 3 = pc') {c1 : Nat} (hk : zK c1 = 3) {x : Int} (hdg : decode cc pc = .ok (.putfield 233, 3)) (kk : zWo Y p l e R s m args below meth c nl k n kq (zwr σ c1 0 x) lv (rest) pc' (o)) : zWo Y p l e R s m args below meth c nl k n kq σ lv (.int (i32 x) :: .ref (zad Y c1) :: rest) pc (o) := zr_put cx hpc 3 hk (by decide) rfl zin_X2 tyX2 tyX2_ok nmX2 0 (by decide) zw_324 rfl rfl (by decide +kernel) (Nat.le_of_ble_eq_true rfl) (by simp [zfs, zwr]) hdg kk
theorem zg_X7_324 (cx : zCx Y p s m args meth c RX7 cc nl ret) (hpc : pc + 3 = pc') {c1 : Nat} (hk : zK c1 = 6) (hdg : decode cc pc = .ok (.getfield 324, 3)) (kk : zWo Y p l e R s m args below meth c nl k n kq σ lv (.int (i32 (σ.1 c1 4)) :: rest) pc' (o)) : zWo Y p l e R s m args below meth c nl k n kq σ lv (.ref (zad Y c1) :: rest) pc (o) := zr_get cx hpc 6 hk (by decide) rfl zin_X5 4 (by decide) zw_236 rfl rfl hdg kk
theorem zp_X7_324 (cx : zCx Y p s m args meth c RX7 cc nl ret) (hpc : pc + 3 = pc') {c1 : Nat} (hk : zK c1 = 6) {x : Int} (hdg : decode cc pc = .ok (.putfield 324, 3)) (kk : zWo Y p l e R s m args below meth c nl k n kq (zwr σ c1 4 x) lv (rest) pc' (o)) : zWo Y p l e R s m args below meth c nl k n kq σ lv (.int (i32 x) :: .ref (zad Y c1) :: rest) pc (o) := zr_put cx hpc 6 hk (by decide) rfl zin_X5 tyX5 tyX5_ok nmX5 4 (by decide) zw_236 rfl rfl (by decide +kernel) (Nat.le_of_ble_eq_true rfl) (by simp [zfs, zwr]) hdg kk
theorem zg_X7_327 (cx : zCx Y p s m args meth c RX7 cc nl ret) (hpc : pc + 3 = pc') {c1 c2 : Nat} (hk : zK c1 = 7) (h2 : c1 + 10 = c2) (hdg : decode cc pc = .ok (.getfield 327, 3)) (kk : zWo Y p l e R s m args below meth c nl k n kq σ lv (.ref (zad Y c2) :: rest) pc' (o)) : zWo Y p l e R s m args below meth c nl k n kq σ lv (.ref (zad Y c1) :: rest) pc (o) := by
  subst h2
  exact zr_get cx hpc 7 hk (by decide) rfl zin_X6 11 (by decide) zw_288 rfl rfl hdg kk
theorem zg_X7_339 (cx : zCx Y p s m args meth c RX7 cc nl ret) (hpc : pc + 3 = pc') {c1 c2 : Nat} (hk : zK c1 = 5) (h2 : c1 + 1 = c2) (hdg : decode cc pc = .ok (.getfield 339, 3)) (kk : zWo Y p l e R s m args below meth c nl k n kq σ lv (.ref (zad Y c2) :: rest) pc' (o)) : zWo Y p l e R s m args below meth c nl k n kq σ lv (.ref (zad Y c1) :: rest) pc (o) := by
  subst h2
  exact zr_get cx hpc 5 hk (by decide) rfl zin_X4 0 (by decide) zw_338 rfl rfl hdg kk
theorem zg_X7_345 (cx : zCx Y p s m args meth c RX7 cc nl ret) (hpc : pc + 3 = pc') {c1 : Nat} (hk : zK c1 = 5) (hdg : decode cc pc = .ok (.getfield 345, 3)) (kk : zWo Y p l e R s m args below meth c nl k n kq σ lv (.int (i32 (σ.1 c1 1)) :: rest) pc' (o)) : zWo Y p l e R s m args below meth c nl k n kq σ lv (.ref (zad Y c1) :: rest) pc (o) := zr_get cx hpc 5 hk (by decide) rfl zin_X4 1 (by decide) zw_340 rfl rfl hdg kk
theorem zp_X7_345 (cx : zCx Y p s m args meth c RX7 cc nl ret) (hpc : pc + 3 = pc') {c1 : Nat} (hk : zK c1 = 5) {x : Int} (hdg : decode cc pc = .ok (.putfield 345, 3)) (kk : zWo Y p l e R s m args below meth c nl k n kq (zwr σ c1 1 x) lv (rest) pc' (o)) : zWo Y p l e R s m args below meth c nl k n kq σ lv (.int (i32 x) :: .ref (zad Y c1) :: rest) pc (o) := zr_put cx hpc 5 hk (by decide) rfl zin_X4 tyX4 tyX4_ok nmX4 1 (by decide) zw_340 rfl rfl (by decide +kernel) (Nat.le_of_ble_eq_true rfl) (by simp [zfs, zwr]) hdg kk
theorem zg_X7_351 (cx : zCx Y p s m args meth c RX7 cc nl ret) (hpc : pc + 3 = pc') {c1 c2 : Nat} (hk : zK c1 = 1) (h2 : c1 + 1 = c2) (hdg : decode cc pc = .ok (.getfield 351, 3)) (kk : zWo Y p l e R s m args below meth c nl k n kq σ lv (.ref (zad Y c2) :: rest) pc' (o)) : zWo Y p l e R s m args below meth c nl k n kq σ lv (.ref (zad Y c1) :: rest) pc (o) := by
  subst h2
  exact zr_get cx hpc 1 hk (by decide) rfl zin_X0 1 (by decide) zw_143 rfl rfl hdg kk
theorem zg_X7_354 (cx : zCx Y p s m args meth c RX7 cc nl ret) (hpc : pc + 3 = pc') {c1 c2 : Nat} (hk : zK c1 = 7) (h2 : c1 + 1 = c2) (hdg : decode cc pc = .ok (.getfield 354, 3)) (kk : zWo Y p l e R s m args below meth c nl k n kq σ lv (.ref (zad Y c2) :: rest) pc' (o)) : zWo Y p l e R s m args below meth c nl k n kq σ lv (.ref (zad Y c1) :: rest) pc (o) := by
  subst h2
  exact zr_get cx hpc 7 hk (by decide) rfl zin_X6 0 (by decide) zw_267 rfl rfl hdg kk
theorem zg_X7_357 (cx : zCx Y p s m args meth c RX7 cc nl ret) (hpc : pc + 3 = pc') {c1 c2 : Nat} (hk : zK c1 = 7) (h2 : c1 + 2 = c2) (hdg : decode cc pc = .ok (.getfield 357, 3)) (kk : zWo Y p l e R s m args below meth c nl k n kq σ lv (.ref (zad Y c2) :: rest) pc' (o)) : zWo Y p l e R s m args below meth c nl k n kq σ lv (.ref (zad Y c1) :: rest) pc (o) := by
  subst h2
  exact zr_get cx hpc 7 hk (by decide) rfl zin_X6 1 (by decide) zw_269 rfl rfl hdg kk
theorem zg_X7_366 (cx : zCx Y p s m args meth c RX7 cc nl ret) (hpc : pc + 3 = pc') {c1 c2 : Nat} (hk : zK c1 = 4) (h2 : c1 + 1 = c2) (hdg : decode cc pc = .ok (.getfield 366, 3)) (kk : zWo Y p l e R s m args below meth c nl k n kq σ lv (.ref (zad Y c2) :: rest) pc' (o)) : zWo Y p l e R s m args below meth c nl k n kq σ lv (.ref (zad Y c1) :: rest) pc (o) := by
  subst h2
  exact zr_get cx hpc 4 hk (by decide) rfl zin_X3 1 (by decide) zw_181 rfl rfl hdg kk
theorem zg_X7_369 (cx : zCx Y p s m args meth c RX7 cc nl ret) (hpc : pc + 3 = pc') {c1 c2 : Nat} (hk : zK c1 = 4) (h2 : c1 + 2 = c2) (hdg : decode cc pc = .ok (.getfield 369, 3)) (kk : zWo Y p l e R s m args below meth c nl k n kq σ lv (.ref (zad Y c2) :: rest) pc' (o)) : zWo Y p l e R s m args below meth c nl k n kq σ lv (.ref (zad Y c1) :: rest) pc (o) := by
  subst h2
  exact zr_get cx hpc 4 hk (by decide) rfl zin_X3 2 (by decide) zw_184 rfl rfl hdg kk
theorem zg_X7_372 (cx : zCx Y p s m args meth c RX7 cc nl ret) (hpc : pc + 3 = pc') {c1 c2 : Nat} (hk : zK c1 = 7) (h2 : c1 + 5 = c2) (hdg : decode cc pc = .ok (.getfield 372, 3)) (kk : zWo Y p l e R s m args below meth c nl k n kq σ lv (.ref (zad Y c2) :: rest) pc' (o)) : zWo Y p l e R s m args below meth c nl k n kq σ lv (.ref (zad Y c1) :: rest) pc (o) := by
  subst h2
  exact zr_get cx hpc 7 hk (by decide) rfl zin_X6 4 (by decide) zw_275 rfl rfl hdg kk
theorem zg_X7_381 (cx : zCx Y p s m args meth c RX7 cc nl ret) (hpc : pc + 3 = pc') {c1 c2 : Nat} (hk : zK c1 = 2) (h2 : c1 + 1 = c2) (hdg : decode cc pc = .ok (.getfield 381, 3)) (kk : zWo Y p l e R s m args below meth c nl k n kq σ lv (.ref (zad Y c2) :: rest) pc' (o)) : zWo Y p l e R s m args below meth c nl k n kq σ lv (.ref (zad Y c1) :: rest) pc (o) := by
  subst h2
  exact zr_get cx hpc 2 hk (by decide) rfl zin_X1 1 (by decide) zw_208 rfl rfl hdg kk
theorem zg_X7_382 (cx : zCx Y p s m args meth c RX7 cc nl ret) (hpc : pc + 3 = pc') {c1 c2 : Nat} (hk : zK c1 = 2) (h2 : c1 + 2 = c2) (hdg : decode cc pc = .ok (.getfield 382, 3)) (kk : zWo Y p l e R s m args below meth c nl k n kq σ lv (.ref (zad Y c2) :: rest) pc' (o)) : zWo Y p l e R s m args below meth c nl k n kq σ lv (.ref (zad Y c1) :: rest) pc (o) := by
  subst h2
  exact zr_get cx hpc 2 hk (by decide) rfl zin_X1 2 (by decide) zw_211 rfl rfl hdg kk
theorem zg_X7_385 (cx : zCx Y p s m args meth c RX7 cc nl ret) (hpc : pc + 3 = pc') {c1 c2 : Nat} (hk : zK c1 = 4) (h2 : c1 + 3 = c2) (hdg : decode cc pc = .ok (.getfield 385, 3)) (kk : zWo Y p l e R s m args below meth c nl k n kq σ lv (.ref (zad Y c2) :: rest) pc' (o)) : zWo Y p l e R s m args below meth c nl k n kq σ lv (.ref (zad Y c1) :: rest) pc (o) := by
  subst h2
  exact zr_get cx hpc 4 hk (by decide) rfl zin_X3 3 (by decide) zw_187 rfl rfl hdg kk
theorem zg_X7_391 (cx : zCx Y p s m args meth c RX7 cc nl ret) (hpc : pc + 3 = pc') {c1 c2 : Nat} (hk : zK c1 = 7) (h2 : c1 + 3 = c2) (hdg : decode cc pc = .ok (.getfield 391, 3)) (kk : zWo Y p l e R s m args below meth c nl k n kq σ lv (.ref (zad Y c2) :: rest) pc' (o)) : zWo Y p l e R s m args below meth c nl k n kq σ lv (.ref (zad Y c1) :: rest) pc (o) := by
  subst h2
  exact zr_get cx hpc 7 hk (by decide) rfl zin_X6 2 (by decide) zw_271 rfl rfl hdg kk
theorem zg_X7_394 (cx : zCx Y p s m args meth c RX7 cc nl ret) (hpc : pc + 3 = pc') {c1 c2 : Nat} (hk : zK c1 = 7) (h2 : c1 + 4 = c2) (hdg : decode cc pc = .ok (.getfield 394, 3)) (kk : zWo Y p l e R s m args below meth c nl k n kq σ lv (.ref (zad Y c2) :: rest) pc' (o)) : zWo Y p l e R s m args below meth c nl k n kq σ lv (.ref (zad Y c1) :: rest) pc (o) := by
  subst h2
  exact zr_get cx hpc 7 hk (by decide) rfl zin_X6 3 (by decide) zw_273 rfl rfl hdg kk
theorem zg_X7_397 (cx : zCx Y p s m args meth c RX7 cc nl ret) (hpc : pc + 3 = pc') {c1 c2 : Nat} (hk : zK c1 = 7) (h2 : c1 + 7 = c2) (hdg : decode cc pc = .ok (.getfield 397, 3)) (kk : zWo Y p l e R s m args below meth c nl k n kq σ lv (.ref (zad Y c2) :: rest) pc' (o)) : zWo Y p l e R s m args below meth c nl k n kq σ lv (.ref (zad Y c1) :: rest) pc (o) := by
  subst h2
  exact zr_get cx hpc 7 hk (by decide) rfl zin_X6 8 (by decide) zw_283 rfl rfl hdg kk
theorem zg_X0_9 (cx : zCx Y p s m args meth c RX0 cc nl ret) (hpc : pc + 3 = pc') {c1 : Nat} (hk : zK c1 = 1) (hdg : decode cc pc = .ok (.getfield 9, 3)) (kk : zWo Y p l e R s m args below meth c nl k n kq σ lv (.int (i32 (σ.1 c1 0)) :: rest) pc' (o)) : zWo Y p l e R s m args below meth c nl k n kq σ lv (.ref (zad Y c1) :: rest) pc (o) := zr_get cx hpc 1 hk (by decide) rfl zin_X0 0 (by decide) zw_138 rfl rfl hdg kk
theorem zp_X0_9 (cx : zCx Y p s m args meth c RX0 cc nl ret) (hpc : pc + 3 = pc') {c1 : Nat} (hk : zK c1 = 1) {x : Int} (hdg : decode cc pc = .ok (.putfield 9, 3)) (kk : zWo Y p l e R s m args below meth c nl k n kq (zwr σ c1 0 x) lv (rest) pc' (o)) : zWo Y p l e R s m args below meth c nl k n kq σ lv (.int (i32 x) :: .ref (zad Y c1) :: rest) pc (o) := zr_put cx hpc 1 hk (by decide) rfl zin_X0 tyX0 tyX0_ok nmX0 0 (by decide) zw_138 rfl rfl (by decide +kernel) (Nat.le_of_ble_eq_true rfl) (by simp [zfs, zwr]) hdg kk
theorem zg_X0_15 (cx : zCx Y p s m args meth c RX0 cc nl ret) (hpc : pc + 3 = pc') {c1 c2 : Nat} (hk : zK c1 = 1) (h2 : c1 + 1 = c2) (hdg : decode cc pc = .ok (.getfield 15, 3)) (kk : zWo Y p l e R s m args below meth c nl k n kq σ lv (.ref (zad Y c2) :: rest) pc' (o)) : zWo Y p l e R s m args below meth c nl k n kq σ lv (.ref (zad Y c1) :: rest) pc (o) := by
  subst h2
  exact zr_get cx hpc 1 hk (by decide) rfl zin_X0 1 (by decide) zw_141 rfl rfl hdg kk
theorem zg_X0_19 (cx : zCx Y p s m args meth c RX0 cc nl ret) (hpc : pc + 3 = pc') {c1 c2 : Nat} (hk : zK c1 = 1) (h2 : c1 + 2 = c2) (hdg : decode cc pc = .ok (.getfield 19, 3)) (kk : zWo Y p l e R s m args below meth c nl k n kq σ lv (.ref (zad Y c2) :: rest) pc' (o)) : zWo Y p l e R s m args below meth c nl k n kq σ lv (.ref (zad Y c1) :: rest) pc (o) := by
  subst h2
  exact zr_get cx hpc 1 hk (by decide) rfl zin_X0 2 (by decide) zw_144 rfl rfl hdg kk
theorem zg_X0_23 (cx : zCx Y p s m args meth c RX0 cc nl ret) (hpc : pc + 3 = pc') {c1 c2 : Nat} (hk : zK c1 = 1) (h2 : c1 + 3 = c2) (hdg : decode cc pc = .ok (.getfield 23, 3)) (kk : zWo Y p l e R s m args below meth c nl k n kq σ lv (.ref (zad Y c2) :: rest) pc' (o)) : zWo Y p l e R s m args below meth c nl k n kq σ lv (.ref (zad Y c1) :: rest) pc (o) := by
  subst h2
  exact zr_get cx hpc 1 hk (by decide) rfl zin_X0 3 (by decide) zw_146 rfl rfl hdg kk
theorem zg_X0_26 (cx : zCx Y p s m args meth c RX0 cc nl ret) (hpc : pc + 3 = pc') {c1 c2 : Nat} (hk : zK c1 = 1) (h2 : c1 + 4 = c2) (hdg : decode cc pc = .ok (.getfield 26, 3)) (kk : zWo Y p l e R s m args below meth c nl k n kq σ lv (.ref (zad Y c2) :: rest) pc' (o)) : zWo Y p l e R s m args below meth c nl k n kq σ lv (.ref (zad Y c1) :: rest) pc (o) := by
  subst h2
  exact zr_get cx hpc 1 hk (by decide) rfl zin_X0 4 (by decide) zw_149 rfl rfl hdg kk
theorem zg_X0_29 (cx : zCx Y p s m args meth c RX0 cc nl ret) (hpc : pc + 3 = pc') {c1 c2 : Nat} (hk : zK c1 = 1) (h2 : c1 + 5 = c2) (hdg : decode cc pc = .ok (.getfield 29, 3)) (kk : zWo Y p l e R s m args below meth c nl k n kq σ lv (.ref (zad Y c2) :: rest) pc' (o)) : zWo Y p l e R s m args below meth c nl k n kq σ lv (.ref (zad Y c1) :: rest) pc (o) := by
  subst h2
  exact zr_get cx hpc 1 hk (by decide) rfl zin_X0 5 (by decide) zw_152 rfl rfl hdg kk
theorem zg_X1_9 (cx : zCx Y p s m args meth c RX1 cc nl ret) (hpc : pc + 3 = pc') {c1 : Nat} (hk : zK c1 = 2) (hdg : decode cc pc = .ok (.getfield 9, 3)) (kk : zWo Y p l e R s m args below meth c nl k n kq σ lv (.int (i32 (σ.1 c1 0)) :: rest) pc' (o)) : zWo Y p l e R s m args below meth c nl k n kq σ lv (.ref (zad Y c1) :: rest) pc (o) := zr_get cx hpc 2 hk (by decide) rfl zin_X1 0 (by decide) zw_203 rfl rfl hdg kk
theorem zp_X1_9 (cx : zCx Y p s m args meth c RX1 cc nl ret) (hpc : pc + 3 = pc') {c1 : Nat} (hk : zK c1 = 2) {x : Int} (hdg : decode cc pc = .ok (.putfield 9, 3)) (kk : zWo Y p l e R s m args below meth c nl k n kq (zwr σ c1 0 x) lv (rest) pc' (o)) : zWo Y p l e R s m args below meth c nl k n kq σ lv (.int (i32 x) :: .ref (zad Y c1) :: rest) pc (o) := zr_put cx hpc 2 hk (by decide) rfl zin_X1 tyX1 tyX1_ok nmX1 0 (by decide) zw_203 rfl rfl (by decide +kernel) (Nat.le_of_ble_eq_true rfl) (by simp [zfs, zwr]) hdg kk
theorem zg_X1_15 (cx : zCx Y p s m args meth c RX1 cc nl ret) (hpc : pc + 3 = pc') {c1 c2 : Nat} (hk : zK c1 = 2) (h2 : c1 + 1 = c2) (hdg : decode cc pc = .ok (.getfield 15, 3)) (kk : zWo Y p l e R s m args below meth c nl k n kq σ lv (.ref (zad Y c2) :: rest) pc' (o)) : zWo Y p l e R s m args below meth c nl k n kq σ lv (.ref (zad Y c1) :: rest) pc (o) := by
  subst h2
  exact zr_get cx hpc 2 hk (by decide) rfl zin_X1 1 (by decide) zw_206 rfl rfl hdg kk
theorem zg_X1_19 (cx : zCx Y p s m args meth c RX1 cc nl ret) (hpc : pc + 3 = pc') {c1 c2 : Nat} (hk : zK c1 = 2) (h2 : c1 + 2 = c2) (hdg : decode cc pc = .ok (.getfield 19, 3)) (kk : zWo Y p l e R s m args below meth c nl k n kq σ lv (.ref (zad Y c2) :: rest) pc' (o)) : zWo Y p l e R s m args below meth c nl k n kq σ lv (.ref (zad Y c1) :: rest) pc (o) := by
  subst h2
  exact zr_get cx hpc 2 hk (by decide) rfl zin_X1 2 (by decide) zw_209 rfl rfl hdg kk
theorem zg_X1_22 (cx : zCx Y p s m args meth c RX1 cc nl ret) (hpc : pc + 3 = pc') {c1 c2 : Nat} (hk : zK c1 = 2) (h2 : c1 + 3 = c2) (hdg : decode cc pc = .ok (.getfield 22, 3)) (kk : zWo Y p l e R s m args below meth c nl k n kq σ lv (.ref (zad Y c2) :: rest) pc' (o)) : zWo Y p l e R s m args below meth c nl k n kq σ lv (.ref (zad Y c1) :: rest) pc (o) := by
  subst h2
  exact zr_get cx hpc 2 hk (by decide) rfl zin_X1 3 (by decide) zw_212 rfl rfl hdg kk
theorem zg_X2_9 (cx : zCx Y p s m args meth c RX2 cc nl ret) (hpc : pc + 3 = pc') {c1 : Nat} (hk : zK c1 = 3) (hdg : decode cc pc = .ok (.getfield 9, 3)) (kk : zWo Y p l e R s m args below meth c nl k n kq σ lv (.int (i32 (σ.1 c1 0)) :: rest) pc' (o)) : zWo Y p l e R s m args below meth c nl k n kq σ lv (.ref (zad Y c1) :: rest) pc (o) := zr_get cx hpc 3 hk (by decide) rfl zin_X2 0 (by decide) zw_323 rfl rfl hdg kk
theorem zp_X2_9 (cx : zCx Y p s m args meth c RX2 cc nl ret) (hpc : pc + 3 = pc') {c1 : Nat} (hk : zK c1 = 3) {x : Int} (hdg : decode cc pc = .ok (.putfield 9, 3)) (kk : zWo Y p l e R s m args below meth c nl k n kq (zwr σ c1 0 x) lv (rest) pc' (o)) : zWo Y p l e R s m args below meth c nl k n kq σ lv (.int (i32 x) :: .ref (zad Y c1) :: rest) pc (o) := zr_put cx hpc 3 hk (by decide) rfl zin_X2 tyX2 tyX2_ok nmX2 0 (by decide) zw_323 rfl rfl (by decide +kernel) (Nat.le_of_ble_eq_true rfl) (by simp [zfs, zwr]) hdg kk
theorem zg_X2_17 (cx : zCx Y p s m args meth c RX2 cc nl ret) (hpc : pc + 3 = pc') {c1 c2 : Nat} (hk : zK c1 = 3) (h2 : c1 + 1 = c2) (hdg : decode cc pc = .ok (.getfield 17, 3)) (kk : zWo Y p l e R s m args below meth c nl k n kq σ lv (.ref (zad Y c2) :: rest) pc' (o)) : zWo Y p l e R s m args below meth c nl k n kq σ lv (.ref (zad Y c1) :: rest) pc (o) := by
  subst h2
  exact zr_get cx hpc 3 hk (by decide) rfl zin_X2 1 (by decide) zw_325 rfl rfl hdg kk
theorem zg_X3_9 (cx : zCx Y p s m args meth c RX3 cc nl ret) (hpc : pc + 3 = pc') {c1 : Nat} (hk : zK c1 = 4) (hdg : decode cc pc = .ok (.getfield 9, 3)) (kk : zWo Y p l e R s m args below meth c nl k n kq σ lv (.int (i32 (σ.1 c1 0)) :: rest) pc' (o)) : zWo Y p l e R s m args below meth c nl k n kq σ lv (.ref (zad Y c1) :: rest) pc (o) := zr_get cx hpc 4 hk (by decide) rfl zin_X3 0 (by decide) zw_176 rfl rfl hdg kk
theorem zp_X3_9 (cx : zCx Y p s m args meth c RX3 cc nl ret) (hpc : pc + 3 = pc') {c1 : Nat} (hk : zK c1 = 4) {x : Int} (hdg : decode cc pc = .ok (.putfield 9, 3)) (kk : zWo Y p l e R s m args below meth c nl k n kq (zwr σ c1 0 x) lv (rest) pc' (o)) : zWo Y p l e R s m args below meth c nl k n kq σ lv (.int (i32 x) :: .ref (zad Y c1) :: rest) pc (o) := zr_put cx hpc 4 hk (by decide) rfl zin_X3 tyX3 tyX3_ok nmX3 0 (by decide) zw_176 rfl rfl (by decide +kernel) (Nat.le_of_ble_eq_true rfl) (by simp [zfs, zwr]) hdg kk
theorem zg_X3_15 (cx : zCx Y p s m args meth c RX3 cc nl ret) (hpc : pc + 3 = pc') {c1 c2 : Nat} (hk : zK c1 = 4) (h2 : c1 + 1 = c2) (hdg : decode cc pc = .ok (.getfield 15, 3)) (kk : zWo Y p l e R s m args below meth c nl k n kq σ lv (.ref (zad Y c2) :: rest) pc' (o)) : zWo Y p l e R s m args below meth c nl k n kq σ lv (.ref (zad Y c1) :: rest) pc (o) := by
  subst h2
  exact zr_get cx hpc 4 hk (by decide) rfl zin_X3 1 (by decide) zw_179 rfl rfl hdg kk
theorem zg_X3_19 (cx : zCx Y p s m args meth c RX3 cc nl ret) (hpc : pc + 3 = pc') {c1 c2 : Nat} (hk : zK c1 = 4) (h2 : c1 + 2 = c2) (hdg : decode cc pc = .ok (.getfield 19, 3)) (kk : zWo Y p l e R s m args below meth c nl k n kq σ lv (.ref (zad Y c2) :: rest) pc' (o)) : zWo Y p l e R s m args below meth c nl k n kq σ lv (.ref (zad Y c1) :: rest) pc (o) := by
  subst h2
  exact zr_get cx hpc 4 hk (by decide) rfl zin_X3 2 (by decide) zw_182 rfl rfl hdg kk
theorem zg_X3_22 (cx : zCx Y p s m args meth c RX3 cc nl ret) (hpc : pc + 3 = pc') {c1 c2 : Nat} (hk : zK c1 = 4) (h2 : c1 + 3 = c2) (hdg : decode cc pc = .ok (.getfield 22, 3)) (kk : zWo Y p l e R s m args below meth c nl k n kq σ lv (.ref (zad Y c2) :: rest) pc' (o)) : zWo Y p l e R s m args below meth c nl k n kq σ lv (.ref (zad Y c1) :: rest) pc (o) := by
  subst h2
  exact zr_get cx hpc 4 hk (by decide) rfl zin_X3 3 (by decide) zw_185 rfl rfl hdg kk
theorem zg_X4_11 (cx : zCx Y p s m args meth c RX4 cc nl ret) (hpc : pc + 3 = pc') {c1 c2 : Nat} (hk : zK c1 = 5) (h2 : c1 + 1 = c2) (hdg : decode cc pc = .ok (.getfield 11, 3)) (kk : zWo Y p l e R s m args below meth c nl k n kq σ lv (.ref (zad Y c2) :: rest) pc' (o)) : zWo Y p l e R s m args below meth c nl k n kq σ lv (.ref (zad Y c1) :: rest) pc (o) := by
  subst h2
  exact zr_get cx hpc 5 hk (by decide) rfl zin_X4 0 (by decide) zw_337 rfl rfl hdg kk
theorem zg_X4_15 (cx : zCx Y p s m args meth c RX4 cc nl ret) (hpc : pc + 3 = pc') {c1 : Nat} (hk : zK c1 = 5) (hdg : decode cc pc = .ok (.getfield 15, 3)) (kk : zWo Y p l e R s m args below meth c nl k n kq σ lv (.int (i32 (σ.1 c1 1)) :: rest) pc' (o)) : zWo Y p l e R s m args below meth c nl k n kq σ lv (.ref (zad Y c1) :: rest) pc (o) := zr_get cx hpc 5 hk (by decide) rfl zin_X4 1 (by decide) zw_339 rfl rfl hdg kk
theorem zp_X4_15 (cx : zCx Y p s m args meth c RX4 cc nl ret) (hpc : pc + 3 = pc') {c1 : Nat} (hk : zK c1 = 5) {x : Int} (hdg : decode cc pc = .ok (.putfield 15, 3)) (kk : zWo Y p l e R s m args below meth c nl k n kq (zwr σ c1 1 x) lv (rest) pc' (o)) : zWo Y p l e R s m args below meth c nl k n kq σ lv (.int (i32 x) :: .ref (zad Y c1) :: rest) pc (o) := zr_put cx hpc 5 hk (by decide) rfl zin_X4 tyX4 tyX4_ok nmX4 1 (by decide) zw_339 rfl rfl (by decide +kernel) (Nat.le_of_ble_eq_true rfl) (by simp [zfs, zwr]) hdg kk
theorem zg_X4_19 (cx : zCx Y p s m args meth c RX4 cc nl ret) (hpc : pc + 3 = pc') {c1 : Nat} (hk : zK c1 = 5) (hdg : decode cc pc = .ok (.getfield 19, 3)) (kk : zWo Y p l e R s m args below meth c nl k n kq σ lv (.int (i32 (σ.1 c1 2)) :: rest) pc' (o)) : zWo Y p l e R s m args below meth c nl k n kq σ lv (.ref (zad Y c1) :: rest) pc (o) := zr_get cx hpc 5 hk (by decide) rfl zin_X4 2 (by decide) zw_341 rfl rfl hdg kk
theorem zp_X4_19 (cx : zCx Y p s m args meth c RX4 cc nl ret) (hpc : pc + 3 = pc') {c1 : Nat} (hk : zK c1 = 5) {x : Int} (hdg : decode cc pc = .ok (.putfield 19, 3)) (kk : zWo Y p l e R s m args below meth c nl k n kq (zwr σ c1 2 x) lv (rest) pc' (o)) : zWo Y p l e R s m args below meth c nl k n kq σ lv (.int (i32 x) :: .ref (zad Y c1) :: rest) pc (o) := zr_put cx hpc 5 hk (by decide) rfl zin_X4 tyX4 tyX4_ok nmX4 2 (by decide) zw_341 rfl rfl (by decide +kernel) (Nat.le_of_ble_eq_true rfl) (by simp [zfs, zwr]) hdg kk
theorem zg_X5_12 (cx : zCx Y p s m args meth c RX5 cc nl ret) (hpc : pc + 3 = pc') {c1 c2 : Nat} (hk : zK c1 = 6) (h2 : c1 + 1 = c2) (hdg : decode cc pc = .ok (.getfield 12, 3)) (kk : zWo Y p l e R s m args below meth c nl k n kq σ lv (.ref (zad Y c2) :: rest) pc' (o)) : zWo Y p l e R s m args below meth c nl k n kq σ lv (.ref (zad Y c1) :: rest) pc (o) := by
  subst h2
  exact zr_get cx hpc 6 hk (by decide) rfl zin_X5 0 (by decide) zw_224 rfl rfl hdg kk
theorem zg_X5_21 (cx : zCx Y p s m args meth c RX5 cc nl ret) (hpc : pc + 3 = pc') {c1 c2 : Nat} (hk : zK c1 = 6) (h2 : c1 + 7 = c2) (hdg : decode cc pc = .ok (.getfield 21, 3)) (kk : zWo Y p l e R s m args below meth c nl k n kq σ lv (.ref (zad Y c2) :: rest) pc' (o)) : zWo Y p l e R s m args below meth c nl k n kq σ lv (.ref (zad Y c1) :: rest) pc (o) := by
  subst h2
  exact zr_get cx hpc 6 hk (by decide) rfl zin_X5 1 (by decide) zw_227 rfl rfl hdg kk
theorem zg_X5_28 (cx : zCx Y p s m args meth c RX5 cc nl ret) (hpc : pc + 3 = pc') {c1 c2 : Nat} (hk : zK c1 = 6) (h2 : c1 + 11 = c2) (hdg : decode cc pc = .ok (.getfield 28, 3)) (kk : zWo Y p l e R s m args below meth c nl k n kq σ lv (.ref (zad Y c2) :: rest) pc' (o)) : zWo Y p l e R s m args below meth c nl k n kq σ lv (.ref (zad Y c1) :: rest) pc (o) := by
  subst h2
  exact zr_get cx hpc 6 hk (by decide) rfl zin_X5 2 (by decide) zw_230 rfl rfl hdg kk
theorem zg_X5_32 (cx : zCx Y p s m args meth c RX5 cc nl ret) (hpc : pc + 3 = pc') {c1 : Nat} (hk : zK c1 = 6) (hdg : decode cc pc = .ok (.getfield 32, 3)) (kk : zWo Y p l e R s m args below meth c nl k n kq σ lv (.int (i32 (σ.1 c1 3)) :: rest) pc' (o)) : zWo Y p l e R s m args below meth c nl k n kq σ lv (.ref (zad Y c1) :: rest) pc (o) := zr_get cx hpc 6 hk (by decide) rfl zin_X5 3 (by decide) zw_233 rfl rfl hdg kk
theorem zp_X5_32 (cx : zCx Y p s m args meth c RX5 cc nl ret) (hpc : pc + 3 = pc') {c1 : Nat} (hk : zK c1 = 6) {x : Int} (hdg : decode cc pc = .ok (.putfield 32, 3)) (kk : zWo Y p l e R s m args below meth c nl k n kq (zwr σ c1 3 x) lv (rest) pc' (o)) : zWo Y p l e R s m args below meth c nl k n kq σ lv (.int (i32 x) :: .ref (zad Y c1) :: rest) pc (o) := zr_put cx hpc 6 hk (by decide) rfl zin_X5 tyX5 tyX5_ok nmX5 3 (by decide) zw_233 rfl rfl (by decide +kernel) (Nat.le_of_ble_eq_true rfl) (by simp [zfs, zwr]) hdg kk
theorem zg_X5_36 (cx : zCx Y p s m args meth c RX5 cc nl ret) (hpc : pc + 3 = pc') {c1 : Nat} (hk : zK c1 = 6) (hdg : decode cc pc = .ok (.getfield 36, 3)) (kk : zWo Y p l e R s m args below meth c nl k n kq σ lv (.int (i32 (σ.1 c1 4)) :: rest) pc' (o)) : zWo Y p l e R s m args below meth c nl k n kq σ lv (.ref (zad Y c1) :: rest) pc (o) := zr_get cx hpc 6 hk (by decide) rfl zin_X5 4 (by decide) zw_235 rfl rfl hdg kk
theorem zp_X5_36 (cx : zCx Y p s m args meth c RX5 cc nl ret) (hpc : pc + 3 = pc') {c1 : Nat} (hk : zK c1 = 6) {x : Int} (hdg : decode cc pc = .ok (.putfield 36, 3)) (kk : zWo Y p l e R s m args below meth c nl k n kq (zwr σ c1 4 x) lv (rest) pc' (o)) : zWo Y p l e R s m args below meth c nl k n kq σ lv (.int (i32 x) :: .ref (zad Y c1) :: rest) pc (o) := zr_put cx hpc 6 hk (by decide) rfl zin_X5 tyX5 tyX5_ok nmX5 4 (by decide) zw_235 rfl rfl (by decide +kernel) (Nat.le_of_ble_eq_true rfl) (by simp [zfs, zwr]) hdg kk
theorem zg_X5_39 (cx : zCx Y p s m args meth c RX5 cc nl ret) (hpc : pc + 3 = pc') {c1 : Nat} (hk : zK c1 = 6) (hdg : decode cc pc = .ok (.getfield 39, 3)) (kk : zWo Y p l e R s m args below meth c nl k n kq σ lv (.int (i32 (σ.1 c1 5)) :: rest) pc' (o)) : zWo Y p l e R s m args below meth c nl k n kq σ lv (.ref (zad Y c1) :: rest) pc (o) := zr_get cx hpc 6 hk (by decide) rfl zin_X5 5 (by decide) zw_237 rfl rfl hdg kk
theorem zp_X5_39 (cx : zCx Y p s m args meth c RX5 cc nl ret) (hpc : pc + 3 = pc') {c1 : Nat} (hk : zK c1 = 6) {x : Int} (hdg : decode cc pc = .ok (.putfield 39, 3)) (kk : zWo Y p l e R s m args below meth c nl k n kq (zwr σ c1 5 x) lv (rest) pc' (o)) : zWo Y p l e R s m args below meth c nl k n kq σ lv (.int (i32 x) :: .ref (zad Y c1) :: rest) pc (o) := zr_put cx hpc 6 hk (by decide) rfl zin_X5 tyX5 tyX5_ok nmX5 5 (by decide) zw_237 rfl rfl (by decide +kernel) (Nat.le_of_ble_eq_true rfl) (by simp [zfs, zwr]) hdg kk
theorem zg_X5_42 (cx : zCx Y p s m args meth c RX5 cc nl ret) (hpc : pc + 3 = pc') {c1 : Nat} (hk : zK c1 = 6) (hdg : decode cc pc = .ok (.getfield 42, 3)) (kk : zWo Y p l e R s m args below meth c nl k n kq σ lv (.int (i32 (σ.1 c1 6)) :: rest) pc' (o)) : zWo Y p l e R s m args below meth c nl k n kq σ lv (.ref (zad Y c1) :: rest) pc (o) := zr_get cx hpc 6 hk (by decide) rfl zin_X5 6 (by decide) zw_239 rfl rfl hdg kk
theorem zp_X5_42 (cx : zCx Y p s m args meth c RX5 cc nl ret) (hpc : pc + 3 = pc') {c1 : Nat} (hk : zK c1 = 6) {x : Int} (hdg : decode cc pc = .ok (.putfield 42, 3)) (kk : zWo Y p l e R s m args below meth c nl k n kq (zwr σ c1 6 x) lv (rest) pc' (o)) : zWo Y p l e R s m args below meth c nl k n kq σ lv (.int (i32 x) :: .ref (zad Y c1) :: rest) pc (o) := zr_put cx hpc 6 hk (by decide) rfl zin_X5 tyX5 tyX5_ok nmX5 6 (by decide) zw_239 rfl rfl (by decide +kernel) (Nat.le_of_ble_eq_true rfl) (by simp [zfs, zwr]) hdg kk
theorem zg_X5_45 (cx : zCx Y p s m args meth c RX5 cc nl ret) (hpc : pc + 3 = pc') {c1 : Nat} (hk : zK c1 = 6) (hdg : decode cc pc = .ok (.getfield 45, 3)) (kk : zWo Y p l e R s m args below meth c nl k n kq σ lv (.int (i32 (σ.1 c1 7)) :: rest) pc' (o)) : zWo Y p l e R s m args below meth c nl k n kq σ lv (.ref (zad Y c1) :: rest) pc (o) := zr_get cx hpc 6 hk (by decide) rfl zin_X5 7 (by decide) zw_241 rfl rfl hdg kk
theorem zp_X5_45 (cx : zCx Y p s m args meth c RX5 cc nl ret) (hpc : pc + 3 = pc') {c1 : Nat} (hk : zK c1 = 6) {x : Int} (hdg : decode cc pc = .ok (.putfield 45, 3)) (kk : zWo Y p l e R s m args below meth c nl k n kq (zwr σ c1 7 x) lv (rest) pc' (o)) : zWo Y p l e R s m args below meth c nl k n kq σ lv (.int (i32 x) :: .ref (zad Y c1) :: rest) pc (o) := zr_put cx hpc 6 hk (by decide) rfl zin_X5 tyX5 tyX5_ok nmX5 7 (by decide) zw_241 rfl rfl (by decide +kernel) (Nat.le_of_ble_eq_true rfl) (by simp [zfs, zwr]) hdg kk
theorem zg_X6_9 (cx : zCx Y p s m args meth c RX6 cc nl ret) (hpc : pc + 3 = pc') {c1 c2 : Nat} (hk : zK c1 = 7) (h2 : c1 + 1 = c2) (hdg : decode cc pc = .ok (.getfield 9, 3)) (kk : zWo Y p l e R s m args below meth c nl k n kq σ lv (.ref (zad Y c2) :: rest) pc' (o)) : zWo Y p l e R s m args below meth c nl k n kq σ lv (.ref (zad Y c1) :: rest) pc (o) := by
  subst h2
  exact zr_get cx hpc 7 hk (by decide) rfl zin_X6 0 (by decide) zw_266 rfl rfl hdg kk
theorem zg_X6_15 (cx : zCx Y p s m args meth c RX6 cc nl ret) (hpc : pc + 3 = pc') {c1 c2 : Nat} (hk : zK c1 = 7) (h2 : c1 + 2 = c2) (hdg : decode cc pc = .ok (.getfield 15, 3)) (kk : zWo Y p l e R s m args below meth c nl k n kq σ lv (.ref (zad Y c2) :: rest) pc' (o)) : zWo Y p l e R s m args below meth c nl k n kq σ lv (.ref (zad Y c1) :: rest) pc (o) := by
  subst h2
  exact zr_get cx hpc 7 hk (by decide) rfl zin_X6 1 (by decide) zw_268 rfl rfl hdg kk
theorem zg_X6_18 (cx : zCx Y p s m args meth c RX6 cc nl ret) (hpc : pc + 3 = pc') {c1 c2 : Nat} (hk : zK c1 = 7) (h2 : c1 + 3 = c2) (hdg : decode cc pc = .ok (.getfield 18, 3)) (kk : zWo Y p l e R s m args below meth c nl k n kq σ lv (.ref (zad Y c2) :: rest) pc' (o)) : zWo Y p l e R s m args below meth c nl k n kq σ lv (.ref (zad Y c1) :: rest) pc (o) := by
  subst h2
  exact zr_get cx hpc 7 hk (by decide) rfl zin_X6 2 (by decide) zw_270 rfl rfl hdg kk
theorem zg_X6_22 (cx : zCx Y p s m args meth c RX6 cc nl ret) (hpc : pc + 3 = pc') {c1 c2 : Nat} (hk : zK c1 = 7) (h2 : c1 + 4 = c2) (hdg : decode cc pc = .ok (.getfield 22, 3)) (kk : zWo Y p l e R s m args below meth c nl k n kq σ lv (.ref (zad Y c2) :: rest) pc' (o)) : zWo Y p l e R s m args below meth c nl k n kq σ lv (.ref (zad Y c1) :: rest) pc (o) := by
  subst h2
  exact zr_get cx hpc 7 hk (by decide) rfl zin_X6 3 (by decide) zw_272 rfl rfl hdg kk
theorem zg_X6_25 (cx : zCx Y p s m args meth c RX6 cc nl ret) (hpc : pc + 3 = pc') {c1 c2 : Nat} (hk : zK c1 = 7) (h2 : c1 + 5 = c2) (hdg : decode cc pc = .ok (.getfield 25, 3)) (kk : zWo Y p l e R s m args below meth c nl k n kq σ lv (.ref (zad Y c2) :: rest) pc' (o)) : zWo Y p l e R s m args below meth c nl k n kq σ lv (.ref (zad Y c1) :: rest) pc (o) := by
  subst h2
  exact zr_get cx hpc 7 hk (by decide) rfl zin_X6 4 (by decide) zw_274 rfl rfl hdg kk
theorem zg_X6_28 (cx : zCx Y p s m args meth c RX6 cc nl ret) (hpc : pc + 3 = pc') {c1 c2 : Nat} (hk : zK c1 = 7) (h2 : c1 + 6 = c2) (hdg : decode cc pc = .ok (.getfield 28, 3)) (kk : zWo Y p l e R s m args below meth c nl k n kq σ lv (.ref (zad Y c2) :: rest) pc' (o)) : zWo Y p l e R s m args below meth c nl k n kq σ lv (.ref (zad Y c1) :: rest) pc (o) := by
  subst h2
  exact zr_get cx hpc 7 hk (by decide) rfl zin_X6 5 (by decide) zw_276 rfl rfl hdg kk
theorem zg_X6_31 (cx : zCx Y p s m args meth c RX6 cc nl ret) (hpc : pc + 3 = pc') {c1 : Nat} (hk : zK c1 = 7) (hdg : decode cc pc = .ok (.getfield 31, 3)) (kk : zWo Y p l e R s m args below meth c nl k n kq σ lv (.int (i32 (σ.1 c1 6)) :: rest) pc' (o)) : zWo Y p l e R s m args below meth c nl k n kq σ lv (.ref (zad Y c1) :: rest) pc (o) := zr_get cx hpc 7 hk (by decide) rfl zin_X6 6 (by decide) zw_278 rfl rfl hdg kk
theorem zp_X6_31 (cx : zCx Y p s m args meth c RX6 cc nl ret) (hpc : pc + 3 = pc') {c1 : Nat} (hk : zK c1 = 7) {x : Int} (hdg : decode cc pc = .ok (.putfield 31, 3)) (kk : zWo Y p l e R s m args below meth c nl k n kq (zwr σ c1 6 x) lv (rest) pc' (o)) : zWo Y p l e R s m args below meth c nl k n kq σ lv (.int (i32 x) :: .ref (zad Y c1) :: rest) pc (o) := zr_put cx hpc 7 hk (by decide) rfl zin_X6 tyX6 tyX6_ok nmX6 6 (by decide) zw_278 rfl rfl (by decide +kernel) (Nat.le_of_ble_eq_true rfl) (by simp [zfs, zwr]) hdg kk
theorem zg_X6_35 (cx : zCx Y p s m args meth c RX6 cc nl ret) (hpc : pc + 3 = pc') {c1 : Nat} (hk : zK c1 = 7) (hdg : decode cc pc = .ok (.getfield 35, 3)) (kk : zWo Y p l e R s m args below meth c nl k n kq σ lv (.int (i32 (σ.1 c1 7)) :: rest) pc' (o)) : zWo Y p l e R s m args below meth c nl k n kq σ lv (.ref (zad Y c1) :: rest) pc (o) := zr_get cx hpc 7 hk (by decide) rfl zin_X6 7 (by decide) zw_280 rfl rfl hdg kk
theorem zp_X6_35 (cx : zCx Y p s m args meth c RX6 cc nl ret) (hpc : pc + 3 = pc') {c1 : Nat} (hk : zK c1 = 7) {x : Int} (hdg : decode cc pc = .ok (.putfield 35, 3)) (kk : zWo Y p l e R s m args below meth c nl k n kq (zwr σ c1 7 x) lv (rest) pc' (o)) : zWo Y p l e R s m args below meth c nl k n kq σ lv (.int (i32 x) :: .ref (zad Y c1) :: rest) pc (o) := zr_put cx hpc 7 hk (by decide) rfl zin_X6 tyX6 tyX6_ok nmX6 7 (by decide) zw_280 rfl rfl (by decide +kernel) (Nat.le_of_ble_eq_true rfl) (by simp [zfs, zwr]) hdg kk
theorem zg_X6_38 (cx : zCx Y p s m args meth c RX6 cc nl ret) (hpc : pc + 3 = pc') {c1 c2 : Nat} (hk : zK c1 = 7) (h2 : c1 + 7 = c2) (hdg : decode cc pc = .ok (.getfield 38, 3)) (kk : zWo Y p l e R s m args below meth c nl k n kq σ lv (.ref (zad Y c2) :: rest) pc' (o)) : zWo Y p l e R s m args below meth c nl k n kq σ lv (.ref (zad Y c1) :: rest) pc (o) := by
  subst h2
  exact zr_get cx hpc 7 hk (by decide) rfl zin_X6 8 (by decide) zw_282 rfl rfl hdg kk
theorem zg_X6_41 (cx : zCx Y p s m args meth c RX6 cc nl ret) (hpc : pc + 3 = pc') {c1 c2 : Nat} (hk : zK c1 = 7) (h2 : c1 + 8 = c2) (hdg : decode cc pc = .ok (.getfield 41, 3)) (kk : zWo Y p l e R s m args below meth c nl k n kq σ lv (.ref (zad Y c2) :: rest) pc' (o)) : zWo Y p l e R s m args below meth c nl k n kq σ lv (.ref (zad Y c1) :: rest) pc (o) := by
  subst h2
  exact zr_get cx hpc 7 hk (by decide) rfl zin_X6 9 (by decide) zw_284 rfl rfl hdg kk
theorem zg_X6_44 (cx : zCx Y p s m args meth c RX6 cc nl ret) (hpc : pc + 3 = pc') {c1 c2 : Nat} (hk : zK c1 = 7) (h2 : c1 + 9 = c2) (hdg : decode cc pc = .ok (.getfield 44, 3)) (kk : zWo Y p l e R s m args below meth c nl k n kq σ lv (.ref (zad Y c2) :: rest) pc' (o)) : zWo Y p l e R s m args below meth c nl k n kq σ lv (.ref (zad Y c1) :: rest) pc (o) := by
  subst h2
  exact zr_get cx hpc 7 hk (by decide) rfl zin_X6 10 (by decide) zw_286 rfl rfl hdg kk
theorem zg_X6_47 (cx : zCx Y p s m args meth c RX6 cc nl ret) (hpc : pc + 3 = pc') {c1 c2 : Nat} (hk : zK c1 = 7) (h2 : c1 + 10 = c2) (hdg : decode cc pc = .ok (.getfield 47, 3)) (kk : zWo Y p l e R s m args below meth c nl k n kq σ lv (.ref (zad Y c2) :: rest) pc' (o)) : zWo Y p l e R s m args below meth c nl k n kq σ lv (.ref (zad Y c1) :: rest) pc (o) := by
  subst h2
  exact zr_get cx hpc 7 hk (by decide) rfl zin_X6 11 (by decide) zw_287 rfl rfl hdg kk
theorem zg_X6_50 (cx : zCx Y p s m args meth c RX6 cc nl ret) (hpc : pc + 3 = pc') {c1 c2 : Nat} (hk : zK c1 = 6) (h2 : c1 + 1 = c2) (hdg : decode cc pc = .ok (.getfield 50, 3)) (kk : zWo Y p l e R s m args below meth c nl k n kq σ lv (.ref (zad Y c2) :: rest) pc' (o)) : zWo Y p l e R s m args below meth c nl k n kq σ lv (.ref (zad Y c1) :: rest) pc (o) := by
  subst h2
  exact zr_get cx hpc 6 hk (by decide) rfl zin_X5 0 (by decide) zw_225 rfl rfl hdg kk
theorem zg_X6_56 (cx : zCx Y p s m args meth c RX6 cc nl ret) (hpc : pc + 3 = pc') {c1 : Nat} (hk : zK c1 = 1) (hdg : decode cc pc = .ok (.getfield 56, 3)) (kk : zWo Y p l e R s m args below meth c nl k n kq σ lv (.int (i32 (σ.1 c1 0)) :: rest) pc' (o)) : zWo Y p l e R s m args below meth c nl k n kq σ lv (.ref (zad Y c1) :: rest) pc (o) := zr_get cx hpc 1 hk (by decide) rfl zin_X0 0 (by decide) zw_139 rfl rfl hdg kk
theorem zp_X6_56 (cx : zCx Y p s m args meth c RX6 cc nl ret) (hpc : pc + 3 = pc') {c1 : Nat} (hk : zK c1 = 1) {x : Int} (hdg : decode cc pc = .ok (.putfield 56, 3)) (kk : zWo Y p l e R s m args below meth c nl k n kq (zwr σ c1 0 x) lv (rest) pc' (o)) : zWo Y p l e R s m args below meth c nl k n kq σ lv (.int (i32 x) :: .ref (zad Y c1) :: rest) pc (o) := zr_put cx hpc 1 hk (by decide) rfl zin_X0 tyX0 tyX0_ok nmX0 0 (by decide) zw_139 rfl rfl (by decide +kernel) (Nat.le_of_ble_eq_true rfl) (by simp [zfs, zwr]) hdg kk
theorem zg_X6_69 (cx : zCx Y p s m args meth c RX6 cc nl ret) (hpc : pc + 3 = pc') {c1 c2 : Nat} (hk : zK c1 = 6) (h2 : c1 + 7 = c2) (hdg : decode cc pc = .ok (.getfield 69, 3)) (kk : zWo Y p l e R s m args below meth c nl k n kq σ lv (.ref (zad Y c2) :: rest) pc' (o)) : zWo Y p l e R s m args below meth c nl k n kq σ lv (.ref (zad Y c1) :: rest) pc (o) := by
  subst h2
  exact zr_get cx hpc 6 hk (by decide) rfl zin_X5 1 (by decide) zw_228 rfl rfl hdg kk
theorem zg_X6_77 (cx : zCx Y p s m args meth c RX6 cc nl ret) (hpc : pc + 3 = pc') {c1 c2 : Nat} (hk : zK c1 = 6) (h2 : c1 + 11 = c2) (hdg : decode cc pc = .ok (.getfield 77, 3)) (kk : zWo Y p l e R s m args below meth c nl k n kq σ lv (.ref (zad Y c2) :: rest) pc' (o)) : zWo Y p l e R s m args below meth c nl k n kq σ lv (.ref (zad Y c1) :: rest) pc (o) := by
  subst h2
  exact zr_get cx hpc 6 hk (by decide) rfl zin_X5 2 (by decide) zw_231 rfl rfl hdg kk
theorem zg_X6_112 (cx : zCx Y p s m args meth c RX6 cc nl ret) (hpc : pc + 3 = pc') {c1 c2 : Nat} (hk : zK c1 = 1) (h2 : c1 + 4 = c2) (hdg : decode cc pc = .ok (.getfield 112, 3)) (kk : zWo Y p l e R s m args below meth c nl k n kq σ lv (.ref (zad Y c2) :: rest) pc' (o)) : zWo Y p l e R s m args below meth c nl k n kq σ lv (.ref (zad Y c1) :: rest) pc (o) := by
  subst h2
  exact zr_get cx hpc 1 hk (by decide) rfl zin_X0 4 (by decide) zw_151 rfl rfl hdg kk
theorem zg_X6_115 (cx : zCx Y p s m args meth c RX6 cc nl ret) (hpc : pc + 3 = pc') {c1 c2 : Nat} (hk : zK c1 = 1) (h2 : c1 + 1 = c2) (hdg : decode cc pc = .ok (.getfield 115, 3)) (kk : zWo Y p l e R s m args below meth c nl k n kq σ lv (.ref (zad Y c2) :: rest) pc' (o)) : zWo Y p l e R s m args below meth c nl k n kq σ lv (.ref (zad Y c1) :: rest) pc (o) := by
  subst h2
  exact zr_get cx hpc 1 hk (by decide) rfl zin_X0 1 (by decide) zw_142 rfl rfl hdg kk
theorem zg_X6_118 (cx : zCx Y p s m args meth c RX6 cc nl ret) (hpc : pc + 3 = pc') {c1 c2 : Nat} (hk : zK c1 = 1) (h2 : c1 + 3 = c2) (hdg : decode cc pc = .ok (.getfield 118, 3)) (kk : zWo Y p l e R s m args below meth c nl k n kq σ lv (.ref (zad Y c2) :: rest) pc' (o)) : zWo Y p l e R s m args below meth c nl k n kq σ lv (.ref (zad Y c1) :: rest) pc (o) := by
  subst h2
  exact zr_get cx hpc 1 hk (by decide) rfl zin_X0 3 (by decide) zw_148 rfl rfl hdg kk
theorem zg_X6_124 (cx : zCx Y p s m args meth c RX6 cc nl ret) (hpc : pc + 3 = pc') {c1 c2 : Nat} (hk : zK c1 = 1) (h2 : c1 + 5 = c2) (hdg : decode cc pc = .ok (.getfield 124, 3)) (kk : zWo Y p l e R s m args below meth c nl k n kq σ lv (.ref (zad Y c2) :: rest) pc' (o)) : zWo Y p l e R s m args below meth c nl k n kq σ lv (.ref (zad Y c1) :: rest) pc (o) := by
  subst h2
  exact zr_get cx hpc 1 hk (by decide) rfl zin_X0 5 (by decide) zw_154 rfl rfl hdg kk
theorem zg_X6_127 (cx : zCx Y p s m args meth c RX6 cc nl ret) (hpc : pc + 3 = pc') {c1 : Nat} (hk : zK c1 = 4) (hdg : decode cc pc = .ok (.getfield 127, 3)) (kk : zWo Y p l e R s m args below meth c nl k n kq σ lv (.int (i32 (σ.1 c1 0)) :: rest) pc' (o)) : zWo Y p l e R s m args below meth c nl k n kq σ lv (.ref (zad Y c1) :: rest) pc (o) := zr_get cx hpc 4 hk (by decide) rfl zin_X3 0 (by decide) zw_178 rfl rfl hdg kk
theorem zp_X6_127 (cx : zCx Y p s m args meth c RX6 cc nl ret) (hpc : pc + 3 = pc') {c1 : Nat} (hk : zK c1 = 4) {x : Int} (hdg : decode cc pc = .ok (.putfield 127, 3)) (kk : zWo Y p l e R s m args below meth c nl k n kq (zwr σ c1 0 x) lv (rest) pc' (o)) : zWo Y p l e R s m args below meth c nl k n kq σ lv (.int (i32 x) :: .ref (zad Y c1) :: rest) pc (o) := zr_put cx hpc 4 hk (by decide) rfl zin_X3 tyX3 tyX3_ok nmX3 0 (by decide) zw_178 rfl rfl (by decide +kernel) (Nat.le_of_ble_eq_true rfl) (by simp [zfs, zwr]) hdg kk
theorem zg_X6_132 (cx : zCx Y p s m args meth c RX6 cc nl ret) (hpc : pc + 3 = pc') {c1 c2 : Nat} (hk : zK c1 = 4) (h2 : c1 + 1 = c2) (hdg : decode cc pc = .ok (.getfield 132, 3)) (kk : zWo Y p l e R s m args below meth c nl k n kq σ lv (.ref (zad Y c2) :: rest) pc' (o)) : zWo Y p l e R s m args below meth c nl k n kq σ lv (.ref (zad Y c1) :: rest) pc (o) := by
  subst h2
  exact zr_get cx hpc 4 hk (by decide) rfl zin_X3 1 (by decide) zw_180 rfl rfl hdg kk
theorem zg_X6_135 (cx : zCx Y p s m args meth c RX6 cc nl ret) (hpc : pc + 3 = pc') {c1 c2 : Nat} (hk : zK c1 = 4) (h2 : c1 + 3 = c2) (hdg : decode cc pc = .ok (.getfield 135, 3)) (kk : zWo Y p l e R s m args below meth c nl k n kq σ lv (.ref (zad Y c2) :: rest) pc' (o)) : zWo Y p l e R s m args below meth c nl k n kq σ lv (.ref (zad Y c1) :: rest) pc (o) := by
  subst h2
  exact zr_get cx hpc 4 hk (by decide) rfl zin_X3 3 (by decide) zw_186 rfl rfl hdg kk
theorem zg_X6_138 (cx : zCx Y p s m args meth c RX6 cc nl ret) (hpc : pc + 3 = pc') {c1 c2 : Nat} (hk : zK c1 = 4) (h2 : c1 + 2 = c2) (hdg : decode cc pc = .ok (.getfield 138, 3)) (kk : zWo Y p l e R s m args below meth c nl k n kq σ lv (.ref (zad Y c2) :: rest) pc' (o)) : zWo Y p l e R s m args below meth c nl k n kq σ lv (.ref (zad Y c1) :: rest) pc (o) := by
  subst h2
  exact zr_get cx hpc 4 hk (by decide) rfl zin_X3 2 (by decide) zw_183 rfl rfl hdg kk
theorem zg_X6_141 (cx : zCx Y p s m args meth c RX6 cc nl ret) (hpc : pc + 3 = pc') {c1 : Nat} (hk : zK c1 = 2) (hdg : decode cc pc = .ok (.getfield 141, 3)) (kk : zWo Y p l e R s m args below meth c nl k n kq σ lv (.int (i32 (σ.1 c1 0)) :: rest) pc' (o)) : zWo Y p l e R s m args below meth c nl k n kq σ lv (.ref (zad Y c1) :: rest) pc (o) := zr_get cx hpc 2 hk (by decide) rfl zin_X1 0 (by decide) zw_205 rfl rfl hdg kk
theorem zp_X6_141 (cx : zCx Y p s m args meth c RX6 cc nl ret) (hpc : pc + 3 = pc') {c1 : Nat} (hk : zK c1 = 2) {x : Int} (hdg : decode cc pc = .ok (.putfield 141, 3)) (kk : zWo Y p l e R s m args below meth c nl k n kq (zwr σ c1 0 x) lv (rest) pc' (o)) : zWo Y p l e R s m args below meth c nl k n kq σ lv (.int (i32 x) :: .ref (zad Y c1) :: rest) pc (o) := zr_put cx hpc 2 hk (by decide) rfl zin_X1 tyX1 tyX1_ok nmX1 0 (by decide) zw_205 rfl rfl (by decide +kernel) (Nat.le_of_ble_eq_true rfl) (by simp [zfs, zwr]) hdg kk
theorem zg_X6_144 (cx : zCx Y p s m args meth c RX6 cc nl ret) (hpc : pc + 3 = pc') {c1 c2 : Nat} (hk : zK c1 = 2) (h2 : c1 + 1 = c2) (hdg : decode cc pc = .ok (.getfield 144, 3)) (kk : zWo Y p l e R s m args below meth c nl k n kq σ lv (.ref (zad Y c2) :: rest) pc' (o)) : zWo Y p l e R s m args below meth c nl k n kq σ lv (.ref (zad Y c1) :: rest) pc (o) := by
  subst h2
  exact zr_get cx hpc 2 hk (by decide) rfl zin_X1 1 (by decide) zw_207 rfl rfl hdg kk
theorem zg_X6_145 (cx : zCx Y p s m args meth c RX6 cc nl ret) (hpc : pc + 3 = pc') {c1 c2 : Nat} (hk : zK c1 = 2) (h2 : c1 + 2 = c2) (hdg : decode cc pc = .ok (.getfield 145, 3)) (kk : zWo Y p l e R s m args below meth c nl k n kq σ lv (.ref (zad Y c2) :: rest) pc' (o)) : zWo Y p l e R s m args below meth c nl k n kq σ lv (.ref (zad Y c1) :: rest) pc (o) := by
  subst h2
  exact zr_get cx hpc 2 hk (by decide) rfl zin_X1 2 (by decide) zw_210 rfl rfl hdg kk
theorem zg_X6_148 (cx : zCx Y p s m args meth c RX6 cc nl ret) (hpc : pc + 3 = pc') {c1 c2 : Nat} (hk : zK c1 = 2) (h2 : c1 + 3 = c2) (hdg : decode cc pc = .ok (.getfield 148, 3)) (kk : zWo Y p l e R s m args below meth c nl k n kq σ lv (.ref (zad Y c2) :: rest) pc' (o)) : zWo Y p l e R s m args below meth c nl k n kq σ lv (.ref (zad Y c1) :: rest) pc (o) := by
  subst h2
  exact zr_get cx hpc 2 hk (by decide) rfl zin_X1 3 (by decide) zw_214 rfl rfl hdg kk
theorem zg_X8_7 (cx : zCx Y p s m args meth c RX8 cc nl ret) (hpc : pc + 3 = pc') {c1 : Nat} (hk : zK c1 = 9) (hdg : decode cc pc = .ok (.getfield 7, 3)) (kk : zWo Y p l e R s m args below meth c nl k n kq σ lv (.ref (zad Y 401) :: rest) pc' (o)) : zWo Y p l e R s m args below meth c nl k n kq σ lv (.ref (zad Y c1) :: rest) pc (o) := zr_get cx hpc 9 hk (by decide) rfl zin_X8 1 (by decide) zw_967 rfl rfl hdg kk
theorem zg_X8_13 (cx : zCx Y p s m args meth c RX8 cc nl ret) (hpc : pc + 3 = pc') {c1 : Nat} (hk : zK c1 = 9) (hdg : decode cc pc = .ok (.getfield 13, 3)) (kk : zWo Y p l e R s m args below meth c nl k n kq σ lv (.ref (zad Y 402) :: rest) pc' (o)) : zWo Y p l e R s m args below meth c nl k n kq σ lv (.ref (zad Y c1) :: rest) pc (o) := zr_get cx hpc 9 hk (by decide) rfl zin_X8 3 (by decide) zw_969 rfl rfl hdg kk
theorem zg_X8_16 (cx : zCx Y p s m args meth c RX8 cc nl ret) (hpc : pc + 3 = pc') {c1 : Nat} (hk : zK c1 = 9) (hdg : decode cc pc = .ok (.getfield 16, 3)) (kk : zWo Y p l e R s m args below meth c nl k n kq σ lv (.ref (zad Y 403) :: rest) pc' (o)) : zWo Y p l e R s m args below meth c nl k n kq σ lv (.ref (zad Y c1) :: rest) pc (o) := zr_get cx hpc 9 hk (by decide) rfl zin_X8 5 (by decide) zw_971 rfl rfl hdg kk
theorem zg_X8_19 (cx : zCx Y p s m args meth c RX8 cc nl ret) (hpc : pc + 3 = pc') {c1 : Nat} (hk : zK c1 = 9) (hdg : decode cc pc = .ok (.getfield 19, 3)) (kk : zWo Y p l e R s m args below meth c nl k n kq σ lv (.ref (zad Y 404) :: rest) pc' (o)) : zWo Y p l e R s m args below meth c nl k n kq σ lv (.ref (zad Y c1) :: rest) pc (o) := zr_get cx hpc 9 hk (by decide) rfl zin_X8 8 (by decide) zw_974 rfl rfl hdg kk
theorem zg_X8_22 (cx : zCx Y p s m args meth c RX8 cc nl ret) (hpc : pc + 3 = pc') {c1 : Nat} (hk : zK c1 = 9) (hdg : decode cc pc = .ok (.getfield 22, 3)) (kk : zWo Y p l e R s m args below meth c nl k n kq σ lv (.ref (zad Y 405) :: rest) pc' (o)) : zWo Y p l e R s m args below meth c nl k n kq σ lv (.ref (zad Y c1) :: rest) pc (o) := zr_get cx hpc 9 hk (by decide) rfl zin_X8 13 (by decide) zw_979 rfl rfl hdg kk
theorem zg_X8_25 (cx : zCx Y p s m args meth c RX8 cc nl ret) (hpc : pc + 3 = pc') {c1 : Nat} (hk : zK c1 = 9) (hdg : decode cc pc = .ok (.getfield 25, 3)) (kk : zWo Y p l e R s m args below meth c nl k n kq σ lv (.int (i32 (σ.1 c1 0)) :: rest) pc' (o)) : zWo Y p l e R s m args below meth c nl k n kq σ lv (.ref (zad Y c1) :: rest) pc (o) := zr_get cx hpc 9 hk (by decide) rfl zin_X8 0 (by decide) zw_966 rfl rfl hdg kk
theorem zp_X8_25 (cx : zCx Y p s m args meth c RX8 cc nl ret) (hpc : pc + 3 = pc') {c1 : Nat} (hk : zK c1 = 9) {x : Int} (hdg : decode cc pc = .ok (.putfield 25, 3)) (kk : zWo Y p l e R s m args below meth c nl k n kq (zwr σ c1 0 x) lv (rest) pc' (o)) : zWo Y p l e R s m args below meth c nl k n kq σ lv (.int (i32 x) :: .ref (zad Y c1) :: rest) pc (o) := zr_put cx hpc 9 hk (by decide) rfl zin_X8 tyX8 tyX8_ok nmX8 0 (by decide) zw_966 rfl rfl (by decide +kernel) (Nat.le_of_ble_eq_true rfl) (by simp [zfs, zwr]) hdg kk
theorem zg_X8_93 (cx : zCx Y p s m args meth c RX8 cc nl ret) (hpc : pc + 3 = pc') {c1 : Nat} (hk : zK c1 = 9) (hdg : decode cc pc = .ok (.getfield 93, 3)) (kk : zWo Y p l e R s m args below meth c nl k n kq σ lv (.int (i32 (σ.1 c1 6)) :: rest) pc' (o)) : zWo Y p l e R s m args below meth c nl k n kq σ lv (.ref (zad Y c1) :: rest) pc (o) := zr_get cx hpc 9 hk (by decide) rfl zin_X8 6 (by decide) zw_972 rfl rfl hdg kk
theorem zp_X8_93 (cx : zCx Y p s m args meth c RX8 cc nl ret) (hpc : pc + 3 = pc') {c1 : Nat} (hk : zK c1 = 9) {x : Int} (hdg : decode cc pc = .ok (.putfield 93, 3)) (kk : zWo Y p l e R s m args below meth c nl k n kq (zwr σ c1 6 x) lv (rest) pc' (o)) : zWo Y p l e R s m args below meth c nl k n kq σ lv (.int (i32 x) :: .ref (zad Y c1) :: rest) pc (o) := zr_put cx hpc 9 hk (by decide) rfl zin_X8 tyX8 tyX8_ok nmX8 6 (by decide) zw_972 rfl rfl (by decide +kernel) (Nat.le_of_ble_eq_true rfl) (by simp [zfs, zwr]) hdg kk
theorem zg_X8_96 (cx : zCx Y p s m args meth c RX8 cc nl ret) (hpc : pc + 3 = pc') {c1 : Nat} (hk : zK c1 = 9) (hdg : decode cc pc = .ok (.getfield 96, 3)) (kk : zWo Y p l e R s m args below meth c nl k n kq σ lv (.int (i32 (σ.1 c1 7)) :: rest) pc' (o)) : zWo Y p l e R s m args below meth c nl k n kq σ lv (.ref (zad Y c1) :: rest) pc (o) := zr_get cx hpc 9 hk (by decide) rfl zin_X8 7 (by decide) zw_973 rfl rfl hdg kk
theorem zp_X8_96 (cx : zCx Y p s m args meth c RX8 cc nl ret) (hpc : pc + 3 = pc') {c1 : Nat} (hk : zK c1 = 9) {x : Int} (hdg : decode cc pc = .ok (.putfield 96, 3)) (kk : zWo Y p l e R s m args below meth c nl k n kq (zwr σ c1 7 x) lv (rest) pc' (o)) : zWo Y p l e R s m args below meth c nl k n kq σ lv (.int (i32 x) :: .ref (zad Y c1) :: rest) pc (o) := zr_put cx hpc 9 hk (by decide) rfl zin_X8 tyX8 tyX8_ok nmX8 7 (by decide) zw_973 rfl rfl (by decide +kernel) (Nat.le_of_ble_eq_true rfl) (by simp [zfs, zwr]) hdg kk
theorem zg_X8_102 (cx : zCx Y p s m args meth c RX8 cc nl ret) (hpc : pc + 3 = pc') {c1 : Nat} (hk : zK c1 = 9) (hdg : decode cc pc = .ok (.getfield 102, 3)) (kk : zWo Y p l e R s m args below meth c nl k n kq σ lv (.int (i32 (σ.1 c1 2)) :: rest) pc' (o)) : zWo Y p l e R s m args below meth c nl k n kq σ lv (.ref (zad Y c1) :: rest) pc (o) := zr_get cx hpc 9 hk (by decide) rfl zin_X8 2 (by decide) zw_968 rfl rfl hdg kk
theorem zp_X8_102 (cx : zCx Y p s m args meth c RX8 cc nl ret) (hpc : pc + 3 = pc') {c1 : Nat} (hk : zK c1 = 9) {x : Int} (hdg : decode cc pc = .ok (.putfield 102, 3)) (kk : zWo Y p l e R s m args below meth c nl k n kq (zwr σ c1 2 x) lv (rest) pc' (o)) : zWo Y p l e R s m args below meth c nl k n kq σ lv (.int (i32 x) :: .ref (zad Y c1) :: rest) pc (o) := zr_put cx hpc 9 hk (by decide) rfl zin_X8 tyX8 tyX8_ok nmX8 2 (by decide) zw_968 rfl rfl (by decide +kernel) (Nat.le_of_ble_eq_true rfl) (by simp [zfs, zwr]) hdg kk
theorem zg_X8_162 (cx : zCx Y p s m args meth c RX8 cc nl ret) (hpc : pc + 3 = pc') {c1 : Nat} (hk : zK c1 = 9) (hdg : decode cc pc = .ok (.getfield 162, 3)) (kk : zWo Y p l e R s m args below meth c nl k n kq σ lv (.int (i32 (σ.1 c1 4)) :: rest) pc' (o)) : zWo Y p l e R s m args below meth c nl k n kq σ lv (.ref (zad Y c1) :: rest) pc (o) := zr_get cx hpc 9 hk (by decide) rfl zin_X8 4 (by decide) zw_970 rfl rfl hdg kk
theorem zp_X8_162 (cx : zCx Y p s m args meth c RX8 cc nl ret) (hpc : pc + 3 = pc') {c1 : Nat} (hk : zK c1 = 9) {x : Int} (hdg : decode cc pc = .ok (.putfield 162, 3)) (kk : zWo Y p l e R s m args below meth c nl k n kq (zwr σ c1 4 x) lv (rest) pc' (o)) : zWo Y p l e R s m args below meth c nl k n kq σ lv (.int (i32 x) :: .ref (zad Y c1) :: rest) pc (o) := zr_put cx hpc 9 hk (by decide) rfl zin_X8 tyX8 tyX8_ok nmX8 4 (by decide) zw_970 rfl rfl (by decide +kernel) (Nat.le_of_ble_eq_true rfl) (by simp [zfs, zwr]) hdg kk
theorem zg_X8_165 (cx : zCx Y p s m args meth c RX8 cc nl ret) (hpc : pc + 3 = pc') {c1 : Nat} (hk : zK c1 = 9) (hdg : decode cc pc = .ok (.getfield 165, 3)) (kk : zWo Y p l e R s m args below meth c nl k n kq σ lv (.int (i32 (σ.1 c1 10)) :: rest) pc' (o)) : zWo Y p l e R s m args below meth c nl k n kq σ lv (.ref (zad Y c1) :: rest) pc (o) := zr_get cx hpc 9 hk (by decide) rfl zin_X8 10 (by decide) zw_976 rfl rfl hdg kk
theorem zp_X8_165 (cx : zCx Y p s m args meth c RX8 cc nl ret) (hpc : pc + 3 = pc') {c1 : Nat} (hk : zK c1 = 9) {x : Int} (hdg : decode cc pc = .ok (.putfield 165, 3)) (kk : zWo Y p l e R s m args below meth c nl k n kq (zwr σ c1 10 x) lv (rest) pc' (o)) : zWo Y p l e R s m args below meth c nl k n kq σ lv (.int (i32 x) :: .ref (zad Y c1) :: rest) pc (o) := zr_put cx hpc 9 hk (by decide) rfl zin_X8 tyX8 tyX8_ok nmX8 10 (by decide) zw_976 rfl rfl (by decide +kernel) (Nat.le_of_ble_eq_true rfl) (by simp [zfs, zwr]) hdg kk
theorem zg_X8_168 (cx : zCx Y p s m args meth c RX8 cc nl ret) (hpc : pc + 3 = pc') {c1 : Nat} (hk : zK c1 = 9) (hdg : decode cc pc = .ok (.getfield 168, 3)) (kk : zWo Y p l e R s m args below meth c nl k n kq σ lv (.int (i32 (σ.1 c1 9)) :: rest) pc' (o)) : zWo Y p l e R s m args below meth c nl k n kq σ lv (.ref (zad Y c1) :: rest) pc (o) := zr_get cx hpc 9 hk (by decide) rfl zin_X8 9 (by decide) zw_975 rfl rfl hdg kk
theorem zp_X8_168 (cx : zCx Y p s m args meth c RX8 cc nl ret) (hpc : pc + 3 = pc') {c1 : Nat} (hk : zK c1 = 9) {x : Int} (hdg : decode cc pc = .ok (.putfield 168, 3)) (kk : zWo Y p l e R s m args below meth c nl k n kq (zwr σ c1 9 x) lv (rest) pc' (o)) : zWo Y p l e R s m args below meth c nl k n kq σ lv (.int (i32 x) :: .ref (zad Y c1) :: rest) pc (o) := zr_put cx hpc 9 hk (by decide) rfl zin_X8 tyX8 tyX8_ok nmX8 9 (by decide) zw_975 rfl rfl (by decide +kernel) (Nat.le_of_ble_eq_true rfl) (by simp [zfs, zwr]) hdg kk
theorem zg_X8_171 (cx : zCx Y p s m args meth c RX8 cc nl ret) (hpc : pc + 3 = pc') {c1 : Nat} (hk : zK c1 = 9) (hdg : decode cc pc = .ok (.getfield 171, 3)) (kk : zWo Y p l e R s m args below meth c nl k n kq σ lv (.int (i32 (σ.1 c1 12)) :: rest) pc' (o)) : zWo Y p l e R s m args below meth c nl k n kq σ lv (.ref (zad Y c1) :: rest) pc (o) := zr_get cx hpc 9 hk (by decide) rfl zin_X8 12 (by decide) zw_978 rfl rfl hdg kk
theorem zp_X8_171 (cx : zCx Y p s m args meth c RX8 cc nl ret) (hpc : pc + 3 = pc') {c1 : Nat} (hk : zK c1 = 9) {x : Int} (hdg : decode cc pc = .ok (.putfield 171, 3)) (kk : zWo Y p l e R s m args below meth c nl k n kq (zwr σ c1 12 x) lv (rest) pc' (o)) : zWo Y p l e R s m args below meth c nl k n kq σ lv (.int (i32 x) :: .ref (zad Y c1) :: rest) pc (o) := zr_put cx hpc 9 hk (by decide) rfl zin_X8 tyX8 tyX8_ok nmX8 12 (by decide) zw_978 rfl rfl (by decide +kernel) (Nat.le_of_ble_eq_true rfl) (by simp [zfs, zwr]) hdg kk
theorem zg_X8_174 (cx : zCx Y p s m args meth c RX8 cc nl ret) (hpc : pc + 3 = pc') {c1 : Nat} (hk : zK c1 = 9) (hdg : decode cc pc = .ok (.getfield 174, 3)) (kk : zWo Y p l e R s m args below meth c nl k n kq σ lv (.int (i32 (σ.1 c1 11)) :: rest) pc' (o)) : zWo Y p l e R s m args below meth c nl k n kq σ lv (.ref (zad Y c1) :: rest) pc (o) := zr_get cx hpc 9 hk (by decide) rfl zin_X8 11 (by decide) zw_977 rfl rfl hdg kk
theorem zp_X8_174 (cx : zCx Y p s m args meth c RX8 cc nl ret) (hpc : pc + 3 = pc') {c1 : Nat} (hk : zK c1 = 9) {x : Int} (hdg : decode cc pc = .ok (.putfield 174, 3)) (kk : zWo Y p l e R s m args below meth c nl k n kq (zwr σ c1 11 x) lv (rest) pc' (o)) : zWo Y p l e R s m args below meth c nl k n kq σ lv (.int (i32 x) :: .ref (zad Y c1) :: rest) pc (o) := zr_put cx hpc 9 hk (by decide) rfl zin_X8 tyX8 tyX8_ok nmX8 11 (by decide) zw_977 rfl rfl (by decide +kernel) (Nat.le_of_ble_eq_true rfl) (by simp [zfs, zwr]) hdg kk
theorem zg_X8_261 (cx : zCx Y p s m args meth c RX8 cc nl ret) (hpc : pc + 3 = pc') {c1 : Nat} (hk : zK c1 = 9) (hdg : decode cc pc = .ok (.getfield 261, 3)) (kk : zWo Y p l e R s m args below meth c nl k n kq σ lv (.long (σ.2.2 0) :: rest) pc' (o)) : zWo Y p l e R s m args below meth c nl k n kq σ lv (.ref (zad Y c1) :: rest) pc (o) := zr_get cx hpc 9 hk (by decide) rfl zin_X8 14 (by decide) zw_980 rfl rfl hdg kk
theorem zp_X8_261 (cx : zCx Y p s m args meth c RX8 cc nl ret) (hpc : pc + 3 = pc') (hk : zK 400 = 9) {x : Int64} (hdg : decode cc pc = .ok (.putfield 261, 3)) (kk : zWo Y p l e R s m args below meth c nl k n kq (zwl σ 0 x) lv (rest) pc' (o)) : zWo Y p l e R s m args below meth c nl k n kq σ lv (.long x :: .ref (zad Y 400) :: rest) pc (o) := zr_putl cx hpc 9 hk (by decide) rfl zin_X8 tyX8 tyX8_ok nmX8 14 (by decide) zw_980 rfl rfl zk9_one (by decide +kernel) (Nat.le_of_ble_eq_true rfl) (by simp [zfs, zwl]) hdg kk
def zmn (x y : Int) : Int := if i32 y < i32 x then y else x
theorem zr_mmin (cx : zCx Y p s m args meth c RX6 cc nl ret) (hpc : pc + 3 = pc') {x y : Int} (hf : 1 ≤ R.frames) (hlo : (rest.map fun v => v.category).sum + 13 ≤ R.locals) (hkn : k ≤ R.cells ∧ n ≤ R.slots) (hdg : decode cc pc = .ok (.invokestatic 92, 3)) (kk : zWo Y p l e R s m args below meth c nl k n kq σ lv (.int (i32 (zmn x y)) :: rest) pc' (o)) : zWo Y p l e R s m args below meth c nl k n kq σ lv (.int (i32 y) :: .int (i32 x) :: rest) pc (o) := by
  subst hpc
  obtain ⟨hx, hb, hml, hr0, hlk, hown, hts, hok, hz⟩ := id cx
  intro r hr H locs ls hH hS hl
  have h := kk r hr H locs ls hH hS hl
  have e : i32 (zmn x y) = if i32 y < i32 x then i32 y else i32 x := by unfold zmn; split <;> rfl
  rw [e] at h
  exact va_mmin hx hb (hml.trans hl.1.symm) hown (hts _ zw_557) (hts _ zw_558) (hts _ zw_116) (hts _ zw_559) hf hlo hkn.1 hkn.2 hdg h
theorem zr_d2bits (cx : zCx Y p s m args meth c RJxe99ae cc nl ret) (hpc : pc + 3 = pc') {x : UInt64} (hf : 1 ≤ R.frames) (hlo : (rest.map fun v => v.category).sum + 15 ≤ R.locals) (hdg : decode cc pc = .ok (.invokestatic 134, 3)) (kk : zWo Y p l e R s m args below meth c nl k n kq σ lv (.long x.toInt64 :: rest) pc' (o)) : zWo Y p l e R s m args below meth c nl k n kq σ lv (.double x :: rest) pc (o) := by
  subst hpc
  obtain ⟨hx, hb, hml, hr0, hlk, hown, hts, hok, hz⟩ := id cx
  intro r hr H locs ls hH hS hl
  exact vn_d2l hx hb (hml.trans hl.1.symm) hown (hts _ zw_1390) (hts _ zw_1392) (hts _ zw_1391) (hts _ zw_117) hf hlo hdg (kk r hr H locs ls hH hS hl)
def zfu : Nat := 2000
end ZFIELDS
