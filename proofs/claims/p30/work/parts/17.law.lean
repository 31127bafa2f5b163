section ZLAW
variable {Y : zLy} {p : Program} {l : Launch} {e : Env} {s : State} {m : MethodId} {below : List Frame} {meth : Method} {c : Code} {lv : List (Nat × Value)} {rest : List Value} {pc pc' : Nat} {b L : Nat} {xs : Nat → Int32}
abbrev zLo (Y : zLy) (p : Program) (l : Launch) (e : Env) (s : State) (m : MethodId) (b : Nat) (below : List Frame) (meth : Method) (c : Code) (k n : Nat) (σ : zSt) (lv : List (Nat × Value)) (st : List Value) (pc : Nat) (o : Option Unit) : Prop := zWo Y p l e room_1 s m #[Value.ref b] below meth c 12 k n (fun _ => lw_Z below #[Value.ref b] s) σ lv st pc o
theorem zr_kn {k n k' n' : Nat} {σ : zSt} {st : List Value} {o : Option Unit} (hk : k = k') (hn : n = n') (kk : zLo Y p l e s m b below meth c k' n' σ lv st pc o) : zLo Y p l e s m b below meth c k n σ lv st pc o := by subst hk hn; exact kk
theorem zr_true {k n : Nat} {σ : zSt} (cx : zCx Y p s m #[Value.ref b] meth c RL cL_law 12 ret) (hlw : meth.locks = false) (hnew : ∀ q : Nat, zA Y q → s.heap.size ≤ q) (hk : k ≤ 600104) (hn : n ≤ 7301314) (hdg : decode cL_law pc = .ok (.ireturn, 1)) : zLo Y p l e s m b below meth c k n σ lv (.int (i32 1) :: []) pc (some ()) := by
  intro r hr H locs ls hH hS hl
  refine va_forget (fun q hq => hnew _ (hS.2.2 q hq)) ?_
  refine W.widen (k := 600104) (n := 7301314) hk hn ?_
  exact lw_ret (d0 := s.drawn) (Drawn.sameBut.refl s.drawn lw_cs) cx.1 cx.2.1 cx.2.2.2.1 hlw hdg
def fL_p143 (K : zSt → Int → Option Unit) (g : zSt) (v i x y : Int) : Option Unit :=
    zbe (fL_act g v x y) (fun v1 g2 =>
    (if i32 v1 = i32 0 then
    none
    else
    zbe (fL_told0 g2) (fun v3 g4 =>
    (if i32 v3 = i32 0 then
    none
    else
    (if i32 (zmo i 5) = i32 4 then
    zbe (fL_ahead0 g4 (zsr y 2) (zsr x 2)) (fun v5 g6 =>
    (if i32 v5 = i32 0 then
    none
    else
    K g6 (i + 1)))
    else
    K g4 (i + 1))))))
theorem wL_p143 (cx : zCx Y p s m #[Value.ref b] meth c RL cL_law 12 ret) (h0 : zlv Y = 0) (hlw : meth.locks = false) (hnew : ∀ q : Nat, zA Y q → s.heap.size ≤ q) {k n : Nat} (hkn : k + 9 ≤ 600104 ∧ n + 151 ≤ 7301314) {K : zSt → Int → Option Unit} (hk : ∀ k' n' : Nat, k' ≤ k + 9 → n' ≤ n + 151 → ∀ (g : zSt) (i : Int), zLo Y p l e s m b below meth c k' n' g [(0, .ref (zsb Y)), (1, .ref (zad Y 0)), (2, .ref (zad Y 400)), (3, .ref (zad Y 401)), (4, .ref (zad Y 402)), (5, .ref (zad Y 403)), (6, .ref (zad Y 404)), (7, .ref (zad Y 405)), (8, .ref (zad Y 406)), (9, .int (i32 i))] [] 77 (K g i)) (g : zSt) (v i x y : Int) : zLo Y p l e s m b below meth c k n g [(0, .ref (zsb Y)), (1, .ref (zad Y 0)), (2, .ref (zad Y 400)), (3, .ref (zad Y 401)), (4, .ref (zad Y 402)), (5, .ref (zad Y 403)), (6, .ref (zad Y 404)), (7, .ref (zad Y 405)), (8, .ref (zad Y 406)), (9, .int (i32 i)), (10, .int (i32 x)), (11, .int (i32 y))] (.int (i32 v) :: .ref (zad Y 0) :: []) 143 (fL_p143 K g v i x y) := by
  unfold fL_p143
  obtain ⟨hkn1, hkn2⟩ := id hkn
  refine zr_iload (pc' := 145) cx rfl 10 dL_law_143 rfl ?_
  refine zr_iload (pc' := 147) cx rfl 11 dL_law_145 rfl ?_
  refine zr_aload_n (pc' := 148) cx rfl 2 dL_law_147 rfl rfl ?_
  refine zr_aload_n (pc' := 149) cx rfl 3 dL_law_148 rfl rfl ?_
  refine zr_aload (pc' := 151) cx rfl 4 dL_law_149 rfl ?_
  refine zr_aload (pc' := 153) cx rfl 5 dL_law_151 rfl ?_
  refine zr_aload (pc' := 155) cx rfl 6 dL_law_153 rfl ?_
  refine zr_aload (pc' := 157) cx rfl 7 dL_law_155 rfl ?_
  refine zr_aload (pc' := 159) cx rfl 8 dL_law_157 rfl ?_
  refine zc_L_112 (pc' := 162) cx rfl ⟨Nat.le_of_ble_eq_true rfl, Nat.le_of_ble_eq_true rfl⟩ ⟨by show k ≤ 600104; omega, by show n ≤ 7301314; omega⟩ (Nat.le_of_ble_eq_true rfl) dL_law_159 (fun v1 g2 => ?_)
  refine zr_if_eq (pc' := 165) cx rfl (tgt := 178) dL_law_162 rfl ?_ ?_
  · refine zr_iconst (pc' := 179) cx rfl dL_law_178 ?_
    exact zr_none
  · refine zr_aload_n (pc' := 166) cx rfl 1 dL_law_165 rfl rfl ?_
    refine zr_aload_n (pc' := 167) cx rfl 2 dL_law_166 rfl rfl ?_
    refine zr_aload_n (pc' := 168) cx rfl 3 dL_law_167 rfl rfl ?_
    refine zr_aload (pc' := 170) cx rfl 4 dL_law_168 rfl ?_
    refine zr_aload (pc' := 172) cx rfl 5 dL_law_170 rfl ?_
    refine zc_L_103 cx h0 rfl ⟨Nat.le_of_ble_eq_true rfl, Nat.le_of_ble_eq_true rfl⟩ ⟨by show k + 0 + 3 ≤ 600104; omega, by show n + 0 + 34 ≤ 7301314; omega⟩ (Nat.le_of_ble_eq_true rfl) dL_law_172 (fun v3 g4 => ?_)
    refine zr_kn (k' := k + 3) (n' := n + 34) (by omega) (by omega) ?_
    refine zr_if_ne (pc' := 178) cx rfl (tgt := 180) dL_law_175 rfl ?_ ?_
    · refine zr_iload (pc' := 182) cx rfl 9 dL_law_180 rfl ?_
      refine zr_iconst (pc' := 183) cx rfl dL_law_182 ?_
      refine zr_irem (pc' := 184) cx rfl (by decide +kernel) dL_law_183 ?_
      refine zr_iconst (pc' := 185) cx rfl dL_law_184 ?_
      refine zr_icmp_ne (pc' := 188) cx rfl (tgt := 211) dL_law_185 rfl ?_ ?_
      · refine zr_iinc (pc' := 214) cx rfl (lv' := [(9, .int (i32 (i + 1))), (0, .ref (zsb Y)), (1, .ref (zad Y 0)), (2, .ref (zad Y 400)), (3, .ref (zad Y 401)), (4, .ref (zad Y 402)), (5, .ref (zad Y 403)), (6, .ref (zad Y 404)), (7, .ref (zad Y 405)), (8, .ref (zad Y 406)), (10, .int (i32 x)), (11, .int (i32 y))]) 9 dL_law_211 rfl (by decide) rfl ?_
        refine zr_goto cx (tgt := 77) dL_law_214 rfl ?_
        refine zr_sub [1, 2, 3, 4, 5, 6, 7, 8, 9, 0] rfl ?_
        exact hk (k + 3) (n + 34) (by omega) (by omega) g4 (i + 1)
      · refine zr_aload_n (pc' := 189) cx rfl 1 dL_law_188 rfl rfl ?_
        refine zr_iload (pc' := 191) cx rfl 11 dL_law_189 rfl ?_
        refine zr_iconst (pc' := 192) cx rfl dL_law_191 ?_
        refine zr_ishr (pc' := 193) cx rfl dL_law_192 ?_
        refine zr_iload (pc' := 195) cx rfl 10 dL_law_193 rfl ?_
        refine zr_iconst (pc' := 196) cx rfl dL_law_195 ?_
        refine zr_ishr (pc' := 197) cx rfl dL_law_196 ?_
        refine zr_aload_n (pc' := 198) cx rfl 2 dL_law_197 rfl rfl ?_
        refine zr_aload_n (pc' := 199) cx rfl 3 dL_law_198 rfl rfl ?_
        refine zr_aload (pc' := 201) cx rfl 4 dL_law_199 rfl ?_
        refine zr_aload (pc' := 203) cx rfl 5 dL_law_201 rfl ?_
        refine zc_L_116 cx h0 rfl ⟨Nat.le_of_ble_eq_true rfl, Nat.le_of_ble_eq_true rfl⟩ ⟨by show k + 3 + 6 ≤ 600104; omega, by show n + 34 + 117 ≤ 7301314; omega⟩ (Nat.le_of_ble_eq_true rfl) dL_law_203 (fun v5 g6 => ?_)
        refine zr_kn (k' := k + 9) (n' := n + 151) (by omega) (by omega) ?_
        refine zr_if_ne (pc' := 209) cx rfl (tgt := 211) dL_law_206 rfl ?_ ?_
        · refine zr_iinc (pc' := 214) cx rfl (lv' := [(9, .int (i32 (i + 1))), (0, .ref (zsb Y)), (1, .ref (zad Y 0)), (2, .ref (zad Y 400)), (3, .ref (zad Y 401)), (4, .ref (zad Y 402)), (5, .ref (zad Y 403)), (6, .ref (zad Y 404)), (7, .ref (zad Y 405)), (8, .ref (zad Y 406)), (10, .int (i32 x)), (11, .int (i32 y))]) 9 dL_law_211 rfl (by decide) rfl ?_
          refine zr_goto cx (tgt := 77) dL_law_214 rfl ?_
          refine zr_sub [1, 2, 3, 4, 5, 6, 7, 8, 9, 0] rfl ?_
          exact hk (k + 9) (n + 151) (by omega) (by omega) g6 (i + 1)
        · refine zr_iconst (pc' := 210) cx rfl dL_law_209 ?_
          exact zr_none
    · refine zr_iconst (pc' := 179) cx rfl dL_law_178 ?_
      exact zr_none
def fL_p77 (L : Nat) (xs : Nat → Int32) : Nat → zSt → Int → Option Unit
  | 0, _, _ => none
  | fu + 1, g, i =>
    (if i32 i < i32 24 then
    zbd (fL_cell L xs (2 * i)) (fun v1 =>
    zlet (zan v1 2147483647) (fun x2 =>
    zbd (fL_cell L xs ((2 * i) + 1)) (fun v3 =>
    zlet (zan v3 2147483647) (fun x4 =>
    (if i32 i < i32 3 then
    fL_p143 (fL_p77 L xs fu) g 0 i x2 x4
    else
    (if i32 i < i32 5 then
    fL_p143 (fL_p77 L xs fu) g 3 i x2 x4
    else
    zbd (fL_at g (zsr x2 13) 16) (fun v5 =>
    fL_p143 (fL_p77 L xs fu) g v5 i x2 x4)))))))
    else
    some ())
theorem wL_p77 (cx : zCx Y p s m #[Value.ref b] meth c RL cL_law 12 ret) (h0 : zlv Y = 0) (hlw : meth.locks = false) (hnew : ∀ q : Nat, zA Y q → s.heap.size ≤ q) : ∀ (fu k n : Nat), k + 9 * fu ≤ 600104 → n + 151 * fu ≤ 7301314 → ∀ (g : zSt) (i : Int), zLo Y p l e s m b below meth c k n g [(0, .ref (zsb Y)), (1, .ref (zad Y 0)), (2, .ref (zad Y 400)), (3, .ref (zad Y 401)), (4, .ref (zad Y 402)), (5, .ref (zad Y 403)), (6, .ref (zad Y 404)), (7, .ref (zad Y 405)), (8, .ref (zad Y 406)), (9, .int (i32 i))] [] 77 (fL_p77 (zsL Y) (zsx Y) fu g i) := by
  intro fu
  induction fu with
  | zero => intro k n hk hn g i; exact zr_none
  | succ fu ih =>
    intro k n hk1 hn1 g i
    rw [fL_p77]
    have hkn : k + 9 ≤ 600104 ∧ n + 151 ≤ 7301314 := ⟨by omega, by omega⟩
    obtain ⟨hkn1, hkn2⟩ := id hkn
    have hk : ∀ k' n' : Nat, k' ≤ k + 9 → n' ≤ n + 151 → ∀ (g : zSt) (i : Int), zLo Y p l e s m b below meth c k' n' g [(0, .ref (zsb Y)), (1, .ref (zad Y 0)), (2, .ref (zad Y 400)), (3, .ref (zad Y 401)), (4, .ref (zad Y 402)), (5, .ref (zad Y 403)), (6, .ref (zad Y 404)), (7, .ref (zad Y 405)), (8, .ref (zad Y 406)), (9, .int (i32 i))] [] 77 (fL_p77 (zsL Y) (zsx Y) fu g i) := fun k' n' h1 h2 g i => ih k' n' (by omega) (by omega) g i
    refine zr_iload (pc' := 79) cx rfl 9 dL_law_77 rfl ?_
    refine zr_bipush (pc' := 81) cx rfl dL_law_79 (by decide +kernel) ?_
    refine zr_icmp_ge (pc' := 84) cx rfl (tgt := 217) dL_law_81 rfl ?_ ?_
    · refine zr_iconst (pc' := 218) cx rfl dL_law_217 ?_
      exact zr_true cx hlw hnew (by omega) (by omega) dL_law_218
    · refine zr_aload_n (pc' := 85) cx rfl 0 dL_law_84 rfl rfl ?_
      refine zr_iconst (pc' := 86) cx rfl dL_law_85 ?_
      refine zr_iload (pc' := 88) cx rfl 9 dL_law_86 rfl ?_
      refine zr_imul (pc' := 89) cx rfl dL_law_88 ?_
      refine zc_L_107 (pc' := 92) cx rfl ⟨Nat.le_of_ble_eq_true rfl, Nat.le_of_ble_eq_true rfl⟩ ⟨by show k ≤ 600104; omega, by show n ≤ 7301314; omega⟩ (Nat.le_of_ble_eq_true rfl) dL_law_89 (fun v1 => ?_)
      refine zr_ldc (pc' := 94) cx rfl (v := 2147483647) dL_law_92 zw_725 (by decide +kernel) ?_
      refine zr_iand (pc' := 95) cx rfl dL_law_94 ?_
      refine zr_leti (fun x2 => ?_)
      refine zr_istore (pc' := 97) cx rfl (lv' := [(10, .int (i32 x2)), (0, .ref (zsb Y)), (1, .ref (zad Y 0)), (2, .ref (zad Y 400)), (3, .ref (zad Y 401)), (4, .ref (zad Y 402)), (5, .ref (zad Y 403)), (6, .ref (zad Y 404)), (7, .ref (zad Y 405)), (8, .ref (zad Y 406)), (9, .int (i32 i))]) dL_law_95 (by decide) rfl ?_
      refine zr_aload_n (pc' := 98) cx rfl 1 dL_law_97 rfl rfl ?_
      refine zr_iconst (pc' := 99) cx rfl dL_law_98 ?_
      refine zr_iload (pc' := 101) cx rfl 10 dL_law_99 rfl ?_
      refine zr_imul (pc' := 102) cx rfl dL_law_101 ?_
      refine zr_iconst (pc' := 103) cx rfl dL_law_102 ?_
      refine zr_iadd (pc' := 104) cx rfl dL_law_103 ?_
      refine zc_L_107 (pc' := 107) cx rfl ⟨Nat.le_of_ble_eq_true rfl, Nat.le_of_ble_eq_true rfl⟩ ⟨by show k ≤ 600104; omega, by show n ≤ 7301314; omega⟩ (Nat.le_of_ble_eq_true rfl) dL_law_104 (fun v3 => ?_)
      refine zr_ldc (pc' := 109) cx rfl (v := 2147483647) dL_law_107 zw_725 (by decide +kernel) ?_
      refine zr_iand (pc' := 110) cx rfl dL_law_109 ?_
      refine zr_leti (fun x4 => ?_)
      refine zr_istore (pc' := 112) cx rfl (lv' := [(11, .int (i32 x4)), (10, .int (i32 x2)), (0, .ref (zsb Y)), (1, .ref (zad Y 0)), (2, .ref (zad Y 400)), (3, .ref (zad Y 401)), (4, .ref (zad Y 402)), (5, .ref (zad Y 403)), (6, .ref (zad Y 404)), (7, .ref (zad Y 405)), (8, .ref (zad Y 406)), (9, .int (i32 i))]) dL_law_110 (by decide) rfl ?_
      refine zr_aload_n (pc' := 113) cx rfl 3 dL_law_112 rfl rfl ?_
      refine zr_iload (pc' := 115) cx rfl 11 dL_law_113 rfl ?_
      refine zr_iconst (pc' := 116) cx rfl dL_law_115 ?_
      refine zr_icmp_ge (pc' := 119) cx rfl (tgt := 123) dL_law_116 rfl ?_ ?_
      · refine zr_iload (pc' := 125) cx rfl 11 dL_law_123 rfl ?_
        refine zr_iconst (pc' := 126) cx rfl dL_law_125 ?_
        refine zr_icmp_ge (pc' := 129) cx rfl (tgt := 133) dL_law_126 rfl ?_ ?_
        · refine zr_iload (pc' := 135) cx rfl 1 dL_law_133 rfl ?_
          refine zr_bipush (pc' := 137) cx rfl dL_law_135 (by decide +kernel) ?_
          refine zr_ishr (pc' := 138) cx rfl dL_law_137 ?_
          refine zr_bipush (pc' := 140) cx rfl dL_law_138 (by decide +kernel) ?_
          refine zc_L_51 (pc' := 143) cx rfl ⟨Nat.le_of_ble_eq_true rfl, Nat.le_of_ble_eq_true rfl⟩ ⟨by show k ≤ 600104; omega, by show n ≤ 7301314; omega⟩ (Nat.le_of_ble_eq_true rfl) dL_law_140 (fun v5 => ?_)
          refine zr_sub [2, 3, 4, 5, 6, 7, 8, 9, 10, 11, 1, 0] rfl ?_
          exact wL_p143 cx h0 hlw hnew hkn hk g v5 i x2 x4
        · refine zr_iconst (pc' := 130) cx rfl dL_law_129 ?_
          refine zr_gotoS cx (tgt := 143) dL_law_130 rfl ?_
          refine zr_sub [2, 3, 4, 5, 6, 7, 8, 9, 10, 11, 1, 0] rfl ?_
          exact wL_p143 cx h0 hlw hnew hkn hk g 3 i x2 x4
      · refine zr_iconst (pc' := 120) cx rfl dL_law_119 ?_
        refine zr_gotoS cx (tgt := 143) dL_law_120 rfl ?_
        refine zr_sub [2, 3, 4, 5, 6, 7, 8, 9, 10, 11, 1, 0] rfl ?_
        exact wL_p143 cx h0 hlw hnew hkn hk g 0 i x2 x4
def fL_law (L : Nat) (xs : Nat → Int32) (g : zSt) : Option Unit :=
    zck ((0 : Int) ≤ 0 ∧ 0 < 9) (zlet (zwr g 403 (Int.toNat 0) 1) (fun g1 =>
    zck ((0 : Int) ≤ 3 ∧ 3 < 9) (zlet (zwr g1 403 (Int.toNat 3) 10) (fun g2 =>
    zbe (fL_told0 g2) (fun v3 g4 =>
    (if i32 v3 = i32 0 then
    none
    else
    fL_p77 L xs 25 g4 0))))))
theorem wL_law (cx : zCx Y p s m #[Value.ref b] meth c RL cL_law 12 ret) (h0 : zlv Y = 0) (hlw : meth.locks = false) (hnew : ∀ q : Nat, zA Y q → s.heap.size ≤ q) {k n : Nat} (hk : k ≤ 1000) (hn : n ≤ 10000) (g : zSt) : zLo Y p l e s m b below meth c k n g [(0, .ref (zsb Y)), (1, .ref (zad Y 0)), (2, .ref (zad Y 400)), (3, .ref (zad Y 401)), (4, .ref (zad Y 402)), (5, .ref (zad Y 403)), (6, .ref (zad Y 404)), (7, .ref (zad Y 405)), (8, .ref (zad Y 406))] [] 48 (fL_law (zsL Y) (zsx Y) g) := by
  unfold fL_law
  refine zr_aload (pc' := 50) cx rfl 5 dL_law_48 rfl ?_
  refine zr_iconst (pc' := 51) cx rfl dL_law_50 ?_
  refine zr_iconst (pc' := 52) cx rfl dL_law_51 ?_
  refine zr_iast (pc' := 53) cx rfl 13 zkc_403 (by decide) (L := 9) rfl dL_law_52 ?_
  refine zr_letS (fun g1 => ?_)
  refine zr_aload (pc' := 55) cx rfl 5 dL_law_53 rfl ?_
  refine zr_iconst (pc' := 56) cx rfl dL_law_55 ?_
  refine zr_bipush (pc' := 58) cx rfl dL_law_56 (by decide +kernel) ?_
  refine zr_iast (pc' := 59) cx rfl 13 zkc_403 (by decide) (L := 9) rfl dL_law_58 ?_
  refine zr_letS (fun g2 => ?_)
  refine zr_aload_n (pc' := 60) cx rfl 1 dL_law_59 rfl rfl ?_
  refine zr_aload_n (pc' := 61) cx rfl 2 dL_law_60 rfl rfl ?_
  refine zr_aload_n (pc' := 62) cx rfl 3 dL_law_61 rfl rfl ?_
  refine zr_aload (pc' := 64) cx rfl 4 dL_law_62 rfl ?_
  refine zr_aload (pc' := 66) cx rfl 5 dL_law_64 rfl ?_
  refine zc_L_103 cx h0 rfl ⟨Nat.le_of_ble_eq_true rfl, Nat.le_of_ble_eq_true rfl⟩ ⟨by show k + 0 + 3 ≤ 600104; omega, by show n + 0 + 34 ≤ 7301314; omega⟩ (Nat.le_of_ble_eq_true rfl) dL_law_66 (fun v3 g4 => ?_)
  refine zr_kn (k' := k + 3) (n' := n + 34) (by omega) (by omega) ?_
  refine zr_if_ne (pc' := 72) cx rfl (tgt := 74) dL_law_69 rfl ?_ ?_
  · refine zr_iconst (pc' := 75) cx rfl dL_law_74 ?_
    refine zr_istore (pc' := 77) cx rfl (lv' := [(9, .int (i32 0)), (0, .ref (zsb Y)), (1, .ref (zad Y 0)), (2, .ref (zad Y 400)), (3, .ref (zad Y 401)), (4, .ref (zad Y 402)), (5, .ref (zad Y 403)), (6, .ref (zad Y 404)), (7, .ref (zad Y 405)), (8, .ref (zad Y 406))]) dL_law_75 (by decide) rfl ?_
    refine zr_sub [1, 2, 3, 4, 5, 6, 7, 8, 9, 0] rfl ?_
    exact wL_p77 cx h0 hlw hnew 25 _ _ (by omega) (by omega) g4 0
  · refine zr_iconst (pc' := 73) cx rfl dL_law_72 ?_
    exact zr_none
end ZLAW
