section QBITS
variable {x y : UInt64} {c k a b A B L e t M : Nat} {q r e0 : Int} {g : zSt}
theorem fp_nge (hB : 0 < B) (h : M * B ≤ A) : M ≤ FP.Core.nearest A B := by
  have z : M ≤ A / B := (Nat.le_div_iff_mul_le hB).mpr h
  unfold FP.Core.nearest
  split
  · exact z
  · split <;> omega
theorem fp_nle (hB : 0 < B) (h : A ≤ M * B) : FP.Core.nearest A B ≤ M := by
  unfold FP.Core.nearest
  by_cases e : A = M * B
  · rw [e, Nat.mul_mod_left, if_pos (by omega), Nat.mul_div_cancel _ hB]
    exact Nat.le_refl _
  · have z : A / B < M := (Nat.div_lt_iff_lt_mul hB).mpr (by omega)
    split
    · omega
    · split <;> omega
/-- a quotient of two normal numbers -/
theorem fp_div (hx : qN x a q) (hy : qN y b r) (h : -1074 ≤ q - r - 53 ∧ q - r - 52 ≤ 971) : ∃ (c' : Nat) (q' : Int), qN (FP.ddiv x y) c' q' ∧ ((b ≤ a ∧ q' = q - r - 52) ∨ (a < b ∧ q' = q - r - 53)) := by
  have ha := hx.1
  have hb := hy.1
  have hB : 0 < b := by omega
  have la : a.log2 = 52 := fp_log ⟨ha.1, ha.2⟩
  have lb : b.log2 = 52 := fp_log ⟨hb.1, hb.2⟩
  have key : FP.ddiv x y = UInt64.ofNat (FP.Core.encode FP.Core.b64 (FP.Core.roundRatio FP.Core.b64 false a b (q - r))) := by
    show UInt64.ofNat (FP.Core.encode FP.Core.b64 (FP.Core.quotient FP.Core.b64 (FP.Core.decode FP.Core.b64 x.toNat) (FP.Core.decode FP.Core.b64 y.toNat))) = _
    rw [fp_dec hx, fp_dec hy]
    show UInt64.ofNat (FP.Core.encode FP.Core.b64 (if b = 0 then _ else _)) = _
    rw [if_neg (by omega)]
    rfl
  have hle : FP.Core.leading a b = if b ≤ a then 0 else -1 := by
    unfold FP.Core.leading
    rw [la, lb]
    show (if b * 1 ≤ a * 1 then (0 : Int) else 0 - 1) = _
    by_cases h : b ≤ a
    · rw [if_pos (by omega), if_pos h]
    · rw [if_neg (by omega), if_neg h]; rfl
  rw [key]
  unfold FP.Core.roundRatio
  rw [if_neg (by omega)]
  by_cases hab : b ≤ a
  · have hqu : FP.Core.quantum FP.Core.b64 a b (q - r) = q - r - 52 := by
      unfold FP.Core.quantum
      rw [hle, if_pos hab, fp_q, fp_p]
      omega
    rw [hqu]
    unfold FP.Core.roundAt FP.Core.unitsNum FP.Core.unitsDen
    rw [show (q - r - (q - r - 52)).toNat = 52 by omega, show (q - r - 52 - (q - r)).toNat = 0 by omega, Nat.pow_zero, Nat.mul_one]
    have n1 : 4503599627370496 ≤ FP.Core.nearest (a * 2 ^ 52) b := fp_nge hB (by rw [Nat.mul_comm a]; exact Nat.mul_le_mul_left _ hab)
    have n2 : FP.Core.nearest (a * 2 ^ 52) b ≤ 9007199254740991 := fp_nle hB (by
      have : 9007199254740991 * 4503599627370496 ≤ 9007199254740991 * b := Nat.mul_le_mul_left _ hb.1
      have z2 : a * 2 ^ 52 ≤ 9007199254740991 * 2 ^ 52 := Nat.mul_le_mul_right _ (by omega)
      exact Nat.le_trans z2 this)
    rw [fp_set (by omega) (by omega)]
    exact ⟨_, _, fp_enc ⟨n1, by omega⟩ (by omega), Or.inl ⟨hab, rfl⟩⟩
  · have hqu : FP.Core.quantum FP.Core.b64 a b (q - r) = q - r - 53 := by
      unfold FP.Core.quantum
      rw [hle, if_neg hab, fp_q, fp_p]
      omega
    rw [hqu]
    unfold FP.Core.roundAt FP.Core.unitsNum FP.Core.unitsDen
    rw [show (q - r - (q - r - 53)).toNat = 53 by omega, show (q - r - 53 - (q - r)).toNat = 0 by omega, Nat.pow_zero, Nat.mul_one, show (2 : Nat) ^ 53 = 9007199254740992 from rfl]
    have n1 : 4503599627370496 ≤ FP.Core.nearest (a * 9007199254740992) b := fp_nge hB (by omega)
    have n2 : FP.Core.nearest (a * 9007199254740992) b ≤ 9007199254740991 := fp_nle hB (by omega)
    rw [fp_set (by omega) (by omega)]
    exact ⟨_, _, fp_enc ⟨n1, by omega⟩ (by omega), Or.inr ⟨by omega, rfl⟩⟩
theorem fp_cmp (hx : qN x c q) (hy : qN y a r) : FP.dcmp x y = some (compare ((c * 2 ^ (q - min q r).toNat : Nat) : Int) ((a * 2 ^ (r - min q r).toNat : Nat) : Int)) := by
  show FP.Core.order (FP.Core.decode FP.Core.b64 x.toNat) (FP.Core.decode FP.Core.b64 y.toNat) = _
  rw [fp_dec hx, fp_dec hy]
  rfl
theorem fp_lt {i j : Int} (h : i < j) : compare i j = .lt := by
  simp [compare, compareOfLessAndEq, h]
theorem fp_gt {i j : Int} (h : j < i) : compare i j = .gt := by
  simp [compare, compareOfLessAndEq, Int.not_lt.mpr (Int.le_of_lt h), Int.ne_of_gt h]
theorem fp_eq (i : Int) : compare i i = .eq := by
  simp [compare, compareOfLessAndEq]
theorem fp_c1 (hx : qN x c q) (h : q < -52) : zdc x FP.dconst1 .g = -1 := by
  have h1 := hx.1
  obtain ⟨d, hd⟩ : ∃ d : Nat, (-52 - q).toNat = d + 1 := ⟨(-52 - q).toNat - 1, by omega⟩
  unfold zdc
  rw [fp_cmp hx fp_one, show (q - min q (-52)).toNat = 0 by omega, show (-52 - min q (-52)).toNat = d + 1 by omega, fp_lt]
  · rfl
  · rw [Nat.pow_zero, Nat.mul_one, Nat.pow_succ]
    have := Nat.two_pow_pos d
    omega
theorem fp_c2 (hx : qN x c (-52)) : zdc x FP.dconst1 .g = 0 ∨ zdc x FP.dconst1 .g = 1 := by
  have h1 := hx.1
  unfold zdc
  rw [fp_cmp hx fp_one, show ((-52 : Int) - min (-52) (-52)).toNat = 0 from rfl, Nat.pow_zero, Nat.mul_one, Nat.mul_one]
  by_cases e : c = 4503599627370496
  · rw [e, fp_eq]
    exact Or.inl rfl
  · rw [fp_gt (by omega)]
    exact Or.inr rfl
theorem fp_c0 (hx : qN x c q) : zdc x FP.dconst0 .g = 1 := by
  have h1 := hx.1
  have h2 := hx.2.1
  unfold zdc
  have : FP.dcmp x FP.dconst0 = some .gt := by
    show FP.Core.order (FP.Core.decode FP.Core.b64 x.toNat) (FP.Core.decode FP.Core.b64 (FP.dconst0).toNat) = _
    rw [fp_dec hx, show FP.Core.decode FP.Core.b64 (FP.dconst0).toNat = .fin false 0 (-1074) by decide]
    show some (compare ((c * 2 ^ (q - min q (-1074)).toNat : Nat) : Int) ((0 * 2 ^ ((-1074 : Int) - min q (-1074)).toNat : Nat) : Int)) = _
    have := Nat.two_pow_pos (q - min q (-1074)).toNat
    have hm : 0 < c * 2 ^ (q - min q (-1074)).toNat := Nat.mul_pos (by omega) this
    rw [Nat.zero_mul, fp_gt (by omega)]
  rw [this]
  rfl
theorem fp_cs (hx : qN x c q) : zdc x x .l = 0 := by
  unfold zdc
  rw [fp_cmp hx hx, fp_eq]
  rfl
/-- the fraction of a number from 1 to 2 -/
theorem fp_frac (hx : qN x c (-52)) : znb (FP.dsub x FP.dconst1) = true ∧ znb (FP.dmul (FP.dsub x FP.dconst1) (4841369599423283200 : UInt64)) = true ∧ FP.d2l (FP.dmul (FP.dsub x FP.dconst1) (4841369599423283200 : UInt64)) = Int64.ofNat (c - 4503599627370496) := by
  have h1 := hx.1
  have es : FP.dsub x FP.dconst1 = UInt64.ofNat (FP.Core.encode FP.Core.b64 (FP.Core.roundRatio FP.Core.b64 false (c - 4503599627370496) 1 (-52))) := by
    show UInt64.ofNat (FP.Core.encode FP.Core.b64 (FP.Core.round FP.Core.b64 (FP.Core.exactSum (FP.Core.decode FP.Core.b64 x.toNat) (FP.Core.negate (FP.Core.decode FP.Core.b64 (FP.dconst1).toNat))))) = _
    rw [fp_dec hx, fp_dec fp_one]
    have ev : FP.Core.sumUnits false c (-52) true 4503599627370496 (-52) (-52) = ((c - 4503599627370496 : Nat) : Int) := by
      unfold FP.Core.sumUnits FP.Core.signed FP.Core.inUnits
      rw [show ((-52 : Int) - -52).toNat = 0 from rfl, Nat.pow_zero, Nat.mul_one, Nat.mul_one]
      simp only [if_true]
      show (c : Int) + -((4503599627370496 : Nat) : Int) = _
      omega
    show UInt64.ofNat (FP.Core.encode FP.Core.b64 (FP.Core.round FP.Core.b64 (.fin (FP.Core.sumSign false true (FP.Core.sumUnits false c (-52) true 4503599627370496 (-52) (-52))) (FP.Core.sumUnits false c (-52) true 4503599627370496 (-52) (-52)).natAbs (-52)))) = _
    rw [ev, Int.natAbs_natCast]
    have eg : FP.Core.sumSign false true ((c - 4503599627370496 : Nat) : Int) = false := by
      unfold FP.Core.sumSign
      split
      · rfl
      · exact decide_eq_false (by omega)
    rw [eg]
    rfl
  by_cases e : c = 4503599627370496
  · have e0 : FP.dsub x FP.dconst1 = 0 := by
      rw [es, e]
      show UInt64.ofNat (FP.Core.encode FP.Core.b64 (FP.Core.roundRatio FP.Core.b64 false 0 1 (-52))) = 0
      unfold FP.Core.roundRatio
      rw [if_pos rfl]
      decide
    have em : FP.dmul (0 : UInt64) (4841369599423283200 : UInt64) = 0 := by
      show UInt64.ofNat (FP.Core.encode FP.Core.b64 (FP.Core.round FP.Core.b64 (FP.Core.exactProduct (FP.Core.decode FP.Core.b64 (0 : UInt64).toNat) (FP.Core.decode FP.Core.b64 (4841369599423283200 : UInt64).toNat)))) = 0
      rw [fp_dec fp_p52, show FP.Core.decode FP.Core.b64 (0 : UInt64).toNat = .fin false 0 (-1074) by decide]
      show UInt64.ofNat (FP.Core.encode FP.Core.b64 (FP.Core.roundRatio FP.Core.b64 false (0 * 4503599627370496) 1 (-1074 + 0))) = 0
      rw [Nat.zero_mul]
      unfold FP.Core.roundRatio
      rw [if_pos rfl]
      decide
    rw [e0, e, em]
    refine ⟨by decide, by decide, ?_⟩
    show Int64.ofInt (FP.Core.toInt (-2 ^ 63) (2 ^ 63 - 1) (FP.Core.decode FP.Core.b64 (0 : UInt64).toNat)) = _
    rw [show FP.Core.decode FP.Core.b64 (0 : UInt64).toNat = .fin false 0 (-1074) by decide]
    show Int64.ofInt (max (-2 ^ 63) (min (2 ^ 63 - 1) (FP.Core.truncate false 0 (-1074)))) = _
    have et : FP.Core.truncate false 0 (-1074) = 0 := by
      unfold FP.Core.truncate FP.Core.signed
      rw [Nat.zero_mul, Nat.zero_div]
      rfl
    rw [et]
    rfl
  · have hT : c - 4503599627370496 ≠ 0 := by omega
    have l1 := Nat.log2_self_le hT
    have l2 := @Nat.lt_log2_self (c - 4503599627370496)
    have l3 : (c - 4503599627370496).log2 < 52 := (Nat.log2_lt hT).mpr (by show _ < 4503599627370496; omega)
    obtain ⟨z1, z2⟩ := fp_rup (A := c - 4503599627370496) (L := (c - 4503599627370496).log2) (e0 := -52) ⟨l1, l2⟩ (by omega) (by omega)
    generalize hL : (c - 4503599627370496).log2 = L at *
    generalize hA : c - 4503599627370496 = A at *
    rw [z1] at es
    have hr : qN (FP.dsub x FP.dconst1) (A * 2 ^ (52 - L)) (-52 - ((52 - L : Nat) : Int)) := by
      rw [es]
      exact fp_enc z2 (by omega)
    have hm := fp_mul2 hr fp_p52 (by omega)
    refine ⟨qN_nb hr, qN_nb hm, ?_⟩
    show Int64.ofInt (FP.Core.toInt (-2 ^ 63) (2 ^ 63 - 1) (FP.Core.decode FP.Core.b64 (FP.dmul (FP.dsub x FP.dconst1) (4841369599423283200 : UInt64)).toNat)) = _
    rw [fp_dec hm]
    have et : FP.Core.truncate false (A * 2 ^ (52 - L)) (-52 - ((52 - L : Nat) : Int) + 0 + 52) = (A : Int) := by
      unfold FP.Core.truncate FP.Core.signed
      rw [show (-52 - ((52 - L : Nat) : Int) + 0 + 52).toNat = 0 by omega, show (-(-52 - ((52 - L : Nat) : Int) + 0 + 52)).toNat = 52 - L by omega, Nat.pow_zero, Nat.mul_one, Nat.mul_div_cancel _ (Nat.two_pow_pos _)]
      rfl
    show Int64.ofInt (max (-2 ^ 63) (min (2 ^ 63 - 1) (FP.Core.truncate false (A * 2 ^ (52 - L)) (-52 - ((52 - L : Nat) : Int) + 0 + 52)))) = _
    rw [et]
    have hAr : (A : Int) < 4503599627370496 := by omega
    have : max (-2 ^ 63) (min (2 ^ 63 - 1) (A : Int)) = (A : Int) := by omega
    rw [this]
    exact Int64.ofInt_eq_ofNat
theorem fp_sh : ∀ E : Nat, E < 1024 → (Int64.ofNat E) <<< ((i32 52).toInt64 &&& 63) = Int64.ofNat (E * 4503599627370496) := by decide +kernel
theorem fp_gt1 : ∀ n : Nat, n < 1024 → 2 ≤ n → zlc (Int64.ofNat n) (1 : Int64) = 1 := by decide +kernel
theorem fp_sub1 : ∀ n : Nat, n < 1024 → 1 ≤ n → Int64.ofNat n - (1 : Int64) = Int64.ofNat (n - 1) := by decide +kernel
theorem fp_loop {E : Nat} (hE : 1 ≤ E) : ∀ (j fu : Nat) (d : UInt64) (q : Int), qN d c q → q + j = -52 → j < fu → E + j ≤ 1023 → fX7_bitsOfShare_p15 g fu d (Int64.ofNat (E + j)) = some (Int64.ofNat (E * 4503599627370496 + (c - 4503599627370496))) := by
  intro j
  induction j with
  | zero =>
    intro fu d q hd hq hf hb
    obtain ⟨f2, rfl⟩ : ∃ f2, fu = f2 + 1 := ⟨fu - 1, by omega⟩
    have eq : q = -52 := by omega
    rw [eq] at hd
    have hz := fp_c2 hd
    have hf := fp_frac hd
    rw [fX7_bitsOfShare_p15, ilt (by omega) (by omega), if_neg (by omega)]
    unfold fX7_bitsOfShare_p43
    rw [zck_t hf.1, zck_t hf.2.1, zlet_e, hf.2.2, Nat.add_zero, fp_sh E (by omega), Int64.ofNat_add]
  | succ j ih =>
    intro fu d q hd hq hf hb
    obtain ⟨f2, rfl⟩ : ∃ f2, fu = f2 + 1 := ⟨fu - 1, by omega⟩
    have hm := fp_mul2 hd fp_two (by have := hd.2.1; omega)
    have h2 := ih f2 (FP.dmul d (4611686018427387904 : UInt64)) _ hm (by omega) (by omega) (by omega)
    rw [fX7_bitsOfShare_p15, fp_c1 hd (by omega), ilt (by omega) (by omega), if_pos (by omega), fp_gt1 _ (by omega) (by omega), ilt (by omega) (by omega), if_pos (by omega), zck_t (qN_nb hm), zlet_e, zlet_e, fp_sub1 _ (by omega) (by omega)]
    exact h2
/-- the share's bits as the class finds them -/
theorem fp_bits (hx : qN x c q) (hq : -1074 ≤ q ∧ q ≤ -52) : fX7_bitsOfShare g x = some x.toInt64 := by
  obtain ⟨E, hE⟩ : ∃ E : Nat, (E : Int) = q + 1075 := ⟨(q + 1075).toNat, by omega⟩
  obtain ⟨j, hj⟩ : ∃ j : Nat, q + j = -52 := ⟨(-52 - q).toNat, by omega⟩
  have z := fp_loop (g := g) (E := E) (by omega) j zfu x q hx hj (by unfold zfu; omega) (by omega)
  unfold fX7_bitsOfShare
  rw [fp_c0 hx, ilt (by omega) (by omega), if_pos (by omega), zlet_e, show (1023 : Int64) = Int64.ofNat (E + j) by rw [show E + j = 1023 by omega]; rfl, z]
  have e1 : x = UInt64.ofNat (E * 4503599627370496 + (c - 4503599627370496)) := by
    have h3 := hx.2.2
    rw [show (q + 1075).toNat = E by omega] at h3
    rw [← h3]
    exact UInt64.ofNat_toNat.symm
  rw [e1]
  rfl
/-- what a share is -/
theorem fp_share {l s : Int} (hl : 0 ≤ l ∧ l ≤ s) (hs : 0 < s ∧ s < 2147483648) : FP.dmul FP.dconst1 (FP.i2d (i32 l)) = FP.i2d (i32 l) ∧ znb (FP.i2d (i32 l)) = true ∧ znb (FP.ddiv (FP.i2d (i32 l)) (FP.i2d (i32 s))) = true ∧ zdc (FP.ddiv (FP.i2d (i32 l)) (FP.i2d (i32 s))) (FP.ddiv (FP.i2d (i32 l)) (FP.i2d (i32 s))) .l = 0 ∧ fX7_bitsOfShare g (FP.ddiv (FP.i2d (i32 l)) (FP.i2d (i32 s))) = some (FP.ddiv (FP.i2d (i32 l)) (FP.i2d (i32 s))).toInt64 := by
  obtain ⟨b, rfl⟩ : ∃ b : Nat, s = (b : Int) := ⟨s.toNat, by omega⟩
  obtain ⟨a, rfl⟩ : ∃ a : Nat, l = (a : Int) := ⟨l.toNat, by omega⟩
  obtain ⟨Lb, lb1, lb2, lb3⟩ := fp_i2d (k := b) (by omega)
  by_cases e : a = 0
  · have e0 : FP.i2d (i32 ((a : Nat) : Int)) = 0 := by
      rw [e]
      decide
    have ed : FP.ddiv (0 : UInt64) (FP.i2d (i32 (b : Int))) = 0 := by
      show UInt64.ofNat (FP.Core.encode FP.Core.b64 (FP.Core.quotient FP.Core.b64 (FP.Core.decode FP.Core.b64 (0 : UInt64).toNat) (FP.Core.decode FP.Core.b64 (FP.i2d (i32 (b : Int))).toNat))) = 0
      rw [fp_dec lb3, show FP.Core.decode FP.Core.b64 (0 : UInt64).toNat = .fin false 0 (-1074) by decide]
      have hb1 := lb3.1
      show UInt64.ofNat (FP.Core.encode FP.Core.b64 (if b * 2 ^ (52 - Lb) = 0 then _ else FP.Core.roundRatio FP.Core.b64 (false != false) 0 (b * 2 ^ (52 - Lb)) (-1074 - ((Lb : Int) - 52)))) = 0
      rw [if_neg (by omega)]
      unfold FP.Core.roundRatio
      rw [if_pos rfl]
      decide
    rw [e0, ed]
    refine ⟨by decide, by decide, by decide, by decide, ?_⟩
    unfold fX7_bitsOfShare
    rw [show zdc (0 : UInt64) FP.dconst0 .g = 0 by decide, ilt (by omega) (by omega), if_neg (by omega)]
    rfl
  · obtain ⟨La, la1, la2, la3⟩ := fp_i2d (k := a) (by omega)
    obtain ⟨c', q', hd, hq⟩ := fp_div la3 lb3 (by omega)
    have hab : a ≤ b := by omega
    have hLL : La ≤ Lb := by
      have h1 : 2 ^ La < 2 ^ (Lb + 1) := by omega
      have := (Nat.pow_lt_pow_iff_right (by omega : 1 < 2)).mp h1
      omega
    exact ⟨fp_mul1 la3, qN_nb la3, qN_nb hd, fp_cs hd, fp_bits hd (by omega)⟩
end QBITS
