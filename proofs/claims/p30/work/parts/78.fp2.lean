section QBITS
variable {x y : UInt64} {c k a b A B L e t M : Nat} {q r e0 : Int} {g : zSt}
theorem fp_nge (hB : 0 < B) (h : M * B ≤ A) : M ≤ FP.Core.nearest A B := by
  have z : M ≤ A / B := (Nat.le_div_iff_mul_le hB).mpr h
  unfold FP.Core.nearest
  split
  · exact z
  · split <;> omega
theorem fp_nle (hB : 0 < B) (h : A ≤ M * B) : FP.Core.nearest A B ≤ M := by
  unfold FP.Core.nearest
  by_cases e : A = M * B
  · rw [e, Nat.mul_mod_left, if_pos (by omega), Nat.mul_div_cancel _ hB]
    exact Nat.le_refl _
  · have z : A / B < M := (Nat.div_lt_iff_lt_mul hB).mpr (by omega)
    split
    · omega
    · split <;> omega
/-- a quotient of two normal numbers -/
theorem fp_div (hx : qN x a q) (hy : qN y b r) (h : -1074 ≤ q - r - 53 ∧ q - r - 52 ≤ 971) : ∃ (c' : Nat) (q' : Int), qN (FP.ddiv x y) c' q' ∧ ((b ≤ a ∧ q' = q - r - 52) ∨ (a < b ∧ q' = q - r - 53)) := by
  have ha := hx.1
  have hb := hy.1
  have hB : 0 < b := by omega
  have la : a.log2 = 52 := fp_log ⟨ha.1, ha.2⟩
  have lb : b.log2 = 52 := fp_log ⟨hb.1, hb.2⟩
  have key : FP.ddiv x y = UInt64.ofNat (FP.Core.encode FP.Core.b64 (FP.Core.roundRatio FP.Core.b64 false a b (q - r))) := by
    show UInt64.ofNat (FP.Core.encode FP.Core.b64 (FP.Core.quotient FP.Core.b64 (FP.Core.decode FP.Core.b64 x.toNat) (FP.Core.decode FP.Core.b64 y.toNat))) = _
    rw [fp_dec hx, fp_dec hy]
    show UInt64.ofNat (FP.Core.encode FP.Core.b64 (if b = 0 then _ else _)) = _
    rw [if_neg (by omega)]
    rfl
  have hle : FP.Core.leading a b = if b ≤ a then 0 else -1 := by
    unfold FP.Core.leading
    rw [la, lb]
    show (if b * 1 ≤ a * 1 then (0 : Int) else 0 - 1) = _
    by_cases h : b ≤ a
    · rw [if_pos (by omega), if_pos h]
    · rw [if_neg (by omega), if_neg h]; rfl
  rw [key]
  unfold FP.Core.roundRatio
  rw [if_neg (by omega)]
  by_cases hab : b ≤ a
  · have hqu : FP.Core.quantum FP.Core.b64 a b (q - r) = q - r - 52 := by
      unfold FP.Core.quantum
      rw [hle, if_pos hab, fp_q, fp_p]
      omega
    rw [hqu]
    unfold FP.Core.roundAt FP.Core.unitsNum FP.Core.unitsDen
    rw [show (q - r - (q - r - 52)).toNat = 52 by omega, show (q - r - 52 - (q - r)).toNat = 0 by omega, Nat.pow_zero, Nat.mul_one]
    have n1 : 4503599627370496 ≤ FP.Core.nearest (a * 2 ^ 52) b := fp_nge hB (by rw [Nat.mul_comm a]; exact Nat.mul_le_mul_left _ hab)
    have n2 : FP.Core.nearest (a * 2 ^ 52) b ≤ 9007199254740991 := fp_nle hB (by
      have : 9007199254740991 * 4503599627370496 ≤ 9007199254740991 * b := Nat.mul_le_mul_left _ hb.1
      have z2 : a * 2 ^ 52 ≤ 9007199254740991 * 2 ^ 52 := Nat.mul_le_mul_right _ (by omega)
      exact Nat.le_trans z2 this)
    rw [fp_set (by omega) (by omega)]
    exact ⟨_, _, fp_enc ⟨n1, by omega⟩ (by omega), Or.inl ⟨hab, rfl⟩⟩
  · have hqu : FP.Core.quantum FP.Core.b64 a b (q - r) = q - r - 53 := by
      unfold FP.Core.quantum
      rw [hle, if_neg hab, fp_q, fp_p]
      omega
    rw [hqu]
    unfold FP.Core.roundAt FP.Core.unitsNum FP.Core.unitsDen
    rw [show (q - r - (q - r - 53)).toNat = 53 by omega, show (q - r - 53 - (q - r)).toNat = 0 by omega, Nat.pow_zero, Nat.mul_one, show (2 : Nat) ^ 53 = 9007199254740992 from rfl]
    have n1 : 4503599627370496 ≤ FP.Core.nearest (a * 9007199254740992) b := fp_nge hB (by omega)
    have n2 : FP.Core.nearest (a * 9007199254740992) b ≤ 9007199254740991 := fp_nle hB (by omega)
    rw [fp_set (by omega) (by omega)]
    exact ⟨_, _, fp_enc ⟨n1, by omega⟩ (by omega), Or.inr ⟨by omega, rfl⟩⟩
theorem fp_cmp (hx : qN x c q) (hy : qN y a r) : FP.dcmp x y = some (compare ((c * 2 ^ (q - min q r).toNat : Nat) : Int) ((a * 2 ^ (r - min q r).toNat : Nat) : Int)) := by
  show FP.Core.order (FP.Core.decode FP.Core.b64 x.toNat) (FP.Core.decode FP.Core.b64 y.toNat) = _
  rw [fp_dec hx, fp_dec hy]
  rfl
theorem fp_lt {i j : Int} (h : i < j) : compare i j = .lt := by
  simp [compare, compareOfLessAndEq, h]
theorem fp_gt {i j : Int} (h : j < i) : compare i j = .gt := by
  simp [compare, compareOfLessAndEq, Int.not_lt.mpr (Int.le_of_lt h), Int.ne_of_gt h]
theorem fp_eq (i : Int) : compare i i = .eq := by
  simp [compare, compareOfLessAndEq]
theorem fp_cs (hx : qN x c q) : zdc x x .l = 0 := by
  unfold zdc
  rw [fp_cmp hx hx, fp_eq]
  rfl
/-- what a share is -/
theorem fp_share {l s : Int} (hl : 0 ≤ l ∧ l ≤ s) (hs : 0 < s ∧ s < 2147483648) : FP.dmul FP.dconst1 (FP.i2d (i32 l)) = FP.i2d (i32 l) ∧ znb (FP.i2d (i32 l)) = true ∧ znb (FP.ddiv (FP.i2d (i32 l)) (FP.i2d (i32 s))) = true ∧ zdc (FP.ddiv (FP.i2d (i32 l)) (FP.i2d (i32 s))) (FP.ddiv (FP.i2d (i32 l)) (FP.i2d (i32 s))) .l = 0 := by
  obtain ⟨b, rfl⟩ : ∃ b : Nat, s = (b : Int) := ⟨s.toNat, by omega⟩
  obtain ⟨a, rfl⟩ : ∃ a : Nat, l = (a : Int) := ⟨l.toNat, by omega⟩
  obtain ⟨Lb, lb1, lb2, lb3⟩ := fp_i2d (k := b) (by omega)
  by_cases e : a = 0
  · have e0 : FP.i2d (i32 ((a : Nat) : Int)) = 0 := by
      rw [e]
      decide
    have ed : FP.ddiv (0 : UInt64) (FP.i2d (i32 (b : Int))) = 0 := by
      show UInt64.ofNat (FP.Core.encode FP.Core.b64 (FP.Core.quotient FP.Core.b64 (FP.Core.decode FP.Core.b64 (0 : UInt64).toNat) (FP.Core.decode FP.Core.b64 (FP.i2d (i32 (b : Int))).toNat))) = 0
      rw [fp_dec lb3, show FP.Core.decode FP.Core.b64 (0 : UInt64).toNat = .fin false 0 (-1074) by decide]
      have hb1 := lb3.1
      show UInt64.ofNat (FP.Core.encode FP.Core.b64 (if b * 2 ^ (52 - Lb) = 0 then _ else FP.Core.roundRatio FP.Core.b64 (false != false) 0 (b * 2 ^ (52 - Lb)) (-1074 - ((Lb : Int) - 52)))) = 0
      rw [if_neg (by omega)]
      unfold FP.Core.roundRatio
      rw [if_pos rfl]
      decide
    rw [e0, ed]
    exact ⟨by decide, by decide, by decide, by decide⟩
  · obtain ⟨La, la1, la2, la3⟩ := fp_i2d (k := a) (by omega)
    obtain ⟨c', q', hd, hq⟩ := fp_div la3 lb3 (by omega)
    have hab : a ≤ b := by omega
    have hLL : La ≤ Lb := by
      have h1 : 2 ^ La < 2 ^ (Lb + 1) := by omega
      have := (Nat.pow_lt_pow_iff_right (by omega : 1 < 2)).mp h1
      omega
    exact ⟨fp_mul1 la3, qN_nb la3, qN_nb hd, fp_cs hd⟩
end QBITS

