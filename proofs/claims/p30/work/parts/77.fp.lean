section QFP
variable {x y : UInt64} {c k a b A B L e t : Nat} {q r e0 : Int}
theorem fp_t : FP.Core.b64.tails = 4503599627370496 := by decide
theorem fp_e : FP.Core.b64.exps = 2048 := by decide
theorem fp_q : FP.Core.b64.qmin = -1074 := by decide
theorem fp_m : FP.Core.b64.qmax = 971 := by decide
theorem fp_p : FP.Core.b64.p = 53 := rfl
/-- a double that is a normal number, not below nought -/
def qN (x : UInt64) (c : Nat) (q : Int) : Prop := (4503599627370496 ≤ c ∧ c < 9007199254740992) ∧ (-1074 ≤ q ∧ q ≤ 971) ∧ x.toNat = (q + 1075).toNat * 4503599627370496 + (c - 4503599627370496)
theorem fp_enc (hc : 4503599627370496 ≤ c ∧ c < 9007199254740992) (hq : -1074 ≤ q ∧ q ≤ 971) : qN (UInt64.ofNat (FP.Core.encode FP.Core.b64 (.fin false c q))) c q := by
  refine ⟨hc, hq, ?_⟩
  have e : FP.Core.encode FP.Core.b64 (.fin false c q) = (q + 1075).toNat * 4503599627370496 + (c - 4503599627370496) := by
    unfold FP.Core.encode
    show (if c < FP.Core.b64.tails then _ else _) = _
    rw [fp_t, if_neg (by omega)]
    unfold FP.Core.assemble
    rw [fp_t, fp_e, fp_q]
    show (0 * 2048 + ((q - -1074).toNat + 1)) * 4503599627370496 + (c - 4503599627370496) = _
    have : (q - -1074).toNat + 1 = (q + 1075).toNat := by omega
    rw [this]
    omega
  rw [e, UInt64.toNat_ofNat_of_lt' (by show _ < 2 ^ 64; omega)]
theorem fp_dec (h : qN x c q) : FP.Core.decode FP.Core.b64 x.toNat = .fin false c q := by
  obtain ⟨h1, h2, h3⟩ := h
  unfold FP.Core.decode FP.Core.fieldE FP.Core.fieldT FP.Core.fieldS
  rw [fp_t, fp_e, fp_q, h3]
  have e1 : ((q + 1075).toNat * 4503599627370496 + (c - 4503599627370496)) / 4503599627370496 = (q + 1075).toNat := by omega
  have e2 : ((q + 1075).toNat * 4503599627370496 + (c - 4503599627370496)) % 4503599627370496 = c - 4503599627370496 := by omega
  have e3 : (q + 1075).toNat % 2048 = (q + 1075).toNat := by omega
  have e4 : (q + 1075).toNat / 2048 = 0 := by omega
  have e5 : 4503599627370496 + (c - 4503599627370496) = c := by omega
  have e6 : -1074 + (((q + 1075).toNat : Int) - 1) = q := by omega
  rw [e1, e2, e3, e4, if_neg (by omega), if_neg (by omega), e5, e6]
  rfl
theorem qN_inj (hx : qN x c q) (hy : qN y c q) : x = y := UInt64.toNat_inj.mp (hx.2.2.trans hy.2.2.symm)
theorem qN_nb (h : qN x c q) : znb x = true := by
  obtain ⟨h1, h2, h3⟩ := h
  unfold znb
  refine decide_eq_true ?_
  rw [UInt64.le_iff_toNat_le, UInt64.toNat_and]
  show x.toNat &&& (2 ^ 63 - 1) ≤ _
  rw [Nat.and_two_pow_sub_one_eq_mod]
  show x.toNat % 2 ^ 63 ≤ 9218868437227405312
  omega
theorem fp_log (hA : 2 ^ L ≤ A ∧ A < 2 ^ (L + 1)) : A.log2 = L := by
  have : A ≠ 0 := by
    have := Nat.two_pow_pos L
    omega
  exact (Nat.log2_eq_iff this).mpr hA
theorem fp_near1 (M : Nat) : FP.Core.nearest M 1 = M := by
  unfold FP.Core.nearest
  rw [Nat.mod_one, if_pos (by omega), Nat.div_one]
theorem fp_nearm (M B : Nat) (hB : 0 < B) : FP.Core.nearest (M * B) B = M := by
  unfold FP.Core.nearest
  rw [Nat.mul_mod_left, if_pos (by omega), Nat.mul_div_cancel _ hB]
theorem fp_set (hc : c < 9007199254740992) (hq : q ≤ 971) : FP.Core.settle FP.Core.b64 false c q = .fin false c q := by
  unfold FP.Core.settle FP.Core.bound
  rw [fp_p, fp_m, if_pos (by omega), if_pos hq]
/-- rounding what has digits to spare at its end -/
theorem fp_rdown (hc : 4503599627370496 ≤ c ∧ c < 9007199254740992) (hq : -1074 ≤ e0 + k ∧ e0 + k ≤ 971) : FP.Core.roundRatio FP.Core.b64 false (c * 2 ^ k) 1 e0 = .fin false c (e0 + k) := by
  have hp := Nat.two_pow_pos k
  have h0 : c * 2 ^ k ≠ 0 := by
    intro z
    rcases Nat.mul_eq_zero.mp z with z | z <;> omega
  have hl : (c * 2 ^ k).log2 = 52 + k := by
    refine fp_log ⟨?_, ?_⟩
    · rw [Nat.pow_add]
      exact Nat.mul_le_mul_right _ hc.1
    · rw [show 52 + k + 1 = 53 + k by omega, Nat.pow_add]
      exact Nat.mul_lt_mul_of_pos_right hc.2 hp
  have hle : FP.Core.leading (c * 2 ^ k) 1 = ((52 + k : Nat) : Int) := by
    unfold FP.Core.leading
    rw [hl, show Nat.log2 1 = 0 by decide]
    show (if 1 * 2 ^ (((52 + k : Nat) : Int) - ((0 : Nat) : Int)).toNat ≤ c * 2 ^ k * 2 ^ (-(((52 + k : Nat) : Int) - ((0 : Nat) : Int))).toNat then ((52 + k : Nat) : Int) - ((0 : Nat) : Int) else _) = _
    have e1 : (((52 + k : Nat) : Int) - ((0 : Nat) : Int)).toNat = 52 + k := by omega
    have e2 : (-(((52 + k : Nat) : Int) - ((0 : Nat) : Int))).toNat = 0 := by omega
    rw [e1, e2, if_pos]
    · omega
    · rw [Nat.pow_zero, Nat.mul_one, Nat.one_mul, Nat.pow_add]
      exact Nat.mul_le_mul_right _ hc.1
  have hqu : FP.Core.quantum FP.Core.b64 (c * 2 ^ k) 1 e0 = e0 + k := by
    unfold FP.Core.quantum
    rw [hle, fp_q, fp_p]
    omega
  unfold FP.Core.roundRatio
  rw [if_neg h0, hqu]
  unfold FP.Core.roundAt FP.Core.unitsNum FP.Core.unitsDen
  rw [show (e0 - (e0 + (k : Int))).toNat = 0 by omega, show (e0 + (k : Int) - e0).toNat = k by omega, Nat.pow_zero, Nat.mul_one, Nat.one_mul, fp_nearm c _ hp]
  exact fp_set hc.2 hq.2
/-- rounding what has too few digits -/
theorem fp_rup (hA : 2 ^ L ≤ A ∧ A < 2 ^ (L + 1)) (hL : L ≤ 52) (hq : -1074 ≤ e0 - (52 - L : Nat) ∧ e0 ≤ 971) : FP.Core.roundRatio FP.Core.b64 false A 1 e0 = .fin false (A * 2 ^ (52 - L)) (e0 - (52 - L : Nat)) ∧ (4503599627370496 ≤ A * 2 ^ (52 - L) ∧ A * 2 ^ (52 - L) < 9007199254740992) := by
  have hp := Nat.two_pow_pos (52 - L)
  have hp2 := Nat.two_pow_pos L
  have h0 : A ≠ 0 := by omega
  have hle : FP.Core.leading A 1 = (L : Int) := by
    unfold FP.Core.leading
    rw [fp_log hA, show Nat.log2 1 = 0 by decide]
    show (if 1 * 2 ^ ((L : Int) - ((0 : Nat) : Int)).toNat ≤ A * 2 ^ (-((L : Int) - ((0 : Nat) : Int))).toNat then (L : Int) - ((0 : Nat) : Int) else _) = _
    have e1 : ((L : Int) - ((0 : Nat) : Int)).toNat = L := by omega
    have e2 : (-((L : Int) - ((0 : Nat) : Int))).toNat = 0 := by omega
    rw [e1, e2, if_pos]
    · omega
    · rw [Nat.pow_zero, Nat.mul_one, Nat.one_mul]
      exact hA.1
  have hqu : FP.Core.quantum FP.Core.b64 A 1 e0 = e0 - (52 - L : Nat) := by
    unfold FP.Core.quantum
    rw [hle, fp_q, fp_p]
    omega
  have c1 : 4503599627370496 ≤ A * 2 ^ (52 - L) := by
    have z : 2 ^ L * 2 ^ (52 - L) ≤ A * 2 ^ (52 - L) := Nat.mul_le_mul_right _ hA.1
    rw [← Nat.pow_add, show L + (52 - L) = 52 by omega] at z
    exact z
  have c2 : A * 2 ^ (52 - L) < 9007199254740992 := by
    have z : A * 2 ^ (52 - L) < 2 ^ (L + 1) * 2 ^ (52 - L) := Nat.mul_lt_mul_of_pos_right hA.2 hp
    rw [← Nat.pow_add, show L + 1 + (52 - L) = 53 by omega] at z
    exact z
  refine ⟨?_, c1, c2⟩
  unfold FP.Core.roundRatio
  rw [if_neg h0, hqu]
  unfold FP.Core.roundAt FP.Core.unitsNum FP.Core.unitsDen
  rw [show (e0 - (e0 - ((52 - L : Nat) : Int))).toNat = 52 - L by omega, show (e0 - ((52 - L : Nat) : Int) - e0).toNat = 0 by omega, Nat.pow_zero, Nat.mul_one, fp_near1]
  exact fp_set c2 (by omega)
/-- a product with a power of two -/
theorem fp_mul2 (hx : qN x c q) (hy : qN y 4503599627370496 r) (h : -1074 ≤ q + r + 52 ∧ q + r + 52 ≤ 971) : qN (FP.dmul x y) c (q + r + 52) := by
  show qN (UInt64.ofNat (FP.Core.encode FP.Core.b64 (FP.Core.round FP.Core.b64 (FP.Core.exactProduct (FP.Core.decode FP.Core.b64 x.toNat) (FP.Core.decode FP.Core.b64 y.toNat))))) c (q + r + 52)
  rw [fp_dec hx, fp_dec hy]
  show qN (UInt64.ofNat (FP.Core.encode FP.Core.b64 (FP.Core.roundRatio FP.Core.b64 false (c * 2 ^ 52) 1 (q + r)))) c (q + r + 52)
  have := fp_rdown (c := c) (k := 52) (e0 := q + r) hx.1 (by omega)
  rw [this]
  exact fp_enc hx.1 h
theorem fp_one : qN FP.dconst1 4503599627370496 (-52) := ⟨by decide, by decide, by decide⟩
theorem fp_two : qN (4611686018427387904 : UInt64) 4503599627370496 (-51) := ⟨by decide, by decide, by decide⟩
theorem fp_p52 : qN (4841369599423283200 : UInt64) 4503599627370496 0 := ⟨by decide, by decide, by decide⟩
theorem fp_mul1 (hy : qN y c q) : FP.dmul FP.dconst1 y = y := by
  show UInt64.ofNat (FP.Core.encode FP.Core.b64 (FP.Core.round FP.Core.b64 (FP.Core.exactProduct (FP.Core.decode FP.Core.b64 FP.dconst1.toNat) (FP.Core.decode FP.Core.b64 y.toNat)))) = y
  rw [fp_dec hy, fp_dec fp_one]
  show UInt64.ofNat (FP.Core.encode FP.Core.b64 (FP.Core.roundRatio FP.Core.b64 false (4503599627370496 * c) 1 (-52 + q))) = y
  have h2 := hy.2.1
  have := fp_rdown (c := c) (k := 52) (e0 := -52 + q) hy.1 (by omega)
  rw [Nat.mul_comm, show (4503599627370496 : Nat) = 2 ^ 52 from rfl, this]
  have z := fp_enc hy.1 (q := -52 + q + (52 : Nat)) (by omega)
  refine qN_inj z ?_
  rw [show -52 + q + ((52 : Nat) : Int) = q by omega]
  exact hy
theorem fp_i2d (hk : 0 < k ∧ k < 2147483648) : ∃ L : Nat, L ≤ 30 ∧ (2 ^ L ≤ k ∧ k < 2 ^ (L + 1)) ∧ qN (FP.i2d (i32 (k : Int))) (k * 2 ^ (52 - L)) ((L : Int) - 52) := by
  have h0 : k ≠ 0 := by omega
  have l1 := Nat.log2_self_le h0
  have l2 := @Nat.lt_log2_self k
  have l3 : k.log2 < 31 := (Nat.log2_lt h0).mpr (by omega)
  refine ⟨k.log2, by omega, ⟨l1, l2⟩, ?_⟩
  show qN (UInt64.ofNat (FP.Core.encode FP.Core.b64 (FP.Core.round FP.Core.b64 (FP.Core.ofInt (i32 (k : Int)).toInt)))) _ _
  rw [i32in (by omega)]
  have ei : FP.Core.ofInt (k : Int) = .fin false k 0 := by
    unfold FP.Core.ofInt
    rw [decide_eq_false (by omega), Int.natAbs_natCast]
  rw [ei]
  show qN (UInt64.ofNat (FP.Core.encode FP.Core.b64 (FP.Core.roundRatio FP.Core.b64 false k 1 0))) _ _
  obtain ⟨z1, z2⟩ := fp_rup (A := k) (L := k.log2) (e0 := 0) ⟨l1, l2⟩ (by omega) (by omega)
  rw [z1]
  have := fp_enc z2 (q := 0 - ((52 - k.log2 : Nat) : Int)) (by omega)
  rw [show (k.log2 : Int) - 52 = 0 - ((52 - k.log2 : Nat) : Int) by omega]
  exact this
end QFP
