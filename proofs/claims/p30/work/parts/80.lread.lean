section PLREAD
/-! The law's own ship: its rows of ints hold a row. -/
theorem zus_r (x : Int) : 0 ≤ zus x 1 ∧ zus x 1 < 2147483648 := by
  unfold zus
  have e : ((i32 1).toUInt32 &&& Int32.toUInt32 31) = 1 := by decide +kernel
  rw [e]
  generalize (i32 x).toUInt32 = y
  have h1 : (y >>> (1 : UInt32)).toNat = y.toNat / 2 := by
    rw [UInt32.toNat_shiftRight]
    show y.toNat >>> (1 % 32) = _
    rw [Nat.shiftRight_eq_div_pow]
  have hy := y.toNat_lt
  generalize y >>> (1 : UInt32) = w at *
  have e2 : w.toInt32.toInt = (w.toNat : Int) := by
    show w.toBitVec.toInt = (w.toBitVec.toNat : Int)
    rw [BitVec.toInt_eq_toNat_of_lt]
    show 2 * w.toNat < 2 ^ 32
    omega
  omega
theorem zmo_r {x y : Int} (hx : 0 ≤ x ∧ x < 2147483648) (hy : 0 < y ∧ y < 2147483648) : 0 ≤ zmo x y ∧ zmo x y < y := by
  unfold zmo
  have ex := i32in (a := x) (by omega)
  have ey := i32in (a := y) (by omega)
  have hd0 : 0 ≤ x / y := Int.ediv_nonneg hx.1 (by omega)
  have hd1 : x / y ≤ x := Int.ediv_le_self _ hx.1
  have hm := Int.mul_ediv_add_emod x y
  have hm0 := Int.emod_nonneg x (b := y) (by omega)
  have hm1 := Int.emod_lt_of_pos x (b := y) (by omega)
  have hp : x / y * y = x - x % y := by rw [Int.mul_comm]; omega
  have e1 : (i32 x / i32 y).toInt = x / y := by
    rw [Int32.toInt_div, ex, ey, Int.tdiv_eq_ediv_of_nonneg hx.1, Int.bmod_eq_of_le (by omega) (by omega)]
  have e2 : (i32 x / i32 y * i32 y).toInt = x - x % y := by
    rw [Int32.toInt_mul, e1, ey, hp, Int.bmod_eq_of_le (by omega) (by omega)]
  rw [Int32.toInt_sub, e2, ex, Int.bmod_eq_of_le (by omega) (by omega)]
  omega
variable {g g' : zSt} {m b t x w k p u n j a lo hi v : Int} {r : Int → Int} {c0 c1 c2 c3 c4 c5 c6 : Nat}
theorem l_at (g : zSt) (x : Int) (hn : 0 < n ∧ n < 2147483648) : ∃ v, fL_at g x n = some v ∧ 0 ≤ v ∧ v < n := by
  refine ⟨zmo (zus x 1) n, ?_, zmo_r (zus_r x) hn⟩
  unfold fL_at
  have hz : ¬ i32 n = i32 0 := fun q => by
    have := (i32eq (a := n) (b := 0) (by omega) (by omega)).mp q
    omega
  exact zck_t hz
def qLw (g : zSt) (c0 c1 c2 c3 : Nat) (r : Int → Int) : Prop :=
  (g.1 c3 (Int.toNat 0) = r 0 ∧ g.1 c3 (Int.toNat 1) = r 85 ∧ g.1 c3 (Int.toNat 2) = r 134 ∧ g.1 c3 (Int.toNat 3) = r 162 ∧ g.1 c3 (Int.toNat 4) = r 163 ∧ g.1 c3 (Int.toNat 5) = r 164 ∧ g.1 c3 (Int.toNat 6) = r 165 ∧ g.1 c3 (Int.toNat 7) = r 166) ∧
  (r 0 ≤ 7 ∧ r 85 ≤ 8 ∧ r 134 ≤ 6) ∧
  (∀ b w, 0 < b → b < r 0 → 0 ≤ w → w < 7 → g.1 c0 (Int.toNat (8 * b + w)) = qB r b w) ∧
  (∀ b, 0 ≤ b → b < r 0 → g.1 c0 (Int.toNat (8 * b + 7)) = qdep r b) ∧
  (∀ k w, 0 ≤ k → k < r 85 → 0 ≤ w → w < 3 → g.1 c1 (Int.toNat (3 * k + w)) = qL r k w) ∧
  (∀ k w, 0 ≤ k → k < r 134 → 0 ≤ w → w < 3 → g.1 c2 (Int.toNat (3 * k + w)) = qF r k w)
theorem qLw.b0 (h : qLw g c0 c1 c2 c3 r) (hb : 0 < b ∧ b < r 0) : g.1 c0 (Int.toNat (8 * b)) = qB r b 0 := by
  have := h.2.2.1 b 0 hb.1 hb.2 (by omega) (by omega)
  rwa [Int.add_zero] at this
theorem qLw.bw (h : qLw g c0 c1 c2 c3 r) (hb : 0 < b ∧ b < r 0) (w : Int) (hw : 0 ≤ w ∧ w < 7) : g.1 c0 (Int.toNat (8 * b + w)) = qB r b w := h.2.2.1 b w hb.1 hb.2 hw.1 hw.2
theorem qLw.bt (h : qLw g c0 c1 c2 c3 r) (hb : 0 < b ∧ b < r 0) (w : Int) (hw : 0 ≤ w + t ∧ w + t < 7) : g.1 c0 (Int.toNat (8 * b + w + t)) = qB r b (w + t) := by
  rw [Int.add_assoc]
  exact h.2.2.1 b (w + t) hb.1 hb.2 hw.1 hw.2
theorem qLw.b7 (h : qLw g c0 c1 c2 c3 r) (hb : 0 ≤ b ∧ b < r 0) : g.1 c0 (Int.toNat (8 * b + 7)) = qdep r b := h.2.2.2.1 b hb.1 hb.2
theorem qLw.l0 (h : qLw g c0 c1 c2 c3 r) (hk : 0 ≤ k ∧ k < r 85) : g.1 c1 (Int.toNat (3 * k)) = qL r k 0 := by
  have := h.2.2.2.2.1 k 0 hk.1 hk.2 (by omega) (by omega)
  rwa [Int.add_zero] at this
theorem qLw.lw (h : qLw g c0 c1 c2 c3 r) (hk : 0 ≤ k ∧ k < r 85) (w : Int) (hw : 0 ≤ w ∧ w < 3) : g.1 c1 (Int.toNat (3 * k + w)) = qL r k w := h.2.2.2.2.1 k w hk.1 hk.2 hw.1 hw.2
theorem qLw.f0 (h : qLw g c0 c1 c2 c3 r) (hk : 0 ≤ k ∧ k < r 134) : g.1 c2 (Int.toNat (3 * k)) = qF r k 0 := by
  have := h.2.2.2.2.2 k 0 hk.1 hk.2 (by omega) (by omega)
  rwa [Int.add_zero] at this
theorem qLw.fw (h : qLw g c0 c1 c2 c3 r) (hk : 0 ≤ k ∧ k < r 134) (w : Int) (hw : 0 ≤ w ∧ w < 3) : g.1 c2 (Int.toNat (3 * k + w)) = qF r k w := h.2.2.2.2.2 k w hk.1 hk.2 hw.1 hw.2
theorem qLw.kept {P : Nat → Prop} (h : qLw g c0 c1 c2 c3 r) (f : qfr P g g') (hP : ¬ P c0 ∧ ¬ P c1 ∧ ¬ P c2 ∧ ¬ P c3) : qLw g' c0 c1 c2 c3 r := by
  unfold qLw
  simp only [f.1 c0 _ hP.1, f.1 c1 _ hP.2.1, f.1 c2 _ hP.2.2.1, f.1 c3 _ hP.2.2.2]
  exact h
/-- how a terminal stands: its pole, and 2 more where it is alive -/
def qlt (r : Int → Int) (b t : Int) : Int := qpol r b t + (if qal r b t = true then 2 else 0)
def qLi (g : zSt) (c4 : Nat) (r : Int → Int) (n : Int) : Prop := ∀ b t, 0 ≤ b → b < n → (t = 0 ∨ t = 1) → g.1 c4 (Int.toNat (2 * b + t)) = qlt r b t
theorem qLi.z (h : qLi g c4 r n) (hb : 0 ≤ b ∧ b < n) : g.1 c4 (Int.toNat (2 * b)) = qlt r b 0 := by
  have := h b 0 hb.1 hb.2 (Or.inl rfl)
  rwa [Int.add_zero] at this
theorem qLi.kept {P : Nat → Prop} (h : qLi g c4 r n) (f : qfr P g g') (hP : ¬ P c4) : qLi g' c4 r n := by
  unfold qLi
  simp only [f.1 c4 _ hP]
  exact h
theorem qlt_r (ht : t = 0 ∨ t = 1) : 0 ≤ qlt r b t ∧ qlt r b t ≤ 3 := by
  have := qpol_r (r := r) (b := b) ht
  unfold qlt
  split <;> omega
theorem qlt_2 (ht : t = 0 ∨ t = 1) : (qlt r b t < 2) = (qal r b t = false) := by
  have := qpol_r (r := r) (b := b) ht
  unfold qlt
  cases e : qal r b t <;> simp <;> omega
theorem qlt_p (ht : t = 0 ∨ t = 1) (hp : p = 0 ∨ p = 1) : (qlt r b t = 2 + p) = (qal r b t = true ∧ qpol r b t = p) := by
  have := qpol_r (r := r) (b := b) ht
  unfold qlt
  cases e : qal r b t <;> simp <;> omega
theorem qlt_m (ht : t = 0 ∨ t = 1) : zmo (qlt r b t) 2 = qpol r b t := by
  have h := qlt_r (r := r) (b := b) ht
  have := qpol_r (r := r) (b := b) ht
  rw [(qdm2 (k := qlt r b t) (by omega)).2]
  unfold qlt
  split <;> omega
def qdt (r : Int → Int) (k : Int) : Int := if qal r (qL r k 0) 0 = true then (if qal r (qL r k 0) 1 = true then (if qL r k 2 = 1 ∧ qpol r (qL r k 0) 0 = 1 then 4 else 0) else 3) else 2
theorem qdt_e : (if qsw r (qL r k 0) = true then qdt r k else 1) = qdk r k := by
  unfold qdt qdk
  by_cases e : qsw r (qL r k 0) = true
  · rw [if_pos e, if_pos e]
    have e2 : ∀ t, qal r (qL r k 0) t = qwh r (qL r k 0) t := fun t => by unfold qal; rw [e]; rfl
    rw [e2, e2]
  · rw [if_neg e, if_neg e]
theorem l_dark_l (hR : qRow m r) (hL : qLw g c0 c1 c2 c3 r) (hI : qLi g c4 r (r 0)) (hk : 0 ≤ k ∧ k < r 85) : ∀ (fu : Nat) (b : Int), b.toNat < fu → 0 ≤ b → b < r 0 → fL_dark_p11 g fu k c0 c1 c4 (qL r k 0) b = some (if qsw r b = true then qdt r k else 1) := by
  have h1 := hL.2.1
  have hx := hR.2.2.2.2.1 k hk.1 hk.2
  intro fu
  induction fu with
  | zero => intro b h; omega
  | succ fu ih =>
    intro b h h0 hn
    rw [fL_dark_p11, ilt (by omega) (by omega)]
    by_cases hb : 0 < b
    · have hy := hR.2.2.2.1 b hb hn
      have hy0 := hy.1
      have hy2 := hy.2.2.1
      rw [if_pos hb, zck_t (by omega), hL.bw ⟨hb, hn⟩ 2 (by omega), ieq (by omega) (by omega), qsw_s ⟨hb, hy0.2⟩]
      by_cases e : qB r b 2 = 0
      · rw [if_pos e, decide_eq_false (by omega)]
        rfl
      · rw [if_neg e, zck_t (by omega), zlet_e, hL.b0 ⟨hb, hn⟩, ih _ (by omega) hy0.1 (by omega), decide_eq_true (by omega)]
        rfl
    · have hx0 := hx.1
      have hx2 := hx.2.2
      have q0 := qlt_r (r := r) (b := qL r k 0) (t := 0) (Or.inl rfl)
      have q1 := qlt_r (r := r) (b := qL r k 0) (t := 1) (Or.inr rfl)
      rw [if_neg hb, qsw_0 (by omega), zck_t (by omega), hI.z hx0, ilt (by omega) (by omega), if_pos rfl, zck_t (by omega), hI _ 1 hx0.1 hx0.2 (Or.inr rfl), ilt (by omega) (by omega), zck_t (by omega), hL.lw hk 2 (by omega), ieq (by omega) (by omega), zck_t (by omega), ieq (by omega) (by omega)]
      unfold qdt
      by_cases e0 : qal r (qL r k 0) 0 = true
      · have z0 : ¬ qlt r (qL r k 0) 0 < 2 := by rw [qlt_2 (Or.inl rfl)]; simp [e0]
        rw [if_neg z0, if_pos e0]
        by_cases e1 : qal r (qL r k 0) 1 = true
        · have z1 : ¬ qlt r (qL r k 0) 1 < 2 := by rw [qlt_2 (Or.inr rfl)]; simp [e1]
          rw [if_neg z1, if_pos e1]
          have z3 := qlt_p (r := r) (b := qL r k 0) (t := 0) (p := 1) (Or.inl rfl) (Or.inr rfl)
          have z4 : (qlt r (qL r k 0) 0 = 3) = (qpol r (qL r k 0) 0 = 1) := by
            rw [show (3 : Int) = 2 + 1 from rfl, z3]
            simp [e0]
          by_cases e4 : qL r k 2 = 1
          · rw [if_pos e4]
            by_cases e5 : qpol r (qL r k 0) 0 = 1
            · rw [if_pos (z4.mpr e5), if_pos ⟨e4, e5⟩]
            · rw [if_neg (fun q => e5 (z4.mp q)), if_neg (fun q => e5 q.2)]
          · rw [if_neg e4, if_neg (fun q => e4 q.1)]
        · have z1 : qlt r (qL r k 0) 1 < 2 := by rw [qlt_2 (Or.inr rfl)]; simpa using e1
          rw [if_pos z1, if_neg e1]
      · have z0 : qlt r (qL r k 0) 0 < 2 := by rw [qlt_2 (Or.inl rfl)]; simpa using e0
        rw [if_pos z0, if_neg e0]
theorem l_dark (hR : qRow m r) (hL : qLw g c0 c1 c2 c3 r) (hI : qLi g c4 r (r 0)) (hk : 0 ≤ k ∧ k < r 85) : fL_dark g k c0 c1 c4 = some (qdk r k) := by
  have h1 := hL.2.1
  have hx := (hR.2.2.2.2.1 k hk.1 hk.2).1
  unfold fL_dark
  rw [zck_t (by omega), hL.l0 hk, zlet_e, l_dark_l hR hL hI hk zfu _ (by unfold zfu; omega) hx.1 hx.2, qdt_e]
theorem l_lamp (hR : qRow m r) (hL : qLw g c0 c1 c2 c3 r) (hI : qLi g c4 r (r 0)) (hp : p = 0 ∨ p = 1) : fL_lamp g p c2 c3 c4 = some (qlamp r p) := by
  have h1 := hL.2.1
  have h2 := hR.2.2.1
  have h0 := hR.1
  unfold fL_lamp
  refine q_loop0 (L := fun fu a k => fL_lamp_p6 g fu p c2 c3 c4 a k) (n := r 134) (f := qlw r p) (by omega) (fun fu a k k0 hk => ?_) (fun fu a => ?_)
  · have hx := hR.2.2.2.2.2.1 k k0 hk
    have hx0 := hx.1
    have hx1 := hx.2.1
    have q := qlt_r (r := r) (b := qF r k 0) (t := qF r k 1) hx1
    show fL_lamp_p6 g (fu + 1) p c2 c3 c4 a k = _
    rw [fL_lamp_p6, zck_t (by omega), hL.1.2.2.1, ilt (by omega) (by omega), if_pos hk, zck_t (by omega), zck_t (by omega), hL.f0 ⟨k0, hk⟩, hL.fw ⟨k0, hk⟩ 1 (by omega), zck_t (by omega), hI _ _ hx0.1 hx0.2 hx1, ieq (by omega) (by omega), zck_t (by omega), hL.fw ⟨k0, hk⟩ 2 (by omega)]
    simp only [zlet_e, qlt_p hx1 hp]
    unfold qlw qlv qfp
    split <;> rfl
  · show fL_lamp_p6 g (fu + 1) p c2 c3 c4 a _ = _
    rw [fL_lamp_p6, zck_t (by omega), hL.1.2.2.1, ilt (by omega) (by omega), if_neg (by omega)]
theorem l_burn0 (hR : qRow m r) (hL : qLw g c0 c1 c2 c3 r) (hI : qLi g c4 r (r 0)) : fL_burn g c0 c1 c3 c4 0 = some (qburn r) := by
  have h1 := hL.2.1
  have h2 := hR.2.1
  unfold fL_burn
  refine q_loop0 (L := fun fu a k => fL_burn_p6 g fu c0 c1 c3 c4 0 a k) (n := r 85) (f := fun k => if qdk r k = 0 then 1 else 0) (by omega) (fun fu a k k0 hk => ?_) (fun fu a => ?_)
  · have hd := qdk_r r k
    show fL_burn_p6 g (fu + 1) c0 c1 c3 c4 0 a k = _
    rw [fL_burn_p6, zck_t (by omega), hL.1.2.1, ilt (by omega) (by omega), if_pos hk, l_dark hR hL hI ⟨k0, hk⟩, zbd_s, ieq (by omega) (by omega), if_pos (show i32 0 = i32 0 from rfl)]
    simp only [zlet_e]
    split <;> rfl
  · show fL_burn_p6 g (fu + 1) c0 c1 c3 c4 0 a _ = _
    rw [fL_burn_p6, zck_t (by omega), hL.1.2.1, ilt (by omega) (by omega), if_neg (by omega)]
theorem l_burn1 (hR : qRow m r) (hL : qLw g c0 c1 c2 c3 r) (hI : qLi g c4 r (r 0)) : fL_burn g c0 c1 c3 c4 1 = some (qdrawn r) := by
  have h1 := hL.2.1
  have h2 := hR.2.1
  unfold fL_burn
  refine q_loop0 (L := fun fu a k => fL_burn_p6 g fu c0 c1 c3 c4 1 a k) (n := r 85) (f := fun k => if qdk r k = 0 then qL r k 1 else 0) (by omega) (fun fu a k k0 hk => ?_) (fun fu a => ?_)
  · have hd := qdk_r r k
    show fL_burn_p6 g (fu + 1) c0 c1 c3 c4 1 a k = _
    rw [fL_burn_p6, zck_t (by omega), hL.1.2.1, ilt (by omega) (by omega), if_pos hk, l_dark hR hL hI ⟨k0, hk⟩, zbd_s, ieq (by omega) (by omega), if_neg (show ¬ i32 1 = i32 0 by decide), zck_t (by omega), hL.lw ⟨k0, hk⟩ 1 (by omega)]
    simp only [zlet_e]
    split <;> rfl
  · show fL_burn_p6 g (fu + 1) c0 c1 c3 c4 1 a _ = _
    rw [fL_burn_p6, zck_t (by omega), hL.1.2.1, ilt (by omega) (by omega), if_neg (by omega)]
end PLREAD
