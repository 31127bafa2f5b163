section PTOLD2
variable {g g' g1 g2 : zSt} {b t x w k p u j lo hi v M y up a8 a9 a10 a11 a12 a13 a14 : Int} {r r' : Int → Int} {R : Nat → Int → Int} {n : Nat} {k582 k658 : zSt → Int → Int → Option (Int × zSt)}
theorem t_594 (h : qTo g n R r) (hk : 0 ≤ k ∧ k < r 85) : fL_told_p594 k582 zfu g a8 k 0 = k582 g a8 (k + 1) := by
  have hR := h.2.1
  have hL := h.2.2.1
  have h7 := hL.2.1
  have step : ∀ (fu : Nat) (w : Int), 0 ≤ w → w < 3 → fL_told_p594 k582 (fu + 1) g a8 k w = fL_told_p594 k582 fu g a8 k (w + 1) := by
    intro fu w w0 w1
    have e1 : qlp r k w = qL r k w := by
      unfold qlp
      rw [if_neg (by omega)]
    rw [fL_told_p594, ilt (by omega) (by omega), if_pos w1, kq_lan h.1 hR hk (by omega), zbd_s, zck_t (by omega), hL.lw hk w (by omega), e1, if_pos rfl]
  have e : fL_told_p594 k582 zfu g a8 k 0 = fL_told_p594 k582 (1996 + 1 + 1 + 1 + 1) g a8 k 0 := rfl
  rw [e, step _ 0 (by omega) (by omega), step _ _ (by omega) (by omega), step _ _ (by omega) (by omega), fL_told_p594, ilt (by omega) (by omega), if_neg (by omega), kq_lan h.1 hR hk (by omega), zbd_s, l_dark hR hL h.2.2.2.1 hk, zbd_s, show qlp r k 3 = qdk r k from rfl, if_pos rfl]
theorem t_670 (h : qTo g n R r) (hk : 0 ≤ k ∧ k < r 134) : fL_told_p670 k658 zfu g a8 k 0 = k658 g a8 (k + 1) := by
  have hR := h.2.1
  have hL := h.2.2.1
  have h7 := hL.2.1
  have hx := hR.2.2.2.2.2.1 k hk.1 hk.2
  have hx0 := hx.1
  have ht := hx.2.1
  have ht0 := q01 ht
  clear hx
  have step : ∀ (fu : Nat) (w : Int), 0 ≤ w → w < 3 → fL_told_p670 k658 (fu + 1) g a8 k w = fL_told_p670 k658 fu g a8 k (w + 1) := by
    intro fu w w0 w1
    have e1 : qfq r k w = qF r k w := by
      unfold qfq
      rw [if_pos w1]
    rw [fL_told_p670, ilt (by omega) (by omega), if_pos w1, kq_fau h.1 hR hk (by omega), zbd_s, zck_t (by omega), hL.fw hk w (by omega), e1, if_pos rfl]
  have e : fL_told_p670 k658 zfu g a8 k 0 = fL_told_p670 k658 (1996 + 1 + 1 + 1 + 1) g a8 k 0 := rfl
  rw [e, step _ 0 (by omega) (by omega), step _ _ (by omega) (by omega), step _ _ (by omega) (by omega), fL_told_p670, ilt (by omega) (by omega), if_neg (by omega), kq_fau h.1 hR hk (by omega), zbd_s, zck_t (by omega), zck_t (by omega), hL.f0 hk, hL.fw hk 1 (by omega), zck_t (by omega), h.2.2.2.1 _ _ hx0.1 hx0.2 ht, qlt_m ht, show qfq r k 3 = qpol r (qF r k 0) (qF r k 1) from rfl, if_pos rfl, kq_fau h.1 hR hk (by omega), zbd_s, zck_t (by omega), h.2.2.2.2.2 k hk.1 hk.2, show qfq r k 4 = qflow r k from rfl, if_pos rfl]
theorem t_582 (h : qTo g n R r) : fL_told_p582 zfu g a8 0 = fL_told_p658 zfu g a8 0 := by
  have hR := h.2.1
  have hL := h.2.2.1
  have h7 := hL.2.1
  have h1 := hR.2.1
  have := q_loopG (L := fun fu (_ : Int) k => fL_told_p582 fu g a8 k) (n := r 85) (f := fun _ => 0) (E := fun _ => fL_told_p658 zfu g a8 0) 0 (fun fu a k k0 k1 => by
      show fL_told_p582 (fu + 1) g a8 k = _
      rw [fL_told_p582, zck_t (by omega), hL.1.2.1, ilt (by omega) (by omega), if_pos k1, t_594 h ⟨k0, k1⟩]) (fun fu a => by
      show fL_told_p582 (fu + 1) g a8 (r 85) = _
      rw [fL_told_p582, zck_t (by omega), hL.1.2.1, ilt (by omega) (by omega), if_neg (by omega)]) zfu 0 0 (by omega) (by omega) (by unfold zfu; omega)
  exact this
theorem t_848 (h : qTo g n R r) : fL_told_p848 zfu g (qsum (qbw r) 2 (2 * r 0 - 2).toNat) (qlamp r 0) (qlamp r 1) 4 = some (1, g) := by
  have hR := h.2.1
  have hL := h.2.2.1
  have h7 := hL.2.1
  have step : ∀ (fu : Nat) (w : Int), 4 ≤ w → w < 8 → fL_told_p848 (fu + 1) g (qsum (qbw r) 2 (2 * r 0 - 2).toNat) (qlamp r 0) (qlamp r 1) w = fL_told_p848 fu g (qsum (qbw r) 2 (2 * r 0 - 2).toNat) (qlamp r 0) (qlamp r 1) (w + 1) := by
    intro fu w w0 w1
    have e1 : g.1 403 (Int.toNat w) = qco r 0 (w + 3) := by
      rcases (show w = 4 ∨ w = 5 ∨ w = 6 ∨ w = 7 by omega) with q | q | q | q
      · subst q; exact hL.1.2.2.2.2.1
      · subst q; exact hL.1.2.2.2.2.2.1
      · subst q; exact hL.1.2.2.2.2.2.2.1
      · subst q; exact hL.1.2.2.2.2.2.2.2
    rw [fL_told_p848, ilt (by omega) (by omega), if_pos w1, kq_cnt h.1 hR (by omega), zbd_s, zck_t (by omega), e1, if_pos rfl]
  have p0 := qlamp_r (p := 0) hR
  have p1 := qlamp_r (p := 1) hR
  have p952 : ∀ y, y = qleak r → fL_told_p952 g (qleak r) y (qsum (qbw r) 2 (2 * r 0 - 2).toNat) = some (1, g) := by
    intro y hy
    subst hy
    unfold fL_told_p952
    rw [if_pos rfl, kq_cnt h.1 hR (by omega), zbd_s, show qco r 0 5 = qsum (qbw r) 2 (2 * r 0 - 2).toNat from rfl, if_pos rfl, kq_cnt h.1 hR (by omega), zbd_s, zck_t (by omega), hL.1.2.2.2.1, show qco r 0 6 = r 162 from rfl, if_pos rfl, qck_1]
  have e : fL_told_p848 zfu g (qsum (qbw r) 2 (2 * r 0 - 2).toNat) (qlamp r 0) (qlamp r 1) 4 = fL_told_p848 (1995 + 1 + 1 + 1 + 1 + 1) g (qsum (qbw r) 2 (2 * r 0 - 2).toNat) (qlamp r 0) (qlamp r 1) 4 := rfl
  rw [e, step _ 4 (by omega) (by omega), step _ _ (by omega) (by omega), step _ _ (by omega) (by omega), step _ _ (by omega) (by omega), fL_told_p848, ilt (by omega) (by omega), if_neg (by omega), kq_cnt h.1 hR (by omega), zbd_s, zck_t (by omega), hL.1.1, show qco r 0 0 = r 0 from rfl, if_pos rfl, kq_cnt h.1 hR (by omega), zbd_s, zck_t (by omega), hL.1.2.1, show qco r 0 1 = r 85 from rfl, if_pos rfl, kq_cnt h.1 hR (by omega), zbd_s, l_burn0 hR hL h.2.2.2.1, zbd_s, show qco r 0 2 = qburn r from rfl, if_pos rfl, kq_cnt h.1 hR (by omega), zbd_s, zck_t (by omega), hL.1.2.2.1, show qco r 0 3 = r 134 from rfl, if_pos rfl, kq_cnt h.1 hR (by omega), zbd_s, show qco r 0 4 = qleak r from rfl, ilt (by omega) (by omega)]
  by_cases q : qlamp r 0 < qlamp r 1
  · rw [if_pos q]
    exact p952 _ (by unfold qleak; rw [if_pos q])
  · rw [if_neg q]
    exact p952 _ (by unfold qleak; rw [if_neg q])
theorem t_658e (h : qTo g n R r) {fu : Nat} : fL_told_p658 (fu + 1) g (qsum (qbw r) 2 (2 * r 0 - 2).toNat) (r 134) = some (1, g) := by
  have hR := h.2.1
  have hL := h.2.2.1
  have h7 := hL.2.1
  have h2 := hR.2.2.1
  have h4 := hR.2.2.2.2.2.2.2.1
  have h5 := hR.2.2.2.2.2.2.2.2.1
  have h6 := hR.2.2.2.2.2.2.2.2.2
  rw [fL_told_p658, zck_t (by omega), hL.1.2.2.1, ilt (by omega) (by omega), if_neg (by omega), l_lamp hR hL h.2.2.2.1 (Or.inl rfl), zbd_s, l_lamp hR hL h.2.2.2.1 (Or.inr rfl), zbd_s, zck_t (by omega), zck_t (by omega), hL.1.2.2.2.2.2.2.1, hL.1.2.2.2.2.2.2.2, zlet_e, kq_lamp h.1 hR (Or.inl rfl), zbd_s, if_pos rfl, kq_lamp h.1 hR (Or.inr rfl), zbd_s, if_pos rfl, k_share2 h.1.1.1 hR, zbd_s, ieq (by omega) (by omega)]
  unfold qshv
  by_cases q : r 165 + r 166 = 0
  · rw [if_pos q, if_pos q, if_pos (show i32 (zdc FP.dconst0 FP.dconst0 .l) = i32 0 by decide)]
    exact t_848 h
  · obtain ⟨s1, s2, s3, s4⟩ := qsh_all hR q
    rw [if_neg q, if_neg q, zck_t (by omega), s1, zck_t s2, zck_t s3, s4, if_pos rfl]
    exact t_848 h
theorem t_658 (h : qTo g n R r) : fL_told_p658 zfu g (qsum (qbw r) 2 (2 * r 0 - 2).toNat) 0 = some (1, g) := by
  have hR := h.2.1
  have hL := h.2.2.1
  have h7 := hL.2.1
  have h2 := hR.2.2.1
  have := q_loopG (L := fun fu (_ : Int) k => fL_told_p658 fu g (qsum (qbw r) 2 (2 * r 0 - 2).toNat) k) (n := r 134) (f := fun _ => 0) (E := fun _ => some (1, g)) 0 (fun fu a k k0 k1 => by
      show fL_told_p658 (fu + 1) g _ k = _
      rw [fL_told_p658, zck_t (by omega), hL.1.2.2.1, ilt (by omega) (by omega), if_pos k1, t_670 h ⟨k0, k1⟩]) (fun fu a => t_658e h) zfu 0 0 (by omega) (by omega) (by unfold zfu; omega)
  exact this
theorem qdi_told : qdi 400 401 402 403 410 411 412 := by unfold qdi; decide
theorem qCs.fro (h : qCs g n R r) (f : qfr (fun q => 400 ≤ q) g g') : qCs g' n R r := h.mf (fun c k hc => f.1 c k (by omega)) (by rw [f.2])
theorem l_told (h : qCs g n R r) (hR : qRow 8 r) (hL : qLw g 400 401 402 403 r) : ∃ g', fL_told0 g = some (1, g') ∧ qfr (fun q => 410 ≤ q) g g' := by
  have f0 : qfr (fun q => 410 ≤ q) g (zNw g 410 413) := ⟨fun c k hc => if_neg (by omega), rfl⟩
  have hC0 := h.fro (f0.wk (fun q z => by omega))
  have hL0 := hL.kept f0 (by omega)
  obtain ⟨g1, a1, a2, a3, a4, a5⟩ := l_find qdi_told hR hL0
  have a5' : qfr (fun q => 410 ≤ q) (zNw g 410 413) g1 := a5.wk (fun q z => by omega)
  have hT : qTo g1 n R r := ⟨hC0.fro (a5'.wk (fun q z => by omega)), hR, hL0.kept a5' (by omega), a2, a3, a4⟩
  refine ⟨g1, ?_, f0.tr a5'⟩
  unfold fL_told0 fL_told
  rw [a1, zbd_s, t_38all hT, t_582 hT, t_658 hT]
end PTOLD2
