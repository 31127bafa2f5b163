section PKOPS
variable {g g' g1 g2 g3 g4 : zSt} {m b t x w k p u j a lo hi v M p1 p2 p3 p4 y a1 a2 a3 a4 : Int} {r r' re : Int → Int} {R : Nat → Int → Int} {c s d e N n L : Nat}
theorem kc_addBox (h : qCs g n R r) (hR : qRow 8 r) (q4 : r 0 < 12) (q1 : 0 ≤ a1 ∧ a1 < r 0) (q2 : 1 ≤ a2 ∧ a2 ≤ 60) (q3 : 1 ≤ a3 ∧ a3 ≤ 60) (h4 : a4 = 0 ∨ a4 = 1) : ∃ g', fX7_addBox g a1 a2 a3 a4 = some (r 0, g') ∧ qCs g' (qpn n) (qpush n R r) (qset 24 (qnB r a1 a2 a3 a4) 0).1 ∧ qfc g g' := by
  have hS := h.1.1
  have hr := hR.1
  have e0 : g.1 11 0 = r 0 := hS.1.1
  obtain ⟨s1, b1, b2, b3⟩ := k_saved hR h
  obtain ⟨s2, s3, c1, c2, c3, c4⟩ := c_addB b2 hR q4 q1 q2 q3 h4
  have ev : (qset 24 (qnB r a1 a2 a3 a4) 0).1 0 = r 0 + 1 := (qset_o (Or.inl rfl) 24 _ 0 (qnB_row hR q4 q1 q2 q3 h4)).trans qnB_0
  have e3 : s3.1 11 0 - 1 = r 0 := by
    have : s3.1 11 0 = (qset 24 (qnB r a1 a2 a3 a4) 0).1 0 := c3.1.1.1.1
    rw [this, ev]; omega
  refine ⟨s3, ?_, c3, b3.tr c4⟩
  unfold fX7_addBox
  rw [zbq (k_isBox hS hR (by unfold qi; omega)), zbq (k_isRat (by unfold qi; omega)), zbq (k_isRat (by unfold qi; omega)), e0, ilt (by omega) (by omega), if_pos q1, if_pos q2, if_pos q3, if_pos q4, b1, zbd_s, c1, zbd_s, c2, zbe_s, e3]
theorem kc_hang (h : qCs g n R r) (hR : qRow 8 r) (q4 : r 85 < 16) (q1 : 0 ≤ a1 ∧ a1 < r 0) (q2 : 1 ≤ a2 ∧ a2 ≤ 9) (h3 : a3 = 0 ∨ a3 = 1) : ∃ g', fX7_hang g a1 a2 a3 = some (r 85, g') ∧ qCs g' (qpn n) (qpush n R r) (qset 24 (qnL r a1 a2 a3) 0).1 ∧ qfc g g' := by
  have hS := h.1.1
  have hr := hR.2.1
  have h0 := hR.1
  have e0 : g.1 17 0 = r 85 := hS.2.2.2.1.1
  obtain ⟨s1, b1, b2, b3⟩ := k_saved hR h
  obtain ⟨s2, s3, c1, c2, c3, c4⟩ := c_addL b2 hR q4 q1 q2 h3
  have ev : (qset 24 (qnL r a1 a2 a3) 0).1 85 = r 85 + 1 := (qset_o (Or.inr (by omega)) 24 _ 0 (qnL_row hR q4 q1 q2 h3)).trans qnL_0
  have e3 : s3.1 17 0 - 1 = r 85 := by
    have : s3.1 17 0 = (qset 24 (qnL r a1 a2 a3) 0).1 85 := c3.1.1.2.2.2.1.1
    rw [this, ev]; omega
  refine ⟨s3, ?_, c3, b3.tr c4⟩
  unfold fX7_hang
  rw [zbq (k_isBox hS hR (by unfold qi; omega)), ilt (by omega) (by omega), ilt (by omega) (by omega), e0, ilt (by omega) (by omega), if_pos q1, if_neg (by omega), if_neg (by omega), if_pos q4, b1, zbd_s, c1, zbd_s, c2, zbe_s, e3]
theorem kc_fault (h : qCs g n R r) (hR : qRow 8 r) (q4 : r 134 < 8) (q1 : 0 ≤ a1 ∧ a1 < r 0) (q2 : a2 = 0 ∨ a2 = 1) (q3 : 1 ≤ a3 ∧ a3 ≤ 30) : ∃ g', fX7_fault g a1 a2 a3 = some ((qset 24 (qnF r a1 a2 a3) 0).2, g') ∧ qCs g' (qpn n) (qpush n R r) (qset 24 (qnF r a1 a2 a3) 0).1 ∧ qfc g g' := by
  have hS := h.1.1
  have hr := hR.2.2.1
  have h0 := hR.1
  have e0 : g.1 21 0 = r 134 := hS.2.2.2.2.1.1
  obtain ⟨s1, b1, b2, b3⟩ := k_saved hR h
  obtain ⟨s2, s3, c1, c2, c3, c4⟩ := c_addF b2 hR q4 q1 q2 q3
  refine ⟨s3, ?_, c3, b3.tr c4⟩
  unfold fX7_fault
  rw [zbq (k_isBox hS hR (by unfold qi; omega)), zbq (k_isTer (by unfold qi; omega)), zbq (k_isStr (by unfold qi; omega)), e0, ilt (by omega) (by omega), if_pos q1, if_pos (by omega), if_pos q3, if_pos q4, b1, zbd_s, c1, zbd_s, c2, zbe_s]
theorem kc_mend (h : qCs g n R r) (hR : qRow 8 r) (q1 : 0 ≤ a1 ∧ a1 < r 134) : ∃ g', fX7_mend g a1 = some (qF r a1 2, g') ∧ qCs g' (qpn n) (qpush n R r) (qset 24 (qrmF r a1) 0).1 ∧ qfc g g' := by
  have hS := h.1.1
  have hr := hR.2.2.1
  obtain ⟨s1, b1, b2, b3⟩ := k_saved hR h
  obtain ⟨s2, k1, k2, k3⟩ := k_rmF (c := 10) hR b2.1.1 q1
  obtain ⟨s3, c1, c2, c3⟩ := k_mut b2 hR.1.1 k3 (fun q z => by omega) k2 (qrmF_row hR q1)
  have hv : s1.1 24 (Int.toNat a1) = qF r a1 2 := (b2.1.1.2.2.2.2.1.2 a1 q1.1 q1.2).2.2
  refine ⟨s3, ?_, c2, b3.tr c3⟩
  unfold fX7_mend
  rw [zbq (k_isFau hS hR (by unfold qi; omega)), if_pos q1, b1, zbd_s, zck_t (by omega), hv, zlet_e, k1, zbd_s, c1, zbe_s]
theorem kc_takeDown (h : qCs g n R r) (hR : qRow 8 r) (q1 : 0 ≤ a1 ∧ a1 < r 85) : ∃ g', fX7_takeDown g a1 = some (qbi (decide (qdk r a1 = 0)), g') ∧ qCs g' (qpn n) (qpush n R r) (qset 24 (qrmL r a1) 0).1 ∧ qfc g g' := by
  have hS := h.1.1
  have hr := hR.2.1
  obtain ⟨s1, b1, b2, b3⟩ := k_saved hR h
  obtain ⟨s2, k1, k2, k3⟩ := k_rmL (c := 10) hR b2.1.1 q1
  obtain ⟨s3, c1, c2, c3⟩ := k_mut b2 hR.1.1 k3 (fun q z => by omega) k2 (qrmL_row hR q1)
  have hv : s1.1 206 (Int.toNat a1) = qbi (decide (qdk r a1 = 0)) := b2.1.2.2.1.2 a1 q1.1 q1.2
  refine ⟨s3, ?_, c2, b3.tr c3⟩
  unfold fX7_takeDown
  rw [zbq (k_isLan hS hR (by unfold qi; omega)), if_pos q1, b1, zbd_s, zck_t (by omega), hv, k_one, zbd_s, k1, zbd_s, c1, zbe_s]
theorem kc_toggle (h : qCs g n R r) (hR : qRow 8 r) (q1 : 0 < a1 ∧ a1 < r 0) : ∃ g', fX7_toggle g a1 = some (1 - qB r a1 2, g') ∧ qCs g' (qpn n) (qpush n R r) (qset 24 (qtn r a1 2) 0).1 ∧ qfc g g' := by
  have hS := h.1.1
  have hr := hR.1
  obtain ⟨s1, b1, b2, b3⟩ := k_saved hR h
  obtain ⟨s3, c1, c2, c3⟩ := c_turn (w := 2) (d := 14) b2 hR q1 (Or.inr rfl) rfl
  have hx := (hR.2.2.2.1 a1 q1.1 q1.2).2.2.1
  have hv : s1.1 14 (Int.toNat a1) = qB r a1 2 := (b2.1.1.2.1 a1 q1.1 q1.2).2.2
  have e0 : (qset 24 (qtn r a1 2) 0).1 0 = r 0 := (qset_o (Or.inl rfl) 24 _ 0 (qtn_row hR q1 (Or.inr rfl))).trans (qput_n (by omega))
  have ev : qB (qset 24 (qtn r a1 2) 0).1 a1 2 = 1 - qB r a1 2 := (qset_B (by omega) (by omega) 24 _ 0 (qtn_row hR q1 (Or.inr rfl))).trans (qtn_e q1.1 (Or.inr rfl))
  have h3v : s3.1 14 (Int.toNat a1) = 1 - qB r a1 2 := ((c2.1.1.2.1 a1 q1.1 (by omega)).2.2).trans ev
  have p60 : ∀ y, y = 1 - qB r a1 2 → fX7_toggle_p60 s1 a1 y a1 = some (1 - qB r a1 2, s3) := by
    intro y hy
    subst hy
    unfold fX7_toggle_p60
    rw [zck_t (by omega), zck_t (by omega), zlet_e, c1, zbe_s, zck_t (by omega), h3v]
    unfold fX7_oneIf
    rw [ieq (by omega) (by omega)]
    rcases hx with q | q
    · rw [q, if_neg (by omega), zbd_s]; rfl
    · rw [q, if_pos (by omega), zbd_s]; rfl
  refine ⟨s3, ?_, c2, b3.tr c3⟩
  unfold fX7_toggle
  rw [zbq (k_isFed hS hR (by unfold qi; omega)), if_pos q1, b1, zbd_s, zck_t (by omega), hv, ieq (by omega) (by omega)]
  rcases hx with q | q
  · rw [if_pos q, p60 1 (by omega)]
  · rw [if_neg (by omega), p60 0 (by omega)]
theorem kc_cross (h : qCs g n R r) (hR : qRow 8 r) (q1 : 0 < a1 ∧ a1 < r 0) : ∃ g', fX7_cross g a1 = some (qburn (qset 24 (qtn r a1 1) 0).1, g') ∧ qCs g' (qpn n) (qpush n R r) (qset 24 (qtn r a1 1) 0).1 ∧ qfc g g' := by
  have hS := h.1.1
  have hr := hR.1
  obtain ⟨s1, b1, b2, b3⟩ := k_saved hR h
  obtain ⟨s3, c1, c2, c3⟩ := c_turn (w := 1) (d := 13) b2 hR q1 (Or.inl rfl) rfl
  have hx := (hR.2.2.2.1 a1 q1.1 q1.2).2.1
  have hv : s1.1 13 (Int.toNat a1) = qB r a1 1 := (b2.1.1.2.1 a1 q1.1 q1.2).2.1
  have h3v : s3.1 200 6 = qburn (qset 24 (qtn r a1 1) 0).1 := c2.1.2.2.1.1
  have p60 : ∀ y, y = 1 - qB r a1 1 → fX7_cross_p60 s1 a1 y = some (qburn (qset 24 (qtn r a1 1) 0).1, s3) := by
    intro y hy
    subst hy
    unfold fX7_cross_p60
    rw [zck_t (by omega), zck_t (by omega), zlet_e, c1, zbe_s, h3v]
  refine ⟨s3, ?_, c2, b3.tr c3⟩
  unfold fX7_cross
  rw [zbq (k_isFed hS hR (by unfold qi; omega)), if_pos q1, b1, zbd_s, zck_t (by omega), hv, ieq (by omega) (by omega)]
  rcases hx with q | q
  · rw [if_pos q, p60 1 (by omega)]
  · rw [if_neg (by omega), p60 0 (by omega)]
theorem kc_buy (h : qCs g n R r) (hR : qRow 8 r) (q1 : 1 ≤ a1 ∧ a1 ≤ 20) (q2 : r 162 + a1 ≤ 50) : ∃ g', fX7_buyFuses g a1 = some (r 162 + a1, g') ∧ qCs g' (qpn n) (qpush n R r) (qput r 162 (r 162 + a1)) ∧ qfc g g' ∧ qRow 8 (qput r 162 (r 162 + a1)) := by
  have hr := hR.2.2.2.2.2.2.1
  have e0 : g.1 10 3 = r 162 := h.1.1.2.2.2.2.2.1
  obtain ⟨s1, b1, b2, b3⟩ := k_saved hR h
  have e1 : s1.1 10 3 = r 162 := b2.1.1.2.2.2.2.2.1
  have f1 : qfr (fun q => q = 10) s1 (zwr s1 10 3 (r 162 + a1)) := qfr.wr rfl
  have hs : qsame r (qput r 162 (r 162 + a1)) := qsame_put (by omega)
  have hR' : qRow 8 (qput r 162 (r 162 + a1)) := hR.cnt hs (by rw [qput_e rfl]; omega) (by rw [qput_n (by decide)]; exact hR.2.2.2.2.2.2.2.1) (by rw [qput_n (by decide), qput_n (by decide)]; exact hR.2.2.2.2.2.2.2.2.1) (by rw [qput_n (by decide), qput_n (by decide)]; exact hR.2.2.2.2.2.2.2.2.2)
  have hC : qCs (zwr s1 10 3 (r 162 + a1)) (qpn n) (qpush n R r) (qput r 162 (r 162 + a1)) := by
    have z := b2.1.1.2.2.2.2.2
    refine c_cnt b2 hR hs f1 ⟨?_, ?_, ?_, ?_, ?_⟩
    · rw [zwr_e, qput_e rfl]
    · rw [zwr_n (Or.inr (by decide)), qput_n (by decide)]; exact z.2.1
    · rw [zwr_n (Or.inr (by decide)), qput_n (by decide)]; exact z.2.2.1
    · rw [zwr_n (Or.inr (by decide)), qput_n (by decide)]; exact z.2.2.2.1
    · rw [zwr_n (Or.inr (by decide)), qput_n (by decide)]; exact z.2.2.2.2
  refine ⟨zwr s1 10 3 (r 162 + a1), ?_, hC, b3.tr (qfc.of f1 (fun q z => by omega)), hR'⟩
  unfold fX7_buyFuses
  rw [ilt (by omega) (by omega), ilt (by omega) (by omega), e0, ilt (by omega) (by omega), if_neg (by omega), if_neg (by omega), if_neg (by omega), b1, zbd_s, e1, zlet_e, zwr_e]
def qbrn (r : Int → Int) (a1 : Int) : Int → Int := qput (qput (qput r 164 (r 164 + a1)) 165 (r 165 + a1 * qdrawn r)) 166 (r 166 + a1 * qleak r)
theorem qbrn_same : qsame r (qbrn r a1) := fun j j0 j1 => (qput_n (by omega)).trans ((qput_n (by omega)).trans (qput_n (by omega)))
theorem qbrn_v : qbrn r a1 162 = r 162 ∧ qbrn r a1 163 = r 163 ∧ qbrn r a1 164 = r 164 + a1 ∧ qbrn r a1 165 = r 165 + a1 * qdrawn r ∧ qbrn r a1 166 = r 166 + a1 * qleak r :=
  ⟨(qput_n (by decide)).trans ((qput_n (by decide)).trans (qput_n (by decide))), (qput_n (by decide)).trans ((qput_n (by decide)).trans (qput_n (by decide))), (qput_n (by decide)).trans ((qput_n (by decide)).trans (qput_e rfl)), (qput_n (by decide)).trans (qput_e rfl), qput_e rfl⟩
theorem qbrn_row (hR : qRow 8 r) (q1 : 1 ≤ a1 ∧ a1 ≤ 1000) (q2 : r 164 + a1 ≤ 100000) : qRow 8 (qbrn r a1) := by
  have hr := hR.2.2.2.2.2.2.2.1
  have hr5 := hR.2.2.2.2.2.2.2.2.1
  have hr6 := hR.2.2.2.2.2.2.2.2.2
  have hd := qdrawn_r hR
  have hl := qleak_r hR
  have m1 : a1 * qdrawn r ≤ a1 * 144 := Int.mul_le_mul_of_nonneg_left (by omega) (by omega)
  have m2 : a1 * qleak r ≤ a1 * 270 := Int.mul_le_mul_of_nonneg_left (by omega) (by omega)
  have m3 : 0 ≤ a1 * qdrawn r := Int.mul_nonneg (by omega) (by omega)
  have m4 : 0 ≤ a1 * qleak r := Int.mul_nonneg (by omega) (by omega)
  obtain ⟨e2, e3, e4, e5, e6⟩ := qbrn_v (r := r) (a1 := a1)
  exact hR.cnt qbrn_same (by rw [e2]; exact hR.2.2.2.2.2.2.1) (by rw [e4]; omega) (by rw [e5, e4]; omega) (by rw [e6, e4]; omega)
theorem kc_burn (h : qCs g n R r) (hR : qRow 8 r) (q1 : 1 ≤ a1 ∧ a1 ≤ 1000) (q2 : r 164 + a1 ≤ 100000) : ∃ g', fX7_burn g a1 = some (a1 * qdrawn r, g') ∧ qCs g' (qpn n) (qpush n R r) (qbrn r a1) ∧ qfc g g' := by
  have hr := hR.2.2.2.2.2.2.2.1
  have e0 : g.1 10 5 = r 164 := h.1.1.2.2.2.2.2.2.2.1
  obtain ⟨s1, b1, b2, b3⟩ := k_saved hR h
  have z := b2.1.1.2.2.2.2.2
  have eu : s1.1 208 (Int.toNat 0) = qdrawn r := (b2.1.2.2.2.2.1 0 (by omega) (by have := hR.1; omega)).trans (qdrawn_e hR)
  have elk : s1.1 200 7 = qleak r := b2.1.2.2.2.1.1
  obtain ⟨e2, e3, e4, e5, e6⟩ := qbrn_v (r := r) (a1 := a1)
  let w1 := zwr s1 10 5 (r 164 + a1)
  let w2 := zwr w1 10 6 (r 165 + a1 * qdrawn r)
  let w3 := zwr w2 10 7 (r 166 + a1 * qleak r)
  have fw : ∀ (h : zSt) (z : Nat) (v : Int), qfr (fun q => q = 10) h (zwr h 10 z v) := fun h z v => qfr.wr rfl
  have f1 : qfr (fun q => q = 10) s1 w3 := ((fw _ _ _).tr (fw _ _ _)).tr (fw _ _ _)
  have hC : qCs w3 (qpn n) (qpush n R r) (qbrn r a1) := by
    refine c_cnt b2 hR qbrn_same f1 ⟨?_, ?_, ?_, ?_, ?_⟩
    · rw [e2]; exact (zwr_n (Or.inr (by decide))).trans ((zwr_n (Or.inr (by decide))).trans ((zwr_n (Or.inr (by decide))).trans z.1))
    · rw [e3]; exact (zwr_n (Or.inr (by decide))).trans ((zwr_n (Or.inr (by decide))).trans ((zwr_n (Or.inr (by decide))).trans z.2.1))
    · rw [e4]; exact (zwr_n (Or.inr (by decide))).trans ((zwr_n (Or.inr (by decide))).trans zwr_e)
    · rw [e5]; exact (zwr_n (Or.inr (by decide))).trans zwr_e
    · rw [e6]; exact zwr_e
  refine ⟨w3, ?_, hC, b3.tr (qfc.of f1 (fun q z => by omega))⟩
  have x6 : w1.1 10 6 = r 165 := (zwr_n (Or.inr (by decide))).trans z.2.2.2.1
  have x7 : w2.1 10 7 = r 166 := (zwr_n (Or.inr (by decide))).trans ((zwr_n (Or.inr (by decide))).trans z.2.2.2.2)
  have xl : w2.1 200 7 = qleak r := (zwr_n (Or.inl (by decide))).trans ((zwr_n (Or.inl (by decide))).trans elk)
  unfold fX7_burn
  rw [ilt (by omega) (by omega), ilt (by omega) (by omega), e0, ilt (by omega) (by omega), if_neg (by omega), if_neg (by omega), if_neg (by omega), b1, zbd_s, zck_t (by omega), eu, Int.mul_comm, zlet_e, z.2.2.1, zlet_e]
  show zlet (zwr w1 10 6 (w1.1 10 6 + a1 * qdrawn r)) _ = _
  rw [x6, zlet_e]
  show zlet (zwr w2 10 7 (w2.1 10 7 + w2.1 200 7 * a1)) _ = _
  rw [x7, xl, Int.mul_comm (qleak r), zlet_e]
theorem kc_replace (h : qCs g n R r) (hR : qRow 8 r) (q1 : 0 < a1 ∧ a1 < r 0) (q2 : a2 = 0 ∨ a2 = 1) (q3 : 1 ≤ a3 ∧ a3 ≤ 60) (q4 : 0 < r 162) : ∃ g', fX7_replace g a1 a2 a3 = some (1 - qB (qset 24 (qrp r a1 a2 a3) 0).1 a1 (5 + a2), g') ∧ qCs g' (qpn n) (qpush n R r) (qset 24 (qrp r a1 a2 a3) 0).1 ∧ qfc g g' := by
  have hr := hR.1
  have hr6 := hR.2.2.2.2.2.2.1
  have hS := h.1.1
  have e6 : g.1 10 3 = r 162 := hS.2.2.2.2.2.1
  have hb2 : 0 < a1 ∧ a1 < 12 := by omega
  obtain ⟨s1, b1, b2, b3⟩ := k_saved hR h
  have e1 : s1.1 10 3 = r 162 := b2.1.1.2.2.2.2.2.1
  obtain ⟨k1, k2⟩ := k_repl (v := a3) hR b2.1.1 q1 q2
  have hRe := qrp_row hR q1 q2 q3 q4
  obtain ⟨s3, c1, c2, c3⟩ := k_mut b2 hr.1 k2 (fun q z => by omega) k1 hRe
  have hRs := qset_row 24 _ 0 hRe
  have e00 : (qset 24 (qrp r a1 a2 a3) 0).1 0 = r 0 := (qset_o (Or.inl rfl) 24 _ 0 hRe).trans (qrp_A hb2.1 q2 0 (by omega) (by omega) (by omega))
  have hxs := hRs.2.2.2.1 a1 q1.1 (by omega)
  have hbl : qB (qset 24 (qrp r a1 a2 a3) 0).1 a1 (5 + a2) = 0 ∨ qB (qset 24 (qrp r a1 a2 a3) 0).1 a1 (5 + a2) = 1 := by
    rcases (show 5 + a2 = 5 ∨ 5 + a2 = 6 by omega) with q | q
    · rw [q]; exact hxs.2.2.2.2.2.1
    · rw [q]; exact hxs.2.2.2.2.2.2
  have h16 : s3.1 16 (Int.toNat (2 * a1 + a2)) = qB (qset 24 (qrp r a1 a2 a3) 0).1 a1 (5 + a2) := (c2.1.1.2.2.1 a1 a2 q1.1 (by omega) q2).2
  refine ⟨s3, ?_, c2, b3.tr c3⟩
  unfold fX7_replace
  rw [zbq (k_isFed hS hR (by unfold qi; omega)), zbq (k_isTer (by unfold qi; omega)), zbq (k_isRat (by unfold qi; omega)), e6, ilt (by omega) (by omega), if_pos q1, if_pos (by omega), if_pos q3, if_pos q4, b1, zbd_s, zlet_e, e1, zlet_e, zck_t (by omega), zlet_e, zck_t (by omega), qck_0, zlet_e, c1, zbe_s, zck_t (by omega), h16, ieq (by omega) (by omega)]
  unfold fX7_oneIf
  rcases hbl with q | q
  · rw [if_pos q, q, ieq (by omega) (by omega), if_neg (by omega), zbd_s]; rfl
  · rw [if_neg (by omega), q, if_pos rfl, zbd_s]; rfl
end PKOPS
