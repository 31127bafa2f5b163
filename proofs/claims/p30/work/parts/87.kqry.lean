section PKQRY
variable {g g' g1 g2 g3 g4 : zSt} {m b t x w k p u j a lo hi v M p1 p2 p3 p4 y a1 a2 a3 a4 : Int} {r r' re : Int → Int} {R : Nat → Int → Int} {c s d e N n L : Nat}
theorem kq_box (h : qCs g n R r) (hR : qRow 8 r) (hb : 0 ≤ b ∧ b < r 0) (hw : 0 ≤ w ∧ w ≤ 6) : fX7_box g b w = some (qbp r b w) := by
  have hr := hR.1
  unfold fX7_box
  rw [zbq (k_isBox h.1.1 hR (by unfold qi; omega)), if_pos hb, ilt (by omega) (by omega), if_neg (by omega), ilt (by omega) (by omega), if_pos (by omega), k_boxP h.1.1 h.1.2 hR hb hw, zbd_s]
theorem kq_ter (h : qCs g n R r) (hR : qRow 8 r) (hb : 0 ≤ b ∧ b < r 0) (ht : t = 0 ∨ t = 1) (hw : 0 ≤ w ∧ w ≤ 5) : fX7_terminal g b t w = some (qtp r b t w) := by
  have hr := hR.1
  unfold fX7_terminal
  rw [zbq (k_isBox h.1.1 hR (by unfold qi; omega)), if_pos hb, zbq (k_isTer (by unfold qi; omega)), if_pos (by omega), ilt (by omega) (by omega), if_neg (by omega), ilt (by omega) (by omega), if_pos (by omega), k_terP h.1.1 h.1.2 hR hb ht hw, zbd_s]
theorem kq_lan (h : qCs g n R r) (hR : qRow 8 r) (hk : 0 ≤ k ∧ k < r 85) (hw : 0 ≤ w ∧ w ≤ 3) : fX7_lantern g k w = some (qlp r k w) := by
  have hr := hR.2.1
  unfold fX7_lantern
  rw [zbq (k_isLan h.1.1 hR (by unfold qi; omega)), if_pos hk, ilt (by omega) (by omega), if_neg (by omega), ilt (by omega) (by omega), if_pos (by omega), k_lanP h.1.1 h.1.2 hR hk hw, zbd_s]
theorem kq_fau (h : qCs g n R r) (hR : qRow 8 r) (hk : 0 ≤ k ∧ k < r 134) (hw : 0 ≤ w ∧ w ≤ 4) : fX7_faultAt g k w = some (qfq r k w) := by
  have hr := hR.2.2.1
  unfold fX7_faultAt
  rw [zbq (k_isFau h.1.1 hR (by unfold qi; omega)), if_pos hk, ilt (by omega) (by omega), if_neg (by omega), ilt (by omega) (by omega), if_pos (by omega), k_fauP h.1.1 h.1.2 hR hk hw, zbd_s]
theorem kq_cnt (h : qCs g n R r) (hR : qRow 8 r) (hw : 0 ≤ w ∧ w ≤ 10) : fX7_count g w = some (qco r 0 w) := by
  unfold fX7_count
  rw [ilt (by omega) (by omega), if_neg (by omega), ilt (by omega) (by omega), if_pos (by omega), k_count h.1.1 h.1.2 hR rfl (by omega), zbd_s]
  unfold qco
  congr 1
  repeat' split
  all_goals first | rfl | omega
theorem kq_lamp (h : qCs g n R r) (hR : qRow 8 r) (hp : p = 0 ∨ p = 1) : fX7_lamp g p = some (qlamp r p) := by
  unfold fX7_lamp
  rw [zbq (k_isPol (by unfold qi; omega)), if_pos (by omega), k_lamp h.1.2 hR hp, zbd_s]
theorem kq_loc (h : qCs g n R r) (hR : qRow 8 r) (hp : p = 0 ∨ p = 1) : fX7_locate g p = some (qloc r p) := by
  unfold fX7_locate
  rw [zbq (k_isPol (by unfold qi; omega)), if_pos (by omega), k_loc h.1.1 h.1.2 hR hp, zbd_s]
theorem kq_tog (h : qCs g n R r) (hR : qRow 8 r) (hb : 0 < b ∧ b < r 0) : ∃ g', fX7_ifToggled g b = some (qburn (qset 24 (qtn r b 2) 0).1, g') ∧ qCs g' n R r ∧ qfc g g' := by
  have hr := hR.1
  obtain ⟨s2, b1, b2, b3⟩ := k_tog h hR hb
  refine ⟨s2, ?_, b2, qfc.of b3 (fun q z => by omega)⟩
  unfold fX7_ifToggled
  rw [zbq (k_isFed h.1.1 hR (by unfold qi; omega)), if_pos hb, b1, zbe_s]
theorem kq_need (h : qCs g n R r) (hR : qRow 8 r) (hb : 0 < b ∧ b < r 0) (ht : t = 0 ∨ t = 1) : ∃ g', fX7_neededRating g b t = some (qcur (qwr r) b t, g') ∧ qCs g' n R r ∧ qfc g g' := by
  have hr := hR.1
  obtain ⟨s2, b1, b2, b3, b4⟩ := k_whole h hR
  have e0 : qwr r 0 = r 0 := qwr_A hR 0 (by omega) (by omega)
  refine ⟨s2, ?_, b2, qfc.of b4 (fun q z => by omega)⟩
  unfold fX7_neededRating
  rw [zbq (k_isFed h.1.1 hR (by unfold qi; omega)), if_pos hb, zbq (k_isTer (by unfold qi; omega)), if_pos (by omega), b1, zbd_s, k_cur (qwr_row hR) b3 (b := b) (t := t) (by rw [e0]; omega) ht rfl, zbd_s]
theorem kq_fan (h : qCs g n R r) (hR : qRow 8 r) (q1 : 0 ≤ a1 ∧ a1 < r 0) (q2 : a2 = 0 ∨ a2 = 1) (q3 : 1 ≤ a3 ∧ a3 ≤ 30) (q4 : 0 ≤ a4 ∧ a4 ≤ 3) : ∃ g', fX7_ifFault g a1 a2 a3 a4 = some (qfan (qnF r a1 a2 a3) a4, g') ∧ qCs g' n R r ∧ qfc g g' := by
  have hr := hR.2.2.1
  have h0 := hR.1
  obtain ⟨s1, b1, b2, b3⟩ := k_trial h hR
  have hRe : qRow 9 (qnF r a1 a2 a3) := qnF_row hR (by omega) q1 q2 q3
  obtain ⟨s2, c1, c2, c3⟩ := k_addF (c := 30) hR b2 (by omega) (qnF_A (by omega)) qnF_0 (qnF_B (p1 := a1) (p2 := a2) (p3 := a3) (by omega))
  have hM2 : qMade s2 220 := h.2.1.1.cg (fun q k a b => (c3.1 _ _ (by omega)).trans (b3.1 _ _ (by omega)))
  obtain ⟨s3, d1, d2, d3⟩ := k_take (s := 220) hRe (by omega) c2 hM2
  have S3 := c2.kept d3 (fun q a b => by omega)
  have hftb := k_ftb hRe S3 d2
  obtain ⟨s4, e1, e2, e3, e4, e5⟩ := k_settle (c := 30) (s := 220) hRe (by omega) S3 (qMade_of d2.1.1 (by have := hRe.1; omega))
  have f4 : qfr (fun q => (30 ≤ q ∧ q < 45) ∨ (220 ≤ q ∧ q < 231)) g s4 := (((b3.wk (fun q z => by omega)).tr (c3.wk (fun q z => by omega))).tr (d3.wk (fun q z => by omega))).tr (e5.wk (fun q z => by omega))
  have hC := h.tri h0.1 f4 (qMade_of e3.1.1 (by have := e4.1; omega))
  have hnx := qnext_r hRe
  have hn0 : qnF r a1 a2 a3 0 = r 0 := qnF_A (by omega) 0 (by omega) (by omega) (by omega)
  refine ⟨s4, ?_, hC, qfc.of f4 (fun q z => by omega)⟩
  unfold fX7_ifFault
  rw [zbq (k_isBox h.1.1 hR (by unfold qi; omega)), if_pos q1, zbq (k_isTer (by unfold qi; omega)), if_pos (by omega), zbq (k_isStr (by unfold qi; omega)), if_pos q3, ilt (by omega) (by omega), if_neg (by omega), ilt (by omega) (by omega), if_pos (by omega), b1, zbd_s, c1, zbd_s, d1, zbd_s, hftb, zbd_s, e1, zbe_s, ieq (by omega) (by omega), ieq (by omega) (by omega), ieq (by omega) (by omega), e3.2.1.1, e3.2.2.1.1, ieq (by omega) (by omega)]
  unfold qfan
  by_cases q : qnext (qnF r a1 a2 a3) = -1
  · rw [if_pos q, if_pos q]
    repeat' split
    all_goals rfl
  · rw [if_neg q, if_neg q, qsr1 (by omega), qan1 (by omega)]
    repeat' split
    all_goals rfl
/-- the share of what was lost -/
def qshv (r : Int → Int) : UInt64 := if r 165 + r 166 = 0 then FP.dconst0 else FP.ddiv (FP.i2d (i32 (r 166))) (FP.i2d (i32 (r 165 + r 166)))
theorem qsh_all (hR : qRow M r) (hne : r 165 + r 166 ≠ 0) : FP.dmul FP.dconst1 (FP.i2d (i32 (r 166))) = FP.i2d (i32 (r 166)) ∧ znb (FP.i2d (i32 (r 166))) = true ∧ znb (FP.ddiv (FP.i2d (i32 (r 166))) (FP.i2d (i32 (r 165 + r 166)))) = true ∧ zdc (FP.ddiv (FP.i2d (i32 (r 166))) (FP.i2d (i32 (r 165 + r 166)))) (FP.ddiv (FP.i2d (i32 (r 166))) (FP.i2d (i32 (r 165 + r 166)))) .l = 0 := by
  have h4 := hR.2.2.2.2.2.2.2.1
  have h5 := hR.2.2.2.2.2.2.2.2.1
  have h6 := hR.2.2.2.2.2.2.2.2.2
  exact fp_share (by omega) (by omega)
theorem k_share2 (hS : qShip g 10 r) (hR : qRow M r) : fX7_lossShare g = some (qshv r) := by
  have z := hS.2.2.2.2.2
  have h4 := hR.2.2.2.2.2.2.2.1
  have h5 := hR.2.2.2.2.2.2.2.2.1
  have h6 := hR.2.2.2.2.2.2.2.2.2
  unfold fX7_lossShare qshv
  rw [z.2.2.2.1, z.2.2.2.2, zlet_e, ieq (by omega) (by omega)]
  by_cases q : r 165 + r 166 = 0
  · rw [if_pos q, if_pos q]
  · rw [if_neg q, if_neg q, zck_t (qsh_all hR q).2.2.1]
end PKQRY
