section QOPS6
variable {g g' g1 g2 g3 g4 : zSt} {m b t x w k p u j a lo hi v M p1 p2 p3 p4 y a1 a2 a3 a4 i : Int} {r r' re : Int → Int} {R : Nat → Int → Int} {c s d e N L n : Nat}
theorem m_rmL (h : qMs g n R r) (ha : 0 ≤ a ∧ a < r 85) : ∃ g', fX8_takeDown_p62 zfu (zwr g 401 (Int.toNat 85) (r 85 - 1)) v (86 + 3 * a) = some (v, g') ∧ qMs g' n R (qset 24 (qrmL r a) 0).1 ∧ qfm g g' ∧ g'.1 400 0 = g.1 400 0 := by
  have hR := h.2.1.1
  have h2 := hR.2.1
  let w0 := zwr g 401 (Int.toNat 85) (r 85 - 1)
  obtain ⟨g1, t1, t2, t3, t4, t5⟩ := q_mv (L := fun fu g a => fX8_takeDown_p62 fu g v a) (lo := 86 + 3 * a) (hi := 86 + 3 * (r 85 - 1)) (C := 401) (D := 401) (A := fun a => a) (B := fun a => a + 3) (F := fun g => zbd (fX8_settle g) (fun g1 => some (v, g1))) (I := fun g => g.1 401 (Int.toNat 85) = r 85 - 1) (fun fu g a hi a0 a1 => by
    show fX8_takeDown_p62 (fu + 1) g v a = fX8_takeDown_p62 fu _ v (a + 1)
    rw [fX8_takeDown_p62, zck_t (by omega), hi, ilt (by omega) (by omega), if_pos a1, zck_t (by omega), zck_t (by omega), zlet_e]) (fun fu g hi => by
    show fX8_takeDown_p62 (fu + 1) g v _ = _
    rw [fX8_takeDown_p62, zck_t (by omega), hi, ilt (by omega) (by omega), if_neg (by omega)]) (fun g a v hi a0 a1 => (zwr_n (Or.inr (by omega))).trans hi) (fun a k a0 a1 a2 => ⟨by omega, Or.inr (by omega)⟩) zfu w0 (86 + 3 * a) (by omega) (by omega) (by unfold zfu; omega) zwr_e
  have e : qr g1 = qrmL r a := by
    funext j
    have hz : ∀ i : Nat, i ≠ 85 → w0.1 401 i = r (i : Int) := by
      intro i hi
      rw [← h.1]
      exact zwr_n (Or.inr (by omega))
    have hnn : r ((j.toNat : Nat) : Int) = r j := by
      rw [← h.1]
      exact qr_nn j
    show g1.1 401 j.toNat = _
    unfold qrmL
    by_cases q1 : j.toNat = 85
    · rw [if_pos q1, q1]; exact t2
    · rw [if_neg q1]
      by_cases q2 : 86 + 3 * a ≤ (j.toNat : Int) ∧ (j.toNat : Int) < 86 + 3 * (r 85 - 1)
      · have z := t3 (j.toNat : Int) q2.1 q2.2
        rw [if_pos q2, show j.toNat = Int.toNat (j.toNat : Int) by omega, z, hz _ (by omega)]
        congr 1
        omega
      · have z := t4 j.toNat (fun k k0 k1 => by omega)
        rw [if_neg q2, z, hz _ q1, hnn]
  obtain ⟨g3, b1, b2, b3, b4, b5, b6⟩ := m_mut h (f401.tr t5) e (qrmL_row hR ha) (qrmL_end hR ha.1 h.2.1.2)
  refine ⟨g3, ?_, b2, b3, b6⟩
  refine t1.trans ?_
  show zbd (fX8_settle g1) _ = _
  rw [b1, zbd_s]
theorem m_rmF (h : qMs g n R r) (ha : 0 ≤ a ∧ a < r 134) : ∃ g', fX8_mend_p57 zfu (zwr g 401 (Int.toNat 134) (r 134 - 1)) v (135 + 3 * a) = some (v, g') ∧ qMs g' n R (qset 24 (qrmF r a) 0).1 ∧ qfm g g' ∧ g'.1 400 0 = g.1 400 0 := by
  have hR := h.2.1.1
  have h2 := hR.2.2.1
  let w0 := zwr g 401 (Int.toNat 134) (r 134 - 1)
  obtain ⟨g1, t1, t2, t3, t4, t5⟩ := q_mv (L := fun fu g a => fX8_mend_p57 fu g v a) (lo := 135 + 3 * a) (hi := 135 + 3 * (r 134 - 1)) (C := 401) (D := 401) (A := fun a => a) (B := fun a => a + 3) (F := fun g => zbd (fX8_settle g) (fun g1 => some (v, g1))) (I := fun g => g.1 401 (Int.toNat 134) = r 134 - 1) (fun fu g a hi a0 a1 => by
    show fX8_mend_p57 (fu + 1) g v a = fX8_mend_p57 fu _ v (a + 1)
    rw [fX8_mend_p57, zck_t (by omega), hi, ilt (by omega) (by omega), if_pos a1, zck_t (by omega), zck_t (by omega), zlet_e]) (fun fu g hi => by
    show fX8_mend_p57 (fu + 1) g v _ = _
    rw [fX8_mend_p57, zck_t (by omega), hi, ilt (by omega) (by omega), if_neg (by omega)]) (fun g a v hi a0 a1 => (zwr_n (Or.inr (by omega))).trans hi) (fun a k a0 a1 a2 => ⟨by omega, Or.inr (by omega)⟩) zfu w0 (135 + 3 * a) (by omega) (by omega) (by unfold zfu; omega) zwr_e
  have e : qr g1 = qrmF r a := by
    funext j
    have hz : ∀ i : Nat, i ≠ 134 → w0.1 401 i = r (i : Int) := by
      intro i hi
      rw [← h.1]
      exact zwr_n (Or.inr (by omega))
    have hnn : r ((j.toNat : Nat) : Int) = r j := by
      rw [← h.1]
      exact qr_nn j
    show g1.1 401 j.toNat = _
    unfold qrmF
    by_cases q1 : j.toNat = 134
    · rw [if_pos q1, q1]; exact t2
    · rw [if_neg q1]
      by_cases q2 : 135 + 3 * a ≤ (j.toNat : Int) ∧ (j.toNat : Int) < 135 + 3 * (r 134 - 1)
      · have z := t3 (j.toNat : Int) q2.1 q2.2
        rw [if_pos q2, show j.toNat = Int.toNat (j.toNat : Int) by omega, z, hz _ (by omega)]
        congr 1
        omega
      · have z := t4 j.toNat (fun k k0 k1 => by omega)
        rw [if_neg q2, z, hz _ q1, hnn]
  obtain ⟨g3, b1, b2, b3, b4, b5, b6⟩ := m_mut h (f401.tr t5) e (qrmF_row hR ha) (qrmF_end hR ha.1 h.2.1.2)
  refine ⟨g3, ?_, b2, b3, b6⟩
  refine t1.trans ?_
  show zbd (fX8_settle g1) _ = _
  rw [b1, zbd_s]
theorem op_takeDown (h : qRel g n R) (h1 : qi a1) : qOk (fL_takeDown g a1) (fun g => fX8_takeDown g a1) := by
  have hR := h.2.1.2.1.1
  have hr := hR.2.1
  have hS := h.1.1.1
  have ck : fX7_takeDown g a1 = if 0 ≤ a1 ∧ a1 < qr g 85 then zbd (fX2_save g 10) (fun g2 => zck ((0 : Int) ≤ a1 ∧ a1 < 16) (zbd (fX7_oneIf g2 (g2.1 206 (Int.toNat a1))) (fun v3 => zbd (fX3_remove g2 17 a1) (fun g4 => zbe (fX7_settle g4 10 200) (fun v5 g6 => some (v3, 0, g6)))))) else some (0, 1, g) := by
    unfold fX7_takeDown
    rw [zbq (k_isLan hS hR h1)]
  by_cases q1 : 0 ≤ a1 ∧ a1 < qr g 85
  · rw [if_pos q1] at ck
    obtain ⟨s1, b1, b2, b3⟩ := k_saved hR h.1
    obtain ⟨s2, k1, k2, k3⟩ := k_rmL (c := 10) hR b2.1.1 q1
    obtain ⟨s3, c1, c2, c3⟩ := k_mut b2 hR.1.1 k3 (fun q z => by omega) k2 (qrmL_row hR q1)
    have hv : s1.1 206 (Int.toNat a1) = qbi (decide (qdk (qr g) a1 = 0)) := b2.1.2.2.1.2 a1 q1.1 q1.2
    have ck2 : fX7_takeDown g a1 = some (qbi (decide (qdk (qr g) a1 = 0)), 0, s3) := by
      rw [ck, b1, zbd_s, zck_t (by omega), hv, k_one, zbd_s, k1, zbd_s, c1, zbe_s]
    refine h.ans (v := qbi (decide (qdk (qr g) a1 = 0))) (by unfold fL_takeDown; rw [zbx_some ck2]; rfl) c2 (b3.tr c3) (fun g3 hm => ?_)
    obtain ⟨t1, d1, d2, d3, d4⟩ := m_saved (hm.wz (v := 0) (z := 0) (by decide))
    obtain ⟨t2, e1, e2, e3, e4⟩ := m_rmL (v := qbi (decide (qdk (qr g) a1 = 0))) d2 q1
    refine ⟨t2, ?_, e2, ((qfm.wz (by decide)).tr d3).tr e3, e4.trans (d4.trans zwr_e)⟩
    have ev : t1.1 401 (Int.toNat 85) = qr g 85 := congrFun d2.1 85
    have hd := qdk_r (qr g) a1
    have p43 : ∀ y, y = qbi (decide (qdk (qr g) a1 = 0)) → fX8_takeDown_p43 t1 y a1 = some (qbi (decide (qdk (qr g) a1 = 0)), t2) := by
      intro y hy
      subst hy
      unfold fX8_takeDown_p43
      rw [zck_t (by omega), zck_t (by omega), ev, zlet_e, zlet_e]
      exact e1
    show fX8_takeDown g3 a1 = _
    unfold fX8_takeDown fX8_takeDown_p14
    rw [zbq (m_isLan (M := 8) (by rw [hm.1]; exact hR) h1), hm.1, if_pos q1, zlet_e, zwr_e, ilt (by omega) (by omega), if_neg (by omega), d1, zbd_s, m_dark (m := 8) (by rw [d2.1]; exact hR) (by rw [d2.1]; exact q1), zbd_s, d2.1, ieq (by omega) (by omega)]
    by_cases q : qdk (qr g) a1 = 0
    · rw [if_pos q]; exact p43 1 (by rw [decide_eq_true q]; rfl)
    · rw [if_neg q]; exact p43 0 (by rw [decide_eq_false q]; rfl)
  · rw [if_neg q1] at ck
    refine h.ref (E := 1) (by omega) (by unfold fL_takeDown; rw [zbx_some ck]; rfl) ?_
    show fX8_takeDown g a1 = _
    unfold fX8_takeDown fX8_takeDown_p14
    rw [zbq (m_isLan hR h1), if_neg q1, zlet_e, zwr_e, ilt (by omega) (by omega), if_pos (by omega)]
theorem op_mend (h : qRel g n R) (h1 : qi a1) : qOk (fL_mend g a1) (fun g => fX8_mend g a1) := by
  have hR := h.2.1.2.1.1
  have hr := hR.2.2.1
  have hS := h.1.1.1
  have ck : fX7_mend g a1 = if 0 ≤ a1 ∧ a1 < qr g 134 then zbd (fX2_save g 10) (fun g2 => zck ((0 : Int) ≤ a1 ∧ a1 < 9) (zlet (g2.1 24 (Int.toNat a1)) (fun x3 => zbd (fX1_remove g2 21 a1) (fun g4 => zbe (fX7_settle g4 10 200) (fun v5 g6 => some (x3, 0, g6)))))) else some (0, 1, g) := by
    unfold fX7_mend
    rw [zbq (k_isFau hS hR h1)]
  by_cases q1 : 0 ≤ a1 ∧ a1 < qr g 134
  · rw [if_pos q1] at ck
    obtain ⟨s1, b1, b2, b3⟩ := k_saved hR h.1
    obtain ⟨s2, k1, k2, k3⟩ := k_rmF (c := 10) hR b2.1.1 q1
    obtain ⟨s3, c1, c2, c3⟩ := k_mut b2 hR.1.1 k3 (fun q z => by omega) k2 (qrmF_row hR q1)
    have hv : s1.1 24 (Int.toNat a1) = qF (qr g) a1 2 := (b2.1.1.2.2.2.2.1.2 a1 q1.1 q1.2).2.2
    have ck2 : fX7_mend g a1 = some (qF (qr g) a1 2, 0, s3) := by
      rw [ck, b1, zbd_s, zck_t (by omega), hv, zlet_e, k1, zbd_s, c1, zbe_s]
    refine h.ans (v := qF (qr g) a1 2) (by unfold fL_mend; rw [zbx_some ck2]; rfl) c2 (b3.tr c3) (fun g3 hm => ?_)
    obtain ⟨t1, d1, d2, d3, d4⟩ := m_saved (hm.wz (v := 0) (z := 0) (by decide))
    obtain ⟨t2, e1, e2, e3, e4⟩ := m_rmF (v := qF (qr g) a1 2) d2 q1
    refine ⟨t2, ?_, e2, ((qfm.wz (by decide)).tr d3).tr e3, e4.trans (d4.trans zwr_e)⟩
    have ev : t1.1 401 (Int.toNat 134) = qr g 134 := congrFun d2.1 134
    show fX8_mend g3 a1 = _
    unfold fX8_mend fX8_mend_p14
    rw [zbq (m_isFau (M := 8) (by rw [hm.1]; exact hR) h1), hm.1, if_pos q1, zlet_e, zwr_e, ilt (by omega) (by omega), if_neg (by omega), d1, zbd_s, m_ofFault (by omega), zbd_s, d2.1, zck_t (by omega), zck_t (by omega), ev, zlet_e, zlet_e]
    exact e1
  · rw [if_neg q1] at ck
    refine h.ref (E := 1) (by omega) (by unfold fL_mend; rw [zbx_some ck]; rfl) ?_
    show fX8_mend g a1 = _
    unfold fX8_mend fX8_mend_p14
    rw [zbq (m_isFau hR h1), if_neg q1, zlet_e, zwr_e, ilt (by omega) (by omega), if_pos (by omega)]
end QOPS6
