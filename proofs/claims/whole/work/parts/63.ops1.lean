section QOPS1
variable {g g' g1 g2 g3 g4 : zSt} {m b t x w k p u j a lo hi v M p1 p2 p3 p4 y a1 a2 a3 a4 : Int} {r r' re : Int → Int} {R : Nat → Int → Int} {c s d e N n L : Nat} {xs : Nat → Int32} {K : zSt → Int → Option Unit}
theorem op_addBox (h : qRel g n R) (h1 : qi a1) (h2 : qi a2) (h3 : qi a3) (h4 : a4 = 0 ∨ a4 = 1) : qOk (fL_addBox g a1 a2 a3 a4) (fun g => fX8_addBox g a1 a2 a3 a4) := by
  have hR := h.2.1.2.1.1
  have hS := h.1.1.1
  have hr := hR.1
  have e0 : g.1 11 0 = qr g 0 := hS.1.1
  have ck : fX7_addBox g a1 a2 a3 a4 = if 0 ≤ a1 ∧ a1 < qr g 0 then (if 1 ≤ a2 ∧ a2 ≤ 60 then (if 1 ≤ a3 ∧ a3 ≤ 60 then (if qr g 0 < 12 then zbd (fX2_save g 10) (fun g4 => zbd (fX0_add g4 11 a1 a2 a3 a4) (fun g5 => zbe (fX7_settle g5 10 200) (fun v6 g7 => some (((g7.1 11 0) - 1), 0, g7)))) else some (0, 3, g)) else some (0, 2, g)) else some (0, 2, g)) else some (0, 1, g) := by
    unfold fX7_addBox
    rw [zbq (k_isBox hS hR h1), zbq (k_isRat h2), zbq (k_isRat h3), e0, ilt (by omega) (by omega)]
  have mk : ∀ E, qwyB (qr g) a1 a2 a3 = E → 1 ≤ E ∧ E ≤ 3 → fX8_addBox g a1 a2 a3 a4 = some (0, zwr g 400 0 E) := by
    intro E hE hE2
    unfold fX8_addBox
    rw [m_whyB hR h1 h2 h3, zbd_s, hE, zlet_e, zwr_e, ilt (by omega) (by omega), if_pos (by omega)]
  by_cases q1 : 0 ≤ a1 ∧ a1 < qr g 0
  · rw [if_pos q1] at ck
    by_cases q2 : 1 ≤ a2 ∧ a2 ≤ 60
    · rw [if_pos q2] at ck
      by_cases q3 : 1 ≤ a3 ∧ a3 ≤ 60
      · rw [if_pos q3] at ck
        by_cases q4 : qr g 0 < 12
        · rw [if_pos q4] at ck
          obtain ⟨s1, b1, b2, b3⟩ := k_saved hR h.1
          obtain ⟨s2, s3, c1, c2, c3, c4⟩ := c_addB b2 hR q4 q1 q2 q3 h4
          have ev : (qset 24 (qnB (qr g) a1 a2 a3 a4) 0).1 0 = qr g 0 + 1 := (qset_o (Or.inl rfl) 24 _ 0 (qnB_row hR q4 q1 q2 q3 h4)).trans qnB_0
          have e3 : s3.1 11 0 - 1 = qr g 0 := by
            have : s3.1 11 0 = (qset 24 (qnB (qr g) a1 a2 a3 a4) 0).1 0 := c3.1.1.1.1
            rw [this, ev]; omega
          have ck2 : fX7_addBox g a1 a2 a3 a4 = some (qr g 0, 0, s3) := by
            rw [ck, b1, zbd_s, c1, zbd_s, c2, zbe_s, e3]
          refine h.ans (g2 := s3) (v := qr g 0) (by unfold fL_addBox; rw [zbx_some ck2]; rfl) c3 (b3.tr c4) (fun g3 hm => ?_)
          obtain ⟨t1, d1, d2, d3, d4⟩ := m_saved (hm.wz (v := 0) (z := 0) (by decide))
          obtain ⟨t2, e1, e2, e5, e4⟩ := m_bringB d2 q4 q1 q2 q3 h4
          refine ⟨t2, ?_, e2, ((qfm.wz (by decide)).tr d3).tr e5, e4.trans (d4.trans zwr_e)⟩
          have ew : qwyB (qr g) a1 a2 a3 = 0 := by
            unfold qwyB
            rw [if_pos q1, if_pos q2, if_pos q3, if_neg (by omega)]
          have et : t2.1 401 (Int.toNat 0) - 1 = qr g 0 := by
            have : t2.1 401 (Int.toNat 0) = (qset 24 (qnB (qr g) a1 a2 a3 a4) 0).1 0 := congrFun e2.1 0
            rw [this, ev]; omega
          show fX8_addBox g3 a1 a2 a3 a4 = _
          unfold fX8_addBox
          rw [m_whyB (M := 8) (by rw [hm.1]; exact hR) h1 h2 h3, hm.1, ew, zbd_s, zlet_e, zwr_e, ilt (by omega) (by omega), if_neg (by omega), d1, zbd_s, e1, zbd_s, zck_t (by omega), et]
        · rw [if_neg q4] at ck
          exact h.ref (E := 3) (by omega) (by unfold fL_addBox; rw [zbx_some ck]; rfl) (mk 3 (by unfold qwyB; rw [if_pos q1, if_pos q2, if_pos q3, if_pos (by omega)]) (by omega))
      · rw [if_neg q3] at ck
        exact h.ref (E := 2) (by omega) (by unfold fL_addBox; rw [zbx_some ck]; rfl) (mk 2 (by unfold qwyB; rw [if_pos q1, if_pos q2, if_neg q3]) (by omega))
    · rw [if_neg q2] at ck
      exact h.ref (E := 2) (by omega) (by unfold fL_addBox; rw [zbx_some ck]; rfl) (mk 2 (by unfold qwyB; rw [if_pos q1, if_neg q2]) (by omega))
  · rw [if_neg q1] at ck
    exact h.ref (E := 1) (by omega) (by unfold fL_addBox; rw [zbx_some ck]; rfl) (mk 1 (by unfold qwyB; rw [if_neg q1]) (by omega))
theorem op_hang (h : qRel g n R) (h1 : qi a1) (h2 : qi a2) (h3 : a3 = 0 ∨ a3 = 1) : qOk (fL_hang g a1 a2 a3) (fun g => fX8_hang g a1 a2 a3) := by
  have hR := h.2.1.2.1.1
  have hS := h.1.1.1
  have hr := hR.2.1
  have h2' := h2
  unfold qi at h2'
  have e0 : g.1 17 0 = qr g 85 := hS.2.2.2.1.1
  have ck : fX7_hang g a1 a2 a3 = if 0 ≤ a1 ∧ a1 < qr g 0 then (if a2 < 1 then some (0, 2, g) else (if 9 < a2 then some (0, 2, g) else (if qr g 85 < 16 then zbd (fX2_save g 10) (fun g2 => zbd (fX3_add g2 17 a1 a2 a3) (fun g3 => zbe (fX7_settle g3 10 200) (fun v4 g5 => some (((g5.1 17 0) - 1), 0, g5)))) else some (0, 3, g)))) else some (0, 1, g) := by
    unfold fX7_hang
    rw [zbq (k_isBox hS hR h1), ilt (by omega) (by omega), ilt (by omega) (by omega), e0, ilt (by omega) (by omega)]
  have mk : ∀ E, qwyL (qr g) a1 a2 = E → 1 ≤ E ∧ E ≤ 3 → fX8_hang g a1 a2 a3 = some (0, zwr g 400 0 E) := by
    intro E hE hE2
    unfold fX8_hang
    rw [m_whyL hR h1 h2, zbd_s, hE, zlet_e, zwr_e, ilt (by omega) (by omega), if_pos (by omega)]
  by_cases q1 : 0 ≤ a1 ∧ a1 < qr g 0
  · rw [if_pos q1] at ck
    by_cases q2 : 1 ≤ a2 ∧ a2 ≤ 9
    · rw [if_neg (by omega), if_neg (by omega)] at ck
      by_cases q4 : qr g 85 < 16
      · rw [if_pos q4] at ck
        obtain ⟨s1, b1, b2, b3⟩ := k_saved hR h.1
        obtain ⟨s2, s3, c1, c2, c3, c4⟩ := c_addL b2 hR q4 q1 q2 h3
        have ev : (qset 24 (qnL (qr g) a1 a2 a3) 0).1 85 = qr g 85 + 1 := (qset_o (Or.inr (by omega)) 24 _ 0 (qnL_row hR q4 q1 q2 h3)).trans qnL_0
        have e3 : s3.1 17 0 - 1 = qr g 85 := by
          have : s3.1 17 0 = (qset 24 (qnL (qr g) a1 a2 a3) 0).1 85 := c3.1.1.2.2.2.1.1
          rw [this, ev]; omega
        have ck2 : fX7_hang g a1 a2 a3 = some (qr g 85, 0, s3) := by
          rw [ck, b1, zbd_s, c1, zbd_s, c2, zbe_s, e3]
        refine h.ans (g2 := s3) (v := qr g 85) (by unfold fL_hang; rw [zbx_some ck2]; rfl) c3 (b3.tr c4) (fun g3 hm => ?_)
        obtain ⟨t1, d1, d2, d3, d4⟩ := m_saved (hm.wz (v := 0) (z := 0) (by decide))
        obtain ⟨t2, e1, e2, e5, e4⟩ := m_bringL d2 q4 q1 q2 h3
        refine ⟨t2, ?_, e2, ((qfm.wz (by decide)).tr d3).tr e5, e4.trans (d4.trans zwr_e)⟩
        have ew : qwyL (qr g) a1 a2 = 0 := by
          unfold qwyL
          rw [if_pos q1, if_pos q2, if_neg (by omega)]
        have et : t2.1 401 (Int.toNat 85) - 1 = qr g 85 := by
          have : t2.1 401 (Int.toNat 85) = (qset 24 (qnL (qr g) a1 a2 a3) 0).1 85 := congrFun e2.1 85
          rw [this, ev]; omega
        show fX8_hang g3 a1 a2 a3 = _
        unfold fX8_hang
        rw [m_whyL (M := 8) (by rw [hm.1]; exact hR) h1 h2, hm.1, ew, zbd_s, zlet_e, zwr_e, ilt (by omega) (by omega), if_neg (by omega), d1, zbd_s, e1, zbd_s, zck_t (by omega), et]
      · rw [if_neg q4] at ck
        exact h.ref (E := 3) (by omega) (by unfold fL_hang; rw [zbx_some ck]; rfl) (mk 3 (by unfold qwyL; rw [if_pos q1, if_pos q2, if_pos (by omega)]) (by omega))
    · have ck2 : fX7_hang g a1 a2 a3 = some (0, 2, g) := by
        rw [ck]
        by_cases q : a2 < 1
        · rw [if_pos q]
        · rw [if_neg q, if_pos (by omega)]
      exact h.ref (E := 2) (by omega) (by unfold fL_hang; rw [zbx_some ck2]; rfl) (mk 2 (by unfold qwyL; rw [if_pos q1, if_neg q2]) (by omega))
  · rw [if_neg q1] at ck
    exact h.ref (E := 1) (by omega) (by unfold fL_hang; rw [zbx_some ck]; rfl) (mk 1 (by unfold qwyL; rw [if_neg q1]) (by omega))
theorem op_fault (h : qRel g n R) (h1 : qi a1) (h2 : qi a2) (h3 : qi a3) : qOk (fL_fault g a1 a2 a3) (fun g => fX8_fault g a1 a2 a3) := by
  have hR := h.2.1.2.1.1
  have hS := h.1.1.1
  have hr := hR.2.2.1
  have e0 : g.1 21 0 = qr g 134 := hS.2.2.2.2.1.1
  have ck : fX7_fault g a1 a2 a3 = if 0 ≤ a1 ∧ a1 < qr g 0 then (if 0 ≤ a2 ∧ a2 ≤ 1 then (if 1 ≤ a3 ∧ a3 ≤ 30 then (if qr g 134 < 8 then zbd (fX2_save g 10) (fun g4 => zbd (fX1_add g4 21 a1 a2 a3) (fun g5 => zbe (fX7_settle g5 10 200) (fun v6 g7 => some (v6, 0, g7)))) else some (0, 3, g)) else some (0, 2, g)) else some (0, 1, g)) else some (0, 1, g) := by
    unfold fX7_fault
    rw [zbq (k_isBox hS hR h1), zbq (k_isTer h2), zbq (k_isStr h3), e0, ilt (by omega) (by omega)]
  have mk : ∀ E, qwyF (qr g) a1 a2 a3 = E → 1 ≤ E ∧ E ≤ 3 → fX8_fault g a1 a2 a3 = some (0, zwr g 400 0 E) := by
    intro E hE hE2
    unfold fX8_fault
    rw [m_whyF hR h1 h2 h3, zbd_s, hE, zlet_e, zwr_e, ilt (by omega) (by omega), if_pos (by omega)]
  by_cases q1 : 0 ≤ a1 ∧ a1 < qr g 0
  · rw [if_pos q1] at ck
    by_cases q2 : 0 ≤ a2 ∧ a2 ≤ 1
    · rw [if_pos q2] at ck
      by_cases q3 : 1 ≤ a3 ∧ a3 ≤ 30
      · rw [if_pos q3] at ck
        by_cases q4 : qr g 134 < 8
        · rw [if_pos q4] at ck
          have q2' : a2 = 0 ∨ a2 = 1 := by omega
          obtain ⟨s1, b1, b2, b3⟩ := k_saved hR h.1
          obtain ⟨s2, s3, c1, c2, c3, c4⟩ := c_addF b2 hR q4 q1 q2' q3
          have ck2 : fX7_fault g a1 a2 a3 = some ((qset 24 (qnF (qr g) a1 a2 a3) 0).2, 0, s3) := by
            rw [ck, b1, zbd_s, c1, zbd_s, c2, zbe_s]
          refine h.ans (g2 := s3) (v := (qset 24 (qnF (qr g) a1 a2 a3) 0).2) (by unfold fL_fault; rw [zbx_some ck2]; rfl) c3 (b3.tr c4) (fun g3 hm => ?_)
          obtain ⟨t1, d1, d2, d3, d4⟩ := m_saved (hm.wz (v := 0) (z := 0) (by decide))
          obtain ⟨t2, e1, e2, e5, e6, e4⟩ := m_bringF d2 q4 q1 q2' q3
          refine ⟨t2, ?_, e2, ((qfm.wz (by decide)).tr d3).tr e5, e4.trans (d4.trans zwr_e)⟩
          have ew : qwyF (qr g) a1 a2 a3 = 0 := by
            unfold qwyF
            rw [if_pos q1, if_pos q2, if_pos q3, if_neg (by omega)]
          show fX8_fault g3 a1 a2 a3 = _
          unfold fX8_fault
          rw [m_whyF (M := 8) (by rw [hm.1]; exact hR) h1 h2 h3, hm.1, ew, zbd_s, zlet_e, zwr_e, ilt (by omega) (by omega), if_neg (by omega), d1, zbd_s, e1, zbd_s, e6]
        · rw [if_neg q4] at ck
          exact h.ref (E := 3) (by omega) (by unfold fL_fault; rw [zbx_some ck]; rfl) (mk 3 (by unfold qwyF; rw [if_pos q1, if_pos q2, if_pos q3, if_pos (by omega)]) (by omega))
      · rw [if_neg q3] at ck
        exact h.ref (E := 2) (by omega) (by unfold fL_fault; rw [zbx_some ck]; rfl) (mk 2 (by unfold qwyF; rw [if_pos q1, if_pos q2, if_neg q3]) (by omega))
    · rw [if_neg q2] at ck
      exact h.ref (E := 1) (by omega) (by unfold fL_fault; rw [zbx_some ck]; rfl) (mk 1 (by unfold qwyF; rw [if_pos q1, if_neg q2]) (by omega))
  · rw [if_neg q1] at ck
    exact h.ref (E := 1) (by omega) (by unfold fL_fault; rw [zbx_some ck]; rfl) (mk 1 (by unfold qwyF; rw [if_neg q1]) (by omega))
end QOPS1
