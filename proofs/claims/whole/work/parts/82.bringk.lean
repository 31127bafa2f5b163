section QBRINGK
variable {g g' g1 g2 g3 g4 : zSt} {m b t x w k p u j a lo hi v M p1 p2 p3 p4 y a1 a2 a3 a4 : Int} {r r' re : Int → Int} {R : Nat → Int → Int} {c s d e N n L : Nat} {xs : Nat → Int32} {K : zSt → Int → Option Unit}
/-- as before, with all that stays -/
theorem m_mutK (h : qMs g1 n R r) (f : qfr (fun q => q = 401) g1 g2) (he : qr g2 = re) (hR : qRow 8 re) (hE : qend re) : ∃ g3, fX8_settle g2 = some g3 ∧ qMs g3 n R (qset 24 re 0).1 ∧ qkeep g1 g3 ∧ g3.1 400 6 = (qset 24 re 0).2 ∧ g3.1 400 7 = qnext re ∧ g3.1 400 0 = g1.1 400 0 := by
  obtain ⟨g3, a1, a2, a3, a4, a5, a6⟩ := m_settle (g := g2) (m := 8) (by rw [he]; exact hR)
  rw [he] at a2 a3 a4
  have hH : qHm g3 n R := h.2.2.cg ((a6.1 _ _ (by omega) (by omega)).trans (f.1 _ _ (by omega))) (fun k => (a6.1 _ _ (by omega) (by omega)).trans (f.1 _ _ (by omega)))
  refine ⟨g3, a1, ⟨a2, ⟨by rw [← a2]; exact a5, qset_end 24 re 0 hR hE⟩, hH⟩, (qkeep.of f).tr a6, a3, a4, (a6.1 _ _ (by omega) (by omega)).trans (f.1 _ _ (by omega))⟩
theorem k_mutF {P : Nat → Prop} (h : qCs g1 n R r) (h0 : 1 ≤ r 0) (f : qfr P g1 g2) (hP : ∀ q, P q → 10 ≤ q ∧ q < 25) (hS : qShip g2 10 re) (hR : qRow 8 re) : ∃ g3, fX7_settle g2 10 200 = some ((qset 24 re 0).2, g3) ∧ qCs g3 n R (qset 24 re 0).1 ∧ qfr (fun q => (10 ≤ q ∧ q < 25) ∨ (200 ≤ q ∧ q < 211)) g1 g3 := by
  have hM : qMade g2 200 := (qMade_of h.1.2.1.1 h0).cg (fun q k a b => f.1 _ _ (fun z => by have := hP _ z; omega))
  obtain ⟨g3, a1, a2, a3, a4, a5⟩ := k_settle hR (by omega) hS hM
  have e : ∀ q k : Nat, ¬ (10 ≤ q ∧ q < 25) → ¬ (200 ≤ q ∧ q < 211) → g3.1 q k = g1.1 q k := fun q k z1 z2 => (a5.1 _ _ (by omega)).trans (f.1 _ _ (fun z => by have := hP _ z; omega))
  have e2 : g3.2 = g1.2 := a5.2.trans f.2
  exact ⟨g3, a1, ⟨⟨a2, a3⟩, ⟨h.2.1.1.cg (fun q k a b => e _ _ (by omega) (by omega)), h.2.1.2.cg (fun q k a b => e _ _ (by omega) (by omega))⟩, h.2.2.cg (fun q k a => e _ _ (by omega) (by omega)) (by rw [e2])⟩, ⟨fun q k z => e q k (by omega) (by omega), e2⟩⟩
theorem m_bringBK (h : qMs g n R r) (hn : r 0 < 12) (h1 : 0 ≤ a1 ∧ a1 < r 0) (h2 : 1 ≤ a2 ∧ a2 ≤ 60) (h3 : 1 ≤ a3 ∧ a3 ≤ 60) (h4 : a4 = 0 ∨ a4 = 1) : ∃ g', fX8_bringBox g a1 a2 a3 a4 = some g' ∧ qMs g' n R (qset 24 (qnB r a1 a2 a3 a4) 0).1 ∧ qkeep g g' ∧ g'.1 400 0 = g.1 400 0 := by
  have hR := h.2.1.1
  have hr := hR.1
  have e0 : g.1 401 (Int.toNat 0) = r 0 := congrFun h.1 0
  let w0 := zwr g 401 (Int.toNat (1 + 7 * r 0 + 0)) a1
  have go : ∀ q, q = a4 → ∃ g', fX8_bringBox_p41 w0 (1 + 7 * r 0 + 1) q a2 a3 (1 + 7 * r 0) = some g' ∧ qMs g' n R (qset 24 (qnB r a1 a2 a3 a4) 0).1 ∧ qkeep g g' ∧ g'.1 400 0 = g.1 400 0 := by
    intro q hq
    subst hq
    let w1 := zwr w0 401 (Int.toNat (1 + 7 * r 0 + 1)) q
    let w2 := zwr w1 401 (Int.toNat (1 + 7 * r 0 + 2)) 1
    let w3 := zwr w2 401 (Int.toNat (1 + 7 * r 0 + 3)) a2
    let w4 := zwr w3 401 (Int.toNat (1 + 7 * r 0 + 3 + 1)) a3
    let w5 := zwr w4 401 (Int.toNat (1 + 7 * r 0 + 5)) 0
    let w6 := zwr w5 401 (Int.toNat (1 + 7 * r 0 + 5 + 1)) 0
    let w7 := zwr w6 401 (Int.toNat 0) (r 0 + 1)
    have q0 : qr w0 = qput r (1 + 7 * r 0 + 0) a1 := by
      have z : qr w0 = qput (qr g) (1 + 7 * r 0 + 0) a1 := qr_put
      rw [h.1] at z
      exact z
    have q1 : qr w1 = qput (qr w0) (1 + 7 * r 0 + 1) q := qr_put
    have q2 : qr w2 = qput (qr w1) (1 + 7 * r 0 + 2) 1 := qr_put
    have q3 : qr w3 = qput (qr w2) (1 + 7 * r 0 + 3) a2 := qr_put
    have q4 : qr w4 = qput (qr w3) (1 + 7 * r 0 + 3 + 1) a3 := qr_put
    have q5 : qr w5 = qput (qr w4) (1 + 7 * r 0 + 5) 0 := qr_put
    have q6 : qr w6 = qput (qr w5) (1 + 7 * r 0 + 5 + 1) 0 := qr_put
    have q7 : qr w7 = qput (qr w6) 0 (r 0 + 1) := qr_put
    have e6 : w6.1 401 (Int.toNat 0) = r 0 := by
      show qr w6 0 = _
      rw [q6, qput_n (by omega), q5, qput_n (by omega), q4, qput_n (by omega), q3, qput_n (by omega), q2, qput_n (by omega), q1, qput_n (by omega), q0, qput_n (by omega)]
    have eN : qr w7 = qnB r a1 a2 a3 q := by
      unfold qnB
      rw [q7, q6, q5, q4, q3, q2, q1, q0]
    have f : qfr (fun q => q = 401) g w7 := ((((((f401.tr f401).tr f401).tr f401).tr f401).tr f401).tr f401).tr f401
    obtain ⟨g3, b1, b2, b3, b4, b5, b6⟩ := m_mutK h f eN (qnB_row hR hn h1 h2 h3 h4) (qnB_end hR hn h.2.1.2)
    refine ⟨g3, ?_, b2, b3, b6⟩
    unfold fX8_bringBox_p41
    rw [zck_t (by omega), zlet_e, zck_t (by omega), zlet_e, zck_t (by omega), zlet_e, zck_t (by omega), zlet_e, zck_t (by omega), zlet_e, zck_t (by omega), zlet_e, zck_t (by omega), zck_t (by omega)]
    show zlet (zwr w6 401 (Int.toNat 0) (w6.1 401 (Int.toNat 0) + 1)) _ = _
    rw [e6, zlet_e]
    show zbd (fX8_settle w7) _ = _
    rw [b1, zbd_s]
  unfold fX8_bringBox
  rw [zck_t (by omega), e0, zlet_e, zck_t (by omega), zlet_e, ieq (by omega) (by omega)]
  rcases h4 with q | q
  · rw [if_pos q]; exact go 0 q.symm
  · rw [if_neg (by omega)]; exact go 1 q.symm
theorem m_bringLK (h : qMs g n R r) (hn : r 85 < 16) (h1 : 0 ≤ a1 ∧ a1 < r 0) (h2 : 1 ≤ a2 ∧ a2 ≤ 9) (h3 : a3 = 0 ∨ a3 = 1) : ∃ g', fX8_bringLantern g a1 a2 a3 = some g' ∧ qMs g' n R (qset 24 (qnL r a1 a2 a3) 0).1 ∧ qkeep g g' ∧ g'.1 400 0 = g.1 400 0 := by
  have hR := h.2.1.1
  have hr := hR.2.1
  have e0 : g.1 401 (Int.toNat 85) = r 85 := congrFun h.1 85
  let w0 := zwr g 401 (Int.toNat (86 + 3 * r 85)) a1
  let w1 := zwr w0 401 (Int.toNat (86 + 3 * r 85 + 1)) a2
  have go : ∀ q, q = a3 → ∃ g', fX8_bringLantern_p49 w1 (86 + 3 * r 85 + 2) q = some g' ∧ qMs g' n R (qset 24 (qnL r a1 a2 a3) 0).1 ∧ qkeep g g' ∧ g'.1 400 0 = g.1 400 0 := by
    intro q hq
    subst hq
    let w2 := zwr w1 401 (Int.toNat (86 + 3 * r 85 + 2)) q
    let w3 := zwr w2 401 (Int.toNat 85) (r 85 + 1)
    have q0 : qr w0 = qput r (86 + 3 * r 85) a1 := by
      have z : qr w0 = qput (qr g) (86 + 3 * r 85) a1 := qr_put
      rw [h.1] at z
      exact z
    have q1 : qr w1 = qput (qr w0) (86 + 3 * r 85 + 1) a2 := qr_put
    have q2 : qr w2 = qput (qr w1) (86 + 3 * r 85 + 2) q := qr_put
    have q3 : qr w3 = qput (qr w2) 85 (r 85 + 1) := qr_put
    have e2 : w2.1 401 (Int.toNat 85) = r 85 := by
      show qr w2 85 = _
      rw [q2, qput_n (by omega), q1, qput_n (by omega), q0, qput_n (by omega)]
    have eN : qr w3 = qnL r a1 a2 q := by
      unfold qnL
      rw [q3, q2, q1, q0]
    have f : qfr (fun q => q = 401) g w3 := ((f401.tr f401).tr f401).tr f401
    obtain ⟨g3, b1, b2, b3, b4, b5, b6⟩ := m_mutK h f eN (qnL_row hR hn h1 h2 h3) (qnL_end hR hn h.2.1.2)
    refine ⟨g3, ?_, b2, b3, b6⟩
    unfold fX8_bringLantern_p49
    rw [zck_t (by omega), zlet_e, zck_t (by omega), zck_t (by omega)]
    show zlet (zwr w2 401 (Int.toNat 85) (w2.1 401 (Int.toNat 85) + 1)) _ = _
    rw [e2, zlet_e]
    show zbd (fX8_settle w3) _ = _
    rw [b1, zbd_s]
  unfold fX8_bringLantern
  rw [zck_t (by omega), e0, zlet_e, zck_t (by omega), zlet_e, zck_t (by omega), zlet_e, ieq (by omega) (by omega)]
  rcases h3 with q | q
  · rw [if_pos q]; exact go 0 q.symm
  · rw [if_neg (by omega)]; exact go 1 q.symm
theorem m_bringFK (h : qMs g n R r) (hn : r 134 < 8) (h1 : 0 ≤ a1 ∧ a1 < r 0) (h2 : a2 = 0 ∨ a2 = 1) (h3 : 1 ≤ a3 ∧ a3 ≤ 30) : ∃ g', fX8_bringFault g a1 a2 a3 = some g' ∧ qMs g' n R (qset 24 (qnF r a1 a2 a3) 0).1 ∧ qkeep g g' ∧ g'.1 400 6 = (qset 24 (qnF r a1 a2 a3) 0).2 ∧ g'.1 400 0 = g.1 400 0 := by
  have hR := h.2.1.1
  have hr := hR.2.2.1
  have e0 : g.1 401 (Int.toNat 134) = r 134 := congrFun h.1 134
  let w0 := zwr g 401 (Int.toNat (135 + 3 * r 134)) a1
  let w1 := zwr w0 401 (Int.toNat (135 + 3 * r 134 + 1)) a2
  let w2 := zwr w1 401 (Int.toNat (135 + 3 * r 134 + 2)) a3
  let w3 := zwr w2 401 (Int.toNat 134) (r 134 + 1)
  have q0 : qr w0 = qput r (135 + 3 * r 134) a1 := by
      have z : qr w0 = qput (qr g) (135 + 3 * r 134) a1 := qr_put
      rw [h.1] at z
      exact z
  have q1 : qr w1 = qput (qr w0) (135 + 3 * r 134 + 1) a2 := qr_put
  have q2 : qr w2 = qput (qr w1) (135 + 3 * r 134 + 2) a3 := qr_put
  have q3 : qr w3 = qput (qr w2) 134 (r 134 + 1) := qr_put
  have e2 : w2.1 401 (Int.toNat 134) = r 134 := by
    show qr w2 134 = _
    rw [q2, qput_n (by omega), q1, qput_n (by omega), q0, qput_n (by omega)]
  have eN : qr w3 = qnF r a1 a2 a3 := by
    unfold qnF
    rw [q3, q2, q1, q0]
  have f : qfr (fun q => q = 401) g w3 := ((f401.tr f401).tr f401).tr f401
  obtain ⟨g3, b1, b2, b3, b4, b5, b6⟩ := m_mutK h f eN (qnF_row hR ⟨hn, by omega⟩ h1 h2 h3) (qnF_end hR (by omega) h.2.1.2)
  refine ⟨g3, ?_, b2, b3, b4, b6⟩
  unfold fX8_bringFault
  rw [zck_t (by omega), e0, zlet_e, zck_t (by omega), zlet_e, zck_t (by omega), zlet_e, zck_t (by omega), zlet_e, zck_t (by omega), zck_t (by omega)]
  show zlet (zwr w2 401 (Int.toNat 134) (w2.1 401 (Int.toNat 134) + 1)) _ = _
  rw [e2, zlet_e]
  show zbd (fX8_settle w3) _ = _
  rw [b1, zbd_s]
/-- the class's additions to its own ship -/
theorem c_addBK (h : qCs g n R r) (hR : qRow 8 r) (hn : r 0 < 12) (h1 : 0 ≤ a1 ∧ a1 < r 0) (h2 : 1 ≤ a2 ∧ a2 ≤ 60) (h3 : 1 ≤ a3 ∧ a3 ≤ 60) (h4 : a4 = 0 ∨ a4 = 1) : ∃ g1 g3, fX0_add g 11 a1 a2 a3 a4 = some g1 ∧ fX7_settle g1 10 200 = some ((qset 24 (qnB r a1 a2 a3 a4) 0).2, g3) ∧ qCs g3 n R (qset 24 (qnB r a1 a2 a3 a4) 0).1 ∧ qfr (fun q => (10 ≤ q ∧ q < 25) ∨ (200 ≤ q ∧ q < 211)) g g3 := by
  have hr := hR.1
  obtain ⟨g1, b1, b2, b3⟩ := k_addB (c := 10) hR h.1.1 hn h4 (qnB_A (by omega)) qnB_0 (qnB_B (p1 := a1) (p2 := a2) (p3 := a3) (p4 := a4) (by omega))
  obtain ⟨g3, c1, c2, c3⟩ := k_mutF h hr.1 b3 (fun q z => by omega) b2 (qnB_row hR hn h1 h2 h3 h4)
  exact ⟨g1, g3, b1, c1, c2, c3⟩
theorem c_addLK (h : qCs g n R r) (hR : qRow 8 r) (hn : r 85 < 16) (h1 : 0 ≤ a1 ∧ a1 < r 0) (h2 : 1 ≤ a2 ∧ a2 ≤ 9) (h3 : a3 = 0 ∨ a3 = 1) : ∃ g1 g3, fX3_add g 17 a1 a2 a3 = some g1 ∧ fX7_settle g1 10 200 = some ((qset 24 (qnL r a1 a2 a3) 0).2, g3) ∧ qCs g3 n R (qset 24 (qnL r a1 a2 a3) 0).1 ∧ qfr (fun q => (10 ≤ q ∧ q < 25) ∨ (200 ≤ q ∧ q < 211)) g g3 := by
  have hr := hR.2.1
  obtain ⟨g1, b1, b2, b3⟩ := k_addL (c := 10) hR h.1.1 hn h3 (qnL_A (by omega)) qnL_0 (qnL_B (p1 := a1) (p2 := a2) (p3 := a3) (by omega))
  obtain ⟨g3, c1, c2, c3⟩ := k_mutF h hR.1.1 b3 (fun q z => by omega) b2 (qnL_row hR hn h1 h2 h3)
  exact ⟨g1, g3, b1, c1, c2, c3⟩
theorem c_addFK (h : qCs g n R r) (hR : qRow 8 r) (hn : r 134 < 8) (h1 : 0 ≤ a1 ∧ a1 < r 0) (h2 : a2 = 0 ∨ a2 = 1) (h3 : 1 ≤ a3 ∧ a3 ≤ 30) : ∃ g1 g3, fX1_add g 21 a1 a2 a3 = some g1 ∧ fX7_settle g1 10 200 = some ((qset 24 (qnF r a1 a2 a3) 0).2, g3) ∧ qCs g3 n R (qset 24 (qnF r a1 a2 a3) 0).1 ∧ qfr (fun q => (10 ≤ q ∧ q < 25) ∨ (200 ≤ q ∧ q < 211)) g g3 := by
  have hr := hR.2.2.1
  obtain ⟨g1, b1, b2, b3⟩ := k_addF (c := 10) hR h.1.1 (by omega) (qnF_A (by omega)) qnF_0 (qnF_B (p1 := a1) (p2 := a2) (p3 := a3) (by omega))
  obtain ⟨g3, c1, c2, c3⟩ := k_mutF h hR.1.1 b3 (fun q z => by omega) b2 (qnF_row hR ⟨hn, by omega⟩ h1 h2 h3)
  exact ⟨g1, g3, b1, c1, c2, c3⟩
end QBRINGK
