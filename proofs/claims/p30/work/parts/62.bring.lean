section QBRING
variable {g g' g1 g2 g3 g4 : zSt} {m b t x w k p u j a lo hi v M p1 p2 p3 p4 y a1 a2 a3 a4 : Int} {r r' re : Int → Int} {R : Nat → Int → Int} {c s d e N n L : Nat} {xs : Nat → Int32} {K : zSt → Int → Option Unit}
theorem f401 {z : Nat} : qfr (fun q => q = 401) g (zwr g 401 z v) := qfr.wr rfl
/-- the class's additions to its own ship -/
theorem c_addB (h : qCs g n R r) (hR : qRow 8 r) (hn : r 0 < 12) (h1 : 0 ≤ a1 ∧ a1 < r 0) (h2 : 1 ≤ a2 ∧ a2 ≤ 60) (h3 : 1 ≤ a3 ∧ a3 ≤ 60) (h4 : a4 = 0 ∨ a4 = 1) : ∃ g1 g3, fX0_add g 11 a1 a2 a3 a4 = some g1 ∧ fX7_settle g1 10 200 = some ((qset 24 (qnB r a1 a2 a3 a4) 0).2, g3) ∧ qCs g3 n R (qset 24 (qnB r a1 a2 a3 a4) 0).1 ∧ qfc g g3 := by
  have hr := hR.1
  obtain ⟨g1, b1, b2, b3⟩ := k_addB (c := 10) hR h.1.1 hn h4 (qnB_A (by omega)) qnB_0 (qnB_B (p1 := a1) (p2 := a2) (p3 := a3) (p4 := a4) (by omega))
  obtain ⟨g3, c1, c2, c3⟩ := k_mut h hr.1 b3 (fun q z => by omega) b2 (qnB_row hR hn h1 h2 h3 h4)
  exact ⟨g1, g3, b1, c1, c2, c3⟩
theorem c_addL (h : qCs g n R r) (hR : qRow 8 r) (hn : r 85 < 16) (h1 : 0 ≤ a1 ∧ a1 < r 0) (h2 : 1 ≤ a2 ∧ a2 ≤ 9) (h3 : a3 = 0 ∨ a3 = 1) : ∃ g1 g3, fX3_add g 17 a1 a2 a3 = some g1 ∧ fX7_settle g1 10 200 = some ((qset 24 (qnL r a1 a2 a3) 0).2, g3) ∧ qCs g3 n R (qset 24 (qnL r a1 a2 a3) 0).1 ∧ qfc g g3 := by
  have hr := hR.2.1
  obtain ⟨g1, b1, b2, b3⟩ := k_addL (c := 10) hR h.1.1 hn h3 (qnL_A (by omega)) qnL_0 (qnL_B (p1 := a1) (p2 := a2) (p3 := a3) (by omega))
  obtain ⟨g3, c1, c2, c3⟩ := k_mut h hR.1.1 b3 (fun q z => by omega) b2 (qnL_row hR hn h1 h2 h3)
  exact ⟨g1, g3, b1, c1, c2, c3⟩
theorem c_addF (h : qCs g n R r) (hR : qRow 8 r) (hn : r 134 < 8) (h1 : 0 ≤ a1 ∧ a1 < r 0) (h2 : a2 = 0 ∨ a2 = 1) (h3 : 1 ≤ a3 ∧ a3 ≤ 30) : ∃ g1 g3, fX1_add g 21 a1 a2 a3 = some g1 ∧ fX7_settle g1 10 200 = some ((qset 24 (qnF r a1 a2 a3) 0).2, g3) ∧ qCs g3 n R (qset 24 (qnF r a1 a2 a3) 0).1 ∧ qfc g g3 := by
  have hr := hR.2.2.1
  obtain ⟨g1, b1, b2, b3⟩ := k_addF (c := 10) hR h.1.1 (by omega) (qnF_A (by omega)) qnF_0 (qnF_B (p1 := a1) (p2 := a2) (p3 := a3) (by omega))
  obtain ⟨g3, c1, c2, c3⟩ := k_mut h hR.1.1 b3 (fun q z => by omega) b2 (qnF_row hR ⟨hn, by omega⟩ h1 h2 h3)
  exact ⟨g1, g3, b1, c1, c2, c3⟩
end QBRING

