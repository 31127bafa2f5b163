section QCADD2
variable {g g' : zSt} {m b t x w k p u j a lo hi v M p1 p2 p3 p4 : Int} {r r' : Int → Int} {R : Nat → Int → Int} {c s d e N n : Nat}
/-- the class hangs a lantern -/
theorem k_addL (hR : qRow M r) (hS : qShip g c r) (hn : r 85 < 16) (h4 : p3 = 0 ∨ p3 = 1) (hA : ∀ j, 0 ≤ j → j ≠ 85 → (j < 86 + 3 * r 85 ∨ 89 + 3 * r 85 ≤ j) → r' j = r j) (h0 : r' 85 = r 85 + 1) (hB : qL r' (r 85) 0 = p1 ∧ qL r' (r 85) 1 = p2 ∧ qL r' (r 85) 2 = p3) : ∃ g', fX3_add g (c + 7) p1 p2 p3 = some g' ∧ qShip g' c r' ∧ qfr (fun q => c + 7 ≤ q ∧ q ≤ c + 10) g g' := by
  have h1 := hR.1
  have h2 := hR.2.1
  have h3 := hR.2.2.1
  let w1 := zwr g (c + 7 + 1) (Int.toNat (r 85)) p1
  let w2 := zwr w1 (c + 7 + 2) (Int.toNat (r 85)) p2
  let w3 := zwr w2 (c + 7 + 3) (Int.toNat (r 85)) p3
  let w4 := zwr w3 (c + 7) 0 (r 85 + 1)
  have s0 : g.1 (c + 7) 0 = r 85 := hS.2.2.2.1.1
  have s1 : w1.1 (c + 7) 0 = r 85 := (zwr_n (Or.inl (by omega))).trans s0
  have s2 : w2.1 (c + 7) 0 = r 85 := (zwr_n (Or.inl (by omega))).trans s1
  have s3 : w3.1 (c + 7) 0 = r 85 := (zwr_n (Or.inl (by omega))).trans s2
  have f : qfr (fun q => c + 7 ≤ q ∧ q ≤ c + 10) g w4 := (((qfr.wr (by omega)).tr (qfr.wr (by omega))).tr (qfr.wr (by omega))).tr (qfr.wr (by omega))
  have o : ∀ j, 134 ≤ j → r' j = r j := fun j hj => hA j (by omega) (by omega) (by omega)
  have o2 : ∀ j, 0 ≤ j → j < 85 → r' j = r j := fun j a b => hA j (by omega) (by omega) (by omega)
  have e0 := o2 0 (by omega) (by omega)
  have r8 : ∀ k, w4.1 (c + 8) k = w1.1 (c + 8) k := fun k => (zwr_n (Or.inl (by omega))).trans ((zwr_n (Or.inl (by omega))).trans (zwr_n (Or.inl (by omega))))
  have r9 : ∀ k, w4.1 (c + 9) k = w2.1 (c + 9) k := fun k => (zwr_n (Or.inl (by omega))).trans (zwr_n (Or.inl (by omega)))
  have r10 : ∀ k, w4.1 (c + 10) k = w3.1 (c + 10) k := fun k => zwr_n (Or.inl (by omega))
  refine ⟨w4, ?_, qShip.mk ?_ ⟨?_, ?_, ?_, ?_, ?_⟩ (fun b b0 b1 => ?_) (fun b t b0 b1 ht => ?_) ?_ (fun j j0 j1 => ?_) ?_ (fun j j0 j1 => ?_) ?_, f⟩
  · unfold fX3_add
    rw [s0, ilt (by omega) (by omega), if_pos hn, zck_t (by omega), zlet_e]
    show zck (0 ≤ w1.1 (c + 7) 0 ∧ w1.1 (c + 7) 0 < 16) (zlet (zwr w1 (c + 7 + 2) (Int.toNat (w1.1 (c + 7) 0)) p2) _) = _
    rw [s1, zck_t (by omega), zlet_e]
    show zck (0 ≤ w2.1 (c + 7) 0 ∧ w2.1 (c + 7) 0 < 16) (zck (p3 = 0 ∨ p3 = 1) (zlet (zwr w2 (c + 7 + 3) (Int.toNat (w2.1 (c + 7) 0)) p3) _)) = _
    rw [s2, zck_t (c := 0 ≤ r 85 ∧ r 85 < 16) (by omega), zck_t h4, zlet_e]
    show zlet (zwr w3 (c + 7) 0 (w3.1 (c + 7) 0 + 1)) _ = _
    rw [s3, zlet_e]
  · rw [f.1 _ _ (by omega), e0]; exact hS.1.1
  · rw [f.1 _ _ (by omega)]; exact hS.1.2.1
  · rw [f.1 _ _ (by omega)]; exact hS.1.2.2.1
  · rw [f.1 _ _ (by omega)]; exact hS.1.2.2.2.1
  · rw [f.1 _ _ (by omega)]; exact hS.1.2.2.2.2.1
  · rw [f.1 _ _ (by omega)]; exact hS.1.2.2.2.2.2
  · rw [e0] at b1
    unfold qB
    rw [f.1 _ _ (by omega), f.1 (c + 3) _ (by omega), f.1 (c + 4) _ (by omega), o2 _ (by omega) (by omega), o2 _ (by omega) (by omega), o2 _ (by omega) (by omega)]
    exact hS.2.1 b b0 b1
  · rw [e0] at b1
    unfold qB
    rw [f.1 _ _ (by omega), f.1 (c + 6) _ (by omega), o2 _ (by omega) (by omega), o2 _ (by omega) (by omega)]
    exact hS.2.2.1 b t b0 b1 ht
  · rw [h0]; exact zwr_e
  · by_cases q : j = r 85
    · rw [q, r8, r9, r10, hB.1, hB.2.1, hB.2.2]
      exact ⟨zwr_e, zwr_e, zwr_e⟩
    · unfold qL
      rw [r8, r9, r10, hA (86 + 3 * j + 0) (by omega) (by omega) (by omega), hA (86 + 3 * j + 1) (by omega) (by omega) (by omega), hA (86 + 3 * j + 2) (by omega) (by omega) (by omega)]
      have z := hS.2.2.2.1.2 j j0 (by omega)
      refine ⟨?_, ?_, ?_⟩
      · exact (zwr_n (Or.inr (by omega))).trans z.1
      · exact ((zwr_n (Or.inr (by omega))).trans (zwr_n (Or.inl (by omega)))).trans z.2.1
      · exact ((zwr_n (Or.inr (by omega))).trans ((zwr_n (Or.inl (by omega))).trans (zwr_n (Or.inl (by omega))))).trans z.2.2
  · rw [f.1 _ _ (by omega), o 134 (by omega)]; exact hS.2.2.2.2.1.1
  · rw [o 134 (by omega)] at j1
    unfold qF
    rw [f.1 _ _ (by omega), f.1 (c + 13) _ (by omega), f.1 (c + 14) _ (by omega), o _ (by omega), o _ (by omega), o _ (by omega)]
    exact hS.2.2.2.2.1.2 j j0 j1
  · rw [f.1 _ _ (by omega), f.1 _ _ (by omega), f.1 _ _ (by omega), f.1 _ _ (by omega), f.1 _ _ (by omega), o 162 (by omega), o 163 (by omega), o 164 (by omega), o 165 (by omega), o 166 (by omega)]
    exact hS.2.2.2.2.2
/-- the class makes a fault -/
theorem k_addF (hR : qRow M r) (hS : qShip g c r) (hn : r 134 < 9) (hA : ∀ j, 0 ≤ j → j ≠ 134 → (j < 135 + 3 * r 134 ∨ 138 + 3 * r 134 ≤ j) → r' j = r j) (h0 : r' 134 = r 134 + 1) (hB : qF r' (r 134) 0 = p1 ∧ qF r' (r 134) 1 = p2 ∧ qF r' (r 134) 2 = p3) : ∃ g', fX1_add g (c + 11) p1 p2 p3 = some g' ∧ qShip g' c r' ∧ qfr (fun q => c + 11 ≤ q ∧ q ≤ c + 14) g g' := by
  have h1 := hR.1
  have h2 := hR.2.1
  have h3 := hR.2.2.1
  let w1 := zwr g (c + 11 + 1) (Int.toNat (r 134)) p1
  let w2 := zwr w1 (c + 11 + 2) (Int.toNat (r 134)) p2
  let w3 := zwr w2 (c + 11 + 3) (Int.toNat (r 134)) p3
  let w4 := zwr w3 (c + 11) 0 (r 134 + 1)
  have s0 : g.1 (c + 11) 0 = r 134 := hS.2.2.2.2.1.1
  have s1 : w1.1 (c + 11) 0 = r 134 := (zwr_n (Or.inl (by omega))).trans s0
  have s2 : w2.1 (c + 11) 0 = r 134 := (zwr_n (Or.inl (by omega))).trans s1
  have s3 : w3.1 (c + 11) 0 = r 134 := (zwr_n (Or.inl (by omega))).trans s2
  have f : qfr (fun q => c + 11 ≤ q ∧ q ≤ c + 14) g w4 := (((qfr.wr (by omega)).tr (qfr.wr (by omega))).tr (qfr.wr (by omega))).tr (qfr.wr (by omega))
  have o : ∀ j, 162 ≤ j → r' j = r j := fun j hj => hA j (by omega) (by omega) (by omega)
  have o2 : ∀ j, 0 ≤ j → j < 134 → r' j = r j := fun j a b => hA j (by omega) (by omega) (by omega)
  have e0 := o2 0 (by omega) (by omega)
  have r8 : ∀ k, w4.1 (c + 12) k = w1.1 (c + 12) k := fun k => (zwr_n (Or.inl (by omega))).trans ((zwr_n (Or.inl (by omega))).trans (zwr_n (Or.inl (by omega))))
  have r9 : ∀ k, w4.1 (c + 13) k = w2.1 (c + 13) k := fun k => (zwr_n (Or.inl (by omega))).trans (zwr_n (Or.inl (by omega)))
  have r10 : ∀ k, w4.1 (c + 14) k = w3.1 (c + 14) k := fun k => zwr_n (Or.inl (by omega))
  refine ⟨w4, ?_, qShip.mk ?_ ⟨?_, ?_, ?_, ?_, ?_⟩ (fun b b0 b1 => ?_) (fun b t b0 b1 ht => ?_) ?_ (fun j j0 j1 => ?_) ?_ (fun j j0 j1 => ?_) ?_, f⟩
  · unfold fX1_add
    rw [s0, ilt (by omega) (by omega), if_pos hn, zck_t (by omega), zlet_e]
    show zck (0 ≤ w1.1 (c + 11) 0 ∧ w1.1 (c + 11) 0 < 9) (zlet (zwr w1 (c + 11 + 2) (Int.toNat (w1.1 (c + 11) 0)) p2) _) = _
    rw [s1, zck_t (by omega), zlet_e]
    show zck (0 ≤ w2.1 (c + 11) 0 ∧ w2.1 (c + 11) 0 < 9) (zlet (zwr w2 (c + 11 + 3) (Int.toNat (w2.1 (c + 11) 0)) p3) _) = _
    rw [s2, zck_t (by omega), zlet_e]
    show zlet (zwr w3 (c + 11) 0 (w3.1 (c + 11) 0 + 1)) _ = _
    rw [s3, zlet_e]
  · rw [f.1 _ _ (by omega), e0]; exact hS.1.1
  · rw [f.1 _ _ (by omega)]; exact hS.1.2.1
  · rw [f.1 _ _ (by omega)]; exact hS.1.2.2.1
  · rw [f.1 _ _ (by omega)]; exact hS.1.2.2.2.1
  · rw [f.1 _ _ (by omega)]; exact hS.1.2.2.2.2.1
  · rw [f.1 _ _ (by omega)]; exact hS.1.2.2.2.2.2
  · rw [e0] at b1
    unfold qB
    rw [f.1 _ _ (by omega), f.1 (c + 3) _ (by omega), f.1 (c + 4) _ (by omega), o2 _ (by omega) (by omega), o2 _ (by omega) (by omega), o2 _ (by omega) (by omega)]
    exact hS.2.1 b b0 b1
  · rw [e0] at b1
    unfold qB
    rw [f.1 _ _ (by omega), f.1 (c + 6) _ (by omega), o2 _ (by omega) (by omega), o2 _ (by omega) (by omega)]
    exact hS.2.2.1 b t b0 b1 ht
  · rw [f.1 _ _ (by omega), o2 85 (by omega) (by omega)]; exact hS.2.2.2.1.1
  · rw [o2 85 (by omega) (by omega)] at j1
    unfold qL
    rw [f.1 _ _ (by omega), f.1 (c + 9) _ (by omega), f.1 (c + 10) _ (by omega), o2 _ (by omega) (by omega), o2 _ (by omega) (by omega), o2 _ (by omega) (by omega)]
    exact hS.2.2.2.1.2 j j0 j1
  · rw [h0]; exact zwr_e
  · by_cases q : j = r 134
    · rw [q, r8, r9, r10, hB.1, hB.2.1, hB.2.2]
      exact ⟨zwr_e, zwr_e, zwr_e⟩
    · unfold qF
      rw [r8, r9, r10, hA (135 + 3 * j + 0) (by omega) (by omega) (by omega), hA (135 + 3 * j + 1) (by omega) (by omega) (by omega), hA (135 + 3 * j + 2) (by omega) (by omega) (by omega)]
      have z := hS.2.2.2.2.1.2 j j0 (by omega)
      refine ⟨?_, ?_, ?_⟩
      · exact (zwr_n (Or.inr (by omega))).trans z.1
      · exact ((zwr_n (Or.inr (by omega))).trans (zwr_n (Or.inl (by omega)))).trans z.2.1
      · exact ((zwr_n (Or.inr (by omega))).trans ((zwr_n (Or.inl (by omega))).trans (zwr_n (Or.inl (by omega))))).trans z.2.2
  · rw [f.1 _ _ (by omega), f.1 _ _ (by omega), f.1 _ _ (by omega), f.1 _ _ (by omega), f.1 _ _ (by omega), o 162 (by omega), o 163 (by omega), o 164 (by omega), o 165 (by omega), o 166 (by omega)]
    exact hS.2.2.2.2.2
/-- the rows of the reference after it brought something -/
def qnB (r : Int → Int) (p ra rb cr : Int) : Int → Int := qput (qput (qput (qput (qput (qput (qput (qput r (1 + 7 * r 0 + 0) p) (1 + 7 * r 0 + 1) cr) (1 + 7 * r 0 + 2) 1) (1 + 7 * r 0 + 3) ra) (1 + 7 * r 0 + 3 + 1) rb) (1 + 7 * r 0 + 5) 0) (1 + 7 * r 0 + 5 + 1) 0) 0 (r 0 + 1)
def qnL (r : Int → Int) (p u pa : Int) : Int → Int := qput (qput (qput (qput r (86 + 3 * r 85) p) (86 + 3 * r 85 + 1) u) (86 + 3 * r 85 + 2) pa) 85 (r 85 + 1)
def qnF (r : Int → Int) (p t u : Int) : Int → Int := qput (qput (qput (qput r (135 + 3 * r 134) p) (135 + 3 * r 134 + 1) t) (135 + 3 * r 134 + 2) u) 134 (r 134 + 1)
theorem qnB_A (h : 0 ≤ r 0) : ∀ j, 0 < j → (j < 1 + 7 * r 0 ∨ 8 + 7 * r 0 ≤ j) → qnB r p1 p2 p3 p4 j = r j := by
  intro j j0 j1
  unfold qnB
  rw [qput_n (by omega), qput_n (by omega), qput_n (by omega), qput_n (by omega), qput_n (by omega), qput_n (by omega), qput_n (by omega), qput_n (by omega)]
theorem qnB_0 : qnB r p1 p2 p3 p4 0 = r 0 + 1 := qput_e rfl
theorem qnB_B (h : 0 ≤ r 0) : qB (qnB r p1 p2 p3 p4) (r 0) 0 = p1 ∧ qB (qnB r p1 p2 p3 p4) (r 0) 1 = p4 ∧ qB (qnB r p1 p2 p3 p4) (r 0) 2 = 1 ∧ qB (qnB r p1 p2 p3 p4) (r 0) 3 = p2 ∧ qB (qnB r p1 p2 p3 p4) (r 0) 4 = p3 ∧ qB (qnB r p1 p2 p3 p4) (r 0) 5 = 0 ∧ qB (qnB r p1 p2 p3 p4) (r 0) 6 = 0 := by
  unfold qnB qB
  refine ⟨?_, ?_, ?_, ?_, ?_, ?_, ?_⟩
  · rw [qput_n (by omega), qput_n (by omega), qput_n (by omega), qput_n (by omega), qput_n (by omega), qput_n (by omega), qput_n (by omega), qput_e (by omega)]
  · rw [qput_n (by omega), qput_n (by omega), qput_n (by omega), qput_n (by omega), qput_n (by omega), qput_n (by omega), qput_e (by omega)]
  · rw [qput_n (by omega), qput_n (by omega), qput_n (by omega), qput_n (by omega), qput_n (by omega), qput_e (by omega)]
  · rw [qput_n (by omega), qput_n (by omega), qput_n (by omega), qput_n (by omega), qput_e (by omega)]
  · rw [qput_n (by omega), qput_n (by omega), qput_n (by omega), qput_e (by omega)]
  · rw [qput_n (by omega), qput_n (by omega), qput_e (by omega)]
  · rw [qput_n (by omega), qput_e (by omega)]
theorem qnB_row (hR : qRow M r) (hn : r 0 < 12) (h1 : 0 ≤ p1 ∧ p1 < r 0) (h2 : 1 ≤ p2 ∧ p2 ≤ 60) (h3 : 1 ≤ p3 ∧ p3 ≤ 60) (h4 : p4 = 0 ∨ p4 = 1) : qRow M (qnB r p1 p2 p3 p4) := by
  have h0 := hR.1
  have hB := qnB_B (p1 := p1) (p2 := p2) (p3 := p3) (p4 := p4) (r := r) (by omega)
  refine hR.addB hn (qnB_A (by omega)) qnB_0 ?_
  unfold qBx
  rw [hB.1, hB.2.1, hB.2.2.1, hB.2.2.2.1, hB.2.2.2.2.1, hB.2.2.2.2.2.1, hB.2.2.2.2.2.2]
  exact ⟨h1, h4, Or.inr rfl, h2, h3, Or.inl rfl, Or.inl rfl⟩
theorem qnB_end (hR : qRow M r) (hn : r 0 < 12) (hE : qend r) : qend (qnB r p1 p2 p3 p4) := by
  have h0 := hR.1
  unfold qnB
  exact qput_end (qput_end (qput_end (qput_end (qput_end (qput_end (qput_end (qput_end hE (by omega)) (by omega)) (by omega)) (by omega)) (by omega)) (by omega)) (by omega)) (by omega)
theorem qnL_A (h : 0 ≤ r 85) : ∀ j, 0 ≤ j → j ≠ 85 → (j < 86 + 3 * r 85 ∨ 89 + 3 * r 85 ≤ j) → qnL r p1 p2 p3 j = r j := by
  intro j j0 j2 j1
  unfold qnL
  rw [qput_n (by omega), qput_n (by omega), qput_n (by omega), qput_n (by omega)]
theorem qnL_0 : qnL r p1 p2 p3 85 = r 85 + 1 := qput_e rfl
theorem qnL_B (h : 0 ≤ r 85) : qL (qnL r p1 p2 p3) (r 85) 0 = p1 ∧ qL (qnL r p1 p2 p3) (r 85) 1 = p2 ∧ qL (qnL r p1 p2 p3) (r 85) 2 = p3 := by
  unfold qnL qL
  refine ⟨?_, ?_, ?_⟩
  · rw [qput_n (by omega), qput_n (by omega), qput_n (by omega), qput_e (by omega)]
  · rw [qput_n (by omega), qput_n (by omega), qput_e (by omega)]
  · rw [qput_n (by omega), qput_e (by omega)]
theorem qnL_row (hR : qRow M r) (hn : r 85 < 16) (h1 : 0 ≤ p1 ∧ p1 < r 0) (h2 : 1 ≤ p2 ∧ p2 ≤ 9) (h3 : p3 = 0 ∨ p3 = 1) : qRow M (qnL r p1 p2 p3) := by
  have h0 := hR.2.1
  have hB := qnL_B (p1 := p1) (p2 := p2) (p3 := p3) (r := r) (by omega)
  refine hR.addL hn (qnL_A (by omega)) qnL_0 ?_
  unfold qLn
  rw [hB.1, hB.2.1, hB.2.2, qnL_A (by omega) 0 (by omega) (by omega) (by omega)]
  exact ⟨h1, h2, h3⟩
theorem qnL_end (hR : qRow M r) (hn : r 85 < 16) (hE : qend r) : qend (qnL r p1 p2 p3) := by
  have h0 := hR.2.1
  unfold qnL
  exact qput_end (qput_end (qput_end (qput_end hE (by omega)) (by omega)) (by omega)) (by omega)
theorem qnF_A (h : 0 ≤ r 134) : ∀ j, 0 ≤ j → j ≠ 134 → (j < 135 + 3 * r 134 ∨ 138 + 3 * r 134 ≤ j) → qnF r p1 p2 p3 j = r j := by
  intro j j0 j2 j1
  unfold qnF
  rw [qput_n (by omega), qput_n (by omega), qput_n (by omega), qput_n (by omega)]
theorem qnF_0 : qnF r p1 p2 p3 134 = r 134 + 1 := qput_e rfl
theorem qnF_B (h : 0 ≤ r 134) : qF (qnF r p1 p2 p3) (r 134) 0 = p1 ∧ qF (qnF r p1 p2 p3) (r 134) 1 = p2 ∧ qF (qnF r p1 p2 p3) (r 134) 2 = p3 := by
  unfold qnF qF
  refine ⟨?_, ?_, ?_⟩
  · rw [qput_n (by omega), qput_n (by omega), qput_n (by omega), qput_e (by omega)]
  · rw [qput_n (by omega), qput_n (by omega), qput_e (by omega)]
  · rw [qput_n (by omega), qput_e (by omega)]
theorem qnF_row (hR : qRow M r) {M' : Int} (hn : r 134 < M' ∧ M' ≤ 9) (h1 : 0 ≤ p1 ∧ p1 < r 0) (h2 : p2 = 0 ∨ p2 = 1) (h3 : 1 ≤ p3 ∧ p3 ≤ 30) : qRow M' (qnF r p1 p2 p3) := by
  have h0 := hR.2.2.1
  have hB := qnF_B (p1 := p1) (p2 := p2) (p3 := p3) (r := r) (by omega)
  refine hR.addF hn (qnF_A (by omega)) qnF_0 ?_
  unfold qFt
  rw [hB.1, hB.2.1, hB.2.2, qnF_A (by omega) 0 (by omega) (by omega) (by omega)]
  exact ⟨h1, h2, h3⟩
theorem qnF_end (hR : qRow M r) (hn : r 134 < 9) (hE : qend r) : qend (qnF r p1 p2 p3) := by
  have h0 := hR.2.2.1
  unfold qnF
  exact qput_end (qput_end (qput_end (qput_end hE (by omega)) (by omega)) (by omega)) (by omega)
end QCADD2

