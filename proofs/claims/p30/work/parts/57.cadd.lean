section QCADD
variable {g g' : zSt} {m b t x w k p u j a lo hi v M p1 p2 p3 p4 : Int} {r r' : Int → Int} {R : Nat → Int → Int} {c s d e N n : Nat}
theorem qBx.cg (h : ∀ w, 0 ≤ w → w < 7 → qB r' b w = qB r b w) (hx : qBx r b) : qBx r' b := by
  unfold qBx at hx ⊢
  rw [h 0 (by omega) (by omega), h 1 (by omega) (by omega), h 2 (by omega) (by omega), h 3 (by omega) (by omega), h 4 (by omega) (by omega), h 5 (by omega) (by omega), h 6 (by omega) (by omega)]
  exact hx
theorem qRow.addB (hR : qRow M r) (hn : r 0 < 12) (hA : ∀ j, 0 < j → (j < 1 + 7 * r 0 ∨ 8 + 7 * r 0 ≤ j) → r' j = r j) (h0 : r' 0 = r 0 + 1) (hB : qBx r' (r 0)) : qRow M r' := by
  have h1 := hR.1
  have h2 := hR.2.1
  have h3 := hR.2.2.1
  have o : ∀ j, 85 ≤ j → r' j = r j := fun j hj => hA j (by omega) (by omega)
  refine ⟨by omega, by rw [o 85 (by omega)]; exact h2, by rw [o 134 (by omega)]; exact h3, fun b b0 b1 => ?_, fun k k0 k1 => ?_, fun k k0 k1 => ?_, ?_, ?_, ?_, ?_⟩
  · by_cases q : b = r 0
    · rw [q]; exact hB
    · exact (hR.2.2.2.1 b b0 (by omega)).cg (fun w w0 w1 => hA _ (by omega) (by omega))
  · rw [o 85 (by omega)] at k1
    have := hR.2.2.2.2.1 k k0 k1
    unfold qLn qL at this ⊢
    rw [o (86 + 3 * k + 0) (by omega), o (86 + 3 * k + 1) (by omega), o (86 + 3 * k + 2) (by omega), h0]
    omega
  · rw [o 134 (by omega)] at k1
    have := hR.2.2.2.2.2.1 k k0 k1
    unfold qFt qF at this ⊢
    rw [o (135 + 3 * k + 0) (by omega), o (135 + 3 * k + 1) (by omega), o (135 + 3 * k + 2) (by omega), h0]
    omega
  · rw [o 162 (by omega)]; exact hR.2.2.2.2.2.2.1
  · rw [o 164 (by omega)]; exact hR.2.2.2.2.2.2.2.1
  · rw [o 165 (by omega), o 164 (by omega)]; exact hR.2.2.2.2.2.2.2.2.1
  · rw [o 166 (by omega), o 164 (by omega)]; exact hR.2.2.2.2.2.2.2.2.2
theorem qShip.addB (hR : qRow M r) (hS : qShip g c r) (f : qfr (fun q => c + 1 ≤ q ∧ q ≤ c + 6) g g') (hA : ∀ j, 0 < j → (j < 1 + 7 * r 0 ∨ 8 + 7 * r 0 ≤ j) → r' j = r j) (hn : r 0 < 12) (h0 : r' 0 = r 0 + 1) (g1 : g'.1 (c + 1) 0 = r 0 + 1) (g2 : ∀ k, 0 ≤ k → k < r 0 → g'.1 (c + 2) (Int.toNat k) = g.1 (c + 2) (Int.toNat k) ∧ g'.1 (c + 3) (Int.toNat k) = g.1 (c + 3) (Int.toNat k) ∧ g'.1 (c + 4) (Int.toNat k) = g.1 (c + 4) (Int.toNat k)) (g3 : ∀ k, 0 ≤ k → k < 2 * r 0 → g'.1 (c + 5) (Int.toNat k) = g.1 (c + 5) (Int.toNat k) ∧ g'.1 (c + 6) (Int.toNat k) = g.1 (c + 6) (Int.toNat k)) (g4 : g'.1 (c + 2) (Int.toNat (r 0)) = qB r' (r 0) 0 ∧ g'.1 (c + 3) (Int.toNat (r 0)) = qB r' (r 0) 1 ∧ g'.1 (c + 4) (Int.toNat (r 0)) = qB r' (r 0) 2) (g5 : ∀ t, (t = 0 ∨ t = 1) → g'.1 (c + 5) (Int.toNat (2 * r 0 + t)) = qB r' (r 0) (3 + t) ∧ g'.1 (c + 6) (Int.toNat (2 * r 0 + t)) = qB r' (r 0) (5 + t)) : qShip g' c r' := by
  have h1 := hR.1
  have h2 := hR.2.1
  have h3 := hR.2.2.1
  have o : ∀ j, 85 ≤ j → r' j = r j := fun j hj => hA j (by omega) (by omega)
  have z2 := g2 0 (by omega) (by omega)
  have z3 := g3 0 (by omega) (by omega)
  have z4 := g3 1 (by omega) (by omega)
  have oB : ∀ b w, 0 < b → b < r 0 → 0 ≤ w → w < 7 → qB r' b w = qB r b w := fun b w b0 b1 w0 w1 => hA _ (by omega) (by omega)
  refine qShip.mk (by rw [g1, h0]) ⟨z2.1.trans hS.1.2.1, ?_, ?_, ?_, ?_⟩ (fun b b0 b1 => ?_) (fun b t b0 b1 ht => ?_) ?_ (fun j j0 j1 => ?_) ?_ (fun j j0 j1 => ?_) ?_
  · rw [show g'.1 (c + 3) 0 = g.1 (c + 3) 0 from z2.2.1]; exact hS.1.2.2.1
  · rw [show g'.1 (c + 4) 0 = g.1 (c + 4) 0 from z2.2.2]; exact hS.1.2.2.2.1
  · rw [show g'.1 (c + 6) 0 = g.1 (c + 6) 0 from z3.2]; exact hS.1.2.2.2.2.1
  · rw [show g'.1 (c + 6) 1 = g.1 (c + 6) 1 from z4.2]; exact hS.1.2.2.2.2.2
  · by_cases q : b = r 0
    · rw [q]; exact g4
    · have hb := g2 b (by omega) (by omega)
      rw [hb.1, hb.2.1, hb.2.2, oB b 0 b0 (by omega) (by omega) (by omega), oB b 1 b0 (by omega) (by omega) (by omega), oB b 2 b0 (by omega) (by omega) (by omega)]
      exact hS.2.1 b b0 (by omega)
  · by_cases q : b = r 0
    · rw [q]; exact g5 t ht
    · have hb := g3 (2 * b + t) (by omega) (by omega)
      rw [hb.1, hb.2, oB b _ b0 (by omega) (by omega) (by omega), oB b _ b0 (by omega) (by omega) (by omega)]
      exact hS.2.2.1 b t b0 (by omega) ht
  · rw [f.1 _ _ (by omega), o 85 (by omega)]; exact hS.2.2.2.1.1
  · rw [o 85 (by omega)] at j1
    unfold qL
    rw [f.1 _ _ (by omega), f.1 (c + 9) _ (by omega), f.1 (c + 10) _ (by omega), o _ (by omega), o _ (by omega), o _ (by omega)]
    exact hS.2.2.2.1.2 j j0 j1
  · rw [f.1 _ _ (by omega), o 134 (by omega)]; exact hS.2.2.2.2.1.1
  · rw [o 134 (by omega)] at j1
    unfold qF
    rw [f.1 _ _ (by omega), f.1 (c + 13) _ (by omega), f.1 (c + 14) _ (by omega), o _ (by omega), o _ (by omega), o _ (by omega)]
    exact hS.2.2.2.2.1.2 j j0 j1
  · rw [f.1 _ _ (by omega), f.1 _ _ (by omega), f.1 _ _ (by omega), f.1 _ _ (by omega), f.1 _ _ (by omega), o 162 (by omega), o 163 (by omega), o 164 (by omega), o 165 (by omega), o 166 (by omega)]
    exact hS.2.2.2.2.2
/-- the class adds a box -/
theorem k_addB (hR : qRow M r) (hS : qShip g c r) (hn : r 0 < 12) (h4 : p4 = 0 ∨ p4 = 1) (hA : ∀ j, 0 < j → (j < 1 + 7 * r 0 ∨ 8 + 7 * r 0 ≤ j) → r' j = r j) (h0 : r' 0 = r 0 + 1) (hB : qB r' (r 0) 0 = p1 ∧ qB r' (r 0) 1 = p4 ∧ qB r' (r 0) 2 = 1 ∧ qB r' (r 0) 3 = p2 ∧ qB r' (r 0) 4 = p3 ∧ qB r' (r 0) 5 = 0 ∧ qB r' (r 0) 6 = 0) : ∃ g', fX0_add g (c + 1) p1 p2 p3 p4 = some g' ∧ qShip g' c r' ∧ qfr (fun q => c + 1 ≤ q ∧ q ≤ c + 6) g g' := by
  have h1 := hR.1
  let w1 := zwr g (c + 1 + 1) (Int.toNat (r 0)) p1
  let w2 := zwr w1 (c + 1 + 2) (Int.toNat (r 0)) p4
  let w3 := zwr w2 (c + 1 + 3) (Int.toNat (r 0)) 1
  let w4 := zwr w3 (c + 1 + 4) (Int.toNat (2 * r 0)) p2
  let w5 := zwr w4 (c + 1 + 4) (Int.toNat (2 * r 0 + 1)) p3
  let w6 := zwr w5 (c + 1 + 5) (Int.toNat (2 * r 0)) 0
  let w7 := zwr w6 (c + 1 + 5) (Int.toNat (2 * r 0 + 1)) 0
  let w8 := zwr w7 (c + 1) 0 (r 0 + 1)
  have s0 : g.1 (c + 1) 0 = r 0 := hS.1.1
  have s1 : w1.1 (c + 1) 0 = r 0 := (zwr_n (Or.inl (by omega))).trans s0
  have s2 : w2.1 (c + 1) 0 = r 0 := (zwr_n (Or.inl (by omega))).trans s1
  have s3 : w3.1 (c + 1) 0 = r 0 := (zwr_n (Or.inl (by omega))).trans s2
  have s4 : w4.1 (c + 1) 0 = r 0 := (zwr_n (Or.inl (by omega))).trans s3
  have s5 : w5.1 (c + 1) 0 = r 0 := (zwr_n (Or.inl (by omega))).trans s4
  have s6 : w6.1 (c + 1) 0 = r 0 := (zwr_n (Or.inl (by omega))).trans s5
  have s7 : w7.1 (c + 1) 0 = r 0 := (zwr_n (Or.inl (by omega))).trans s6
  have f : qfr (fun q => c + 1 ≤ q ∧ q ≤ c + 6) g w8 := (((((((qfr.wr (by omega)).tr (qfr.wr (by omega))).tr (qfr.wr (by omega))).tr (qfr.wr (by omega))).tr (qfr.wr (by omega))).tr (qfr.wr (by omega))).tr (qfr.wr (by omega))).tr (qfr.wr (by omega))
  have r2 : ∀ k, w8.1 (c + 2) k = w1.1 (c + 2) k := fun k => (zwr_n (Or.inl (by omega))).trans ((zwr_n (Or.inl (by omega))).trans ((zwr_n (Or.inl (by omega))).trans ((zwr_n (Or.inl (by omega))).trans ((zwr_n (Or.inl (by omega))).trans ((zwr_n (Or.inl (by omega))).trans (zwr_n (Or.inl (by omega))))))))
  have r3 : ∀ k, w8.1 (c + 3) k = w2.1 (c + 3) k := fun k => (zwr_n (Or.inl (by omega))).trans ((zwr_n (Or.inl (by omega))).trans ((zwr_n (Or.inl (by omega))).trans ((zwr_n (Or.inl (by omega))).trans ((zwr_n (Or.inl (by omega))).trans (zwr_n (Or.inl (by omega)))))))
  have r4 : ∀ k, w8.1 (c + 4) k = w3.1 (c + 4) k := fun k => (zwr_n (Or.inl (by omega))).trans ((zwr_n (Or.inl (by omega))).trans ((zwr_n (Or.inl (by omega))).trans ((zwr_n (Or.inl (by omega))).trans (zwr_n (Or.inl (by omega))))))
  have r5 : ∀ k, w8.1 (c + 5) k = w5.1 (c + 5) k := fun k => (zwr_n (Or.inl (by omega))).trans ((zwr_n (Or.inl (by omega))).trans (zwr_n (Or.inl (by omega))))
  have r6 : ∀ k, w8.1 (c + 6) k = w7.1 (c + 6) k := fun k => zwr_n (Or.inl (by omega))
  refine ⟨w8, ?_, hS.addB hR f hA hn h0 zwr_e (fun k k0 k1 => ⟨?_, ?_, ?_⟩) (fun k k0 k1 => ⟨?_, ?_⟩) ⟨?_, ?_, ?_⟩ (fun t ht => ⟨?_, ?_⟩), f⟩
  · unfold fX0_add
    rw [s0, ilt (by omega) (by omega), if_pos hn, zck_t (by omega), zlet_e]
    show zck (0 ≤ w1.1 (c + 1) 0 ∧ w1.1 (c + 1) 0 < 12) (zck (p4 = 0 ∨ p4 = 1) (zlet (zwr w1 (c + 1 + 2) (Int.toNat (w1.1 (c + 1) 0)) p4) _)) = _
    rw [s1, zck_t (c := 0 ≤ r 0 ∧ r 0 < 12) (by omega), zck_t h4, zlet_e]
    show zck (0 ≤ w2.1 (c + 1) 0 ∧ w2.1 (c + 1) 0 < 12) (zck ((1 : Int) = 0 ∨ (1 : Int) = 1) (zlet (zwr w2 (c + 1 + 3) (Int.toNat (w2.1 (c + 1) 0)) 1) _)) = _
    rw [s2, zck_t (c := 0 ≤ r 0 ∧ r 0 < 12) (by omega), qck_1, zlet_e]
    show zck (0 ≤ 2 * w3.1 (c + 1) 0 ∧ 2 * w3.1 (c + 1) 0 < 24) (zlet (zwr w3 (c + 1 + 4) (Int.toNat (2 * w3.1 (c + 1) 0)) p2) _) = _
    rw [s3, zck_t (by omega), zlet_e]
    show zck (0 ≤ 2 * w4.1 (c + 1) 0 + 1 ∧ 2 * w4.1 (c + 1) 0 + 1 < 24) (zlet (zwr w4 (c + 1 + 4) (Int.toNat (2 * w4.1 (c + 1) 0 + 1)) p3) _) = _
    rw [s4, zck_t (by omega), zlet_e]
    show zck (0 ≤ 2 * w5.1 (c + 1) 0 ∧ 2 * w5.1 (c + 1) 0 < 24) (zck ((0 : Int) = 0 ∨ (0 : Int) = 1) (zlet (zwr w5 (c + 1 + 5) (Int.toNat (2 * w5.1 (c + 1) 0)) 0) _)) = _
    rw [s5, zck_t (c := 0 ≤ 2 * r 0 ∧ 2 * r 0 < 24) (by omega), qck_0, zlet_e]
    show zck (0 ≤ 2 * w6.1 (c + 1) 0 + 1 ∧ 2 * w6.1 (c + 1) 0 + 1 < 24) (zck ((0 : Int) = 0 ∨ (0 : Int) = 1) (zlet (zwr w6 (c + 1 + 5) (Int.toNat (2 * w6.1 (c + 1) 0 + 1)) 0) _)) = _
    rw [s6, zck_t (c := 0 ≤ 2 * r 0 + 1 ∧ 2 * r 0 + 1 < 24) (by omega), qck_0, zlet_e]
    show zlet (zwr w7 (c + 1) 0 (w7.1 (c + 1) 0 + 1)) _ = _
    rw [s7, zlet_e]
  · rw [r2]; exact zwr_n (Or.inr (by omega))
  · rw [r3]; exact (zwr_n (Or.inr (by omega))).trans (zwr_n (Or.inl (by omega)))
  · rw [r4]; exact (zwr_n (Or.inr (by omega))).trans ((zwr_n (Or.inl (by omega))).trans (zwr_n (Or.inl (by omega))))
  · rw [r5]; exact (zwr_n (Or.inr (by omega))).trans ((zwr_n (Or.inr (by omega))).trans ((zwr_n (Or.inl (by omega))).trans ((zwr_n (Or.inl (by omega))).trans (zwr_n (Or.inl (by omega))))))
  · rw [r6]; exact (zwr_n (Or.inr (by omega))).trans ((zwr_n (Or.inr (by omega))).trans ((zwr_n (Or.inl (by omega))).trans ((zwr_n (Or.inl (by omega))).trans ((zwr_n (Or.inl (by omega))).trans ((zwr_n (Or.inl (by omega))).trans (zwr_n (Or.inl (by omega))))))))
  · rw [r2, hB.1]; exact zwr_e
  · rw [r3, hB.2.1]; exact zwr_e
  · rw [r4, hB.2.2.1]; exact zwr_e
  · rw [r5]
    rcases ht with rfl | rfl
    · rw [show (3 : Int) + 0 = 3 from rfl, hB.2.2.2.1, show 2 * r 0 + 0 = 2 * r 0 by omega]
      exact (zwr_n (Or.inr (by omega))).trans zwr_e
    · rw [show (3 : Int) + 1 = 4 from rfl, hB.2.2.2.2.1]; exact zwr_e
  · rw [r6]
    rcases ht with rfl | rfl
    · rw [show (5 : Int) + 0 = 5 from rfl, hB.2.2.2.2.2.1, show 2 * r 0 + 0 = 2 * r 0 by omega]
      exact (zwr_n (Or.inr (by omega))).trans zwr_e
    · rw [show (5 : Int) + 1 = 6 from rfl, hB.2.2.2.2.2.2]; exact zwr_e
theorem qRow.addL (hR : qRow M r) (hn : r 85 < 16) (hA : ∀ j, 0 ≤ j → j ≠ 85 → (j < 86 + 3 * r 85 ∨ 89 + 3 * r 85 ≤ j) → r' j = r j) (h0 : r' 85 = r 85 + 1) (hB : qLn r' (r 85)) : qRow M r' := by
  have h1 := hR.1
  have h2 := hR.2.1
  have h3 := hR.2.2.1
  have o : ∀ j, 134 ≤ j → r' j = r j := fun j hj => hA j (by omega) (by omega) (by omega)
  have o2 : ∀ j, 0 ≤ j → j < 85 → r' j = r j := fun j a b => hA j (by omega) (by omega) (by omega)
  refine ⟨by rw [o2 0 (by omega) (by omega)]; exact h1, by omega, by rw [o 134 (by omega)]; exact h3, fun b b0 b1 => ?_, fun k k0 k1 => ?_, fun k k0 k1 => ?_, ?_, ?_, ?_, ?_⟩
  · rw [o2 0 (by omega) (by omega)] at b1
    exact (hR.2.2.2.1 b b0 (by omega)).cg (fun w w0 w1 => o2 _ (by omega) (by omega))
  · by_cases q : k = r 85
    · rw [q]; exact hB
    · have := hR.2.2.2.2.1 k k0 (by omega)
      unfold qLn qL at this ⊢
      rw [hA (86 + 3 * k + 0) (by omega) (by omega) (by omega), hA (86 + 3 * k + 1) (by omega) (by omega) (by omega), hA (86 + 3 * k + 2) (by omega) (by omega) (by omega), o2 0 (by omega) (by omega)]
      exact this
  · rw [o 134 (by omega)] at k1
    have := hR.2.2.2.2.2.1 k k0 k1
    unfold qFt qF at this ⊢
    rw [o (135 + 3 * k + 0) (by omega), o (135 + 3 * k + 1) (by omega), o (135 + 3 * k + 2) (by omega), o2 0 (by omega) (by omega)]
    exact this
  · rw [o 162 (by omega)]; exact hR.2.2.2.2.2.2.1
  · rw [o 164 (by omega)]; exact hR.2.2.2.2.2.2.2.1
  · rw [o 165 (by omega), o 164 (by omega)]; exact hR.2.2.2.2.2.2.2.2.1
  · rw [o 166 (by omega), o 164 (by omega)]; exact hR.2.2.2.2.2.2.2.2.2
theorem qRow.addF {M' : Int} (hR : qRow M r) (hn : r 134 < M' ∧ M' ≤ 9) (hA : ∀ j, 0 ≤ j → j ≠ 134 → (j < 135 + 3 * r 134 ∨ 138 + 3 * r 134 ≤ j) → r' j = r j) (h0 : r' 134 = r 134 + 1) (hB : qFt r' (r 134)) : qRow M' r' := by
  have h1 := hR.1
  have h2 := hR.2.1
  have h3 := hR.2.2.1
  have o : ∀ j, 162 ≤ j → r' j = r j := fun j hj => hA j (by omega) (by omega) (by omega)
  have o2 : ∀ j, 0 ≤ j → j < 134 → r' j = r j := fun j a b => hA j (by omega) (by omega) (by omega)
  refine ⟨by rw [o2 0 (by omega) (by omega)]; exact h1, by rw [o2 85 (by omega) (by omega)]; exact h2, by omega, fun b b0 b1 => ?_, fun k k0 k1 => ?_, fun k k0 k1 => ?_, ?_, ?_, ?_, ?_⟩
  · rw [o2 0 (by omega) (by omega)] at b1
    exact (hR.2.2.2.1 b b0 (by omega)).cg (fun w w0 w1 => o2 _ (by omega) (by omega))
  · rw [o2 85 (by omega) (by omega)] at k1
    have := hR.2.2.2.2.1 k k0 k1
    unfold qLn qL at this ⊢
    rw [o2 (86 + 3 * k + 0) (by omega) (by omega), o2 (86 + 3 * k + 1) (by omega) (by omega), o2 (86 + 3 * k + 2) (by omega) (by omega), o2 0 (by omega) (by omega)]
    exact this
  · by_cases q : k = r 134
    · rw [q]; exact hB
    · have := hR.2.2.2.2.2.1 k k0 (by omega)
      unfold qFt qF at this ⊢
      rw [hA (135 + 3 * k + 0) (by omega) (by omega) (by omega), hA (135 + 3 * k + 1) (by omega) (by omega) (by omega), hA (135 + 3 * k + 2) (by omega) (by omega) (by omega), o2 0 (by omega) (by omega)]
      exact this
  · rw [o 162 (by omega)]; exact hR.2.2.2.2.2.2.1
  · rw [o 164 (by omega)]; exact hR.2.2.2.2.2.2.2.1
  · rw [o 165 (by omega), o 164 (by omega)]; exact hR.2.2.2.2.2.2.2.2.1
  · rw [o 166 (by omega), o 164 (by omega)]; exact hR.2.2.2.2.2.2.2.2.2
end QCADD

