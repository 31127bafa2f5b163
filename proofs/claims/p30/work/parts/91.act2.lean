section PACT2
variable {g g' g1 g2 : zSt} {b t x w k p u j i lo hi v M y N box cr ra rb a1 a2 a3 a8 a9 a10 a11 a12 a13 a14 p1 p2 p3 : Int} {r r' re : Int → Int} {R : Nat → Int → Int} {n : Nat}
theorem qMn.up (h : qMn g n R r i) : qMn g n R r (i + 1) := ⟨h.1, h.2.1, h.2.2.1, h.2.2.2.1, by have := h.2.2.2.2; omega⟩
theorem qLw.addL (hR : qRow 8 r) (hL : qLw g 400 401 402 403 r) (hn : r 85 < 8) (o : ∀ i : Nat, (i : Int) < 3 * r 85 → g'.1 401 i = g.1 401 i) (e0 : g'.1 401 (Int.toNat (3 * r 85)) = p1) (e1 : g'.1 401 (Int.toNat (3 * r 85 + 1)) = p2) (e2 : g'.1 401 (Int.toNat (3 * r 85 + 2)) = p3) (d1 : g'.1 403 (Int.toNat 1) = r 85 + 1) (d : ∀ i : Nat, i ≠ 1 → g'.1 403 i = g.1 403 i) (l : ∀ i, g'.1 400 i = g.1 400 i) (f : ∀ i, g'.1 402 i = g.1 402 i) : qLw g' 400 401 402 403 (qnL r p1 p2 p3) := by
  have h0 := hR.1
  have h1 := hR.2.1
  have h2 := hR.2.2.1
  have h7 := hL.2.1
  have A := qnL_A (r := r) (p1 := p1) (p2 := p2) (p3 := p3) (by omega)
  have A0 : qnL r p1 p2 p3 85 = r 85 + 1 := qnL_0
  have hB := qnL_B (r := r) (p1 := p1) (p2 := p2) (p3 := p3) (by omega)
  refine ⟨⟨?_, d1.trans A0.symm, ?_, ?_, ?_, ?_, ?_, ?_⟩, ?_, ?_, ?_, ?_, ?_⟩
  · rw [d _ (by decide), A 0 (by omega) (by omega) (by omega)]; exact hL.1.1
  · rw [d _ (by decide), A 134 (by omega) (by omega) (by omega)]; exact hL.1.2.2.1
  · rw [d _ (by decide), A 162 (by omega) (by omega) (by omega)]; exact hL.1.2.2.2.1
  · rw [d _ (by decide), A 163 (by omega) (by omega) (by omega)]; exact hL.1.2.2.2.2.1
  · rw [d _ (by decide), A 164 (by omega) (by omega) (by omega)]; exact hL.1.2.2.2.2.2.1
  · rw [d _ (by decide), A 165 (by omega) (by omega) (by omega)]; exact hL.1.2.2.2.2.2.2.1
  · rw [d _ (by decide), A 166 (by omega) (by omega) (by omega)]; exact hL.1.2.2.2.2.2.2.2
  · rw [A0, A 0 (by omega) (by omega) (by omega), A 134 (by omega) (by omega) (by omega)]; omega
  · intro b w b0 b1 w0 w1
    rw [A 0 (by omega) (by omega) (by omega)] at b1
    rw [l]
    exact (hL.2.2.1 b w b0 b1 w0 w1).trans (A _ (by omega) (by omega) (by omega)).symm
  · intro b b0 b1
    rw [A 0 (by omega) (by omega) (by omega)] at b1
    rw [l, qdep_g (r := r) (r' := qnL r p1 p2 p3) (n := r 0) (fun c c0 c1 => A _ (by omega) (by omega) (by omega)) b.toNat b (Nat.le_refl _) b1]
    exact hL.2.2.2.1 b b0 b1
  · intro k w k0 k1 w0 w1
    rw [A0] at k1
    by_cases q : k = r 85
    · subst q
      rcases (show w = 0 ∨ w = 1 ∨ w = 2 by omega) with q | q | q
      · subst q; rw [Int.add_zero, e0, hB.1]
      · subst q; rw [e1, hB.2.1]
      · subst q; rw [e2, hB.2.2]
    · rw [o _ (by omega)]
      exact (hL.2.2.2.2.1 k w k0 (by omega) w0 w1).trans (A _ (by omega) (by omega) (by omega)).symm
  · intro k w k0 k1 w0 w1
    rw [A 134 (by omega) (by omega) (by omega)] at k1
    rw [f]
    exact (hL.2.2.2.2.2 k w k0 k1 w0 w1).trans (A _ (by omega) (by omega) (by omega)).symm
theorem qLw.addF {c0 c1 c2 c3 : Nat} (hR : qRow 8 r) (hL : qLw g c0 c1 c2 c3 r) (hn : r 134 < 6) (o : ∀ i : Nat, (i : Int) < 3 * r 134 → g'.1 c2 i = g.1 c2 i) (e0 : g'.1 c2 (Int.toNat (3 * r 134)) = p1) (e1 : g'.1 c2 (Int.toNat (3 * r 134 + 1)) = p2) (e2 : g'.1 c2 (Int.toNat (3 * r 134 + 2)) = p3) (d1 : g'.1 c3 (Int.toNat 2) = r 134 + 1) (d : ∀ i : Nat, i ≠ 2 → g'.1 c3 i = g.1 c3 i) (l : ∀ i, g'.1 c0 i = g.1 c0 i) (f : ∀ i, g'.1 c1 i = g.1 c1 i) : qLw g' c0 c1 c2 c3 (qnF r p1 p2 p3) := by
  have h0 := hR.1
  have h1 := hR.2.1
  have h2 := hR.2.2.1
  have h7 := hL.2.1
  have A := qnF_A (r := r) (p1 := p1) (p2 := p2) (p3 := p3) (by omega)
  have A0 : qnF r p1 p2 p3 134 = r 134 + 1 := qnF_0
  have hB := qnF_B (r := r) (p1 := p1) (p2 := p2) (p3 := p3) (by omega)
  refine ⟨⟨?_, ?_, d1.trans A0.symm, ?_, ?_, ?_, ?_, ?_⟩, ?_, ?_, ?_, ?_, ?_⟩
  · rw [d _ (by decide), A 0 (by omega) (by omega) (by omega)]; exact hL.1.1
  · rw [d _ (by decide), A 85 (by omega) (by omega) (by omega)]; exact hL.1.2.1
  · rw [d _ (by decide), A 162 (by omega) (by omega) (by omega)]; exact hL.1.2.2.2.1
  · rw [d _ (by decide), A 163 (by omega) (by omega) (by omega)]; exact hL.1.2.2.2.2.1
  · rw [d _ (by decide), A 164 (by omega) (by omega) (by omega)]; exact hL.1.2.2.2.2.2.1
  · rw [d _ (by decide), A 165 (by omega) (by omega) (by omega)]; exact hL.1.2.2.2.2.2.2.1
  · rw [d _ (by decide), A 166 (by omega) (by omega) (by omega)]; exact hL.1.2.2.2.2.2.2.2
  · rw [A0, A 0 (by omega) (by omega) (by omega), A 85 (by omega) (by omega) (by omega)]; omega
  · intro b w b0 b1 w0 w1
    rw [A 0 (by omega) (by omega) (by omega)] at b1
    rw [l]
    exact (hL.2.2.1 b w b0 b1 w0 w1).trans (A _ (by omega) (by omega) (by omega)).symm
  · intro b b0 b1
    rw [A 0 (by omega) (by omega) (by omega)] at b1
    rw [l, qdep_g (r := r) (r' := qnF r p1 p2 p3) (n := r 0) (fun c c0 c1 => A _ (by omega) (by omega) (by omega)) b.toNat b (Nat.le_refl _) b1]
    exact hL.2.2.2.1 b b0 b1
  · intro k w k0 k1 w0 w1
    rw [A 85 (by omega) (by omega) (by omega)] at k1
    rw [f]
    exact (hL.2.2.2.2.1 k w k0 k1 w0 w1).trans (A _ (by omega) (by omega) (by omega)).symm
  · intro k w k0 k1 w0 w1
    rw [A0] at k1
    by_cases q : k = r 134
    · subst q
      rcases (show w = 0 ∨ w = 1 ∨ w = 2 by omega) with q | q | q
      · subst q; rw [Int.add_zero, e0, hB.1]
      · subst q; rw [e1, hB.2.1]
      · subst q; rw [e2, hB.2.2]
    · rw [o _ (by omega)]
      exact (hL.2.2.2.2.2 k w k0 (by omega) w0 w1).trans (A _ (by omega) (by omega) (by omega)).symm
theorem qset_hi (hR : qRow 8 re) (h : 85 ≤ j ∧ j ≠ 163) : (qset 24 re 0).1 j = re j := qset_o (Or.inr h) 24 _ 0 hR
theorem l_act0 (h : qMn g n R r i) (ha : 0 ≤ a1 ∧ a1 < 3) : ∃ g' n' R' r', fL_act g a1 a2 a3 = some (1, g') ∧ qMn g' n' R' r' i := by
  have hR := h.2.1
  have hL := h.2.2.1
  have h0 := hR.1
  have h7 := hL.2.1
  obtain ⟨box, eb, b0, b1⟩ := l_at g a2 (n := r 0) (by omega)
  unfold fL_act
  rw [zck_t (by omega), hL.1.1, eb, zbd_s, ilt (by omega) (by omega), if_pos ha.2, zck_t (by omega), ieq (by omega) (by omega), zck_t (by omega), zlet_e]
  by_cases q7 : r 0 = 7
  · rw [if_pos q7]
    exact ⟨g, n, R, r, rfl, h⟩
  · obtain ⟨v, ev, v0, v1⟩ := l_at (zwr g 400 (Int.toNat (8 * r 0)) box) (zsr a2 4) (n := 3) (by omega)
    rw [if_neg q7, zck_t (by omega), zck_t (by omega), zlet_e, ev, zbd_s, ieq (by omega) (by omega)]
    have h1 : qMn (zwr g 400 (Int.toNat (8 * r 0)) box) n R r i := h.wr (by omega)
    by_cases q : v = 0
    · rw [if_pos q]
      exact l_a63 h1 (by omega) ⟨b0, b1⟩ (Or.inr rfl) zwr_e
    · rw [if_neg q]
      exact l_a63 h1 (by omega) ⟨b0, b1⟩ (Or.inl rfl) zwr_e
theorem l_act3 (h : qMn g n R r i) (ha : 3 ≤ a1 ∧ a1 < 6) : ∃ g' n' R' r', fL_act g a1 a2 a3 = some (1, g') ∧ qMn g' n' R' r' i := by
  have h' := h
  obtain ⟨hC, hR, hL, h5, hh⟩ := h
  have h0 := hR.1
  have h1 := hR.2.1
  have h7 := hL.2.1
  obtain ⟨box, eb, b0, b1⟩ := l_at g a2 (n := r 0) (by omega)
  unfold fL_act
  rw [zck_t (by omega), hL.1.1, eb, zbd_s, ilt (by omega) (by omega), if_neg (by omega), ilt (by omega) (by omega), if_pos ha.2, zck_t (by omega), hL.1.2.1, ieq (by omega) (by omega), zck_t (by omega), zlet_e]
  by_cases q8 : r 85 = 8
  · rw [if_pos q8]
    exact ⟨g, n, R, r, rfl, h'⟩
  · let W1 := zwr g 401 (Int.toNat (3 * r 85)) box
    obtain ⟨u, eu, u0, u1⟩ := l_at W1 a3 (n := 9) (by omega)
    let W2 := zwr W1 401 (Int.toNat (3 * r 85 + 1)) (1 + u)
    obtain ⟨pa, ep, pa0, pa1⟩ := l_at W2 (zsr a3 4) (n := 2) (by omega)
    let W3 := zwr W2 401 (Int.toNat (3 * r 85 + 2)) pa
    let W4 := zwr W3 403 (Int.toNat 1) (r 85 + 1)
    have z1 : W3.1 403 (Int.toNat 1) = r 85 := ((zwr_n (Or.inl (by decide))).trans ((zwr_n (Or.inl (by decide))).trans (zwr_n (Or.inl (by decide))))).trans hL.1.2.1
    have fW : qfr (fun q => 400 ≤ q) g W4 := qfr.tr (P := fun q => 400 ≤ q) (qfr.tr (P := fun q => 400 ≤ q) (qfr.tr (P := fun q => 400 ≤ q) (qfr.wr (by decide)) (qfr.wr (by decide))) (qfr.wr (by decide))) (qfr.wr (by decide))
    have o4 : ∀ k, W4.1 401 k = W3.1 401 k := fun k => zwr_n (Or.inl (by decide))
    have hLW : qLw W4 400 401 402 403 (qnL r box (1 + u) pa) := by
      refine qLw.addL hR hL (by omega) (fun i hi => ?_) ?_ ?_ ?_ zwr_e (fun i hi => ?_) (fun i => ?_) (fun i => ?_)
      · exact (o4 _).trans ((zwr_n (Or.inr (by omega))).trans ((zwr_n (Or.inr (by omega))).trans (zwr_n (Or.inr (by omega)))))
      · exact (o4 _).trans ((zwr_n (Or.inr (by omega))).trans ((zwr_n (Or.inr (by omega))).trans zwr_e))
      · exact (o4 _).trans ((zwr_n (Or.inr (by omega))).trans zwr_e)
      · exact (o4 _).trans zwr_e
      · exact (zwr_n (Or.inr hi)).trans ((zwr_n (Or.inl (by decide))).trans ((zwr_n (Or.inl (by decide))).trans (zwr_n (Or.inl (by decide)))))
      · exact (zwr_n (Or.inl (by decide))).trans ((zwr_n (Or.inl (by decide))).trans ((zwr_n (Or.inl (by decide))).trans (zwr_n (Or.inl (by decide)))))
      · exact (zwr_n (Or.inl (by decide))).trans ((zwr_n (Or.inl (by decide))).trans ((zwr_n (Or.inl (by decide))).trans (zwr_n (Or.inl (by decide)))))
    have hRe := qnL_row hR (by omega) ⟨b0, b1⟩ (p2 := 1 + u) (by omega) (p3 := pa) (by omega)
    obtain ⟨s1, x1, x2, x3, x4, x5⟩ := l_setM hRe hLW (hC.fro fW)
    obtain ⟨s2, k1, k2, k3⟩ := kc_hang x4 hR (by omega) ⟨b0, b1⟩ (a2 := 1 + u) (by omega) (a3 := pa) (by omega)
    have A := qnL_A (r := r) (p1 := box) (p2 := 1 + u) (p3 := pa) (by omega)
    have hB := qnL_B (r := r) (p1 := box) (p2 := 1 + u) (p3 := pa) (by omega)
    have s85 : (qset 24 (qnL r box (1 + u) pa) 0).1 85 = r 85 + 1 := (qset_hi hRe (by omega)).trans qnL_0
    have sL : ∀ w, 0 ≤ w → w < 3 → s1.1 401 (Int.toNat (3 * r 85 + w)) = qL (qnL r box (1 + u) pa) (r 85) w := fun w w0 w1 => (x2.lw (k := r 85) (by omega) w (by omega)).trans (qset_hi hRe (by omega))
    refine ⟨s2, _, _, _, ?_, qMn.fin hRe x2 k2 k3 (by rw [A 134 (by omega) (by omega) (by omega)]; exact h5) (by rw [A 164 (by omega) (by omega) (by omega)]; exact hh)⟩
    have p365 : ∀ z, z = pa → fL_act_p365 s1 box (1 + u) z = some (1, s2) := by
      intro z hz
      subst hz
      unfold fL_act_p365
      rw [k1, zbe_s, zck_t (by omega), k3.1 _ _ (Or.inl (by decide)), x2.1.2.1, s85, show r 85 + 1 - 1 = r 85 by omega, if_pos rfl, qck_1]
    rw [if_neg q8, zck_t (by omega), zck_t (by omega), zlet_e]
    show zbd (fL_at W1 a3 9) _ = _
    rw [eu, zbd_s, zck_t (by omega), zlet_e]
    show zbd (fL_at W2 (zsr a3 4) 2) _ = _
    rw [ep, zbd_s, zck_t (by omega), zlet_e, zck_t (by omega), zck_t (by omega)]
    show zlet (zwr W3 403 (Int.toNat 1) (W3.1 403 (Int.toNat 1) + 1)) _ = _
    rw [z1, zlet_e]
    show zbe (fL_settle W4 400 401 402 403 404 405 406) _ = _
    rw [x1, zbe_s, zck_t (by omega), zck_t (by omega), sL 2 (by omega) (by omega), sL 1 (by omega) (by omega), hB.2.1, hB.2.2, ieq (by omega) (by omega)]
    by_cases q : pa = 1
    · rw [if_pos q]; exact p365 1 q.symm
    · rw [if_neg q]; exact p365 0 (by omega)
theorem l_act6 (h : qMn g n R r i) (ha : 6 ≤ a1 ∧ a1 < 9) : ∃ g' n' R' r', fL_act g a1 a2 a3 = some (1, g') ∧ qMn g' n' R' r' i := by
  have h' := h
  obtain ⟨hC, hR, hL, h5, hh⟩ := h
  have h0 := hR.1
  have h1 := hR.2.2.1
  have h7 := hL.2.1
  obtain ⟨box, eb, b0, b1⟩ := l_at g a2 (n := r 0) (by omega)
  unfold fL_act
  rw [zck_t (by omega), hL.1.1, eb, zbd_s, ilt (by omega) (by omega), if_neg (by omega), ilt (by omega) (by omega), if_neg (by omega), ilt (by omega) (by omega), if_pos ha.2, zck_t (by omega), hL.1.2.2.1, ieq (by omega) (by omega), zck_t (by omega), zlet_e]
  by_cases q8 : r 134 = 5
  · rw [if_pos q8]
    exact ⟨g, n, R, r, rfl, h'⟩
  · let W1 := zwr g 402 (Int.toNat (3 * r 134)) box
    obtain ⟨t, et, t0, t1⟩ := l_at W1 a3 (n := 2) (by omega)
    let W2 := zwr W1 402 (Int.toNat (3 * r 134 + 1)) t
    obtain ⟨u, eu, u0, u1⟩ := l_at W2 (zsr a3 2) (n := 30) (by omega)
    let W3 := zwr W2 402 (Int.toNat (3 * r 134 + 2)) (1 + u)
    let W4 := zwr W3 403 (Int.toNat 2) (r 134 + 1)
    have z1 : W3.1 403 (Int.toNat 2) = r 134 := ((zwr_n (Or.inl (by decide))).trans ((zwr_n (Or.inl (by decide))).trans (zwr_n (Or.inl (by decide))))).trans hL.1.2.2.1
    have fW : qfr (fun q => 400 ≤ q) g W4 := qfr.tr (P := fun q => 400 ≤ q) (qfr.tr (P := fun q => 400 ≤ q) (qfr.tr (P := fun q => 400 ≤ q) (qfr.wr (by decide)) (qfr.wr (by decide))) (qfr.wr (by decide))) (qfr.wr (by decide))
    have o4 : ∀ k, W4.1 402 k = W3.1 402 k := fun k => zwr_n (Or.inl (by decide))
    have hLW : qLw W4 400 401 402 403 (qnF r box t (1 + u)) := by
      refine qLw.addF hR hL (by omega) (fun i hi => ?_) ?_ ?_ ?_ zwr_e (fun i hi => ?_) (fun i => ?_) (fun i => ?_)
      · exact (o4 _).trans ((zwr_n (Or.inr (by omega))).trans ((zwr_n (Or.inr (by omega))).trans (zwr_n (Or.inr (by omega)))))
      · exact (o4 _).trans ((zwr_n (Or.inr (by omega))).trans ((zwr_n (Or.inr (by omega))).trans zwr_e))
      · exact (o4 _).trans ((zwr_n (Or.inr (by omega))).trans zwr_e)
      · exact (o4 _).trans zwr_e
      · exact (zwr_n (Or.inr hi)).trans ((zwr_n (Or.inl (by decide))).trans ((zwr_n (Or.inl (by decide))).trans (zwr_n (Or.inl (by decide)))))
      · exact (zwr_n (Or.inl (by decide))).trans ((zwr_n (Or.inl (by decide))).trans ((zwr_n (Or.inl (by decide))).trans (zwr_n (Or.inl (by decide)))))
      · exact (zwr_n (Or.inl (by decide))).trans ((zwr_n (Or.inl (by decide))).trans ((zwr_n (Or.inl (by decide))).trans (zwr_n (Or.inl (by decide)))))
    have hRe := qnF_row hR (M' := 8) (by omega) ⟨b0, b1⟩ (p2 := t) (by omega) (p3 := 1 + u) (by omega)
    obtain ⟨s1, x1, x2, x3, x4, x5⟩ := l_setM hRe hLW (hC.fro fW)
    obtain ⟨s2, k1, k2, k3⟩ := kc_fault x4 hR (by omega) ⟨b0, b1⟩ (a2 := t) (by omega) (a3 := 1 + u) (by omega)
    have A := qnF_A (r := r) (p1 := box) (p2 := t) (p3 := 1 + u) (by omega)
    have hB := qnF_B (r := r) (p1 := box) (p2 := t) (p3 := 1 + u) (by omega)
    have s134 : (qset 24 (qnF r box t (1 + u)) 0).1 134 = r 134 + 1 := (qset_hi hRe (by omega)).trans qnF_0
    have sL : ∀ w, 0 ≤ w → w < 3 → s1.1 402 (Int.toNat (3 * r 134 + w)) = qF (qnF r box t (1 + u)) (r 134) w := fun w w0 w1 => (x2.fw (k := r 134) (by omega) w (by omega)).trans (qset_hi hRe (by omega))
    refine ⟨s2, _, _, _, ?_, qMn.fin hRe x2 k2 k3 (by rw [show qnF r box t (1 + u) 134 = r 134 + 1 from qnF_0]; omega) (by rw [A 164 (by omega) (by omega) (by omega)]; exact hh)⟩
    rw [if_neg q8, zck_t (by omega), zck_t (by omega), zlet_e]
    show zbd (fL_at W1 a3 2) _ = _
    rw [et, zbd_s, zck_t (by omega), zlet_e]
    show zbd (fL_at W2 (zsr a3 2) 30) _ = _
    rw [eu, zbd_s, zck_t (by omega), zlet_e, zck_t (by omega), zck_t (by omega)]
    show zlet (zwr W3 403 (Int.toNat 2) (W3.1 403 (Int.toNat 2) + 1)) _ = _
    rw [z1, zlet_e]
    show zbe (fL_settle W4 400 401 402 403 404 405 406) _ = _
    rw [x1, zbe_s, zck_t (by omega), zck_t (by omega), sL 2 (by omega) (by omega), sL 1 (by omega) (by omega), hB.2.1, hB.2.2, k1, zbe_s, if_pos rfl, qck_1]
end PACT2
