section PACT3
variable {g g' g1 g2 : zSt} {a b t x w k p u j i lo hi v M y N box cr ra rb a1 a2 a3 a8 a9 a10 a11 a12 a13 a14 p1 p2 p3 nn : Int} {r r' re : Int → Int} {R : Nat → Int → Int} {n : Nat}
theorem l_551 (hnn : 0 ≤ nn ∧ nn ≤ 5) : ∀ (fu : Nat) (g : zSt) (a : Int), 0 ≤ a → a ≤ 3 * nn → (3 * nn - a).toNat < fu → g.1 403 (Int.toNat 2) = nn → ∃ g', fL_act_p551 fu g a12 a13 a = fL_act_p551 (0 + 1) g' a12 a13 (3 * nn) ∧ (∀ j, a ≤ j → j < 3 * nn → g'.1 402 (Int.toNat j) = g.1 402 (Int.toNat (j + 3))) ∧ (∀ j : Nat, ((j : Int) < a ∨ 3 * nn ≤ j) → g'.1 402 j = g.1 402 j) ∧ qfr (fun q => q = 402) g g' := by
  intro fu
  induction fu with
  | zero => intro g a _ _ h; omega
  | succ fu ih =>
    intro g a h0 hn hf hd
    by_cases e : a < 3 * nn
    · obtain ⟨g', t1, t2, t3, t4⟩ := ih (zwr g 402 (Int.toNat a) (g.1 402 (Int.toNat (a + 3)))) (a + 1) (by omega) (by omega) (by omega) ((zwr_n (Or.inl (by decide))).trans hd)
      refine ⟨g', ?_, fun j j0 j1 => ?_, fun j hj => ?_, qfr.tr (P := fun q => q = 402) (qfr.wr rfl) t4⟩
      · rw [fL_act_p551, zck_t (by omega), hd, ilt (by omega) (by omega), if_pos e, zck_t (by omega), zck_t (by omega), zlet_e]
        exact t1
      · by_cases q : j = a
        · subst q
          rw [t3 _ (Or.inl (by omega)), zwr_e]
        · rw [t2 j (by omega) j1, zwr_n (Or.inr (by omega))]
      · rw [t3 j (by omega), zwr_n (Or.inr (by omega))]
    · have ea : a = 3 * nn := by omega
      subst ea
      refine ⟨g, ?_, fun j j0 j1 => by omega, fun j hj => rfl, qfr.rf⟩
      rw [fL_act_p551, zck_t (by omega), hd, ilt (by omega) (by omega), if_neg e, fL_act_p551, zck_t (by omega), hd, ilt (by omega) (by omega), if_neg e]
theorem l_692 (hnn : 0 ≤ nn ∧ nn ≤ 7) : ∀ (fu : Nat) (g : zSt) (a : Int), 0 ≤ a → a ≤ 3 * nn → (3 * nn - a).toNat < fu → g.1 403 (Int.toNat 1) = nn → ∃ g', fL_act_p692 fu g a12 a13 a = fL_act_p692 (0 + 1) g' a12 a13 (3 * nn) ∧ (∀ j, a ≤ j → j < 3 * nn → g'.1 401 (Int.toNat j) = g.1 401 (Int.toNat (j + 3))) ∧ (∀ j : Nat, ((j : Int) < a ∨ 3 * nn ≤ j) → g'.1 401 j = g.1 401 j) ∧ qfr (fun q => q = 401) g g' := by
  intro fu
  induction fu with
  | zero => intro g a _ _ h; omega
  | succ fu ih =>
    intro g a h0 hn hf hd
    by_cases e : a < 3 * nn
    · obtain ⟨g', t1, t2, t3, t4⟩ := ih (zwr g 401 (Int.toNat a) (g.1 401 (Int.toNat (a + 3)))) (a + 1) (by omega) (by omega) (by omega) ((zwr_n (Or.inl (by decide))).trans hd)
      refine ⟨g', ?_, fun j j0 j1 => ?_, fun j hj => ?_, qfr.tr (P := fun q => q = 401) (qfr.wr rfl) t4⟩
      · rw [fL_act_p692, zck_t (by omega), hd, ilt (by omega) (by omega), if_pos e, zck_t (by omega), zck_t (by omega), zlet_e]
        exact t1
      · by_cases q : j = a
        · subst q
          rw [t3 _ (Or.inl (by omega)), zwr_e]
        · rw [t2 j (by omega) j1, zwr_n (Or.inr (by omega))]
      · rw [t3 j (by omega), zwr_n (Or.inr (by omega))]
    · have ea : a = 3 * nn := by omega
      subst ea
      refine ⟨g, ?_, fun j j0 j1 => by omega, fun j hj => rfl, qfr.rf⟩
      rw [fL_act_p692, zck_t (by omega), hd, ilt (by omega) (by omega), if_neg e, fL_act_p692, zck_t (by omega), hd, ilt (by omega) (by omega), if_neg e]
theorem qLw.rmF (hR : qRow 8 r) (hL : qLw g 400 401 402 403 r) (ha : 0 ≤ a ∧ a < r 134) (o : ∀ j : Nat, (j : Int) < 3 * a → g'.1 402 j = g.1 402 j) (s : ∀ j, 3 * a ≤ j → j < 3 * (r 134 - 1) → g'.1 402 (Int.toNat j) = g.1 402 (Int.toNat (j + 3))) (d1 : g'.1 403 (Int.toNat 2) = r 134 - 1) (d : ∀ i : Nat, i ≠ 2 → g'.1 403 i = g.1 403 i) (l : ∀ i, g'.1 400 i = g.1 400 i) (f : ∀ i, g'.1 401 i = g.1 401 i) : qLw g' 400 401 402 403 (qrmF r a) := by
  have h0 := hR.1
  have h1 := hR.2.1
  have h2 := hR.2.2.1
  have h7 := hL.2.1
  have A := qrmF_A (r := r) ha.1
  have A0 : qrmF r a 134 = r 134 - 1 := qrmF_0
  refine ⟨⟨?_, ?_, d1.trans A0.symm, ?_, ?_, ?_, ?_, ?_⟩, ?_, ?_, ?_, ?_, ?_⟩
  · rw [d _ (by decide), A 0 (by omega) (by omega) (by omega)]; exact hL.1.1
  · rw [d _ (by decide), A 85 (by omega) (by omega) (by omega)]; exact hL.1.2.1
  · rw [d _ (by decide), A 162 (by omega) (by omega) (by omega)]; exact hL.1.2.2.2.1
  · rw [d _ (by decide), A 163 (by omega) (by omega) (by omega)]; exact hL.1.2.2.2.2.1
  · rw [d _ (by decide), A 164 (by omega) (by omega) (by omega)]; exact hL.1.2.2.2.2.2.1
  · rw [d _ (by decide), A 165 (by omega) (by omega) (by omega)]; exact hL.1.2.2.2.2.2.2.1
  · rw [d _ (by decide), A 166 (by omega) (by omega) (by omega)]; exact hL.1.2.2.2.2.2.2.2
  · rw [A0, A 0 (by omega) (by omega) (by omega), A 85 (by omega) (by omega) (by omega)]; omega
  · intro b w b0 b1 w0 w1
    rw [A 0 (by omega) (by omega) (by omega)] at b1
    rw [l]
    exact (hL.2.2.1 b w b0 b1 w0 w1).trans (A _ (by omega) (by omega) (by omega)).symm
  · intro b b0 b1
    rw [A 0 (by omega) (by omega) (by omega)] at b1
    rw [l, qdep_g (r := r) (r' := qrmF r a) (n := r 0) (fun c c0 c1 => A _ (by omega) (by omega) (by omega)) b.toNat b (Nat.le_refl _) b1]
    exact hL.2.2.2.1 b b0 b1
  · intro k w k0 k1 w0 w1
    rw [A 85 (by omega) (by omega) (by omega)] at k1
    rw [f]
    exact (hL.2.2.2.2.1 k w k0 k1 w0 w1).trans (A _ (by omega) (by omega) (by omega)).symm
  · intro k w k0 k1 w0 w1
    rw [A0] at k1
    by_cases q : k < a
    · rw [o _ (by omega), qrmF_lo ha.1 ⟨k0, q⟩ ⟨w0, w1⟩]
      exact hL.2.2.2.2.2 k w k0 (by omega) w0 w1
    · rw [s _ (by omega) (by omega), qrmF_hi ha.1 ⟨by omega, k1⟩ ⟨w0, w1⟩, show 3 * k + w + 3 = 3 * (k + 1) + w by omega]
      exact hL.2.2.2.2.2 (k + 1) w (by omega) (by omega) w0 w1
theorem qLw.rmL (hR : qRow 8 r) (hL : qLw g 400 401 402 403 r) (ha : 0 ≤ a ∧ a < r 85) (o : ∀ j : Nat, (j : Int) < 3 * a → g'.1 401 j = g.1 401 j) (s : ∀ j, 3 * a ≤ j → j < 3 * (r 85 - 1) → g'.1 401 (Int.toNat j) = g.1 401 (Int.toNat (j + 3))) (d1 : g'.1 403 (Int.toNat 1) = r 85 - 1) (d : ∀ i : Nat, i ≠ 1 → g'.1 403 i = g.1 403 i) (l : ∀ i, g'.1 400 i = g.1 400 i) (f : ∀ i, g'.1 402 i = g.1 402 i) : qLw g' 400 401 402 403 (qrmL r a) := by
  have h0 := hR.1
  have h1 := hR.2.1
  have h2 := hR.2.2.1
  have h7 := hL.2.1
  have A := qrmL_A (r := r) ha.1
  have A0 : qrmL r a 85 = r 85 - 1 := qrmL_0
  refine ⟨⟨?_, d1.trans A0.symm, ?_, ?_, ?_, ?_, ?_, ?_⟩, ?_, ?_, ?_, ?_, ?_⟩
  · rw [d _ (by decide), A 0 (by omega) (by omega) (by omega)]; exact hL.1.1
  · rw [d _ (by decide), A 134 (by omega) (by omega) (by omega)]; exact hL.1.2.2.1
  · rw [d _ (by decide), A 162 (by omega) (by omega) (by omega)]; exact hL.1.2.2.2.1
  · rw [d _ (by decide), A 163 (by omega) (by omega) (by omega)]; exact hL.1.2.2.2.2.1
  · rw [d _ (by decide), A 164 (by omega) (by omega) (by omega)]; exact hL.1.2.2.2.2.2.1
  · rw [d _ (by decide), A 165 (by omega) (by omega) (by omega)]; exact hL.1.2.2.2.2.2.2.1
  · rw [d _ (by decide), A 166 (by omega) (by omega) (by omega)]; exact hL.1.2.2.2.2.2.2.2
  · rw [A0, A 0 (by omega) (by omega) (by omega), A 134 (by omega) (by omega) (by omega)]; omega
  · intro b w b0 b1 w0 w1
    rw [A 0 (by omega) (by omega) (by omega)] at b1
    rw [l]
    exact (hL.2.2.1 b w b0 b1 w0 w1).trans (A _ (by omega) (by omega) (by omega)).symm
  · intro b b0 b1
    rw [A 0 (by omega) (by omega) (by omega)] at b1
    rw [l, qdep_g (r := r) (r' := qrmL r a) (n := r 0) (fun c c0 c1 => A _ (by omega) (by omega) (by omega)) b.toNat b (Nat.le_refl _) b1]
    exact hL.2.2.2.1 b b0 b1
  · intro k w k0 k1 w0 w1
    rw [A0] at k1
    by_cases q : k < a
    · rw [o _ (by omega), qrmL_lo ha.1 ⟨k0, q⟩ ⟨w0, w1⟩]
      exact hL.2.2.2.2.1 k w k0 (by omega) w0 w1
    · rw [s _ (by omega) (by omega), qrmL_hi ha.1 ⟨by omega, k1⟩ ⟨w0, w1⟩, show 3 * k + w + 3 = 3 * (k + 1) + w by omega]
      exact hL.2.2.2.2.1 (k + 1) w (by omega) (by omega) w0 w1
  · intro k w k0 k1 w0 w1
    rw [A 134 (by omega) (by omega) (by omega)] at k1
    rw [f]
    exact (hL.2.2.2.2.2 k w k0 k1 w0 w1).trans (A _ (by omega) (by omega) (by omega)).symm
theorem l_act9 (h : qMn g n R r i) (ha : a1 = 9) : ∃ g' n' R' r', fL_act g a1 a2 a3 = some (1, g') ∧ qMn g' n' R' r' i := by
  have h' := h
  obtain ⟨hC, hR, hL, h5, hh⟩ := h
  have h0 := hR.1
  have h1 := hR.2.2.1
  have h7 := hL.2.1
  obtain ⟨box, eb, b0, b1⟩ := l_at g a2 (n := r 0) (by omega)
  unfold fL_act
  rw [zck_t (by omega), hL.1.1, eb, zbd_s, ilt (by omega) (by omega), if_neg (by omega), ilt (by omega) (by omega), if_neg (by omega), ilt (by omega) (by omega), if_neg (by omega), ieq (by omega) (by omega), if_pos ha, zck_t (by omega), hL.1.2.2.1, ieq (by omega) (by omega)]
  by_cases q0 : r 134 = 0
  · rw [if_pos q0, qck_1]
    exact ⟨g, n, R, r, rfl, h'⟩
  · obtain ⟨k, ek, k0, k1⟩ := l_at g a2 (n := r 134) (by omega)
    let W := zwr g 403 (Int.toNat 2) (r 134 - 1)
    have fW : qfr (fun q => 400 ≤ q) g W := qfr.wr (by decide)
    obtain ⟨g1, s1, s2, s3, s4⟩ := l_551 (nn := r 134 - 1) (a12 := k) (a13 := qF r k 2) (by omega) zfu W (3 * k) (by omega) (by omega) (by unfold zfu; omega) zwr_e
    have s4' : qfr (fun q => 400 ≤ q) g g1 := fW.tr (s4.wk (fun q z => by omega))
    have hLW : qLw g1 400 401 402 403 (qrmF r k) := by
      refine qLw.rmF hR hL ⟨k0, k1⟩ (fun j hj => ?_) (fun j j0 j1 => ?_) ?_ (fun i hi => ?_) (fun i => ?_) (fun i => ?_)
      · exact (s3 j (Or.inl hj)).trans (zwr_n (Or.inl (by decide)))
      · exact (s2 j j0 j1).trans (zwr_n (Or.inl (by decide)))
      · exact (s4.1 _ _ (by decide)).trans zwr_e
      · exact (s4.1 _ _ (by decide)).trans (zwr_n (Or.inr hi))
      · exact (s4.1 _ _ (by decide)).trans (zwr_n (Or.inl (by decide)))
      · exact (s4.1 _ _ (by decide)).trans (zwr_n (Or.inl (by decide)))
    have hRe := qrmF_row hR ⟨k0, k1⟩
    obtain ⟨t1, x1, x2, x3, x4, x5⟩ := l_setM hRe hLW (hC.fro s4')
    obtain ⟨t2, y1, y2, y3⟩ := kc_mend x4 hR ⟨k0, k1⟩
    have A := qrmF_A (r := r) k0
    refine ⟨t2, _, _, _, ?_, qMn.fin hRe x2 y2 y3 (by rw [show qrmF r k 134 = r 134 - 1 from qrmF_0]; omega) (by rw [A 164 (by omega) (by omega) (by omega)]; exact hh)⟩
    rw [if_neg q0, zck_t (by omega), ek, zbd_s, zck_t (by omega), hL.fw ⟨k0, k1⟩ 2 (by omega), zlet_e, zck_t (by omega), zck_t (by omega), zlet_e, zlet_e]
    show fL_act_p551 zfu W k (qF r k 2) (3 * k) = _
    rw [s1, fL_act_p551, zck_t (by omega), (s4.1 403 (Int.toNat 2) (by decide)).trans zwr_e, ilt (by omega) (by omega), if_neg (by omega), x1, zbe_s, y1, zbe_s, if_pos rfl, qck_1]
theorem l_act10 (h : qMn g n R r i) (ha : a1 = 10) : ∃ g' n' R' r', fL_act g a1 a2 a3 = some (1, g') ∧ qMn g' n' R' r' i := by
  have h' := h
  obtain ⟨hC, hR, hL, h5, hh⟩ := h
  have h0 := hR.1
  have h1 := hR.2.1
  have h7 := hL.2.1
  obtain ⟨box, eb, b0, b1⟩ := l_at g a2 (n := r 0) (by omega)
  unfold fL_act
  rw [zck_t (by omega), hL.1.1, eb, zbd_s, ilt (by omega) (by omega), if_neg (by omega), ilt (by omega) (by omega), if_neg (by omega), ilt (by omega) (by omega), if_neg (by omega), ieq (by omega) (by omega), if_neg (by omega), ieq (by omega) (by omega), if_pos ha, zck_t (by omega), hL.1.2.1, ieq (by omega) (by omega)]
  by_cases q0 : r 85 = 0
  · rw [if_pos q0, qck_1]
    exact ⟨g, n, R, r, rfl, h'⟩
  · obtain ⟨k, ek, k0, k1⟩ := l_at g a2 (n := r 85) (by omega)
    obtain ⟨f1, c1, c2, c3, c4, c5⟩ := l_find qdi_main hR hL
    have hL1 : qLw f1 400 401 402 403 r := hL.kept c5 (by omega)
    let W := zwr f1 403 (Int.toNat 1) (r 85 - 1)
    have fW : qfr (fun q => 400 ≤ q) g W := qfr.tr (P := fun q => 400 ≤ q) (c5.wk (fun q z => by omega)) (qfr.wr (by decide))
    have hd := qdk_r r k
    obtain ⟨g1, s1, s2, s3, s4⟩ := l_692 (nn := r 85 - 1) (a12 := k) (a13 := qbi (decide (qdk r k = 0))) (by omega) zfu W (3 * k) (by omega) (by omega) (by unfold zfu; omega) zwr_e
    have s4' : qfr (fun q => 400 ≤ q) g g1 := fW.tr (s4.wk (fun q z => by omega))
    have hLW : qLw g1 400 401 402 403 (qrmL r k) := by
      refine qLw.rmL hR hL1 ⟨k0, k1⟩ (fun j hj => ?_) (fun j j0 j1 => ?_) ?_ (fun i hi => ?_) (fun i => ?_) (fun i => ?_)
      · exact (s3 j (Or.inl hj)).trans (zwr_n (Or.inl (by decide)))
      · exact (s2 j j0 j1).trans (zwr_n (Or.inl (by decide)))
      · exact (s4.1 _ _ (by decide)).trans zwr_e
      · exact (s4.1 _ _ (by decide)).trans (zwr_n (Or.inr hi))
      · exact (s4.1 _ _ (by decide)).trans (zwr_n (Or.inl (by decide)))
      · exact (s4.1 _ _ (by decide)).trans (zwr_n (Or.inl (by decide)))
    have hRe := qrmL_row hR ⟨k0, k1⟩
    obtain ⟨t1, x1, x2, x3, x4, x5⟩ := l_setM hRe hLW (hC.fro s4')
    obtain ⟨t2, y1, y2, y3⟩ := kc_takeDown x4 hR ⟨k0, k1⟩
    have A := qrmL_A (r := r) k0
    refine ⟨t2, _, _, _, ?_, qMn.fin hRe x2 y2 y3 (by rw [A 134 (by omega) (by omega) (by omega)]; exact h5) (by rw [A 164 (by omega) (by omega) (by omega)]; exact hh)⟩
    have p676 : ∀ z, z = qbi (decide (qdk r k = 0)) → fL_act_p676 f1 z k = some (1, t2) := by
      intro z hz
      subst hz
      unfold fL_act_p676
      rw [zck_t (by omega), zck_t (by omega), hL1.1.2.1, zlet_e, zlet_e]
      show fL_act_p692 zfu W k _ (3 * k) = _
      rw [s1, fL_act_p692, zck_t (by omega), (s4.1 403 (Int.toNat 1) (by decide)).trans zwr_e, ilt (by omega) (by omega), if_neg (by omega), x1, zbe_s, y1, zbe_s, if_pos rfl, qck_1]
    rw [if_neg q0, zck_t (by omega), ek, zbd_s, c1, zbd_s, l_dark hR hL1 c2 ⟨k0, k1⟩, zbd_s, ieq (by omega) (by omega)]
    by_cases q : qdk r k = 0
    · rw [if_pos q]; exact p676 1 (by rw [decide_eq_true q]; rfl)
    · rw [if_neg q]; exact p676 0 (by rw [decide_eq_false q]; rfl)
theorem qLw.cnt (hR : qRow 8 r) (hL : qLw g 400 401 402 403 r) (hs : qsame r r') (c : g'.1 403 (Int.toNat 3) = r' 162 ∧ g'.1 403 (Int.toNat 4) = r' 163 ∧ g'.1 403 (Int.toNat 5) = r' 164 ∧ g'.1 403 (Int.toNat 6) = r' 165 ∧ g'.1 403 (Int.toNat 7) = r' 166) (d : ∀ i : Nat, i < 3 → g'.1 403 i = g.1 403 i) (l : ∀ i, g'.1 400 i = g.1 400 i) (f : ∀ i, g'.1 401 i = g.1 401 i) (e : ∀ i, g'.1 402 i = g.1 402 i) : qLw g' 400 401 402 403 r' := by
  have h0 := hR.1
  have h1 := hR.2.1
  have h2 := hR.2.2.1
  have h7 := hL.2.1
  have A : ∀ j, 0 ≤ j → j < 162 → r' j = r j := hs
  refine ⟨⟨?_, ?_, ?_, c.1, c.2.1, c.2.2.1, c.2.2.2.1, c.2.2.2.2⟩, ?_, ?_, ?_, ?_, ?_⟩
  · rw [d _ (by decide), A 0 (by omega) (by omega)]; exact hL.1.1
  · rw [d _ (by decide), A 85 (by omega) (by omega)]; exact hL.1.2.1
  · rw [d _ (by decide), A 134 (by omega) (by omega)]; exact hL.1.2.2.1
  · rw [A 0 (by omega) (by omega), A 85 (by omega) (by omega), A 134 (by omega) (by omega)]; exact h7
  · intro b w b0 b1 w0 w1
    rw [A 0 (by omega) (by omega)] at b1
    rw [l]
    exact (hL.2.2.1 b w b0 b1 w0 w1).trans (A _ (by omega) (by omega)).symm
  · intro b b0 b1
    rw [A 0 (by omega) (by omega)] at b1
    rw [l, qdep_g (r := r) (r' := r') (n := r 0) (fun c c0 c1 => A _ (by omega) (by omega)) b.toNat b (Nat.le_refl _) b1]
    exact hL.2.2.2.1 b b0 b1
  · intro k w k0 k1 w0 w1
    rw [A 85 (by omega) (by omega)] at k1
    rw [f]
    exact (hL.2.2.2.2.1 k w k0 k1 w0 w1).trans (A _ (by omega) (by omega)).symm
  · intro k w k0 k1 w0 w1
    rw [A 134 (by omega) (by omega)] at k1
    rw [e]
    exact (hL.2.2.2.2.2 k w k0 k1 w0 w1).trans (A _ (by omega) (by omega)).symm
theorem l_act11 (h : qMn g n R r i) (hi : i < 90) (ha : a1 = 11) : ∃ g' n' R' r', fL_act g a1 a2 a3 = some (1, g') ∧ qMn g' n' R' r' (i + 1) := by
  obtain ⟨hC, hR, hL, h5, hh⟩ := h
  have h0 := hR.1
  have h1 := hR.2.1
  have h7 := hL.2.1
  have hd := qdrawn_r hR
  have hlk := qleak_r hR
  obtain ⟨box, eb, b0, b1⟩ := l_at g a2 (n := r 0) (by omega)
  obtain ⟨f1, c1, c2, c3, c4, c5⟩ := l_find qdi_main hR hL
  have hL1 : qLw f1 400 401 402 403 r := hL.kept c5 (by omega)
  obtain ⟨v, ev, v0, v1⟩ := l_at f1 a3 (n := 1000) (by omega)
  obtain ⟨e2, e3, e4, e5, e6⟩ := qbrn_v (r := r) (a1 := 1 + v)
  let W1 := zwr f1 403 (Int.toNat 5) (r 164 + (1 + v))
  let W2 := zwr W1 403 (Int.toNat 6) (r 165 + (1 + v) * qdrawn r)
  let W3 := zwr W2 403 (Int.toNat 7) (r 166 + (1 + v) * qleak r)
  have fW : qfr (fun q => 400 ≤ q) g W3 := qfr.tr (P := fun q => 400 ≤ q) (qfr.tr (P := fun q => 400 ≤ q) (qfr.tr (P := fun q => 400 ≤ q) (c5.wk (fun q z => by omega)) (qfr.wr (by decide))) (qfr.wr (by decide))) (qfr.wr (by decide))
  have hLW : qLw W3 400 401 402 403 (qbrn r (1 + v)) := by
    refine qLw.cnt hR hL1 qbrn_same ⟨?_, ?_, ?_, ?_, ?_⟩ (fun i hi => ?_) (fun i => ?_) (fun i => ?_) (fun i => ?_)
    · rw [e2, ← hL1.1.2.2.2.1]; exact (zwr_n (Or.inr (by decide))).trans ((zwr_n (Or.inr (by decide))).trans (zwr_n (Or.inr (by decide))))
    · rw [e3, ← hL1.1.2.2.2.2.1]; exact (zwr_n (Or.inr (by decide))).trans ((zwr_n (Or.inr (by decide))).trans (zwr_n (Or.inr (by decide))))
    · rw [e4]; exact (zwr_n (Or.inr (by decide))).trans ((zwr_n (Or.inr (by decide))).trans zwr_e)
    · rw [e5]; exact (zwr_n (Or.inr (by decide))).trans zwr_e
    · rw [e6]; exact zwr_e
    · have i7 : i ≠ Int.toNat 7 := by have : Int.toNat 7 = 7 := rfl; omega
      have i6 : i ≠ Int.toNat 6 := by have : Int.toNat 6 = 6 := rfl; omega
      have i5 : i ≠ Int.toNat 5 := by have : Int.toNat 5 = 5 := rfl; omega
      exact (zwr_n (Or.inr i7)).trans ((zwr_n (Or.inr i6)).trans (zwr_n (Or.inr i5)))
    · exact (zwr_n (Or.inl (by decide))).trans ((zwr_n (Or.inl (by decide))).trans (zwr_n (Or.inl (by decide))))
    · exact (zwr_n (Or.inl (by decide))).trans ((zwr_n (Or.inl (by decide))).trans (zwr_n (Or.inl (by decide))))
    · exact (zwr_n (Or.inl (by decide))).trans ((zwr_n (Or.inl (by decide))).trans (zwr_n (Or.inl (by decide))))
  obtain ⟨t2, y1, y2, y3⟩ := kc_burn (hC.fro fW) hR (a1 := 1 + v) (by omega) (by omega)
  refine ⟨t2, _, _, _, ?_, y2, qbrn_row hR (by omega) (by omega), y3.law hLW, ?_, ?_⟩
  · have x6 : W1.1 403 (Int.toNat 6) = r 165 := (zwr_n (Or.inr (by decide))).trans hL1.1.2.2.2.2.2.2.1
    have x7 : W2.1 403 (Int.toNat 7) = r 166 := (zwr_n (Or.inr (by decide))).trans ((zwr_n (Or.inr (by decide))).trans hL1.1.2.2.2.2.2.2.2)
    have p0 := qlamp_r (p := 0) hR
    have p1 := qlamp_r (p := 1) hR
    have p872 : ∀ z, z = qleak r → fL_act_p872 W2 7 (r 166) (1 + v) z (1 + v) ((1 + v) * qdrawn r) = some (1, t2) := by
      intro z hz
      subst hz
      unfold fL_act_p872
      rw [zck_t (by omega), zlet_e]
      show zbe (fX7_burn W3 (1 + v)) _ = _
      rw [y1, zbe_s, if_pos rfl, qck_1]
    unfold fL_act
    rw [zck_t (by omega), hL.1.1, eb, zbd_s, ilt (by omega) (by omega), if_neg (by omega), ilt (by omega) (by omega), if_neg (by omega), ilt (by omega) (by omega), if_neg (by omega), ieq (by omega) (by omega), if_neg (by omega), ieq (by omega) (by omega), if_neg (by omega), ieq (by omega) (by omega), if_pos ha, c1, zbd_s, ev, zbd_s, zlet_e, l_burn1 hR hL1 c2, zbd_s, zlet_e, l_lamp hR hL1 c2 (Or.inl rfl), zbd_s, l_lamp hR hL1 c2 (Or.inr rfl), zbd_s, zck_t (by omega), zck_t (by omega), hL1.1.2.2.2.2.2.1, zlet_e, zck_t (by omega), zck_t (by omega)]
    show zlet (zwr W1 403 (Int.toNat 6) (W1.1 403 (Int.toNat 6) + (1 + v) * qdrawn r)) _ = _
    rw [x6, zlet_e, zck_t (by omega)]
    show (if i32 (qlamp r 0) < i32 (qlamp r 1) then fL_act_p872 W2 7 (W2.1 403 (Int.toNat 7)) _ _ _ _ else fL_act_p872 W2 7 (W2.1 403 (Int.toNat 7)) _ _ _ _) = _
    rw [x7, ilt (by omega) (by omega)]
    by_cases q : qlamp r 0 < qlamp r 1
    · rw [if_pos q]; exact p872 _ (by unfold qleak; rw [if_pos q])
    · rw [if_neg q]; exact p872 _ (by unfold qleak; rw [if_neg q])
  · rw [qbrn_same 134 (by omega) (by omega)]; exact h5
  · rw [e4]; omega
end PACT3
