section PACT4
variable {g g' g1 g2 : zSt} {a b t x w k p u j i lo hi v M y N box cr ra rb a1 a2 a3 a8 a9 a10 a11 a12 a13 a14 p1 p2 p3 nn : Int} {r r' re : Int → Int} {R : Nat → Int → Int} {n : Nat}
theorem qLw.edB {c0 c1 c2 c3 : Nat} (hR : qRow 8 r) (hL : qLw g c0 c1 c2 c3 r) (hb : 0 < b ∧ b < r 0) (hA : ∀ j, 0 ≤ j → (j < 1 + 7 * b ∨ 8 + 7 * b ≤ j) → j ≠ 162 → r' j = r j) (hz : qB r' b 0 = qB r b 0) (o : ∀ i : Nat, ((i : Int) < 8 * b ∨ 8 * b + 7 ≤ i) → g'.1 c0 i = g.1 c0 i) (e : ∀ w, 0 ≤ w → w < 7 → g'.1 c0 (Int.toNat (8 * b + w)) = qB r' b w) (d3 : g'.1 c3 (Int.toNat 3) = r' 162) (d : ∀ i : Nat, i ≠ 3 → g'.1 c3 i = g.1 c3 i) (l : ∀ i, g'.1 c1 i = g.1 c1 i) (f : ∀ i, g'.1 c2 i = g.1 c2 i) : qLw g' c0 c1 c2 c3 r' := by
  have h0 := hR.1
  have h1 := hR.2.1
  have h2 := hR.2.2.1
  have h7 := hL.2.1
  have dp : ∀ x, x < r 0 → qdep r' x = qdep r x := fun x x1 => qdep_g (r := r) (r' := r') (n := r 0) (fun c c0 c1 => by
    by_cases q : c = b
    · rw [q]; exact hz
    · exact hA _ (by omega) (by omega) (by omega)) x.toNat x (Nat.le_refl _) x1
  refine ⟨⟨?_, ?_, ?_, d3, ?_, ?_, ?_, ?_⟩, ?_, ?_, ?_, ?_, ?_⟩
  · rw [d _ (by decide), hA 0 (by omega) (by omega) (by omega)]; exact hL.1.1
  · rw [d _ (by decide), hA 85 (by omega) (by omega) (by omega)]; exact hL.1.2.1
  · rw [d _ (by decide), hA 134 (by omega) (by omega) (by omega)]; exact hL.1.2.2.1
  · rw [d _ (by decide), hA 163 (by omega) (by omega) (by omega)]; exact hL.1.2.2.2.2.1
  · rw [d _ (by decide), hA 164 (by omega) (by omega) (by omega)]; exact hL.1.2.2.2.2.2.1
  · rw [d _ (by decide), hA 165 (by omega) (by omega) (by omega)]; exact hL.1.2.2.2.2.2.2.1
  · rw [d _ (by decide), hA 166 (by omega) (by omega) (by omega)]; exact hL.1.2.2.2.2.2.2.2
  · rw [hA 0 (by omega) (by omega) (by omega), hA 85 (by omega) (by omega) (by omega), hA 134 (by omega) (by omega) (by omega)]; exact h7
  · intro x w b0 b1 w0 w1
    rw [hA 0 (by omega) (by omega) (by omega)] at b1
    by_cases q : x = b
    · rw [q]; exact e w w0 w1
    · rw [o _ (by omega)]
      exact (hL.2.2.1 x w b0 b1 w0 w1).trans (hA _ (by omega) (by omega) (by omega)).symm
  · intro x b0 b1
    rw [hA 0 (by omega) (by omega) (by omega)] at b1
    rw [o _ (by omega), dp x b1]
    exact hL.2.2.2.1 x b0 b1
  · intro k w k0 k1 w0 w1
    rw [hA 85 (by omega) (by omega) (by omega)] at k1
    rw [l]
    exact (hL.2.2.2.2.1 k w k0 k1 w0 w1).trans (hA _ (by omega) (by omega) (by omega)).symm
  · intro k w k0 k1 w0 w1
    rw [hA 134 (by omega) (by omega) (by omega)] at k1
    rw [f]
    exact (hL.2.2.2.2.2 k w k0 k1 w0 w1).trans (hA _ (by omega) (by omega) (by omega)).symm
theorem qLw.turn {c0 c1 c2 c3 : Nat} (hR : qRow 8 r) (hL : qLw g c0 c1 c2 c3 r) (hd : c0 ≠ c1 ∧ c0 ≠ c2 ∧ c0 ≠ c3) (hb : 0 < b ∧ b < r 0) (hw : w = 1 ∨ w = 2) : qLw (zwr g c0 (Int.toNat (8 * b + w)) (1 - qB r b w)) c0 c1 c2 c3 (qtn r b w) := by
  have hw0 : 1 ≤ w ∧ w ≤ 2 := by omega
  refine qLw.edB hR hL hb (qtn_A hb.1 hw) (qtn_n hb.1 hw (by omega) (by omega)) (fun i hi => zwr_n (Or.inr (by omega))) (fun x x0 x1 => ?_) ?_ (fun i hi => zwr_n (Or.inl (fun q => hd.2.2 q.symm))) (fun i => zwr_n (Or.inl (fun q => hd.1 q.symm))) (fun i => zwr_n (Or.inl (fun q => hd.2.1 q.symm)))
  · by_cases q : x = w
    · rw [q, zwr_e, qtn_e hb.1 hw]
    · rw [zwr_n (Or.inr (by omega)), qtn_n hb.1 hw ⟨x0, x1⟩ q]
      exact hL.2.2.1 b x hb.1 hb.2 x0 x1
  · rw [zwr_n (Or.inl (fun q => hd.2.2 q.symm))]
    have h0 := hR.1
    exact hL.1.2.2.2.1.trans (qput_n (by omega)).symm
theorem l_a922 (h : qMn g n R r i) (hb : 0 < box ∧ box < r 0) (ha : (a1 = 12 ∧ w = 2) ∨ (a1 = 13 ∧ w = 1)) : ∃ g' n' R' r', fL_act_p922 g w a1 box = some (1, g') ∧ qMn g' n' R' r' i := by
  obtain ⟨hC, hR, hL, h5, hh⟩ := h
  have h0 := hR.1
  have h7 := hL.2.1
  have hw : w = 1 ∨ w = 2 := by omega
  have hw0 : 1 ≤ w ∧ w ≤ 2 := by omega
  have hLW := qLw.turn hR hL ⟨by decide, by decide, by decide⟩ hb hw
  have hRe := qtn_row hR hb hw
  have fW : qfr (fun q => 400 ≤ q) g (zwr g 400 (Int.toNat (8 * box + w)) (1 - qB r box w)) := qfr.wr (by decide)
  obtain ⟨s1, x1, x2, x3, x4, x5⟩ := l_setM hRe hLW (hC.fro fW)
  have A := qtn_A (r := r) hb.1 hw
  have e0 : (qset 24 (qtn r box w) 0).1 0 = r 0 := (qset_o (Or.inl rfl) 24 _ 0 hRe).trans (A 0 (by omega) (by omega) (by omega))
  have f5 : qtn r box w 134 ≤ 5 := by rw [A 134 (by omega) (by omega) (by omega)]; exact h5
  have fh : qtn r box w 164 ≤ 1000 * i := by rw [A 164 (by omega) (by omega) (by omega)]; exact hh
  unfold fL_act_p922
  rw [zck_t (by omega), zck_t (by omega), hL.bw hb w (by omega), zlet_e, x1, zbe_s]
  rcases ha with ⟨q, q2⟩ | ⟨q, q2⟩
  · subst q q2
    obtain ⟨s2, k1, k2, k3⟩ := kc_toggle x4 hR hb
    refine ⟨s2, _, _, _, ?_, qMn.fin hRe x2 k2 k3 f5 fh⟩
    have e1 : s2.1 400 (Int.toNat (8 * box + 2)) = 1 - qB r box 2 := ((k3.1 _ _ (Or.inl (by decide))).trans (x2.bw (b := box) (by omega) 2 (by omega))).trans ((qset_B (by omega) (by omega) 24 _ 0 hRe).trans (qtn_e hb.1 hw))
    rw [if_pos rfl, k1, zbe_s, zck_t (by omega), e1, if_pos rfl, qck_1]
  · subst q q2
    obtain ⟨s2, k1, k2, k3⟩ := kc_cross x4 hR hb
    refine ⟨s2, _, _, _, ?_, qMn.fin hRe x2 k2 k3 f5 fh⟩
    have hL2 : qLw s2 400 401 402 403 (qset 24 (qtn r box 1) 0).1 := k3.law x2
    have hI2 : qLi s2 404 (qset 24 (qtn r box 1) 0).1 ((qset 24 (qtn r box 1) 0).1 0) := fun x t x0 x1 ht => (k3.1 _ _ (Or.inl (by decide))).trans (x3 x t x0 x1 ht)
    rw [if_neg (show ¬ i32 13 = i32 12 by decide), k1, zbe_s, l_burn0 x5 hL2 hI2, zbd_s, if_pos rfl, qck_1]
theorem l_act14 (h : qMn g n R r i) (ha : 12 ≤ a1 ∧ a1 < 16) : ∃ g' n' R' r', fL_act g a1 a2 a3 = some (1, g') ∧ qMn g' n' R' r' i := by
  have h' := h
  obtain ⟨hC, hR, hL, h5, hh⟩ := h
  have h0 := hR.1
  have h7 := hL.2.1
  have h6 := hR.2.2.2.2.2.2.1
  obtain ⟨box, eb, b0, b1⟩ := l_at g a2 (n := r 0) (by omega)
  unfold fL_act
  rw [zck_t (by omega), hL.1.1, eb, zbd_s, ilt (by omega) (by omega), if_neg (by omega), ilt (by omega) (by omega), if_neg (by omega), ilt (by omega) (by omega), if_neg (by omega), ieq (a := a1) (by omega) (by omega), if_neg (by omega), ieq (a := a1) (by omega) (by omega), if_neg (by omega), ieq (a := a1) (by omega) (by omega), if_neg (by omega), ieq (a := box) (by omega) (by omega)]
  by_cases q0 : box = 0
  · rw [if_pos q0, qck_1]
    exact ⟨g, n, R, r, rfl, h'⟩
  · have hb : 0 < box ∧ box < r 0 := by omega
    rw [if_neg q0, ieq (a := a1) (by omega) (by omega), ieq (a := a1) (by omega) (by omega)]
    by_cases q12 : a1 = 12
    · rw [if_pos q12, if_pos q12]
      exact l_a922 h' hb (Or.inl ⟨q12, rfl⟩)
    · rw [if_neg q12, ieq (a := a1) (by omega) (by omega)]
      by_cases q13 : a1 = 13
      · rw [if_pos q13, if_neg q12]
        exact l_a922 h' hb (Or.inr ⟨q13, rfl⟩)
      · rw [if_neg q13, zck_t (by omega), hL.1.2.2.2.1, ieq (by omega) (by omega)]
        by_cases qs : r 162 = 0
        · rw [if_pos qs]
          have fW : qfr (fun q => 400 ≤ q) g (zwr g 403 (Int.toNat 3) (r 162 + 3)) := qfr.wr (by decide)
          obtain ⟨s2, k1, k2, k3, k4⟩ := kc_buy (hC.fro fW) hR (a1 := 3) (by omega) (by omega)
          have o : ∀ j, j ≠ 162 → 0 ≤ j → qput r 162 (r 162 + 3) j = r j := fun j hj j0 => qput_n (by omega)
          have hLW : qLw (zwr g 403 (Int.toNat 3) (r 162 + 3)) 400 401 402 403 (qput r 162 (r 162 + 3)) := by
            refine qLw.cnt hR hL (qsame_put (by omega)) ⟨?_, ?_, ?_, ?_, ?_⟩ (fun i hi => ?_) (fun i => zwr_n (Or.inl (by decide))) (fun i => zwr_n (Or.inl (by decide))) (fun i => zwr_n (Or.inl (by decide)))
            · rw [zwr_e, qput_e rfl]
            · rw [zwr_n (Or.inr (by decide)), o 163 (by omega) (by omega)]; exact hL.1.2.2.2.2.1
            · rw [zwr_n (Or.inr (by decide)), o 164 (by omega) (by omega)]; exact hL.1.2.2.2.2.2.1
            · rw [zwr_n (Or.inr (by decide)), o 165 (by omega) (by omega)]; exact hL.1.2.2.2.2.2.2.1
            · rw [zwr_n (Or.inr (by decide)), o 166 (by omega) (by omega)]; exact hL.1.2.2.2.2.2.2.2
            · have i3 : i ≠ Int.toNat 3 := by have : Int.toNat 3 = 3 := rfl; omega
              exact zwr_n (Or.inr i3)
          refine ⟨s2, _, _, _, ?_, k2, k4, k3.law hLW, by rw [o 134 (by omega) (by omega)]; exact h5, by rw [o 164 (by omega) (by omega)]; exact hh⟩
          rw [zck_t (by omega), zck_t (by omega), zlet_e, k1, zbe_s, zck_t (by omega), (k3.1 403 (Int.toNat 3) (Or.inl (by decide))).trans zwr_e, if_pos rfl, qck_1]
        · rw [if_neg qs]
          obtain ⟨t, et, t0, t1⟩ := l_at g (zsr a2 5) (n := 2) (by omega)
          let W1 := zwr g 403 (Int.toNat 3) (r 162 - 1)
          obtain ⟨v, ev, v0, v1⟩ := l_at W1 a3 (n := 60) (by omega)
          let W2 := zwr W1 400 (Int.toNat (8 * box + 3 + t)) (1 + v)
          let W3 := zwr W2 400 (Int.toNat (8 * box + 5 + t)) 0
          have ht : t = 0 ∨ t = 1 := by omega
          have fW : qfr (fun q => 400 ≤ q) g W3 := qfr.tr (P := fun q => 400 ≤ q) (qfr.tr (P := fun q => 400 ≤ q) (qfr.wr (by decide)) (qfr.wr (by decide))) (qfr.wr (by decide))
          have hb2 : 0 < box ∧ box < 12 := by omega
          have qB' : ∀ w, 0 ≤ w → w < 7 → qB (qrp r box t (1 + v)) box w = if w = 5 + t then 0 else if w = 3 + t then 1 + v else qB r box w := fun w w0 w1 => qrp_B hb2 ht ⟨w0, w1⟩
          have hLW : qLw W3 400 401 402 403 (qrp r box t (1 + v)) := by
            refine qLw.edB hR hL hb (qrp_A hb.1 ht) ?_ (fun i hi => ?_) (fun w w0 w1 => ?_) ?_ (fun i hi => ?_) (fun i => ?_) (fun i => ?_)
            · rw [qB' 0 (by omega) (by omega), if_neg (by omega), if_neg (by omega)]
            · exact (zwr_n (Or.inr (by omega))).trans ((zwr_n (Or.inr (by omega))).trans (zwr_n (Or.inl (by decide))))
            · rw [qB' w w0 w1]
              by_cases q5 : w = 5 + t
              · rw [if_pos q5, q5, ← Int.add_assoc]
                exact zwr_e
              · rw [if_neg q5]
                by_cases q3 : w = 3 + t
                · rw [if_pos q3, q3, ← Int.add_assoc]
                  exact (zwr_n (Or.inr (by omega))).trans zwr_e
                · rw [if_neg q3]
                  exact ((zwr_n (Or.inr (by omega))).trans ((zwr_n (Or.inr (by omega))).trans (zwr_n (Or.inl (by decide))))).trans (hL.2.2.1 box w hb.1 hb.2 w0 w1)
            · rw [qrp_162 hb2 ht]
              exact (zwr_n (Or.inl (by decide))).trans ((zwr_n (Or.inl (by decide))).trans zwr_e)
            · exact (zwr_n (Or.inl (by decide))).trans ((zwr_n (Or.inl (by decide))).trans (zwr_n (Or.inr hi)))
            · exact (zwr_n (Or.inl (by decide))).trans ((zwr_n (Or.inl (by decide))).trans (zwr_n (Or.inl (by decide))))
            · exact (zwr_n (Or.inl (by decide))).trans ((zwr_n (Or.inl (by decide))).trans (zwr_n (Or.inl (by decide))))
          have hRe := qrp_row hR hb ht (v := 1 + v) (by omega) (by omega)
          obtain ⟨s1, x1, x2, x3, x4, x5⟩ := l_setM hRe hLW (hC.fro fW)
          obtain ⟨s2, k1, k2, k3⟩ := kc_replace x4 hR hb ht (a3 := 1 + v) (by omega) (by omega)
          have A := qrp_A (r := r) (v := 1 + v) hb.1 ht
          have e0 : (qset 24 (qrp r box t (1 + v)) 0).1 0 = r 0 := (qset_o (Or.inl rfl) 24 _ 0 hRe).trans (A 0 (by omega) (by omega) (by omega))
          refine ⟨s2, _, _, _, ?_, qMn.fin hRe x2 k2 k3 (by rw [A 134 (by omega) (by omega) (by omega)]; exact h5) (by rw [A 164 (by omega) (by omega) (by omega)]; exact hh)⟩
          have z3 : W3.1 400 (Int.toNat (8 * box + 3 + t)) = 1 + v := (zwr_n (Or.inr (by omega))).trans zwr_e
          have e5 : s2.1 400 (Int.toNat (8 * box + 5 + t)) = qB (qset 24 (qrp r box t (1 + v)) 0).1 box (5 + t) := (k3.1 _ _ (Or.inl (by decide))).trans (x2.bt (b := box) (t := t) (by omega) 5 (by omega))
          rw [et, zbd_s, zck_t (by omega), zck_t (by omega), zlet_e]
          show zbd (fL_at W1 a3 60) _ = _
          rw [ev, zbd_s, zck_t (by omega), zlet_e, zck_t (by omega), zlet_e, zck_t (by omega)]
          show zlet (W3.1 400 (Int.toNat (8 * box + 3 + t))) _ = _
          rw [z3, zlet_e]
          show zbe (fL_settle W3 400 401 402 403 404 405 406) _ = _
          rw [x1, zbe_s, k1, zbe_s, zck_t (by omega), e5, if_pos rfl, qck_1]
theorem l_act (h : qMn g n R r i) (hi : i < 90) (ha : 0 ≤ a1 ∧ a1 < 16) : ∃ g' n' R' r', fL_act g a1 a2 a3 = some (1, g') ∧ qMn g' n' R' r' (i + 1) := by
  by_cases q3 : a1 < 3
  · obtain ⟨g', n', R', r', x1, x2⟩ := l_act0 (a2 := a2) (a3 := a3) h ⟨ha.1, q3⟩
    exact ⟨g', n', R', r', x1, x2.up⟩
  · by_cases q6 : a1 < 6
    · obtain ⟨g', n', R', r', x1, x2⟩ := l_act3 (a2 := a2) (a3 := a3) h ⟨by omega, q6⟩
      exact ⟨g', n', R', r', x1, x2.up⟩
    · by_cases q9 : a1 < 9
      · obtain ⟨g', n', R', r', x1, x2⟩ := l_act6 (a2 := a2) (a3 := a3) h ⟨by omega, q9⟩
        exact ⟨g', n', R', r', x1, x2.up⟩
      · by_cases e9 : a1 = 9
        · obtain ⟨g', n', R', r', x1, x2⟩ := l_act9 (a2 := a2) (a3 := a3) h e9
          exact ⟨g', n', R', r', x1, x2.up⟩
        · by_cases e10 : a1 = 10
          · obtain ⟨g', n', R', r', x1, x2⟩ := l_act10 (a2 := a2) (a3 := a3) h e10
            exact ⟨g', n', R', r', x1, x2.up⟩
          · by_cases e11 : a1 = 11
            · exact l_act11 h hi e11
            · obtain ⟨g', n', R', r', x1, x2⟩ := l_act14 (a1 := a1) (a2 := a2) (a3 := a3) h (by omega)
              exact ⟨g', n', R', r', x1, x2.up⟩
end PACT4
