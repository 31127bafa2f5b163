section PACT1
variable {g g' g1 g2 : zSt} {b t x w k p u j i lo hi v M y N box cr ra rb a8 a9 a10 a11 a12 a13 a14 : Int} {r r' re : Int → Int} {R : Nat → Int → Int} {n : Nat}
/-- between two calls: class and law hold one row -/
def qMn (g : zSt) (n : Nat) (R : Nat → Int → Int) (r : Int → Int) (i : Int) : Prop := qCs g n R r ∧ qRow 8 r ∧ qLw g 400 401 402 403 r ∧ r 134 ≤ 5 ∧ r 164 ≤ 1000 * i
theorem qdi_main : qdi 400 401 402 403 404 405 406 := by unfold qdi; decide
theorem l_setM (hR : qRow 8 re) (hL : qLw g 400 401 402 403 re) (hC : qCs g n R r) : ∃ g', fL_settle g 400 401 402 403 404 405 406 = some ((qset 24 re 0).2, g') ∧ qLw g' 400 401 402 403 (qset 24 re 0).1 ∧ qLi g' 404 (qset 24 re 0).1 ((qset 24 re 0).1 0) ∧ qCs g' n R r ∧ qRow 8 (qset 24 re 0).1 := by
  obtain ⟨g', u1, u2, u3, u4, u5⟩ := l_settle qdi_main hR hL
  have e0 : (qset 24 re 0).1 0 = re 0 := qset_o (Or.inl rfl) 24 _ 0 hR
  exact ⟨g', u1, u2, by rw [e0]; exact u3, hC.fro (u5.wk (fun q z => by omega)), qset_row 24 _ 0 hR⟩
theorem qfc.law (f : qfc g g') (hL : qLw g 400 401 402 403 r) : qLw g' 400 401 402 403 r := by
  unfold qLw
  simp only [f.1 400 _ (Or.inl (by decide)), f.1 401 _ (Or.inl (by decide)), f.1 402 _ (Or.inl (by decide)), f.1 403 _ (Or.inl (by decide))]
  exact hL
/-- the end of an action: the law has settled the new row, the class has come to it -/
theorem qMn.fin {n' : Nat} {R' : Nat → Int → Int} (hR : qRow 8 re) (hL : qLw g1 400 401 402 403 (qset 24 re 0).1) (hC : qCs g2 n' R' (qset 24 re 0).1) (f : qfc g1 g2) (h5 : re 134 ≤ 5) (hh : re 164 ≤ 1000 * i) : qMn g2 n' R' (qset 24 re 0).1 i :=
  ⟨hC, qset_row 24 _ 0 hR, f.law hL, by rw [qset_o (Or.inr (by omega)) 24 _ 0 hR]; exact h5, by rw [qset_o (Or.inr (by omega)) 24 _ 0 hR]; exact hh⟩
theorem qLw.addB (hR : qRow 8 r) (hL : qLw g 400 401 402 403 r) (hn : r 0 < 7) (hb : 0 ≤ box ∧ box < r 0) (o : ∀ i : Nat, (i : Int) < 8 * r 0 → g'.1 400 i = g.1 400 i) (e0 : g'.1 400 (Int.toNat (8 * r 0)) = box) (e1 : g'.1 400 (Int.toNat (8 * r 0 + 1)) = cr) (e2 : g'.1 400 (Int.toNat (8 * r 0 + 2)) = 1) (e3 : g'.1 400 (Int.toNat (8 * r 0 + 3)) = ra) (e4 : g'.1 400 (Int.toNat (8 * r 0 + 4)) = rb) (e5 : g'.1 400 (Int.toNat (8 * r 0 + 5)) = 0) (e6 : g'.1 400 (Int.toNat (8 * r 0 + 6)) = 0) (e7 : g'.1 400 (Int.toNat (8 * r 0 + 7)) = qdep r box + 1) (d0 : g'.1 403 (Int.toNat 0) = r 0 + 1) (d : ∀ i : Nat, i ≠ 0 → g'.1 403 i = g.1 403 i) (l : ∀ i, g'.1 401 i = g.1 401 i) (f : ∀ i, g'.1 402 i = g.1 402 i) : qLw g' 400 401 402 403 (qnB r box ra rb cr) := by
  have h0 := hR.1
  have h1 := hR.2.1
  have h2 := hR.2.2.1
  have h7 := hL.2.1
  have A := qnB_A (r := r) (p1 := box) (p2 := ra) (p3 := rb) (p4 := cr) (by omega)
  have A0 : qnB r box ra rb cr 0 = r 0 + 1 := qnB_0
  have hB := qnB_B (r := r) (p1 := box) (p2 := ra) (p3 := rb) (p4 := cr) (by omega)
  have cg : ∀ b w, 0 ≤ b → b < r 0 → 0 ≤ w → w < 7 → qB (qnB r box ra rb cr) b w = qB r b w := fun b w b0 b1 w0 w1 => A _ (by omega) (by omega)
  have dp : ∀ b, b < r 0 → qdep (qnB r box ra rb cr) b = qdep r b := fun b b1 => qdep_g (n := r 0) (fun c c0 c1 => cg c 0 (by omega) c1 (by omega) (by omega)) b.toNat b (Nat.le_refl _) b1
  refine ⟨⟨d0.trans A0.symm, ?_, ?_, ?_, ?_, ?_, ?_, ?_⟩, ?_, ?_, ?_, ?_, ?_⟩
  · rw [d _ (by decide), A 85 (by omega) (by omega)]; exact hL.1.2.1
  · rw [d _ (by decide), A 134 (by omega) (by omega)]; exact hL.1.2.2.1
  · rw [d _ (by decide), A 162 (by omega) (by omega)]; exact hL.1.2.2.2.1
  · rw [d _ (by decide), A 163 (by omega) (by omega)]; exact hL.1.2.2.2.2.1
  · rw [d _ (by decide), A 164 (by omega) (by omega)]; exact hL.1.2.2.2.2.2.1
  · rw [d _ (by decide), A 165 (by omega) (by omega)]; exact hL.1.2.2.2.2.2.2.1
  · rw [d _ (by decide), A 166 (by omega) (by omega)]; exact hL.1.2.2.2.2.2.2.2
  · rw [A0, A 85 (by omega) (by omega), A 134 (by omega) (by omega)]; omega
  · intro b w b0 b1 w0 w1
    rw [A0] at b1
    by_cases q : b = r 0
    · subst q
      rcases (show w = 0 ∨ w = 1 ∨ w = 2 ∨ w = 3 ∨ w = 4 ∨ w = 5 ∨ w = 6 by omega) with q | q | q | q | q | q | q
      · subst q; rw [Int.add_zero, e0, hB.1]
      · subst q; rw [e1, hB.2.1]
      · subst q; rw [e2, hB.2.2.1]
      · subst q; rw [e3, hB.2.2.2.1]
      · subst q; rw [e4, hB.2.2.2.2.1]
      · subst q; rw [e5, hB.2.2.2.2.2.1]
      · subst q; rw [e6, hB.2.2.2.2.2.2]
    · rw [o _ (by omega), cg b w (by omega) (by omega) w0 w1]
      exact hL.2.2.1 b w b0 (by omega) w0 w1
  · intro b b0 b1
    rw [A0] at b1
    by_cases q : b = r 0
    · have ed : qdep (qnB r box ra rb cr) (r 0) = qdep r box + 1 := by rw [qdep_s (r := qnB r box ra rb cr) (b := r 0) (by rw [hB.1]; omega), hB.1, dp _ hb.2]
      rw [q, e7, ed]
    · rw [o _ (by omega), dp _ (by omega)]
      exact hL.2.2.2.1 b b0 (by omega)
  · intro k w k0 k1 w0 w1
    rw [A 85 (by omega) (by omega)] at k1
    rw [l]
    exact (hL.2.2.2.2.1 k w k0 k1 w0 w1).trans (A _ (by omega) (by omega)).symm
  · intro k w k0 k1 w0 w1
    rw [A 134 (by omega) (by omega)] at k1
    rw [f]
    exact (hL.2.2.2.2.2 k w k0 k1 w0 w1).trans (A _ (by omega) (by omega)).symm
theorem l_a132 (h : qMn g n R r i) (hn : r 0 < 7) (hb : 0 ≤ box ∧ box < r 0) (hcr : cr = 0 ∨ cr = 1) (hra : 1 ≤ ra ∧ ra ≤ 60) (hN : 0 < N ∧ N ≤ 60) (e0 : g.1 400 (Int.toNat (8 * r 0)) = box) (e1 : g.1 400 (Int.toNat (8 * r 0 + 1)) = cr) (e2 : g.1 400 (Int.toNat (8 * r 0 + 2)) = 1) (e3 : g.1 400 (Int.toNat (8 * r 0 + 3)) = ra) : ∃ g' n' R' r', fL_act_p132 g (8 * r 0 + 4) 1 y N box (8 * r 0) = some (1, g') ∧ qMn g' n' R' r' i := by
  obtain ⟨hC, hR, hL, h5, hh⟩ := h
  have h0 := hR.1
  have hcr0 := q01 hcr
  obtain ⟨v, ev, v0, v1⟩ := l_at g y (n := N) (by omega)
  let W1 := zwr g 400 (Int.toNat (8 * r 0 + 4)) (1 + v)
  let W2 := zwr W1 400 (Int.toNat (8 * r 0 + 5)) 0
  let W3 := zwr W2 400 (Int.toNat (8 * r 0 + 6)) 0
  let W4 := zwr W3 400 (Int.toNat (8 * r 0 + 7)) (qdep r box + 1)
  let W5 := zwr W4 403 (Int.toNat 0) (r 0 + 1)
  have z7 : W3.1 400 (Int.toNat (8 * box + 7)) = qdep r box := ((zwr_n (Or.inr (by omega))).trans ((zwr_n (Or.inr (by omega))).trans (zwr_n (Or.inr (by omega))))).trans (hL.b7 hb)
  have z0 : W4.1 403 (Int.toNat 0) = r 0 := ((zwr_n (Or.inl (by decide))).trans ((zwr_n (Or.inl (by decide))).trans ((zwr_n (Or.inl (by decide))).trans (zwr_n (Or.inl (by decide)))))).trans hL.1.1
  have fW : qfr (fun q => 400 ≤ q) g W5 := qfr.tr (P := fun q => 400 ≤ q) (qfr.tr (P := fun q => 400 ≤ q) (qfr.tr (P := fun q => 400 ≤ q) (qfr.tr (P := fun q => 400 ≤ q) (qfr.wr (by decide)) (qfr.wr (by decide))) (qfr.wr (by decide))) (qfr.wr (by decide))) (qfr.wr (by decide))
  have o5 : ∀ k, W5.1 400 k = W4.1 400 k := fun k => zwr_n (Or.inl (by decide))
  have rd : ∀ w, w ≠ 4 → w ≠ 5 → w ≠ 6 → w ≠ 7 → 0 ≤ 8 * r 0 + w → W5.1 400 (Int.toNat (8 * r 0 + w)) = g.1 400 (Int.toNat (8 * r 0 + w)) := fun w a b c d e => (o5 _).trans ((zwr_n (Or.inr (by omega))).trans ((zwr_n (Or.inr (by omega))).trans ((zwr_n (Or.inr (by omega))).trans (zwr_n (Or.inr (by omega))))))
  have hLW : qLw W5 400 401 402 403 (qnB r box ra (1 + v) cr) := by
    refine qLw.addB hR hL hn hb (fun i hi => ?_) ?_ ?_ ?_ ?_ ?_ ?_ ?_ ?_ zwr_e (fun i hi => ?_) (fun i => ?_) (fun i => ?_)
    · exact (o5 _).trans ((zwr_n (Or.inr (by omega))).trans ((zwr_n (Or.inr (by omega))).trans ((zwr_n (Or.inr (by omega))).trans (zwr_n (Or.inr (by omega))))))
    · have := rd 0 (by omega) (by omega) (by omega) (by omega) (by omega)
      rw [Int.add_zero] at this
      rw [this, e0]
    · rw [rd 1 (by omega) (by omega) (by omega) (by omega) (by omega), e1]
    · rw [rd 2 (by omega) (by omega) (by omega) (by omega) (by omega), e2]
    · rw [rd 3 (by omega) (by omega) (by omega) (by omega) (by omega), e3]
    · exact (o5 _).trans ((zwr_n (Or.inr (by omega))).trans ((zwr_n (Or.inr (by omega))).trans ((zwr_n (Or.inr (by omega))).trans zwr_e)))
    · exact (o5 _).trans ((zwr_n (Or.inr (by omega))).trans ((zwr_n (Or.inr (by omega))).trans zwr_e))
    · exact (o5 _).trans ((zwr_n (Or.inr (by omega))).trans zwr_e)
    · exact (o5 _).trans zwr_e
    · exact (zwr_n (Or.inr hi)).trans ((zwr_n (Or.inl (by decide))).trans ((zwr_n (Or.inl (by decide))).trans ((zwr_n (Or.inl (by decide))).trans (zwr_n (Or.inl (by decide))))))
    · exact (zwr_n (Or.inl (by decide))).trans ((zwr_n (Or.inl (by decide))).trans ((zwr_n (Or.inl (by decide))).trans ((zwr_n (Or.inl (by decide))).trans (zwr_n (Or.inl (by decide))))))
    · exact (zwr_n (Or.inl (by decide))).trans ((zwr_n (Or.inl (by decide))).trans ((zwr_n (Or.inl (by decide))).trans ((zwr_n (Or.inl (by decide))).trans (zwr_n (Or.inl (by decide))))))
  have hRe := qnB_row hR (by omega) hb hra (p3 := 1 + v) (by omega) hcr
  obtain ⟨g1, u1, u2, u3, u4, u5⟩ := l_setM hRe hLW (hC.fro fW)
  obtain ⟨g2, k1, k2, k3⟩ := kc_addBox u4 hR (by omega) hb hra (a3 := 1 + v) (by omega) hcr
  have A := qnB_A (r := r) (p1 := box) (p2 := ra) (p3 := 1 + v) (p4 := cr) (by omega)
  have hB := qnB_B (r := r) (p1 := box) (p2 := ra) (p3 := 1 + v) (p4 := cr) (by omega)
  have s0 : (qset 24 (qnB r box ra (1 + v) cr) 0).1 0 = r 0 + 1 := (qset_o (Or.inl rfl) 24 _ 0 hRe).trans qnB_0
  have sB : ∀ w, 0 ≤ w → w < 5 → g1.1 400 (Int.toNat (8 * r 0 + w)) = qB (qnB r box ra (1 + v) cr) (r 0) w := fun w w0 w1 => (u2.bw (b := r 0) (by omega) w (by omega)).trans (qset_B (by omega) (by omega) 24 _ 0 hRe)
  refine ⟨g2, _, _, _, ?_, qMn.fin hRe u2 k2 k3 (by rw [A 134 (by omega) (by omega)]; exact h5) (by rw [A 164 (by omega) (by omega)]; exact hh)⟩
  have p234 : ∀ z, z = cr → fL_act_p234 g1 box ra (1 + v) z = some (1, g2) := by
    intro z hz
    subst hz
    unfold fL_act_p234
    rw [k1, zbe_s, zck_t (by omega), k3.1 _ _ (Or.inl (by decide)), u2.1.1, s0, show r 0 + 1 - 1 = r 0 by omega, if_pos rfl, qck_1]
  unfold fL_act_p132
  rw [ev, zbd_s, zck_t (by omega), zlet_e, zck_t (by omega), zlet_e, zck_t (by omega), zlet_e, zck_t (by omega), zck_t (by omega)]
  show zlet (zwr W3 400 (Int.toNat (8 * r 0 + 7)) (W3.1 400 (Int.toNat (8 * box + 7)) + 1)) _ = _
  rw [z7, zlet_e, zck_t (by omega), zck_t (by omega)]
  show zlet (zwr W4 403 (Int.toNat 0) (W4.1 403 (Int.toNat 0) + 1)) _ = _
  rw [z0, zlet_e]
  show zbe (fL_settle W5 400 401 402 403 404 405 406) _ = _
  rw [u1, zbe_s, zck_t (by omega), zck_t (by omega), zck_t (by omega), sB 1 (by omega) (by omega), sB 3 (by omega) (by omega), sB 4 (by omega) (by omega), hB.2.1, hB.2.2.2.1, hB.2.2.2.2.1, ieq (by omega) (by omega)]
  rcases hcr with q | q
  · rw [if_neg (by omega)]; exact p234 0 q.symm
  · rw [if_pos q]; exact p234 1 q.symm
/-- a write beyond the boxes leaves the law's ship -/
theorem qMn.wr (h : qMn g n R r i) {q : Int} (hq : 8 * r 0 ≤ q) : qMn (zwr g 400 (Int.toNat q) v) n R r i := by
  obtain ⟨hC, hR, hL, h5, hh⟩ := h
  have h0 := hR.1
  refine ⟨hC.fro (qfr.wr (by decide)), hR, ?_, h5, hh⟩
  refine ⟨?_, hL.2.1, ?_, ?_, ?_, ?_⟩
  · simp only [zwr_n (g := g) (c := 400) (k := Int.toNat q) (v := v) (c' := 403) (Or.inl (by decide))]
    exact hL.1
  · intro b w b0 b1 w0 w1
    rw [zwr_n (Or.inr (by omega))]
    exact hL.2.2.1 b w b0 b1 w0 w1
  · intro b b0 b1
    rw [zwr_n (Or.inr (by omega))]
    exact hL.2.2.2.1 b b0 b1
  · intro k w k0 k1 w0 w1
    rw [zwr_n (Or.inl (by decide))]
    exact hL.2.2.2.2.1 k w k0 k1 w0 w1
  · intro k w k0 k1 w0 w1
    rw [zwr_n (Or.inl (by decide))]
    exact hL.2.2.2.2.2 k w k0 k1 w0 w1
theorem l_a98 (h : qMn g n R r i) (hn : r 0 < 7) (hb : 0 ≤ box ∧ box < r 0) (hcr : cr = 0 ∨ cr = 1) (hN : 0 < N ∧ N ≤ 60) (e0 : g.1 400 (Int.toNat (8 * r 0)) = box) (e1 : g.1 400 (Int.toNat (8 * r 0 + 1)) = cr) (e2 : g.1 400 (Int.toNat (8 * r 0 + 2)) = 1) {a2 a3 : Int} : ∃ g' n' R' r', fL_act_p98 g (8 * r 0 + 3) 1 y N a2 a3 box (8 * r 0) = some (1, g') ∧ qMn g' n' R' r' i := by
  have h0 := h.2.1.1
  obtain ⟨v, ev, v0, v1⟩ := l_at g y (n := N) (by omega)
  obtain ⟨v2, ev2, v20, v21⟩ := l_at (zwr g 400 (Int.toNat (8 * r 0 + 3)) (1 + v)) (zsr a2 6) (n := 3) (by omega)
  have h1 : qMn (zwr g 400 (Int.toNat (8 * r 0 + 3)) (1 + v)) n R r i := h.wr (by omega)
  have q0 : (zwr g 400 (Int.toNat (8 * r 0 + 3)) (1 + v)).1 400 (Int.toNat (8 * r 0)) = box := (zwr_n (Or.inr (by omega))).trans e0
  have q1 : (zwr g 400 (Int.toNat (8 * r 0 + 3)) (1 + v)).1 400 (Int.toNat (8 * r 0 + 1)) = cr := (zwr_n (Or.inr (by omega))).trans e1
  have q2 : (zwr g 400 (Int.toNat (8 * r 0 + 3)) (1 + v)).1 400 (Int.toNat (8 * r 0 + 2)) = 1 := (zwr_n (Or.inr (by omega))).trans e2
  unfold fL_act_p98
  rw [ev, zbd_s, zck_t (by omega), zlet_e, ev2, zbd_s, ieq (by omega) (by omega)]
  by_cases q : v2 = 0
  · rw [if_pos q]
    exact l_a132 h1 hn hb hcr (ra := 1 + v) (by omega) (by omega) q0 q1 q2 zwr_e
  · rw [if_neg q]
    exact l_a132 h1 hn hb hcr (ra := 1 + v) (by omega) (by omega) q0 q1 q2 zwr_e
theorem l_a63 (h : qMn g n R r i) (hn : r 0 < 7) (hb : 0 ≤ box ∧ box < r 0) (hcr : cr = 0 ∨ cr = 1) (e0 : g.1 400 (Int.toNat (8 * r 0)) = box) {a2 a3 : Int} : ∃ g' n' R' r', fL_act_p63 g (8 * r 0 + 1) cr a2 a3 box (8 * r 0) = some (1, g') ∧ qMn g' n' R' r' i := by
  have h0 := h.2.1.1
  obtain ⟨v2, ev2, v20, v21⟩ := l_at (zwr (zwr g 400 (Int.toNat (8 * r 0 + 1)) cr) 400 (Int.toNat (8 * r 0 + 2)) 1) (zsr a2 6) (n := 3) (by omega)
  have h1 : qMn (zwr (zwr g 400 (Int.toNat (8 * r 0 + 1)) cr) 400 (Int.toNat (8 * r 0 + 2)) 1) n R r i := qMn.wr (h.wr (by omega)) (by omega)
  have q0 : (zwr (zwr g 400 (Int.toNat (8 * r 0 + 1)) cr) 400 (Int.toNat (8 * r 0 + 2)) 1).1 400 (Int.toNat (8 * r 0)) = box := (zwr_n (Or.inr (by omega))).trans ((zwr_n (Or.inr (by omega))).trans e0)
  have q1 : (zwr (zwr g 400 (Int.toNat (8 * r 0 + 1)) cr) 400 (Int.toNat (8 * r 0 + 2)) 1).1 400 (Int.toNat (8 * r 0 + 1)) = cr := (zwr_n (Or.inr (by omega))).trans zwr_e
  unfold fL_act_p63
  rw [zck_t (by omega), zlet_e, zck_t (by omega), zlet_e, ev2, zbd_s, ieq (by omega) (by omega)]
  by_cases q : v2 = 0
  · rw [if_pos q]
    exact l_a98 h1 hn hb hcr (by omega) q0 q1 zwr_e
  · rw [if_neg q]
    exact l_a98 h1 hn hb hcr (by omega) q0 q1 zwr_e
end PACT1
