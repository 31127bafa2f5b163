section PAHEAD1
variable {g g' g1 g2 : zSt} {a b t x w k p u j i lo hi v M y N box cr ra rb a1 a2 a3 a8 a9 a10 a11 a12 a13 a14 a15 a16 p1 p2 p3 nn : Int} {r r' re : Int → Int} {R : Nat → Int → Int} {n : Nat} {k39 : zSt → Int → Int → Int → Option (Int × zSt)}
theorem qdi_ah : qdi 420 401 421 422 423 424 425 := by unfold qdi; decide
def qCy (g : zSt) (k : Nat) : Prop := (∀ j : Nat, j < k → j < 56 → g.1 420 j = g.1 400 j) ∧ (∀ j : Nat, j < k → j < 18 → g.1 421 j = g.1 402 j) ∧ (∀ j : Nat, j < k → j < 9 → g.1 422 j = g.1 403 j)
theorem l_p48 : ∀ (fu : Nat) (g : zSt) (k : Int), 0 ≤ k → k ≤ 56 → (56 - k).toNat < fu → qCy g k.toNat → ∃ g', fL_ahead_p48 k39 fu g a1 a2 a13 k = fL_ahead_p48 k39 (0 + 1) g' a1 a2 a13 56 ∧ qCy g' 56 ∧ qfr (fun q => 420 ≤ q) g g' := by
  intro fu
  induction fu with
  | zero => intro g k _ _ h; omega
  | succ fu ih =>
    intro g k h0 hn hf hC
    by_cases e : k < 56
    · have go : ∀ g1 : zSt, qCy g1 (k + 1).toNat → qfr (fun q => 420 ≤ q) g g1 → fL_ahead_p48 k39 (fu + 1) g a1 a2 a13 k = fL_ahead_p48 k39 fu g1 a1 a2 a13 (k + 1) → ∃ g', fL_ahead_p48 k39 (fu + 1) g a1 a2 a13 k = fL_ahead_p48 k39 (0 + 1) g' a1 a2 a13 56 ∧ qCy g' 56 ∧ qfr (fun q => 420 ≤ q) g g' := by
        intro g1 c1 f1 e1
        obtain ⟨g', t1, t2, t3⟩ := ih g1 (k + 1) (by omega) (by omega) (by omega) c1
        exact ⟨g', e1.trans t1, t2, f1.tr t3⟩
      let W1 := zwr g 420 (Int.toNat k) (g.1 400 (Int.toNat k))
      let W2 := zwr W1 421 (Int.toNat k) (W1.1 402 (Int.toNat k))
      have f1 : qfr (fun q => 420 ≤ q) g W1 := qfr.wr (by decide)
      have f2 : qfr (fun q => 420 ≤ q) W1 W2 := qfr.wr (by decide)
      have c1 : (∀ j : Nat, j < (k + 1).toNat → j < 56 → W1.1 420 j = g.1 400 j) := fun j j0 j1 => by
        by_cases q : j = Int.toNat k
        · rw [q]; exact zwr_e
        · exact (zwr_n (Or.inr q)).trans (hC.1 j (by omega) j1)
      have head : fL_ahead_p48 k39 (fu + 1) g a1 a2 a13 k = if k < 18 then fL_ahead_p81 k39 (fL_ahead_p48 k39 fu) W2 a1 a2 a13 k else fL_ahead_p81 k39 (fL_ahead_p48 k39 fu) W1 a1 a2 a13 k := by
        rw [fL_ahead_p48, ilt (by omega) (by omega), if_pos e, zck_t (by omega), zck_t (by omega), zlet_e, ilt (by omega) (by omega)]
        by_cases q : k < 18
        · rw [if_pos q, if_pos q, zck_t (by omega), zck_t (by omega), zlet_e]
        · rw [if_neg q, if_neg q]
      by_cases q18 : k < 18
      · rw [if_pos q18] at head
        have c2 : (∀ j : Nat, j < (k + 1).toNat → j < 18 → W2.1 421 j = g.1 402 j) := fun j j0 j1 => by
          by_cases q : j = Int.toNat k
          · rw [q]; exact zwr_e.trans (f1.1 _ _ (by decide))
          · exact (zwr_n (Or.inr q)).trans ((zwr_n (Or.inl (by decide))).trans (hC.2.1 j (by omega) j1))
        have c12 : (∀ j : Nat, j < (k + 1).toNat → j < 56 → W2.1 420 j = g.1 400 j) := fun j j0 j1 => (zwr_n (Or.inl (by decide))).trans (c1 j j0 j1)
        by_cases q9 : k < 9
        · let W3 := zwr W2 422 (Int.toNat k) (W2.1 403 (Int.toNat k))
          have f3 : qfr (fun q => 420 ≤ q) W2 W3 := qfr.wr (by decide)
          have f123 := (f1.tr f2).tr f3
          refine go W3 ⟨fun j j0 j1 => ?_, fun j j0 j1 => ?_, fun j j0 j1 => ?_⟩ f123 (head.trans ?_)
          · rw [f123.1 400 j (by decide)]
            exact (zwr_n (Or.inl (by decide))).trans (c12 j j0 j1)
          · rw [f123.1 402 j (by decide)]
            exact (zwr_n (Or.inl (by decide))).trans (c2 j j0 j1)
          · rw [f123.1 403 j (by decide)]
            by_cases q : j = Int.toNat k
            · rw [q]; exact zwr_e.trans ((f1.tr f2).1 403 _ (by decide))
            · exact (zwr_n (Or.inr q)).trans ((zwr_n (Or.inl (by decide))).trans ((zwr_n (Or.inl (by decide))).trans (hC.2.2 j (by omega) j1)))
          · unfold fL_ahead_p81
            rw [ilt (by omega) (by omega), if_pos q9, zck_t (by omega), zck_t (by omega), zlet_e]
        · have f12 := f1.tr f2
          refine go W2 ⟨fun j j0 j1 => ?_, fun j j0 j1 => ?_, fun j j0 j1 => ?_⟩ f12 (head.trans ?_)
          · rw [f12.1 400 j (by decide)]
            exact c12 j j0 j1
          · rw [f12.1 402 j (by decide)]
            exact c2 j j0 j1
          · rw [f12.1 403 j (by decide)]
            exact (zwr_n (Or.inl (by decide))).trans ((zwr_n (Or.inl (by decide))).trans (hC.2.2 j (by omega) j1))
          · unfold fL_ahead_p81
            rw [ilt (by omega) (by omega), if_neg q9]
      · rw [if_neg q18] at head
        refine go W1 ⟨fun j j0 j1 => ?_, fun j j0 j1 => ?_, fun j j0 j1 => ?_⟩ f1 (head.trans ?_)
        · rw [f1.1 400 j (by decide)]
          exact c1 j j0 j1
        · rw [f1.1 402 j (by decide)]
          exact (zwr_n (Or.inl (by decide))).trans (hC.2.1 j (by omega) j1)
        · rw [f1.1 403 j (by decide)]
          exact (zwr_n (Or.inl (by decide))).trans (hC.2.2 j (by omega) j1)
        · unfold fL_ahead_p81
          rw [ilt (by omega) (by omega), if_neg (by omega)]
    · have hk : k = 56 := by omega
      subst hk
      refine ⟨g, ?_, hC, qfr.rf⟩
      have hh : ¬ i32 56 < i32 56 := by decide
      rw [fL_ahead_p48, if_neg hh, fL_ahead_p48, if_neg hh]
theorem qLw.cpy (hR : qRow 8 r) (hL : qLw g 400 401 402 403 r) (hC : qCy g 56) : qLw g 420 401 421 422 r := by
  have h0 := hR.1
  have h1 := hR.2.1
  have h2 := hR.2.2.1
  have h7 := hL.2.1
  have d : ∀ j : Nat, j < 9 → g.1 422 j = g.1 403 j := fun j h => hC.2.2 j (by omega) h
  refine ⟨⟨(d _ (by decide)).trans hL.1.1, (d _ (by decide)).trans hL.1.2.1, (d _ (by decide)).trans hL.1.2.2.1, (d _ (by decide)).trans hL.1.2.2.2.1, (d _ (by decide)).trans hL.1.2.2.2.2.1, (d _ (by decide)).trans hL.1.2.2.2.2.2.1, (d _ (by decide)).trans hL.1.2.2.2.2.2.2.1, (d _ (by decide)).trans hL.1.2.2.2.2.2.2.2⟩, h7, fun b w b0 b1 w0 w1 => ?_, fun b b0 b1 => ?_, hL.2.2.2.2.1, fun k w k0 k1 w0 w1 => ?_⟩
  · exact (hC.1 _ (by omega) (by omega)).trans (hL.2.2.1 b w b0 b1 w0 w1)
  · exact (hC.1 _ (by omega) (by omega)).trans (hL.2.2.2.1 b b0 b1)
  · exact (hC.2.1 _ (by omega) (by omega)).trans (hL.2.2.2.2.2 k w k0 k1 w0 w1)
/-- nothing below the copies has moved -/
theorem qMn.cp (h : qMn g n R r i) (f : qfr (fun q => 420 ≤ q) g g') : qMn g' n R r i := ⟨h.1.fro (f.wk (fun q z => by omega)), h.2.1, h.2.2.1.kept f (by omega), h.2.2.2⟩
theorem qMn.fc (h : qMn g n R r i) (hC : qCs g' n R r) (f : qfc g g') : qMn g' n R r i := ⟨hC, h.2.1, f.law h.2.2.1, h.2.2.2⟩
theorem qfc.lw {c0 c1 c2 c3 : Nat} (f : qfc g g') (h4 : 400 ≤ c0 ∧ 400 ≤ c1 ∧ 400 ≤ c2 ∧ 400 ≤ c3) (hL : qLw g c0 c1 c2 c3 r) : qLw g' c0 c1 c2 c3 r := by
  unfold qLw
  simp only [f.1 c0 _ (Or.inl h4.1), f.1 c1 _ (Or.inl h4.2.1), f.1 c2 _ (Or.inl h4.2.2.1), f.1 c3 _ (Or.inl h4.2.2.2)]
  exact hL
theorem l_setA (hR : qRow 8 re) (hL : qLw g 420 401 421 422 re) : ∃ g', fL_settle g 420 401 421 422 423 424 425 = some ((qset 24 re 0).2, g') ∧ qLw g' 420 401 421 422 (qset 24 re 0).1 ∧ qLi g' 423 (qset 24 re 0).1 ((qset 24 re 0).1 0) ∧ g'.1 422 8 = qnext re ∧ qRow 8 (qset 24 re 0).1 ∧ qfr (fun q => 420 ≤ q) g g' := by
  obtain ⟨g', u1, u2, u3, u4, u5⟩ := l_settle qdi_ah hR hL
  have e0 : (qset 24 re 0).1 0 = re 0 := qset_o (Or.inl rfl) 24 _ 0 hR
  exact ⟨g', u1, u2, by rw [e0]; exact u3, u4, qset_row 24 _ 0 hR, u5.wk (fun q z => by omega)⟩
/-- what a fault would bring -/
theorem l_fan (h : qMn g n R r i) (hA : qLw g 420 401 421 422 r) (h1 : 0 ≤ a14 ∧ a14 < r 0) (h2 : a15 = 0 ∨ a15 = 1) (h3 : 1 ≤ a16 ∧ a16 ≤ 30) (W : zSt) (hW : W = zwr (zwr (zwr (zwr g 421 (Int.toNat (3 * r 134)) a14) 421 (Int.toNat (3 * r 134 + 1)) a15) 421 (Int.toNat (3 * r 134 + 2)) a16) 422 (Int.toNat 2) (r 134 + 1)) : ∃ g', zbe (fL_settle W 420 401 421 422 423 424 425) (fun v31 g32 => zbd (fL_lamp g32 0 421 422 423) (fun v33 => zbd (fL_lamp g32 1 421 422 423) (fun v34 => zbe (fX7_ifFault g32 a14 a15 a16 0) (fun v35 g36 => (if i32 v35 = i32 v31 then zbe (fX7_ifFault g36 a14 a15 a16 1) (fun v37 g38 => zbd (fL_burn g38 420 401 422 423 0) (fun v39 => (if i32 v37 = i32 v39 then zbe (fX7_ifFault g38 a14 a15 a16 2) (fun v40 g41 => (if i32 v33 < i32 v34 then fL_ahead_p294 k39 g41 v40 v33 a1 a2 a13 a14 a15 a16 else fL_ahead_p294 k39 g41 v40 v34 a1 a2 a13 a14 a15 a16)) else zck ((0 : Int) = 0 ∨ (0 : Int) = 1) (some (0, g38))))) else zck ((0 : Int) = 0 ∨ (0 : Int) = 1) (some (0, g36))))))) = k39 g' a1 a2 (a13 + 1) ∧ qMn g' n R r i := by
  subst hW
  have hR := h.2.1
  have h0 := hR.1
  have hf := hR.2.2.1
  have h5 := h.2.2.2.1
  let W1 := zwr g 421 (Int.toNat (3 * r 134)) a14
  let W2 := zwr W1 421 (Int.toNat (3 * r 134 + 1)) a15
  let W3 := zwr W2 421 (Int.toNat (3 * r 134 + 2)) a16
  let W4 := zwr W3 422 (Int.toNat 2) (r 134 + 1)
  have fW : qfr (fun q => 420 ≤ q) g W4 := qfr.tr (P := fun q => 420 ≤ q) (qfr.tr (P := fun q => 420 ≤ q) (qfr.tr (P := fun q => 420 ≤ q) (qfr.wr (by decide)) (qfr.wr (by decide))) (qfr.wr (by decide))) (qfr.wr (by decide))
  have o4 : ∀ k, W4.1 421 k = W3.1 421 k := fun k => zwr_n (Or.inl (by decide))
  have hLW : qLw W4 420 401 421 422 (qnF r a14 a15 a16) := by
    refine qLw.addF hR hA (by omega) (fun i hi => ?_) ?_ ?_ ?_ zwr_e (fun i hi => ?_) (fun i => ?_) (fun i => ?_)
    · exact (o4 _).trans ((zwr_n (Or.inr (by omega))).trans ((zwr_n (Or.inr (by omega))).trans (zwr_n (Or.inr (by omega)))))
    · exact (o4 _).trans ((zwr_n (Or.inr (by omega))).trans ((zwr_n (Or.inr (by omega))).trans zwr_e))
    · exact (o4 _).trans ((zwr_n (Or.inr (by omega))).trans zwr_e)
    · exact (o4 _).trans zwr_e
    · exact (zwr_n (Or.inr hi)).trans ((zwr_n (Or.inl (by decide))).trans ((zwr_n (Or.inl (by decide))).trans (zwr_n (Or.inl (by decide)))))
    · exact (zwr_n (Or.inl (by decide))).trans ((zwr_n (Or.inl (by decide))).trans ((zwr_n (Or.inl (by decide))).trans (zwr_n (Or.inl (by decide)))))
    · exact (zwr_n (Or.inl (by decide))).trans ((zwr_n (Or.inl (by decide))).trans ((zwr_n (Or.inl (by decide))).trans (zwr_n (Or.inl (by decide)))))
  have hRe : qRow 8 (qnF r a14 a15 a16) := qnF_row hR (M' := 8) (by omega) h1 h2 h3
  obtain ⟨s1, x1, x2, x3, x4, x5, x6⟩ := l_setA hRe hLW
  have m1 : qMn s1 n R r i := (h.cp fW).cp x6
  obtain ⟨s2, k1, k2, k3⟩ := kq_fan m1.1 hR h1 h2 h3 (a4 := 0) (by omega)
  have m2 := m1.fc k2 k3
  obtain ⟨s3, j1, j2, j3⟩ := kq_fan m2.1 hR h1 h2 h3 (a4 := 1) (by omega)
  have m3 := m2.fc j2 j3
  obtain ⟨s4, l1, l2, l3⟩ := kq_fan m3.1 hR h1 h2 h3 (a4 := 2) (by omega)
  have m4 := m3.fc l2 l3
  obtain ⟨s5, p1, p2, p3⟩ := kq_fan m4.1 hR h1 h2 h3 (a4 := 3) (by omega)
  have m5 := m4.fc p2 p3
  have y3 : qLw s3 420 401 421 422 (qset 24 (qnF r a14 a15 a16) 0).1 := j3.lw (by decide) (k3.lw (by decide) x2)
  have i3 : qLi s3 423 (qset 24 (qnF r a14 a15 a16) 0).1 ((qset 24 (qnF r a14 a15 a16) 0).1 0) := fun x t x0 x1 ht => (j3.1 _ _ (Or.inl (by decide))).trans ((k3.1 _ _ (Or.inl (by decide))).trans (x3 x t x0 x1 ht))
  have n5 : s5.1 422 (Int.toNat 8) = qnext (qnF r a14 a15 a16) := (p3.1 _ _ (Or.inl (by decide))).trans ((l3.1 _ _ (Or.inl (by decide))).trans ((j3.1 _ _ (Or.inl (by decide))).trans ((k3.1 _ _ (Or.inl (by decide))).trans x4)))
  have hnx := qnext_r hRe
  have hre := hRe.1
  have q0 := qlamp_r (p := 0) x5
  have q1 := qlamp_r (p := 1) x5
  refine ⟨s5, ?_, m5⟩
  have p294 : ∀ z, z = qleak (qset 24 (qnF r a14 a15 a16) 0).1 → fL_ahead_p294 k39 s4 (qleak (qset 24 (qnF r a14 a15 a16) 0).1) z a1 a2 a13 a14 a15 a16 = k39 s5 a1 a2 (a13 + 1) := by
    intro z hz
    subst hz
    unfold fL_ahead_p294
    rw [if_pos rfl, p1, zbe_s, zck_t (by omega), n5, ilt (by omega) (by omega)]
    have e3 : qfan (qnF r a14 a15 a16) 3 = if qnext (qnF r a14 a15 a16) = -1 then -1 else 100 * (qnext (qnF r a14 a15 a16) / 2) + 10 * (qnext (qnF r a14 a15 a16) % 2) := rfl
    rw [e3]
    by_cases q : qnext (qnF r a14 a15 a16) = -1
    · rw [if_pos (by omega), if_pos q, if_pos rfl]
    · have hqm := qdm2 (k := qnext (qnF r a14 a15 a16)) (by omega)
      rw [if_neg (by omega), if_neg q, zck_t (by omega), zck_t (by omega), hqm.1, hqm.2, if_pos rfl]
  show zbe (fL_settle W4 420 401 421 422 423 424 425) _ = _
  rw [x1, zbe_s, l_lamp x5 x2 x3 (Or.inl rfl), zbd_s, l_lamp x5 x2 x3 (Or.inr rfl), zbd_s, k1, zbe_s, show qfan (qnF r a14 a15 a16) 0 = (qset 24 (qnF r a14 a15 a16) 0).2 from rfl, if_pos rfl, j1, zbe_s, l_burn0 x5 y3 i3, zbd_s, show qfan (qnF r a14 a15 a16) 1 = qburn (qset 24 (qnF r a14 a15 a16) 0).1 from rfl, if_pos rfl, l1, zbe_s, show qfan (qnF r a14 a15 a16) 2 = qleak (qset 24 (qnF r a14 a15 a16) 0).1 from rfl, ilt (by omega) (by omega)]
  by_cases q : qlamp (qset 24 (qnF r a14 a15 a16) 0).1 0 < qlamp (qset 24 (qnF r a14 a15 a16) 0).1 1
  · rw [if_pos q]; exact p294 _ (by unfold qleak; rw [if_pos q])
  · rw [if_neg q]; exact p294 _ (by unfold qleak; rw [if_neg q])
end PAHEAD1
