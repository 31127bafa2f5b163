section PAHEAD2
variable {g g' g1 g2 : zSt} {a b t x w k p u j i lo hi v M y N box cr ra rb a1 a2 a3 a8 a9 a10 a11 a12 a13 a14 a15 a16 p1 p2 p3 nn : Int} {r r' re : Int → Int} {R : Nat → Int → Int} {n : Nat} {k39 : zSt → Int → Int → Int → Option (Int × zSt)}
theorem l_431 (h0 : 1 ≤ r 0 ∧ r 0 ≤ 7) : ∀ (fu : Nat) (g : zSt) (k : Int), 1 ≤ k → k ≤ r 0 → (r 0 - k).toNat < fu → g.1 403 (Int.toNat 0) = r 0 → ∃ g', fL_ahead_p431 k39 fu g a1 a2 a13 a14 a15 k = fL_ahead_p431 k39 (0 + 1) g' a1 a2 a13 a14 a15 (r 0) ∧ (∀ b, k ≤ b → b < r 0 → g'.1 420 (Int.toNat (8 * b + 5)) = 0 ∧ g'.1 420 (Int.toNat (8 * b + 6)) = 0) ∧ (∀ j : Nat, (∀ b, k ≤ b → b < r 0 → (j : Int) ≠ 8 * b + 5 ∧ (j : Int) ≠ 8 * b + 6) → g'.1 420 j = g.1 420 j) ∧ qfr (fun q => q = 420) g g' := by
  intro fu
  induction fu with
  | zero => intro g k _ _ h; omega
  | succ fu ih =>
    intro g k k0 kn hf hd
    by_cases e : k < r 0
    · let W1 := zwr g 420 (Int.toNat (8 * k + 5)) 0
      let W2 := zwr W1 420 (Int.toNat (8 * k + 6)) 0
      have fW : qfr (fun q => q = 420) g W2 := qfr.tr (P := fun q => q = 420) (qfr.wr rfl) (qfr.wr rfl)
      obtain ⟨g', t1, t2, t3, t4⟩ := ih W2 (k + 1) (by omega) (by omega) (by omega) ((fW.1 403 _ (by decide)).trans hd)
      refine ⟨g', ?_, fun b b0 b1 => ?_, fun j hj => ?_, fW.tr t4⟩
      · rw [fL_ahead_p431, zck_t (by omega), hd, ilt (by omega) (by omega), if_pos e, zck_t (by omega), zlet_e, zck_t (by omega), zlet_e]
        exact t1
      · by_cases q : b = k
        · subst q
          rw [t3 _ (fun c c0 c1 => by omega), t3 _ (fun c c0 c1 => by omega)]
          exact ⟨(zwr_n (Or.inr (by omega))).trans zwr_e, zwr_e⟩
        · exact t2 b (by omega) b1
      · rw [t3 j (fun b b0 b1 => hj b (by omega) b1)]
        have := hj k (by omega) e
        exact (zwr_n (Or.inr (by omega))).trans (zwr_n (Or.inr (by omega)))
    · have ek : k = r 0 := by omega
      subst ek
      refine ⟨g, ?_, fun b b0 b1 => by omega, fun j hj => rfl, qfr.rf⟩
      rw [fL_ahead_p431, zck_t (by omega), hd, ilt (by omega) (by omega), if_neg e, fL_ahead_p431, zck_t (by omega), hd, ilt (by omega) (by omega), if_neg e]
theorem qLw.whl (hR : qRow 8 r) (hL : qLw g 420 401 421 422 r) (z : ∀ b, 1 ≤ b → b < r 0 → g'.1 420 (Int.toNat (8 * b + 5)) = 0 ∧ g'.1 420 (Int.toNat (8 * b + 6)) = 0) (o : ∀ j : Nat, (∀ b, 1 ≤ b → b < r 0 → (j : Int) ≠ 8 * b + 5 ∧ (j : Int) ≠ 8 * b + 6) → g'.1 420 j = g.1 420 j) (f : qfr (fun q => q = 420) g g') : qLw g' 420 401 421 422 (qwr r) := by
  have h0 := hR.1
  have h1 := hR.2.1
  have h2 := hR.2.2.1
  have h7 := hL.2.1
  have A := qwr_A hR
  have d : ∀ j : Nat, g'.1 422 j = g.1 422 j := fun j => f.1 _ _ (by decide)
  refine ⟨⟨?_, ?_, ?_, ?_, ?_, ?_, ?_, ?_⟩, ?_, ?_, ?_, ?_, ?_⟩
  · rw [d, A 0 (by omega) (by omega)]; exact hL.1.1
  · rw [d, A 85 (by omega) (by omega)]; exact hL.1.2.1
  · rw [d, A 134 (by omega) (by omega)]; exact hL.1.2.2.1
  · rw [d, A 162 (by omega) (by omega)]; exact hL.1.2.2.2.1
  · rw [d, A 163 (by omega) (by omega)]; exact hL.1.2.2.2.2.1
  · rw [d, A 164 (by omega) (by omega)]; exact hL.1.2.2.2.2.2.1
  · rw [d, A 165 (by omega) (by omega)]; exact hL.1.2.2.2.2.2.2.1
  · rw [d, A 166 (by omega) (by omega)]; exact hL.1.2.2.2.2.2.2.2
  · rw [A 0 (by omega) (by omega), A 85 (by omega) (by omega), A 134 (by omega) (by omega)]; exact h7
  · intro b w b0 b1 w0 w1
    rw [A 0 (by omega) (by omega)] at b1
    rcases (show w < 5 ∨ w = 5 ∨ w = 6 by omega) with q | q | q
    · rw [o _ (fun c c0 c1 => by omega), qwr_B hR ⟨b0, b1⟩ ⟨w0, q⟩]
      exact hL.2.2.1 b w b0 b1 w0 w1
    · subst q
      rw [(z b (by omega) b1).1]
      exact (qwr_0 hR ⟨b0, b1⟩ (t := 0) (Or.inl rfl)).symm
    · subst q
      rw [(z b (by omega) b1).2]
      exact (qwr_0 hR ⟨b0, b1⟩ (t := 1) (Or.inr rfl)).symm
  · intro b b0 b1
    rw [A 0 (by omega) (by omega)] at b1
    rw [o _ (fun c c0 c1 => by omega), qdep_g (r := r) (r' := qwr r) (n := r 0) (fun c c0 c1 => qwr_B hR ⟨c0, c1⟩ (by omega)) b.toNat b (Nat.le_refl _) b1]
    exact hL.2.2.2.1 b b0 b1
  · intro k w k0 k1 w0 w1
    rw [A 85 (by omega) (by omega)] at k1
    rw [f.1 _ _ (by decide)]
    exact (hL.2.2.2.2.1 k w k0 k1 w0 w1).trans (A _ (by omega) (by omega)).symm
  · intro k w k0 k1 w0 w1
    rw [A 134 (by omega) (by omega)] at k1
    rw [f.1 _ _ (by decide)]
    exact (hL.2.2.2.2.2 k w k0 k1 w0 w1).trans (A _ (by omega) (by omega)).symm
theorem l_need (h : qMn g n R r i) (hA : qLw g 420 401 421 422 r) (hb : 0 < box ∧ box < r 0) (ht : t = 0 ∨ t = 1) : ∃ g', fL_ahead_p431 k39 zfu g a1 a2 a13 box t 1 = k39 g' a1 a2 (a13 + 1) ∧ qMn g' n R r i := by
  have hR := h.2.1
  have hL := h.2.2.1
  have h0 := hR.1
  have h7 := hL.2.1
  have ht0 := q01 ht
  obtain ⟨g1, s1, s2, s3, s4⟩ := l_431 (r := r) (k39 := k39) (a1 := a1) (a2 := a2) (a13 := a13) (a14 := box) (a15 := t) (by omega) zfu g 1 (by omega) (by omega) (by unfold zfu; omega) hL.1.1
  have hRw := qwr_row hR
  have hLw : qLw g1 420 401 421 422 (qwr r) := qLw.whl hR hA s2 s3 s4
  have m1 : qMn g1 n R r i := h.cp (s4.wk (fun q z => by omega))
  obtain ⟨g2, c1, c2, c3, c4, c5⟩ := l_find qdi_ah hRw hLw
  have m2 : qMn g2 n R r i := m1.cp (c5.wk (fun q z => by omega))
  obtain ⟨g3, k1, k2, k3⟩ := kq_need m2.1 hR hb ht
  have m3 := m2.fc k2 k3
  refine ⟨g3, ?_, m3⟩
  have e0 : qwr r 0 = r 0 := qwr_A hR 0 (by omega) (by omega)
  have li : g3.1 423 (Int.toNat (2 * box + t)) = qlt (qwr r) box t := (k3.1 _ _ (Or.inl (by decide))).trans (c2 box t (by omega) (by omega) ht)
  have lc : g3.1 424 (Int.toNat (2 * box + t)) = g2.1 424 (Int.toNat (2 * box + t)) := k3.1 _ _ (Or.inl (by decide))
  have hq := qlt_r (r := qwr r) (b := box) ht
  have hq2 := qlt_2 (r := qwr r) (b := box) ht
  rw [s1, fL_ahead_p431, zck_t (by omega), m1.2.2.1.1.1, ilt (by omega) (by omega), if_neg (by omega), c1, zbd_s, k1, zbe_s, zck_t (by omega), li, ilt (by omega) (by omega), zck_t (by omega), lc]
  cases hal : qal (qwr r) box t
  · rw [hal] at hq2
    have hq3 : qlt (qwr r) box t < 2 := by rw [hq2]
    rw [if_neg (by omega), show qcur (qwr r) box t = 0 from by unfold qcur; rw [hal]; rfl, if_pos rfl]
  · rw [hal] at hq2
    have hq3 : ¬ qlt (qwr r) box t < 2 := by rw [hq2]; simp
    rw [if_pos (by omega), c3.al (by omega) ht hal, if_pos rfl]
theorem qLw.opn {c0 c1 c2 c3 : Nat} (hR : qRow 8 r) (hL : qLw g c0 c1 c2 c3 r) (hd : c0 ≠ c1 ∧ c0 ≠ c2 ∧ c0 ≠ c3) (hk : 0 < k ∧ k < r 0) : qLw (zwr g c0 (Int.toNat (8 * k + 2)) 0) c0 c1 c2 c3 (qop r k) := by
  have h0 := hR.1
  have hs := qop_sw (r := r) (k := k) ⟨hk.1, by omega⟩
  refine qLw.edB hR hL hk (fun j j0 j1 j2 => qput_n (by omega)) (hs.1 k 0 (by omega) (by omega) (by omega) (by omega) (by omega)) (fun i hi => zwr_n (Or.inr (by omega))) (fun w w0 w1 => ?_) ?_ (fun i hi => zwr_n (Or.inl (fun q => hd.2.2 q.symm))) (fun i => zwr_n (Or.inl (fun q => hd.1 q.symm))) (fun i => zwr_n (Or.inl (fun q => hd.2.1 q.symm)))
  · by_cases q : w = 2
    · rw [q, zwr_e, qop_2 ⟨hk.1, by omega⟩ (by omega), if_pos rfl]
    · rw [zwr_n (Or.inr (by omega)), hs.1 k w (by omega) (by omega) w0 w1 q]
      exact hL.2.2.1 k w hk.1 hk.2 w0 w1
  · rw [zwr_n (Or.inl (fun q => hd.2.2 q.symm))]
    exact hL.1.2.2.2.1.trans (qput_n (by omega)).symm
theorem qLw.cls (hR : qRow 8 r) (hL : qLw g 420 401 421 422 (qop r k)) (hk : 0 < k ∧ k < r 0) (h2 : qB r k 2 = 1) : qLw (zwr g 420 (Int.toNat (8 * k + 2)) 1) 420 401 421 422 r := by
  have h0 := hR.1
  have hs := qop_sw (r := r) (k := k) ⟨hk.1, by omega⟩
  have hRo := qop_row hR hk
  refine qLw.edB hRo hL (b := k) (by rw [hs.2.1]; exact hk) (fun j j0 j1 j2 => (qput_n (by omega)).symm) (hs.1 k 0 (by omega) (by omega) (by omega) (by omega) (by omega)).symm (fun i hi => zwr_n (Or.inr (by omega))) (fun w w0 w1 => ?_) ?_ (fun i hi => zwr_n (Or.inl (by decide))) (fun i => zwr_n (Or.inl (by decide))) (fun i => zwr_n (Or.inl (by decide)))
  · by_cases q : w = 2
    · rw [q, zwr_e, h2]
    · rw [zwr_n (Or.inr (by omega)), ← hs.1 k w (by omega) (by omega) w0 w1 q]
      exact hL.2.2.1 k w hk.1 (by rw [hs.2.1]; exact hk.2) w0 w1
  · rw [zwr_n (Or.inl (by decide))]
    exact hL.1.2.2.2.1.trans (qput_n (by omega))
theorem l_563 (ht : t = 0 ∨ t = 1) : ∀ (fu : Nat) (g : zSt) (k a : Int), 1 ≤ k → k ≤ r 0 → (r 0 - k).toNat < fu → (∃ z : Int32, a = z.toInt) → qMn g n R r i → qLw g 420 401 421 422 r → ∃ g', fL_ahead_p563 k39 fu g a1 a2 a13 t (qlamp r t) a k = fL_ahead_p563 k39 (0 + 1) g' a1 a2 a13 t (qlamp r t) (qmsk r t (r 0 - k).toNat k a) (r 0) ∧ qMn g' n R r i := by
  intro fu
  induction fu with
  | zero => intro g k a _ _ h; omega
  | succ fu ih =>
    intro g k a k0 kn hf hz h hA
    have hR := h.2.1
    have hL := h.2.2.1
    have h0 := hR.1
    have h7 := hL.2.1
    have ht0 := q01 ht
    by_cases e : k < r 0
    · have hx := (hR.2.2.2.1 k (by omega) e).2.2.1
      have hx0 := q01 hx
      have hm : qmsk r t (r 0 - k).toNat k a = qmsk r t (r 0 - (k + 1)).toNat (k + 1) (qmz r t k a) := by
        rw [show (r 0 - k).toNat = (r 0 - (k + 1)).toNat + 1 by omega, qmsk]
      have hS := qS_r (x := k) (p := t) hR
      have hl := qlamp_r (p := t) hR
      have hlo := qlamp_op (p := t) hR (k := k) ⟨by omega, e⟩
      rw [hm, fL_ahead_p563, zck_t (by omega), hL.1.1, ilt (by omega) (by omega), if_pos e, zck_t (by omega), hL.bw ⟨by omega, e⟩ 2 (by omega), ieq (by omega) (by omega)]
      by_cases q : qB r k 2 = 0
      · rw [if_pos q, show qmz r t k a = a from if_neg (fun z => by omega)]
        exact ih g (k + 1) a (by omega) (by omega) (by omega) hz h hA
      · have q1 : qB r k 2 = 1 := by omega
        have hkk : 0 < k ∧ k < r 0 := ⟨by omega, e⟩
        have hRo := qop_row hR hkk
        have hLo := qLw.opn hR hA ⟨by decide, by decide, by decide⟩ hkk
        have m1 : qMn (zwr g 420 (Int.toNat (8 * k + 2)) 0) n R r i := h.cp (qfr.wr (by decide))
        obtain ⟨g2, c1, c2, c3, c4, c5⟩ := l_find qdi_ah hRo hLo
        have m2 : qMn g2 n R r i := m1.cp (c5.wk (fun q z => by omega))
        have hL2 : qLw g2 420 401 421 422 (qop r k) := hLo.kept c5 (by omega)
        have hA3 := qLw.cls hR hL2 hkk q1
        have m3 : qMn (zwr g2 420 (Int.toNat (8 * k + 2)) 1) n R r i := m2.cp (qfr.wr (by decide))
        have p641 : ∀ y, zor a y = qmz r t k a → (∃ z : Int32, zor a y = z.toInt) → ∃ g', fL_ahead_p641 k39 (fL_ahead_p563 k39 fu) g2 a y a1 a2 a13 t (qlamp r t) k = fL_ahead_p563 k39 (0 + 1) g' a1 a2 a13 t (qlamp r t) (qmsk r t (r 0 - (k + 1)).toNat (k + 1) (qmz r t k a)) (r 0) ∧ qMn g' n R r i := by
          intro y hy hz2
          unfold fL_ahead_p641
          rw [zlet_e, zck_t (by omega), zlet_e, hy]
          rw [hy] at hz2
          exact ih _ (k + 1) _ (by omega) (by omega) (by omega) hz2 m3 hA3
        rw [if_neg q, zck_t (by omega), zlet_e, c1, zbd_s, l_lamp hRo hL2 c2 ht, zbd_s, hlo, ieq (by omega) (by omega)]
        obtain ⟨z, hz⟩ := hz
        by_cases q2 : qlamp r t - qS r k t = qlamp r t
        · rw [if_pos q2]
          have ez : zor a 0 = a := by rw [hz]; exact zor_0 z
          exact p641 0 (by rw [ez]; exact (if_neg (fun z => by omega)).symm) ⟨z, by rw [ez, hz]⟩
        · rw [if_neg q2]
          exact p641 _ (if_pos ⟨q1, by omega⟩).symm ⟨_, rfl⟩
    · have ek : k = r 0 := by omega
      subst ek
      rw [show (r 0 - r 0).toNat = 0 by omega]
      refine ⟨g, ?_, h⟩
      rw [fL_ahead_p563, zck_t (by omega), hL.1.1, ilt (by omega) (by omega), if_neg e, fL_ahead_p563, zck_t (by omega), hL.1.1, ilt (by omega) (by omega), if_neg e]
      rfl
theorem l_aw (h : qMn g n R r i) (hw : 0 ≤ w ∧ w < 5) (fu : Nat) : (∃ g', fL_ahead_p39 (fu + 1) g x y w = fL_ahead_p39 fu g' x y (w + 1) ∧ qMn g' n R r i) ∨ (∃ g', fL_ahead_p39 (fu + 1) g x y w = some (1, g') ∧ qMn g' n R r i) := by
  have hR := h.2.1
  have h0 := hR.1
  obtain ⟨g1, s1, s2, s3⟩ := l_p48 (k39 := fL_ahead_p39 fu) (a1 := x) (a2 := y) (a13 := w) zfu g 0 (by omega) (by omega) (by unfold zfu; omega) ⟨fun j j0 => by omega, fun j j0 => by omega, fun j j0 => by omega⟩
  have m1 := h.cp s3
  have hL := m1.2.2.1
  have h7 := hL.2.1
  have hA : qLw g1 420 401 421 422 r := qLw.cpy hR hL s2
  obtain ⟨box, eb, b0, b1⟩ := l_at g1 x (n := r 0) (by omega)
  obtain ⟨t, et, t0, t1⟩ := l_at g1 (zsr x 4) (n := 2) (by omega)
  obtain ⟨u, eu, u0, u1⟩ := l_at g1 y (n := 30) (by omega)
  have ht : t = 0 ∨ t = 1 := by omega
  have hh : ¬ i32 56 < i32 56 := by decide
  have head : fL_ahead_p39 (fu + 1) g x y w = fL_ahead_p48 (fL_ahead_p39 fu) (0 + 1) g1 x y w 56 := by
    rw [fL_ahead_p39, ilt (by omega) (by omega), if_pos hw.2]
    exact s1
  rw [head, fL_ahead_p48, if_neg hh, zck_t (by omega), hL.1.1, eb, zbd_s, et, zbd_s, eu, zbd_s, zlet_e, ilt (by omega) (by omega)]
  by_cases q2 : w < 2
  · rw [if_pos q2]
    have hf := hR.2.2.1
    have h5 := m1.2.2.2.1
    obtain ⟨g2, t1, t2⟩ := l_fan (k39 := fL_ahead_p39 fu) (a1 := x) (a2 := y) (a13 := w) (a14 := box) (a15 := t) (a16 := 1 + u) m1 hA ⟨b0, b1⟩ ht (by omega) _ rfl
    refine Or.inl ⟨g2, ?_, t2⟩
    refine Eq.trans ?_ t1
    have w1 : (zwr g1 421 (Int.toNat (3 * r 134)) box).1 403 (Int.toNat 2) = r 134 := (zwr_n (Or.inl (by decide))).trans hL.1.2.2.1
    have w2 : (zwr (zwr g1 421 (Int.toNat (3 * r 134)) box) 421 (Int.toNat (3 * r 134 + 1)) t).1 403 (Int.toNat 2) = r 134 := (zwr_n (Or.inl (by decide))).trans w1
    have w3 : (zwr (zwr (zwr g1 421 (Int.toNat (3 * r 134)) box) 421 (Int.toNat (3 * r 134 + 1)) t) 421 (Int.toNat (3 * r 134 + 2)) (1 + u)).1 422 (Int.toNat 2) = r 134 := (zwr_n (Or.inl (by decide))).trans ((zwr_n (Or.inl (by decide))).trans ((zwr_n (Or.inl (by decide))).trans hA.1.2.2.1))
    rw [zck_t (by omega), hL.1.2.2.1, zck_t (by omega), zlet_e, zck_t (by omega), w1, zck_t (by omega), zlet_e, zck_t (by omega), w2, zck_t (by omega), zlet_e, zck_t (by omega), zck_t (by omega), w3, zlet_e]
  · rw [if_neg q2, ieq (by omega) (by omega)]
    by_cases qb : box = 0
    · rw [if_pos qb, qck_1]
      exact Or.inr ⟨g1, rfl, m1⟩
    · have hb : 0 < box ∧ box < r 0 := by omega
      rw [if_neg qb, ieq (by omega) (by omega), ieq (by omega) (by omega)]
      by_cases qw2 : w = 2
      · rw [if_pos qw2]
        have hLW := qLw.turn hR hA ⟨by decide, by decide, by decide⟩ hb (w := 2) (Or.inr rfl)
        have fW : qfr (fun q => 420 ≤ q) g1 (zwr g1 420 (Int.toNat (8 * box + 2)) (1 - qB r box 2)) := qfr.wr (by decide)
        obtain ⟨s4, x1, x2, x3, x4, x5, x6⟩ := l_setA (qtn_row hR hb (Or.inr rfl)) hLW
        have m2 := (m1.cp fW).cp x6
        obtain ⟨s5, k1, k2, k3⟩ := kq_tog m2.1 hR hb
        have m3 := m2.fc k2 k3
        refine Or.inl ⟨s5, ?_, m3⟩
        have y5 : qLw s5 420 401 421 422 (qset 24 (qtn r box 2) 0).1 := k3.lw (by decide) x2
        have i5 : qLi s5 423 (qset 24 (qtn r box 2) 0).1 ((qset 24 (qtn r box 2) 0).1 0) := fun x t x0 x1 ht => (k3.1 _ _ (Or.inl (by decide))).trans (x3 x t x0 x1 ht)
        rw [zck_t (by omega), zck_t (by omega), hA.bw hb 2 (by omega), zlet_e, x1, zbe_s, k1, zbe_s, l_burn0 x5 y5 i5, zbd_s, if_pos rfl]
      · rw [if_neg qw2]
        by_cases qw3 : w = 3
        · rw [if_pos qw3]
          exact Or.inl (l_need m1 hA hb ht)
        · rw [if_neg qw3]
          obtain ⟨g2, c1, c2, c3, c4, c5⟩ := l_find qdi_ah hR hA
          have m2 : qMn g2 n R r i := m1.cp (c5.wk (fun q z => by omega))
          have hA2 : qLw g2 420 401 421 422 r := hA.kept c5 (by omega)
          obtain ⟨g3, d1, d2⟩ := l_563 (k39 := fL_ahead_p39 fu) (a1 := x) (a2 := y) (a13 := w) ht zfu g2 1 0 (by omega) (by omega) (by unfold zfu; omega) ⟨0, rfl⟩ m2 hA2
          refine Or.inl ⟨g3, ?_, d2⟩
          rw [c1, zbd_s, l_lamp hR hA2 c2 ht, zbd_s, d1, fL_ahead_p563, zck_t (by omega), d2.2.2.1.1.1, ilt (by omega) (by omega), if_neg (by omega), kq_loc d2.1 hR ht, zbd_s, show qmsk r t (r 0 - 1).toNat 1 0 = qloc r t from rfl, if_pos rfl]
theorem l_ahead_l : ∀ (m fu : Nat) (g : zSt) (w : Int), 0 ≤ w → w + m = 5 → m < fu → qMn g n R r i → ∃ g', fL_ahead_p39 fu g x y w = some (1, g') ∧ qMn g' n R r i := by
  intro m
  induction m with
  | zero =>
    intro fu g w w0 hw hf h
    obtain ⟨fu, rfl⟩ : ∃ f, fu = f + 1 := ⟨fu - 1, by omega⟩
    refine ⟨g, ?_, h⟩
    rw [fL_ahead_p39, ilt (by omega) (by omega), if_neg (by omega), qck_1]
  | succ m ih =>
    intro fu g w w0 hw hf h
    obtain ⟨fu, rfl⟩ : ∃ f, fu = f + 1 := ⟨fu - 1, by omega⟩
    rcases l_aw (x := x) (y := y) h (w := w) (by omega) fu with ⟨g', t1, t2⟩ | ⟨g', t1, t2⟩
    · obtain ⟨g2, u1, u2⟩ := ih fu g' (w + 1) (by omega) (by omega) (by omega) t2
      exact ⟨g2, t1.trans u1, u2⟩
    · exact ⟨g', t1, t2⟩
theorem l_ahead (h : qMn g n R r i) : ∃ g', fL_ahead0 g x y = some (1, g') ∧ qMn g' n R r i := by
  have f0 : qfr (fun q => 420 ≤ q) g (zNw g 420 426) := ⟨fun c k hc => if_neg (by omega), rfl⟩
  obtain ⟨g', t1, t2⟩ := l_ahead_l (x := x) (y := y) 5 zfu (zNw g 420 426) 0 (by omega) (by omega) (by unfold zfu; omega) (h.cp f0)
  exact ⟨g', t1, t2⟩
end PAHEAD2
