section QCPROP
variable {g g' g1 g2 g3 g4 : zSt} {m b t x w k p u j a lo hi v M p1 p2 p3 p4 y a1 a2 a3 a4 i n : Int} {r r' re : Int → Int} {R : Nat → Int → Int} {c s d e N L n' : Nat}
theorem k_lanB (hS : qShip g 10 r) (hV : qSv g 200 r) (hR : qRow M r) (hb : 0 ≤ b ∧ b < r 0) : fX7_lanternsBurningAt g b = some (qsum (qla r b) 0 (r 85).toNat) := by
  have h1 := hR.1
  have h2 := hR.2.1
  have e0 : g.1 17 0 = r 85 := hS.2.2.2.1.1
  unfold fX7_lanternsBurningAt
  refine q_loop0 (L := fun fu a k => fX7_lanternsBurningAt_p4 g fu b a k) (n := r 85) (by omega) (fun fu a k h0 hk => ?_) (fun fu a => ?_)
  · have hx := (hR.2.2.2.2.1 k h0 hk).1
    have l0 : g.1 18 (Int.toNat k) = qL r k 0 := (hS.2.2.2.1.2 k h0 hk).1
    have l1 : g.1 206 (Int.toNat k) = qbi (decide (qdk r k = 0)) := hV.2.1.2 k h0 hk
    show fX7_lanternsBurningAt_p4 g (fu + 1) b a k = _
    rw [fX7_lanternsBurningAt_p4, e0, ilt (by omega) (by omega), if_pos hk, zck_t (by omega), l0, ieq (by omega) (by omega), zck_t (by omega), l1, ib0]
    unfold qla
    by_cases q : qL r k 0 = b
    · rw [if_pos q, if_pos q]
      by_cases q2 : qdk r k = 0
      · rw [if_pos (decide_eq_true q2), if_pos q2]
      · rw [if_neg (by simp [q2]), if_neg q2]; simp
    · rw [if_neg q, if_neg q]; simp
  · show fX7_lanternsBurningAt_p4 g (fu + 1) b a _ = _
    rw [fX7_lanternsBurningAt_p4, e0, ilt (by omega) (by omega), if_neg (by omega)]
theorem k_units (hS : qShip g 10 r) (hR : qRow M r) (hb : 0 ≤ b ∧ b < r 0) : fX7_unitsAt g b = some (qsum (qlu r b) 0 (r 85).toNat) := by
  have h1 := hR.1
  have h2 := hR.2.1
  have e0 : g.1 17 0 = r 85 := hS.2.2.2.1.1
  unfold fX7_unitsAt
  refine q_loop0 (L := fun fu a k => fX7_unitsAt_p4 g fu b a k) (n := r 85) (by omega) (fun fu a k h0 hk => ?_) (fun fu a => ?_)
  · have hx := (hR.2.2.2.2.1 k h0 hk).1
    have l0 : g.1 18 (Int.toNat k) = qL r k 0 := (hS.2.2.2.1.2 k h0 hk).1
    have l1 : g.1 19 (Int.toNat k) = qL r k 1 := (hS.2.2.2.1.2 k h0 hk).2.1
    show fX7_unitsAt_p4 g (fu + 1) b a k = _
    rw [fX7_unitsAt_p4, e0, ilt (by omega) (by omega), if_pos hk, zck_t (by omega), l0, ieq (by omega) (by omega), zck_t (by omega), l1, zlet_e]
    unfold qlu
    by_cases q : qL r k 0 = b
    · rw [if_pos q, if_pos q]
    · rw [if_neg q, if_neg q]; simp
  · show fX7_unitsAt_p4 g (fu + 1) b a _ = _
    rw [fX7_unitsAt_p4, e0, ilt (by omega) (by omega), if_neg (by omega)]
theorem k_one2 (h : x = 0 ∨ x = 1) : fX7_oneIf g x = some x := by
  unfold fX7_oneIf
  rw [ieq (by omega) (by omega)]
  rcases h with q | q
  · rw [if_pos q, q]
  · rw [if_neg (by omega), q]
theorem k_boxP (hS : qShip g 10 r) (hV : qSv g 200 r) (hR : qRow M r) (hb : 0 ≤ b ∧ b < r 0) (hw : 0 ≤ w ∧ w ≤ 6) : fX7_boxProperty g b w = some (qbp r b w) := by
  have h1 := hR.1
  have e3 : g.1 201 (Int.toNat b) = qdep r b := (hV.1.1 b hb.1 hb.2).1.1
  have e4 : g.1 202 (Int.toNat b) = qbh r b := hV.1.2 b hb.1 hb.2
  unfold fX7_boxProperty qbp
  by_cases w3 : w = 3
  · rw [w3, ieq (by omega) (by omega), if_neg (by omega), ieq (by omega) (by omega), if_neg (by omega), ieq (by omega) (by omega), if_neg (by omega), if_pos rfl, if_pos rfl, zck_t (by omega), e3]
  · rw [if_neg w3]
    by_cases w4 : w = 4
    · rw [w4, ieq (by omega) (by omega), if_neg (by omega), ieq (by omega) (by omega), if_neg (by omega), ieq (by omega) (by omega), if_neg (by omega), ieq (by omega) (by omega), if_neg (by omega), if_pos rfl, if_pos rfl, zck_t (by omega), e4]
    · rw [if_neg w4]
      by_cases w5 : w = 5
      · rw [w5, ieq (by omega) (by omega), if_neg (by omega), ieq (by omega) (by omega), if_neg (by omega), ieq (by omega) (by omega), if_neg (by omega), ieq (by omega) (by omega), if_neg (by omega), ieq (by omega) (by omega), if_neg (by omega), if_pos rfl, if_pos rfl, k_lanB hS hV hR hb, zbd_s]
      · rw [if_neg w5]
        by_cases w6 : w = 6
        · rw [w6, ieq (by omega) (by omega), if_neg (by omega), ieq (by omega) (by omega), if_neg (by omega), ieq (by omega) (by omega), if_neg (by omega), ieq (by omega) (by omega), if_neg (by omega), ieq (by omega) (by omega), if_neg (by omega), ieq (by omega) (by omega), if_neg (by omega), if_pos rfl, k_units hS hR hb, zbd_s]
        · rw [if_neg w6]
          have w9 : w = 0 ∨ w = 1 ∨ w = 2 := by omega
          by_cases b0 : b = 0
          · rw [b0, if_pos rfl]
            rcases w9 with q | q | q
            · rw [q, if_pos rfl, zck_t (by omega)]
              exact congrArg some hS.1.2.1
            · rw [q, ieq (by omega) (by omega), if_neg (by omega), if_pos rfl, if_pos rfl]
            · rw [q, ieq (by omega) (by omega), if_neg (by omega), ieq (by omega) (by omega), if_neg (by omega), if_pos rfl, if_pos rfl, if_pos rfl]
          · have z := hS.2.1 b (by omega) hb.2
            have hx := hR.2.2.2.1 b (by omega) hb.2
            have z0 : g.1 12 (Int.toNat b) = qB r b 0 := z.1
            have z1 : g.1 13 (Int.toNat b) = qB r b 1 := z.2.1
            have z2 : g.1 14 (Int.toNat b) = qB r b 2 := z.2.2
            rw [if_neg b0]
            rcases w9 with q | q | q
            · rw [q, if_pos rfl, zck_t (by omega), z0]
            · rw [q, ieq (by omega) (by omega), if_neg (by omega), if_pos rfl, ieq (by omega) (by omega), if_neg b0, zck_t (by omega), z1, k_one2 hx.2.1, zbd_s]
            · rw [q, ieq (by omega) (by omega), if_neg (by omega), ieq (by omega) (by omega), if_neg (by omega), if_pos rfl, ieq (by omega) (by omega), if_neg b0, zck_t (by omega), z2, k_one2 hx.2.2.1, zbd_s]
theorem k_strAt (hS : qShip g 10 r) (hR : qRow M r) (hb : 0 ≤ b ∧ b < r 0) (ht : t = 0 ∨ t = 1) : fX7_strengthsAt g b t = some (qsum (qfa r b t) 0 (r 134).toNat) := by
  have h1 := hR.1
  have h2 := hR.2.2.1
  have e0 : g.1 21 0 = r 134 := hS.2.2.2.2.1.1
  unfold fX7_strengthsAt
  refine q_loop0 (L := fun fu a k => fX7_strengthsAt_p5 g fu b t a k) (n := r 134) (by omega) (fun fu a k h0 hk => ?_) (fun fu a => ?_)
  · have hx := hR.2.2.2.2.2.1 k h0 hk
    have hx0 := hx.1
    have hx1 := hx.2.1
    have l := hS.2.2.2.2.1.2 k h0 hk
    have l0 : g.1 22 (Int.toNat k) = qF r k 0 := l.1
    have l1 : g.1 23 (Int.toNat k) = qF r k 1 := l.2.1
    have l2 : g.1 24 (Int.toNat k) = qF r k 2 := l.2.2
    show fX7_strengthsAt_p5 g (fu + 1) b t a k = _
    rw [fX7_strengthsAt_p5, e0, ilt (by omega) (by omega), if_pos hk, zck_t (by omega), l0, ieq (by omega) (by omega), zck_t (by omega), l1, ieq (by omega) (by omega), zck_t (by omega), l2, zlet_e]
    unfold qfa
    by_cases q : qF r k 0 = b
    · rw [if_pos q, if_pos q]
      by_cases q2 : qF r k 1 = t
      · rw [if_pos q2, if_pos q2]
      · rw [if_neg q2, if_neg q2]; simp
    · rw [if_neg q, if_neg q]; simp
  · show fX7_strengthsAt_p5 g (fu + 1) b t a _ = _
    rw [fX7_strengthsAt_p5, e0, ilt (by omega) (by omega), if_neg (by omega)]
theorem k_terP (hS : qShip g 10 r) (hV : qSv g 200 r) (hR : qRow M r) (hb : 0 ≤ b ∧ b < r 0) (ht : t = 0 ∨ t = 1) (hw : 0 ≤ w ∧ w ≤ 5) : fX7_terminalProperty g b t w = some (qtp r b t w) := by
  have h1 := hR.1
  have e0 : g.1 205 (Int.toNat (2 * b + t)) = qpol r b t := ((hV.1.1 b hb.1 hb.2).2 t ht).2
  unfold fX7_terminalProperty qtp
  rw [zlet_e]
  have w9 : w = 0 ∨ w = 1 ∨ w = 2 ∨ w = 3 ∨ w = 4 ∨ w = 5 := by omega
  have T : ∀ x y : Int, (-2147483648 ≤ x ∧ x < 2147483648) → (-2147483648 ≤ y ∧ y < 2147483648) → (i32 x = i32 y) = (x = y) := fun x y a b => i32eq a b
  rcases w9 with q | q | q | q | q | q
  · rw [q, if_pos rfl, if_pos rfl, zck_t (by omega), e0]
  · rw [q, ieq (by omega) (by omega), if_neg (by omega), if_pos rfl, if_neg (by omega), if_pos rfl, k_alive hR hV.1.1 hb ht rfl, zbd_s, k_one, zbd_s]
  · rw [q, ieq (by omega) (by omega), if_neg (by omega), ieq (by omega) (by omega), if_neg (by omega), if_pos rfl, if_neg (by omega), if_neg (by omega), if_pos rfl, k_cur hR hV hb ht rfl, zbd_s]
  · rw [q, ieq (by omega) (by omega), if_neg (by omega), ieq (by omega) (by omega), if_neg (by omega), ieq (by omega) (by omega), if_neg (by omega), if_pos rfl, ieq (by omega) (by omega)]
    by_cases b0 : b = 0
    · rw [if_pos b0, if_neg (by omega), if_neg (by omega), if_neg (by omega), if_pos rfl, if_pos b0]
    · have z : g.1 15 (Int.toNat (2 * b + t)) = qB r b (3 + t) := (hS.2.2.1 b t (by omega) hb.2 ht).1
      rw [if_neg b0, if_neg (by omega), if_neg (by omega), if_neg (by omega), if_pos rfl, if_neg b0, zck_t (by omega), z]
  · rw [q, ieq (by omega) (by omega), if_neg (by omega), ieq (by omega) (by omega), if_neg (by omega), ieq (by omega) (by omega), if_neg (by omega), ieq (by omega) (by omega), if_neg (by omega), if_pos rfl, ieq (by omega) (by omega)]
    by_cases b0 : b = 0
    · rw [if_pos b0, if_neg (by omega), if_neg (by omega), if_neg (by omega), if_neg (by omega), if_pos rfl, if_pos b0]
    · have z : g.1 16 (Int.toNat (2 * b + t)) = qB r b (5 + t) := (hS.2.2.1 b t (by omega) hb.2 ht).2
      have hx := hR.2.2.2.1 b (by omega) hb.2
      have hbl : qB r b (5 + t) = 0 ∨ qB r b (5 + t) = 1 := by
        rcases (show 5 + t = 5 ∨ 5 + t = 6 by omega) with q | q
        · rw [q]; exact hx.2.2.2.2.2.1
        · rw [q]; exact hx.2.2.2.2.2.2
      rw [if_neg b0, if_neg (by omega), if_neg (by omega), if_neg (by omega), if_neg (by omega), if_pos rfl, if_neg b0, zck_t (by omega), z, k_one2 hbl, zbd_s]
  · rw [q, ieq (by omega) (by omega), if_neg (by omega), ieq (by omega) (by omega), if_neg (by omega), ieq (by omega) (by omega), if_neg (by omega), ieq (by omega) (by omega), if_neg (by omega), ieq (by omega) (by omega), if_neg (by omega), if_neg (by omega), if_neg (by omega), if_neg (by omega), if_neg (by omega), if_neg (by omega), k_strAt hS hR hb ht, zbd_s]
theorem k_dark (hS : qShip g 10 r) (hV : qSv g 200 r) (hR : qRow M r) (hk : 0 ≤ k ∧ k < r 85) : fX7_darkReason g k = some (qdk r k) := by
  have h1 := hR.1
  have h2 := hR.2.1
  have hx := (hR.2.2.2.2.1 k hk.1 hk.2).1
  have l0 : g.1 18 (Int.toNat k) = qL r k 0 := (hS.2.2.2.1.2 k hk.1 hk.2).1
  have l1 : g.1 206 (Int.toNat k) = qbi (decide (qdk r k = 0)) := hV.2.1.2 k hk.1 hk.2
  have hf := hV.1.1 (qL r k 0) hx.1 hx.2
  have o : g.1 203 (Int.toNat (qL r k 0)) = qbi (!qsw r (qL r k 0)) := hf.1.2
  have b0 : g.1 204 (Int.toNat (2 * qL r k 0)) = qbi (!qwh r (qL r k 0) 0) := by
    have := (hf.2 0 (Or.inl rfl)).1
    rw [show 2 * qL r k 0 + 0 = 2 * qL r k 0 by omega] at this
    exact this
  have b1 : g.1 204 (Int.toNat (2 * qL r k 0 + 1)) = qbi (!qwh r (qL r k 0) 1) := (hf.2 1 (Or.inr rfl)).1
  unfold fX7_darkReason
  rw [zck_t (by omega), l0, zlet_e, zck_t (by omega), l1, ib0, zck_t (by omega), o, ib0, zck_t (by omega), b0, ib0, zck_t (by omega), b1, ib0]
  by_cases q : qdk r k = 0
  · rw [if_pos (decide_eq_true q), q]
  · rw [if_neg (by simp [q])]
    unfold qdk at q ⊢
    cases e1 : qsw r (qL r k 0)
    · simp
    · cases e2 : qwh r (qL r k 0) 0
      · simp
      · cases e3 : qwh r (qL r k 0) 1
        · simp
        · rw [e1, e2, e3] at q
          simp only [if_true] at q ⊢
          by_cases z : qL r k 2 = 1 ∧ qpol r (qL r k 0) 0 = 1
          · rw [if_pos z]; rfl
          · rw [if_neg z] at q; exact absurd rfl q
theorem k_lanP (hS : qShip g 10 r) (hV : qSv g 200 r) (hR : qRow M r) (hk : 0 ≤ k ∧ k < r 85) (hw : 0 ≤ w ∧ w ≤ 3) : fX7_lanternProperty g k w = some (qlp r k w) := by
  have h2 := hR.2.1
  have hx := hR.2.2.2.2.1 k hk.1 hk.2
  have l := hS.2.2.2.1.2 k hk.1 hk.2
  have l0 : g.1 18 (Int.toNat k) = qL r k 0 := l.1
  have l1 : g.1 19 (Int.toNat k) = qL r k 1 := l.2.1
  have l2 : g.1 20 (Int.toNat k) = qL r k 2 := l.2.2
  unfold fX7_lanternProperty qlp
  have w9 : w = 0 ∨ w = 1 ∨ w = 2 ∨ w = 3 := by omega
  rcases w9 with q | q | q | q
  · rw [q, if_pos rfl, if_neg (by omega), zck_t (by omega), l0]
  · rw [q, ieq (by omega) (by omega), if_neg (by omega), if_pos rfl, if_neg (by omega), zck_t (by omega), l1]
  · rw [q, ieq (by omega) (by omega), if_neg (by omega), ieq (by omega) (by omega), if_neg (by omega), if_pos rfl, if_neg (by omega), zck_t (by omega), l2, k_one2 hx.2.2, zbd_s]
  · rw [q, ieq (by omega) (by omega), if_neg (by omega), ieq (by omega) (by omega), if_neg (by omega), ieq (by omega) (by omega), if_neg (by omega), if_pos rfl, k_dark hS hV hR hk, zbd_s]
theorem k_fauP (hS : qShip g 10 r) (hV : qSv g 200 r) (hR : qRow M r) (hk : 0 ≤ k ∧ k < r 134) (hw : 0 ≤ w ∧ w ≤ 4) : fX7_faultProperty g k w = some (qfq r k w) := by
  have h1 := hR.1
  have h2 := hR.2.2.1
  have hx := hR.2.2.2.2.2.1 k hk.1 hk.2
  have hx0 := hx.1
  have hx1 := hx.2.1
  have l := hS.2.2.2.2.1.2 k hk.1 hk.2
  have l0 : g.1 22 (Int.toNat k) = qF r k 0 := l.1
  have l1 : g.1 23 (Int.toNat k) = qF r k 1 := l.2.1
  have l2 : g.1 24 (Int.toNat k) = qF r k 2 := l.2.2
  have l3 : g.1 205 (Int.toNat (2 * qF r k 0 + qF r k 1)) = qfp r k := ((hV.1.1 _ hx0.1 hx0.2).2 _ hx1).2
  have l4 : g.1 207 (Int.toNat k) = qflow r k := hV.2.2.1.2 k hk.1 hk.2
  unfold fX7_faultProperty qfq
  have w9 : w = 0 ∨ w = 1 ∨ w = 2 ∨ w = 3 ∨ w = 4 := by omega
  rcases w9 with q | q | q | q | q
  · rw [q, if_pos rfl, if_pos (by omega), zck_t (by omega), l0]
  · rw [q, ieq (by omega) (by omega), if_neg (by omega), if_pos rfl, if_pos (by omega), zck_t (by omega), l1]
  · rw [q, ieq (by omega) (by omega), if_neg (by omega), ieq (by omega) (by omega), if_neg (by omega), if_pos rfl, if_pos (by omega), zck_t (by omega), l2]
  · rw [q, ieq (by omega) (by omega), if_neg (by omega), ieq (by omega) (by omega), if_neg (by omega), ieq (by omega) (by omega), if_neg (by omega), if_pos rfl, if_neg (by omega), if_pos rfl, zck_t (by omega), zck_t (by omega), l0, l1, zck_t (by omega), l3]
  · rw [q, ieq (by omega) (by omega), if_neg (by omega), ieq (by omega) (by omega), if_neg (by omega), ieq (by omega) (by omega), if_neg (by omega), ieq (by omega) (by omega), if_neg (by omega), if_neg (by omega), if_neg (by omega), zck_t (by omega), l4]
theorem k_blownF (hS : qShip g 10 r) (hR : qRow M r) : fX0_blownFuses g 11 = some (qsum (qbw r) 2 (2 * r 0 - 2).toNat) := by
  have h1 := hR.1
  have e0 : g.1 11 0 = r 0 := hS.1.1
  unfold fX0_blownFuses
  refine q_loopN (L := fX0_blownFuses_p4 g |> fun f fu a k => f fu 11 a k) (n := 2 * r 0) (lo := 2) (by omega) (fun fu a k k0 k1 k2 => ?_) (fun fu a => ?_)
  · have hx := hR.2.2.2.1 (k / 2) (by omega) (by omega)
    have z : g.1 (11 + 5) (Int.toNat k) = qbw r k := by
      have := (hS.2.2.1 (k / 2) (k % 2) (by omega) (by omega) (by omega)).2
      rw [show 2 * (k / 2) + k % 2 = k by omega] at this
      exact this
    have hbl : qbw r k = 0 ∨ qbw r k = 1 := by
      unfold qbw
      rcases (show 5 + k % 2 = 5 ∨ 5 + k % 2 = 6 by omega) with q | q
      · rw [q]; exact hx.2.2.2.2.2.1
      · rw [q]; exact hx.2.2.2.2.2.2
    show fX0_blownFuses_p4 g (fu + 1) 11 a k = fX0_blownFuses_p4 g fu 11 (a + qbw r k) (k + 1)
    rw [fX0_blownFuses_p4, e0, ilt (by omega) (by omega), if_pos k2, zck_t (by omega), z, ieq (by omega) (by omega)]
    rcases hbl with q | q
    · rw [if_pos q, q]; simp
    · rw [if_neg (by omega), q]
  · show fX0_blownFuses_p4 g (fu + 1) 11 a _ = _
    rw [fX0_blownFuses_p4, e0, ilt (by omega) (by omega), if_neg (by omega)]
theorem k_count (hS : qShip g 10 r) (hV : qSv g 200 r) (hR : qRow M r) (hn : g.1 300 0 = n) (hw : 0 ≤ w ∧ w ≤ 11) : fX7_countOf g w = some (qco r n w) := by
  have z := hS.2.2.2.2.2
  have e0 : g.1 11 0 = r 0 := hS.1.1
  have e1 : g.1 17 0 = r 85 := hS.2.2.2.1.1
  have e3 : g.1 21 0 = r 134 := hS.2.2.2.2.1.1
  have e2 : g.1 200 6 = qburn r := hV.2.1.1
  have e4 : g.1 200 7 = qleak r := hV.2.2.1.1
  unfold fX7_countOf qco
  rw [ieq (by omega) (by omega), ieq (by omega) (by omega), ieq (by omega) (by omega), ieq (by omega) (by omega), ieq (by omega) (by omega), ieq (by omega) (by omega), ieq (by omega) (by omega), ieq (by omega) (by omega), ieq (by omega) (by omega), ieq (by omega) (by omega), ieq (by omega) (by omega), k_blownF hS hR, zbd_s, hn, e0, e1, e2, e3, e4, z.1, z.2.1, z.2.2.1, z.2.2.2.1, z.2.2.2.2]
  simp only [som_if]
end QCPROP

