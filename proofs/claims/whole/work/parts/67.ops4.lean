section QOPS4
variable {g g' g1 g2 g3 g4 : zSt} {m b t x w k p u j a lo hi v M p1 p2 p3 p4 y a1 a2 a3 a4 : Int} {r r' re : Int → Int} {R : Nat → Int → Int} {c s d e N n L : Nat}
theorem qRow.edB (hR : qRow M r) (hb : 0 < b ∧ b < r 0) (hA : ∀ j, 0 ≤ j → (j < 1 + 7 * b ∨ 8 + 7 * b ≤ j) → j ≠ 162 → r' j = r j) (hB : qBx r' b) (h162 : 0 ≤ r' 162 ∧ r' 162 ≤ 50) : qRow M r' := by
  have h1 := hR.1
  have h2 := hR.2.1
  have h3 := hR.2.2.1
  have o : ∀ j, 85 ≤ j → j ≠ 162 → r' j = r j := fun j hj hj2 => hA j (by omega) (by omega) hj2
  have e0 : r' 0 = r 0 := hA 0 (by omega) (by omega) (by omega)
  refine ⟨by rw [e0]; exact h1, by rw [o 85 (by omega) (by omega)]; exact h2, by rw [o 134 (by omega) (by omega)]; exact h3, fun b2 b0 b1 => ?_, fun k k0 k1 => ?_, fun k k0 k1 => ?_, h162, ?_, ?_, ?_⟩
  · rw [e0] at b1
    by_cases q : b2 = b
    · rw [q]; exact hB
    · exact (hR.2.2.2.1 b2 b0 b1).cg (fun w w0 w1 => hA _ (by omega) (by omega) (by omega))
  · rw [o 85 (by omega) (by omega)] at k1
    have := hR.2.2.2.2.1 k k0 k1
    unfold qLn qL at this ⊢
    rw [o (86 + 3 * k + 0) (by omega) (by omega), o (86 + 3 * k + 1) (by omega) (by omega), o (86 + 3 * k + 2) (by omega) (by omega), e0]
    exact this
  · rw [o 134 (by omega) (by omega)] at k1
    have := hR.2.2.2.2.2.1 k k0 k1
    unfold qFt qF at this ⊢
    rw [o (135 + 3 * k + 0) (by omega) (by omega), o (135 + 3 * k + 1) (by omega) (by omega), o (135 + 3 * k + 2) (by omega) (by omega), e0]
    exact this
  · rw [o 164 (by omega) (by omega)]; exact hR.2.2.2.2.2.2.2.1
  · rw [o 165 (by omega) (by omega), o 164 (by omega) (by omega)]; exact hR.2.2.2.2.2.2.2.2.1
  · rw [o 166 (by omega) (by omega), o 164 (by omega) (by omega)]; exact hR.2.2.2.2.2.2.2.2.2
theorem qShip.edB (hR : qRow M r) (hS : qShip g c r) (hb : 0 < b ∧ b < r 0) (hA : ∀ j, 0 ≤ j → (j < 1 + 7 * b ∨ 8 + 7 * b ≤ j) → j ≠ 162 → r' j = r j) (f : qfr (fun q => q = c ∨ (c + 3 ≤ q ∧ q ≤ c + 6)) g g') (h0 : qB r' b 0 = qB r b 0) (g3 : ∀ k : Nat, k ≠ Int.toNat b → g'.1 (c + 3) k = g.1 (c + 3) k ∧ g'.1 (c + 4) k = g.1 (c + 4) k) (g5 : ∀ k : Nat, k ≠ Int.toNat (2 * b) → k ≠ Int.toNat (2 * b + 1) → g'.1 (c + 5) k = g.1 (c + 5) k ∧ g'.1 (c + 6) k = g.1 (c + 6) k) (g4 : g'.1 (c + 3) (Int.toNat b) = qB r' b 1 ∧ g'.1 (c + 4) (Int.toNat b) = qB r' b 2) (g6 : ∀ t, (t = 0 ∨ t = 1) → g'.1 (c + 5) (Int.toNat (2 * b + t)) = qB r' b (3 + t) ∧ g'.1 (c + 6) (Int.toNat (2 * b + t)) = qB r' b (5 + t)) (hi : g'.1 c 3 = r' 162) (hi2 : ∀ k : Nat, k ≠ 3 → g'.1 c k = g.1 c k) : qShip g' c r' := by
  have h1 := hR.1
  have h2 := hR.2.1
  have h3 := hR.2.2.1
  have o : ∀ j, 85 ≤ j → j ≠ 162 → r' j = r j := fun j hj hj2 => hA j (by omega) (by omega) hj2
  have e0 : r' 0 = r 0 := hA 0 (by omega) (by omega) (by omega)
  have oB : ∀ b2 w, 0 < b2 → b2 < r 0 → b2 ≠ b → 0 ≤ w → w < 7 → qB r' b2 w = qB r b2 w := fun b2 w b0 b1 ne w0 w1 => hA _ (by omega) (by omega) (by omega)
  refine qShip.mk ?_ ⟨?_, ?_, ?_, ?_, ?_⟩ (fun b2 b0 b1 => ?_) (fun b2 t b0 b1 ht => ?_) ?_ (fun j j0 j1 => ?_) ?_ (fun j j0 j1 => ?_) ⟨hi, ?_, ?_, ?_, ?_⟩
  · rw [f.1 _ _ (by omega), e0]; exact hS.1.1
  · rw [f.1 _ _ (by omega)]; exact hS.1.2.1
  · rw [(g3 0 (by omega)).1]; exact hS.1.2.2.1
  · rw [(g3 0 (by omega)).2]; exact hS.1.2.2.2.1
  · rw [(g5 0 (by omega) (by omega)).2]; exact hS.1.2.2.2.2.1
  · rw [(g5 1 (by omega) (by omega)).2]; exact hS.1.2.2.2.2.2
  · rw [e0] at b1
    rw [f.1 _ _ (by omega)]
    have hh := hS.2.1 b2 b0 b1
    by_cases q : b2 = b
    · rw [q] at hh ⊢
      rw [h0]
      exact ⟨hh.1, g4.1, g4.2⟩
    · have z := g3 (Int.toNat b2) (by omega)
      rw [z.1, z.2, oB b2 0 b0 b1 q (by omega) (by omega), oB b2 1 b0 b1 q (by omega) (by omega), oB b2 2 b0 b1 q (by omega) (by omega)]
      exact hh
  · rw [e0] at b1
    by_cases q : b2 = b
    · rw [q]; exact g6 t ht
    · have z := g5 (Int.toNat (2 * b2 + t)) (by omega) (by omega)
      rw [z.1, z.2, oB b2 (3 + t) b0 b1 q (by omega) (by omega), oB b2 (5 + t) b0 b1 q (by omega) (by omega)]
      exact hS.2.2.1 b2 t b0 b1 ht
  · rw [f.1 _ _ (by omega), o 85 (by omega) (by omega)]; exact hS.2.2.2.1.1
  · rw [o 85 (by omega) (by omega)] at j1
    unfold qL
    rw [f.1 _ _ (by omega), f.1 (c + 9) _ (by omega), f.1 (c + 10) _ (by omega), o (86 + 3 * j + 0) (by omega) (by omega), o (86 + 3 * j + 1) (by omega) (by omega), o (86 + 3 * j + 2) (by omega) (by omega)]
    exact hS.2.2.2.1.2 j j0 j1
  · rw [f.1 _ _ (by omega), o 134 (by omega) (by omega)]; exact hS.2.2.2.2.1.1
  · rw [o 134 (by omega) (by omega)] at j1
    unfold qF
    rw [f.1 _ _ (by omega), f.1 (c + 13) _ (by omega), f.1 (c + 14) _ (by omega), o (135 + 3 * j + 0) (by omega) (by omega), o (135 + 3 * j + 1) (by omega) (by omega), o (135 + 3 * j + 2) (by omega) (by omega)]
    exact hS.2.2.2.2.1.2 j j0 j1
  · rw [hi2 4 (by decide), o 163 (by omega) (by omega)]; exact hS.2.2.2.2.2.2.1
  · rw [hi2 5 (by decide), o 164 (by omega) (by omega)]; exact hS.2.2.2.2.2.2.2.1
  · rw [hi2 6 (by decide), o 165 (by omega) (by omega)]; exact hS.2.2.2.2.2.2.2.2.1
  · rw [hi2 7 (by decide), o 166 (by omega) (by omega)]; exact hS.2.2.2.2.2.2.2.2.2
/-- a switch turned or a cable crossed -/
def qtn (r : Int → Int) (b w : Int) : Int → Int := qput r (1 + 7 * b + w) (1 - qB r b w)
theorem qtn_A (hb : 0 < b) (hw : w = 1 ∨ w = 2) : ∀ j, 0 ≤ j → (j < 1 + 7 * b ∨ 8 + 7 * b ≤ j) → j ≠ 162 → qtn r b w j = r j := fun j j0 j1 _ => qput_n (by omega)
theorem qtn_e (hb : 0 < b) (hw : w = 1 ∨ w = 2) : qB (qtn r b w) b w = 1 - qB r b w := qput_e rfl
theorem qtn_n (hb : 0 < b) (hw : w = 1 ∨ w = 2) (hx : 0 ≤ x ∧ x < 7) (ne : x ≠ w) : qB (qtn r b w) b x = qB r b x := qput_n (by omega)
theorem qtn_row (hR : qRow M r) (hb : 0 < b ∧ b < r 0) (hw : w = 1 ∨ w = 2) : qRow M (qtn r b w) := by
  have h1 := hR.1
  have hx := hR.2.2.2.1 b hb.1 hb.2
  refine hR.edB hb (qtn_A hb.1 hw) ?_ (by rw [show qtn r b w 162 = r 162 from qput_n (by omega)]; exact hR.2.2.2.2.2.2.1)
  unfold qBx at hx ⊢
  rcases hw with rfl | rfl
  · rw [qtn_e hb.1 (Or.inl rfl), qtn_n hb.1 (Or.inl rfl) (x := 0) (by omega) (by omega), qtn_n hb.1 (Or.inl rfl) (x := 2) (by omega) (by omega), qtn_n hb.1 (Or.inl rfl) (x := 3) (by omega) (by omega), qtn_n hb.1 (Or.inl rfl) (x := 4) (by omega) (by omega), qtn_n hb.1 (Or.inl rfl) (x := 5) (by omega) (by omega), qtn_n hb.1 (Or.inl rfl) (x := 6) (by omega) (by omega)]
    omega
  · rw [qtn_e hb.1 (Or.inr rfl), qtn_n hb.1 (Or.inr rfl) (x := 0) (by omega) (by omega), qtn_n hb.1 (Or.inr rfl) (x := 1) (by omega) (by omega), qtn_n hb.1 (Or.inr rfl) (x := 3) (by omega) (by omega), qtn_n hb.1 (Or.inr rfl) (x := 4) (by omega) (by omega), qtn_n hb.1 (Or.inr rfl) (x := 5) (by omega) (by omega), qtn_n hb.1 (Or.inr rfl) (x := 6) (by omega) (by omega)]
    omega
theorem qtn_end (hR : qRow M r) (hb : 0 < b ∧ b < r 0) (hw : w = 1 ∨ w = 2) (hE : qend r) : qend (qtn r b w) := by
  have h1 := hR.1
  exact qput_end hE (by omega)
theorem k_turn (hR : qRow M r) (hS : qShip g c r) (hb : 0 < b ∧ b < r 0) (hw : w = 1 ∨ w = 2) (hd : d = c + 2 + w.toNat) : qShip (zwr g d (Int.toNat b) (1 - qB r b w)) c (qtn r b w) := by
  have h1 := hR.1
  have z := hS.2.1 b hb.1 hb.2
  subst hd
  refine hS.edB hR hb (qtn_A hb.1 hw) (qfr.wr (by omega)) (qtn_n hb.1 hw (by omega) (by omega)) (fun k hk => ⟨zwr_n (Or.inr hk), zwr_n (Or.inr hk)⟩) (fun k hk hk2 => ⟨zwr_n (Or.inl (by omega)), zwr_n (Or.inl (by omega))⟩) ?_ (fun t ht => ?_) ?_ (fun k hk => zwr_n (Or.inl (by omega)))
  · rcases hw with rfl | rfl
    · rw [qtn_e hb.1 (Or.inl rfl), qtn_n hb.1 (Or.inl rfl) (x := 2) (by omega) (by omega)]
      exact ⟨zwr_e, (zwr_n (Or.inl (by show c + 4 ≠ c + 2 + 1; omega))).trans z.2.2⟩
    · rw [qtn_e hb.1 (Or.inr rfl), qtn_n hb.1 (Or.inr rfl) (x := 1) (by omega) (by omega)]
      exact ⟨(zwr_n (Or.inl (by show c + 3 ≠ c + 2 + 2; omega))).trans z.2.1, zwr_e⟩
  · rw [zwr_n (Or.inl (by omega)), zwr_n (Or.inl (by omega)), qtn_n hb.1 hw (x := 3 + t) (by omega) (by omega), qtn_n hb.1 hw (x := 5 + t) (by omega) (by omega)]
    exact hS.2.2.1 b t hb.1 hb.2 ht
  · rw [zwr_n (Or.inl (by omega)), show qtn r b w 162 = r 162 from qput_n (by omega)]; exact hS.2.2.2.2.2.1
theorem m_turn (h : qMs g n R r) (hb : 0 < b ∧ b < r 0) (hw : w = 1 ∨ w = 2) : ∃ g', fX8_turn g b w = some g' ∧ qMs g' n R (qset 24 (qtn r b w) 0).1 ∧ qfm g g' ∧ g'.1 400 0 = g.1 400 0 := by
  have hR := h.2.1.1
  have h1 := hR.1
  have e : qr (zwr g 401 (Int.toNat (1 + 7 * b + w)) (1 - qB r b w)) = qtn r b w := by
    rw [qr_put, h.1]
    rfl
  obtain ⟨g3, b1, b2, b3, b4, b5, b6⟩ := m_mut h f401 e (qtn_row hR hb hw) (qtn_end hR hb hw h.2.1.2)
  refine ⟨g3, ?_, b2, b3, b6⟩
  unfold fX8_turn
  rw [m_ofBox (by omega), zbd_s, zck_t (by omega), zlet_e, h.1, b1, zbd_s]
theorem c_turn (h : qCs g n R r) (hR : qRow 8 r) (hb : 0 < b ∧ b < r 0) (hw : w = 1 ∨ w = 2) (hd : d = 12 + w.toNat) : ∃ g3, fX7_settle (zwr g d (Int.toNat b) (1 - qB r b w)) 10 200 = some ((qset 24 (qtn r b w) 0).2, g3) ∧ qCs g3 n R (qset 24 (qtn r b w) 0).1 ∧ qfc g g3 :=
  k_mut h hR.1.1 (P := fun q => q = d) (qfr.wr rfl) (fun q z => by omega) (k_turn (c := 10) hR h.1.1 hb hw hd) (qtn_row hR hb hw)
theorem op_toggle (h : qRel g n R) (h1 : qi a1) : qOk (fL_toggle g a1) (fun g => fX8_toggle g a1) := by
  have hR := h.2.1.2.1.1
  have hr := hR.1
  have hS := h.1.1.1
  have ck : fX7_toggle g a1 = if 0 < a1 ∧ a1 < qr g 0 then zbd (fX2_save g 10) (fun g6 => zck ((0 : Int) ≤ a1 ∧ a1 < 12) (if i32 (g6.1 14 (Int.toNat a1)) = i32 0 then fX7_toggle_p60 g6 a1 1 a1 else fX7_toggle_p60 g6 a1 0 a1)) else some (0, 1, g) := by
    unfold fX7_toggle
    rw [zbq (k_isFed hS hR h1)]
  by_cases q1 : 0 < a1 ∧ a1 < qr g 0
  · rw [if_pos q1] at ck
    obtain ⟨s1, b1, b2, b3⟩ := k_saved hR h.1
    obtain ⟨s3, c1, c2, c3⟩ := c_turn (w := 2) (d := 14) b2 hR q1 (Or.inr rfl) rfl
    have hx := (hR.2.2.2.1 a1 q1.1 q1.2).2.2.1
    have hv : s1.1 14 (Int.toNat a1) = qB (qr g) a1 2 := (b2.1.1.2.1 a1 q1.1 q1.2).2.2
    have e0 : (qset 24 (qtn (qr g) a1 2) 0).1 0 = qr g 0 := (qset_o (Or.inl rfl) 24 _ 0 (qtn_row hR q1 (Or.inr rfl))).trans (qput_n (by omega))
    have ev : qB (qset 24 (qtn (qr g) a1 2) 0).1 a1 2 = 1 - qB (qr g) a1 2 := (qset_B (by omega) (by omega) 24 _ 0 (qtn_row hR q1 (Or.inr rfl))).trans (qtn_e q1.1 (Or.inr rfl))
    have h3v : s3.1 14 (Int.toNat a1) = 1 - qB (qr g) a1 2 := ((c2.1.1.2.1 a1 q1.1 (by omega)).2.2).trans ev
    have p60 : ∀ y, y = 1 - qB (qr g) a1 2 → fX7_toggle_p60 s1 a1 y a1 = some (1 - qB (qr g) a1 2, 0, s3) := by
      intro y hy
      subst hy
      unfold fX7_toggle_p60
      rw [zck_t (by omega), zck_t (by omega), zlet_e, c1, zbe_s, zck_t (by omega), h3v]
      unfold fX7_oneIf
      rw [ieq (by omega) (by omega)]
      rcases hx with q | q
      · rw [q, if_neg (by omega), zbd_s]; rfl
      · rw [q, if_pos (by omega), zbd_s]; rfl
    have ck2 : fX7_toggle g a1 = some (1 - qB (qr g) a1 2, 0, s3) := by
      rw [ck, b1, zbd_s, zck_t (by omega), hv, ieq (by omega) (by omega)]
      rcases hx with q | q
      · rw [if_pos q, p60 1 (by omega)]
      · rw [if_neg (by omega), p60 0 (by omega)]
    refine h.ans (v := 1 - qB (qr g) a1 2) (by unfold fL_toggle; rw [zbx_some ck2]; rfl) c2 (b3.tr c3) (fun g3 hm => ?_)
    obtain ⟨t1, d1, d2, d3, d4⟩ := m_saved (hm.wz (v := 0) (z := 0) (by decide))
    obtain ⟨t2, e1, e2, e3, e4⟩ := m_turn d2 q1 (Or.inr rfl)
    refine ⟨t2, ?_, e2, ((qfm.wz (by decide)).tr d3).tr e3, e4.trans (d4.trans zwr_e)⟩
    show fX8_toggle g3 a1 = _
    unfold fX8_toggle fX8_toggle_p14
    rw [zbq (m_isFed (m := 8) (by rw [hm.1]; exact hR) h1), hm.1, if_pos q1, zlet_e, zwr_e, ilt (by omega) (by omega), if_neg (by omega), d1, zbd_s, e1, zbd_s, m_ofBox (by omega), zbd_s, e2.1, ev]
  · rw [if_neg q1] at ck
    refine h.ref (E := 1) (by omega) (by unfold fL_toggle; rw [zbx_some ck]; rfl) ?_
    show fX8_toggle g a1 = _
    unfold fX8_toggle fX8_toggle_p14
    rw [zbq (m_isFed hR h1), if_neg q1, zlet_e, zwr_e, ilt (by omega) (by omega), if_pos (by omega)]
theorem op_cross (h : qRel g n R) (h1 : qi a1) : qOk (fL_cross g a1) (fun g => fX8_cross g a1) := by
  have hR := h.2.1.2.1.1
  have hr := hR.1
  have hS := h.1.1.1
  have ck : fX7_cross g a1 = if 0 < a1 ∧ a1 < qr g 0 then zbd (fX2_save g 10) (fun g5 => zck ((0 : Int) ≤ a1 ∧ a1 < 12) (if i32 (g5.1 13 (Int.toNat a1)) = i32 0 then fX7_cross_p60 g5 a1 1 else fX7_cross_p60 g5 a1 0)) else some (0, 1, g) := by
    unfold fX7_cross
    rw [zbq (k_isFed hS hR h1)]
  by_cases q1 : 0 < a1 ∧ a1 < qr g 0
  · rw [if_pos q1] at ck
    obtain ⟨s1, b1, b2, b3⟩ := k_saved hR h.1
    obtain ⟨s3, c1, c2, c3⟩ := c_turn (w := 1) (d := 13) b2 hR q1 (Or.inl rfl) rfl
    have hx := (hR.2.2.2.1 a1 q1.1 q1.2).2.1
    have hv : s1.1 13 (Int.toNat a1) = qB (qr g) a1 1 := (b2.1.1.2.1 a1 q1.1 q1.2).2.1
    have h3v : s3.1 200 6 = qburn (qset 24 (qtn (qr g) a1 1) 0).1 := c2.1.2.2.1.1
    have p60 : ∀ y, y = 1 - qB (qr g) a1 1 → fX7_cross_p60 s1 a1 y = some (qburn (qset 24 (qtn (qr g) a1 1) 0).1, 0, s3) := by
      intro y hy
      subst hy
      unfold fX7_cross_p60
      rw [zck_t (by omega), zck_t (by omega), zlet_e, c1, zbe_s, h3v]
    have ck2 : fX7_cross g a1 = some (qburn (qset 24 (qtn (qr g) a1 1) 0).1, 0, s3) := by
      rw [ck, b1, zbd_s, zck_t (by omega), hv, ieq (by omega) (by omega)]
      rcases hx with q | q
      · rw [if_pos q, p60 1 (by omega)]
      · rw [if_neg (by omega), p60 0 (by omega)]
    refine h.ans (v := qburn (qset 24 (qtn (qr g) a1 1) 0).1) (by unfold fL_cross; rw [zbx_some ck2]; rfl) c2 (b3.tr c3) (fun g3 hm => ?_)
    obtain ⟨t1, d1, d2, d3, d4⟩ := m_saved (hm.wz (v := 0) (z := 0) (by decide))
    obtain ⟨t2, e1, e2, e3, e4⟩ := m_turn d2 q1 (Or.inl rfl)
    refine ⟨t2, ?_, e2, ((qfm.wz (by decide)).tr d3).tr e3, e4.trans (d4.trans zwr_e)⟩
    show fX8_cross g3 a1 = _
    unfold fX8_cross fX8_cross_p14
    rw [zbq (m_isFed (m := 8) (by rw [hm.1]; exact hR) h1), hm.1, if_pos q1, zlet_e, zwr_e, ilt (by omega) (by omega), if_neg (by omega), d1, zbd_s, e1, zbd_s, m_burning (m := 8) (by rw [e2.1]; exact e2.2.1.1), zbd_s, e2.1]
  · rw [if_neg q1] at ck
    refine h.ref (E := 1) (by omega) (by unfold fL_cross; rw [zbx_some ck]; rfl) ?_
    show fX8_cross g a1 = _
    unfold fX8_cross fX8_cross_p14
    rw [zbq (m_isFed hR h1), if_neg q1, zlet_e, zwr_e, ilt (by omega) (by omega), if_pos (by omega)]
end QOPS4
