section QCASES
variable {g g2 g4 : zSt} {v x i e : Int} {R : Nat → Int → Int} {n L : Nat} {xs : Nat → Int32} {K : zSt → Int → Option Unit}
theorem qtail (h3 : g4.1 400 0 = e) (h4 : e = 0 → g4.2.2 1 = (i32 v).toInt64) (h5 : 0 ≤ e ∧ e ≤ 3) (h6 : qRel g4 n R) (hK : ∀ g n R, qRel g n R → K g x = some ()) : zbd (fX8_thrown g4) (fun v5 => (if i32 v5 = i32 e then (if i32 e = i32 0 then (if i32 (zlc (g4.2.2 1) ((i32 v).toInt64)) = i32 0 then K g4 x else none) else K g4 x) else none)) = some () := by
  unfold fX8_thrown
  rw [h3, zbd_s, if_pos rfl, ieq (by omega) (by omega)]
  by_cases q : e = 0
  · rw [if_pos q, h4 q, zlc_s, if_pos rfl]
    exact hK g4 n R h6
  · rw [if_neg q]
    exact hK g4 n R h6
theorem cs_0 (h : qRel g n R) (hi : 0 ≤ i ∧ i + 5 ≤ (L : Int)) (hK : ∀ g n R, qRel g n R → K g (i + 5) = some ()) : fL_case0 xs L K g i = some () := by
  obtain ⟨e, v, g2, g4, n', R', h1, h2, h3, h4, h5, h6⟩ := op_addBox h (zsc_r xs (i + 1)) (zsc_r xs (i + 2)) (zsc_r xs (i + 3)) (zb0_r (zsc xs (i + 4)))
  have h2 : fX8_addBox g2 (zsc xs (i + 1)) (zsc xs (i + 2)) (zsc xs (i + 3)) (zb0 (zsc xs (i + 4))) = some (v, g4) := h2
  unfold fL_case0
  rw [zck_t (by omega), zck_t (by omega), zck_t (by omega), zck_t (by omega), h1, zbe_s, zck_t (by omega), zck_t (by omega), zck_t (by omega), zck_t (by omega), h2, zbe_s]
  exact qtail h3 h4 h5 h6 hK
theorem cs_1 (h : qRel g n R) (hi : 0 ≤ i ∧ i + 5 ≤ (L : Int)) (hK : ∀ g n R, qRel g n R → K g (i + 5) = some ()) : fL_case1 xs L K g i = some () := by
  obtain ⟨e, v, g2, g4, n', R', h1, h2, h3, h4, h5, h6⟩ := op_toggle h (zsc_r xs (i + 1))
  have h2 : fX8_toggle g2 (zsc xs (i + 1)) = some (v, g4) := h2
  unfold fL_case1
  rw [zck_t (by omega), h1, zbe_s, zck_t (by omega), h2, zbe_s]
  exact qtail h3 h4 h5 h6 hK
theorem cs_2 (h : qRel g n R) (hi : 0 ≤ i ∧ i + 5 ≤ (L : Int)) (hK : ∀ g n R, qRel g n R → K g (i + 5) = some ()) : fL_case2 xs L K g i = some () := by
  obtain ⟨e, v, g2, g4, n', R', h1, h2, h3, h4, h5, h6⟩ := op_cross h (zsc_r xs (i + 1))
  have h2 : fX8_cross g2 (zsc xs (i + 1)) = some (v, g4) := h2
  unfold fL_case2
  rw [zck_t (by omega), h1, zbe_s, zck_t (by omega), h2, zbe_s]
  exact qtail h3 h4 h5 h6 hK
theorem cs_3 (h : qRel g n R) (hi : 0 ≤ i ∧ i + 5 ≤ (L : Int)) (hK : ∀ g n R, qRel g n R → K g (i + 5) = some ()) : fL_case3 xs L K g i = some () := by
  obtain ⟨e, v, g2, g4, n', R', h1, h2, h3, h4, h5, h6⟩ := op_replace h (zsc_r xs (i + 1)) (zsc_r xs (i + 2)) (zsc_r xs (i + 3))
  have h2 : fX8_replace g2 (zsc xs (i + 1)) (zsc xs (i + 2)) (zsc xs (i + 3)) = some (v, g4) := h2
  unfold fL_case3
  rw [zck_t (by omega), zck_t (by omega), zck_t (by omega), h1, zbe_s, zck_t (by omega), zck_t (by omega), zck_t (by omega), h2, zbe_s]
  exact qtail h3 h4 h5 h6 hK
theorem cs_4 (h : qRel g n R) (hi : 0 ≤ i ∧ i + 5 ≤ (L : Int)) (hK : ∀ g n R, qRel g n R → K g (i + 5) = some ()) : fL_case4 xs L K g i = some () := by
  obtain ⟨e, v, g2, g4, n', R', h1, h2, h3, h4, h5, h6⟩ := op_buy h (zsc_r xs (i + 1))
  have h2 : fX8_buyFuses g2 (zsc xs (i + 1)) = some (v, g4) := h2
  unfold fL_case4
  rw [zck_t (by omega), h1, zbe_s, zck_t (by omega), h2, zbe_s]
  exact qtail h3 h4 h5 h6 hK
theorem cs_5 (h : qRel g n R) (hi : 0 ≤ i ∧ i + 5 ≤ (L : Int)) (hK : ∀ g n R, qRel g n R → K g (i + 5) = some ()) : fL_case5 xs L K g i = some () := by
  obtain ⟨e, v, g2, g4, n', R', h1, h2, h3, h4, h5, h6⟩ := op_hang h (zsc_r xs (i + 1)) (zsc_r xs (i + 2)) (zb0_r (zsc xs (i + 3)))
  have h2 : fX8_hang g2 (zsc xs (i + 1)) (zsc xs (i + 2)) (zb0 (zsc xs (i + 3))) = some (v, g4) := h2
  unfold fL_case5
  rw [zck_t (by omega), zck_t (by omega), zck_t (by omega), h1, zbe_s, zck_t (by omega), zck_t (by omega), zck_t (by omega), h2, zbe_s]
  exact qtail h3 h4 h5 h6 hK
theorem cs_6 (h : qRel g n R) (hi : 0 ≤ i ∧ i + 5 ≤ (L : Int)) (hK : ∀ g n R, qRel g n R → K g (i + 5) = some ()) : fL_case6 xs L K g i = some () := by
  obtain ⟨e, v, g2, g4, n', R', h1, h2, h3, h4, h5, h6⟩ := op_takeDown h (zsc_r xs (i + 1))
  have h2 : fX8_takeDown g2 (zsc xs (i + 1)) = some (v, g4) := h2
  unfold fL_case6
  rw [zck_t (by omega), h1, zbe_s, zck_t (by omega), h2, zbe_s]
  exact qtail h3 h4 h5 h6 hK
theorem cs_7 (h : qRel g n R) (hi : 0 ≤ i ∧ i + 5 ≤ (L : Int)) (hK : ∀ g n R, qRel g n R → K g (i + 5) = some ()) : fL_case7 xs L K g i = some () := by
  obtain ⟨e, v, g2, g4, n', R', h1, h2, h3, h4, h5, h6⟩ := op_fault h (zsc_r xs (i + 1)) (zsc_r xs (i + 2)) (zsc_r xs (i + 3))
  have h2 : fX8_fault g2 (zsc xs (i + 1)) (zsc xs (i + 2)) (zsc xs (i + 3)) = some (v, g4) := h2
  unfold fL_case7
  rw [zck_t (by omega), zck_t (by omega), zck_t (by omega), h1, zbe_s, zck_t (by omega), zck_t (by omega), zck_t (by omega), h2, zbe_s]
  exact qtail h3 h4 h5 h6 hK
theorem cs_8 (h : qRel g n R) (hi : 0 ≤ i ∧ i + 5 ≤ (L : Int)) (hK : ∀ g n R, qRel g n R → K g (i + 5) = some ()) : fL_case8 xs L K g i = some () := by
  obtain ⟨e, v, g2, g4, n', R', h1, h2, h3, h4, h5, h6⟩ := op_mend h (zsc_r xs (i + 1))
  have h2 : fX8_mend g2 (zsc xs (i + 1)) = some (v, g4) := h2
  unfold fL_case8
  rw [zck_t (by omega), h1, zbe_s, zck_t (by omega), h2, zbe_s]
  exact qtail h3 h4 h5 h6 hK
theorem cs_9 (h : qRel g n R) (hi : 0 ≤ i ∧ i + 5 ≤ (L : Int)) (hK : ∀ g n R, qRel g n R → K g (i + 5) = some ()) : fL_case9 xs L K g i = some () := by
  obtain ⟨e, v, g2, g4, n', R', h1, h2, h3, h4, h5, h6⟩ := op_burn h (zsc_r xs (i + 1))
  have h2 : fX8_burn g2 (zsc xs (i + 1)) = some (v, g4) := h2
  unfold fL_case9
  rw [zck_t (by omega), h1, zbe_s, zck_t (by omega), h2, zbe_s]
  exact qtail h3 h4 h5 h6 hK
theorem cs_10 (h : qRel g n R) (hi : 0 ≤ i ∧ i + 5 ≤ (L : Int)) (hK : ∀ g n R, qRel g n R → K g (i + 5) = some ()) : fL_case10 xs L K g i = some () := by
  obtain ⟨e, v, g2, g4, n', R', h1, h2, h3, h4, h5, h6⟩ := op_append h (zsc_r xs (i + 1))
  have h2 : fX8_append g2 (zsc xs (i + 1)) = some (v, g4) := h2
  unfold fL_case10
  rw [zck_t (by omega), h1, zbe_s, zck_t (by omega), h2, zbe_s]
  exact qtail h3 h4 h5 h6 hK
theorem cs_11 (h : qRel g n R) (hi : 0 ≤ i ∧ i + 5 ≤ (L : Int)) (hK : ∀ g n R, qRel g n R → K g (i + 5) = some ()) : fL_case11 xs L K g i = some () := by
  obtain ⟨v, g2, g4, h1, h2, h3⟩ := op_clear h
  unfold fL_case11
  rw [h1, zbe_s, h2, zbe_s, if_pos rfl]
  exact hK g4 n R h3
theorem cs_12 (h : qRel g n R) (hi : 0 ≤ i ∧ i + 5 ≤ (L : Int)) (hK : ∀ g n R, qRel g n R → K g (i + 5) = some ()) : fL_case12 xs L K g i = some () := by
  obtain ⟨v, g2, g4, h1, h2, h3⟩ := op_first h
  unfold fL_case12
  rw [h1, zbe_s, h2, zbe_s, if_pos rfl]
  exact hK g4 n R h3
theorem cs_13 (h : qRel g n R) (hi : 0 ≤ i ∧ i + 5 ≤ (L : Int)) (hK : ∀ g n R, qRel g n R → K g (i + 5) = some ()) : fL_case13 xs L K g i = some () := by
  obtain ⟨e, v, g2, g4, n', R', h1, h2, h3, h4, h5, h6⟩ := op_load h
  have h2 : fX8_load g2  = some (v, g4) := h2
  unfold fL_case13
  rw [h1, zbe_s, h2, zbe_s]
  exact qtail h3 h4 h5 h6 hK
theorem cs_14 (h : qRel g n R) (hi : 0 ≤ i ∧ i + 5 ≤ (L : Int)) (hK : ∀ g n R, qRel g n R → K g (i + 5) = some ()) : fL_case14 xs L K g i = some () := by
  obtain ⟨e, v, g2, g4, n', R', h1, h2, h3, h4, h5, h6⟩ := op_undo h
  have h2 : fX8_undo g2  = some (v, g4) := h2
  unfold fL_case14
  rw [h1, zbe_s, h2, zbe_s]
  exact qtail h3 h4 h5 h6 hK
theorem cs_15 (h : qRel g n R) (hi : 0 ≤ i ∧ i + 5 ≤ (L : Int)) (hK : ∀ g n R, qRel g n R → K g (i + 5) = some ()) : fL_case15 xs L K g i = some () := by
  obtain ⟨e, v, g2, g4, n', R', h1, h2, h3, h4, h5, h6⟩ := op_box h (zsc_r xs (i + 1)) (zsc_r xs (i + 2))
  have h2 : fX8_box g2 (zsc xs (i + 1)) (zsc xs (i + 2)) = some (v, g4) := h2
  unfold fL_case15
  rw [zck_t (by omega), zck_t (by omega), h1, zbe_s, zck_t (by omega), zck_t (by omega), h2, zbe_s]
  exact qtail h3 h4 h5 h6 hK
theorem cs_16 (h : qRel g n R) (hi : 0 ≤ i ∧ i + 5 ≤ (L : Int)) (hK : ∀ g n R, qRel g n R → K g (i + 5) = some ()) : fL_case16 xs L K g i = some () := by
  obtain ⟨e, v, g2, g4, n', R', h1, h2, h3, h4, h5, h6⟩ := op_terminal h (zsc_r xs (i + 1)) (zsc_r xs (i + 2)) (zsc_r xs (i + 3))
  have h2 : fX8_terminal g2 (zsc xs (i + 1)) (zsc xs (i + 2)) (zsc xs (i + 3)) = some (v, g4) := h2
  unfold fL_case16
  rw [zck_t (by omega), zck_t (by omega), zck_t (by omega), h1, zbe_s, zck_t (by omega), zck_t (by omega), zck_t (by omega), h2, zbe_s]
  exact qtail h3 h4 h5 h6 hK
theorem cs_17 (h : qRel g n R) (hi : 0 ≤ i ∧ i + 5 ≤ (L : Int)) (hK : ∀ g n R, qRel g n R → K g (i + 5) = some ()) : fL_case17 xs L K g i = some () := by
  obtain ⟨e, v, g2, g4, n', R', h1, h2, h3, h4, h5, h6⟩ := op_lantern h (zsc_r xs (i + 1)) (zsc_r xs (i + 2))
  have h2 : fX8_lantern g2 (zsc xs (i + 1)) (zsc xs (i + 2)) = some (v, g4) := h2
  unfold fL_case17
  rw [zck_t (by omega), zck_t (by omega), h1, zbe_s, zck_t (by omega), zck_t (by omega), h2, zbe_s]
  exact qtail h3 h4 h5 h6 hK
theorem cs_18 (h : qRel g n R) (hi : 0 ≤ i ∧ i + 5 ≤ (L : Int)) (hK : ∀ g n R, qRel g n R → K g (i + 5) = some ()) : fL_case18 xs L K g i = some () := by
  obtain ⟨e, v, g2, g4, n', R', h1, h2, h3, h4, h5, h6⟩ := op_faultAt h (zsc_r xs (i + 1)) (zsc_r xs (i + 2))
  have h2 : fX8_faultAt g2 (zsc xs (i + 1)) (zsc xs (i + 2)) = some (v, g4) := h2
  unfold fL_case18
  rw [zck_t (by omega), zck_t (by omega), h1, zbe_s, zck_t (by omega), zck_t (by omega), h2, zbe_s]
  exact qtail h3 h4 h5 h6 hK
theorem cs_19 (h : qRel g n R) (hi : 0 ≤ i ∧ i + 5 ≤ (L : Int)) (hK : ∀ g n R, qRel g n R → K g (i + 5) = some ()) : fL_case19 xs L K g i = some () := by
  obtain ⟨e, v, g2, g4, n', R', h1, h2, h3, h4, h5, h6⟩ := op_count h (zsc_r xs (i + 1))
  have h2 : fX8_count g2 (zsc xs (i + 1)) = some (v, g4) := h2
  unfold fL_case19
  rw [zck_t (by omega), h1, zbe_s, zck_t (by omega), h2, zbe_s]
  exact qtail h3 h4 h5 h6 hK
theorem cs_20 (h : qRel g n R) (hi : 0 ≤ i ∧ i + 5 ≤ (L : Int)) (hK : ∀ g n R, qRel g n R → K g (i + 5) = some ()) : fL_case20 xs L K g i = some () := by
  obtain ⟨e, v, g2, g4, n', R', h1, h2, h3, h4, h5, h6⟩ := op_lamp h (zsc_r xs (i + 1))
  have h2 : fX8_lamp g2 (zsc xs (i + 1)) = some (v, g4) := h2
  unfold fL_case20
  rw [zck_t (by omega), h1, zbe_s, zck_t (by omega), h2, zbe_s]
  exact qtail h3 h4 h5 h6 hK
theorem cs_21 (h : qRel g n R) (hi : 0 ≤ i ∧ i + 5 ≤ (L : Int)) (hK : ∀ g n R, qRel g n R → K g (i + 5) = some ()) : fL_case21 xs L K g i = some () := by
  obtain ⟨e, v, g2, g4, n', R', h1, h2, h3, h4, h5, h6⟩ := op_locate h (zsc_r xs (i + 1))
  have h2 : fX8_locate g2 (zsc xs (i + 1)) = some (v, g4) := h2
  unfold fL_case21
  rw [zck_t (by omega), h1, zbe_s, zck_t (by omega), h2, zbe_s]
  exact qtail h3 h4 h5 h6 hK
theorem cs_22 (h : qRel g n R) (hi : 0 ≤ i ∧ i + 5 ≤ (L : Int)) (hK : ∀ g n R, qRel g n R → K g (i + 5) = some ()) : fL_case22 xs L K g i = some () := by
  obtain ⟨e, v, g2, g4, n', R', h1, h2, h3, h4, h5, h6⟩ := op_ifFault h (zsc_r xs (i + 1)) (zsc_r xs (i + 2)) (zsc_r xs (i + 3)) (zsc_r xs (i + 4))
  have h2 : fX8_ifFault g2 (zsc xs (i + 1)) (zsc xs (i + 2)) (zsc xs (i + 3)) (zsc xs (i + 4)) = some (v, g4) := h2
  unfold fL_case22
  rw [zck_t (by omega), zck_t (by omega), zck_t (by omega), zck_t (by omega), h1, zbe_s, zck_t (by omega), zck_t (by omega), zck_t (by omega), zck_t (by omega), h2, zbe_s]
  exact qtail h3 h4 h5 h6 hK
theorem cs_23 (h : qRel g n R) (hi : 0 ≤ i ∧ i + 5 ≤ (L : Int)) (hK : ∀ g n R, qRel g n R → K g (i + 5) = some ()) : fL_case23 xs L K g i = some () := by
  obtain ⟨e, v, g2, g4, n', R', h1, h2, h3, h4, h5, h6⟩ := op_ifToggled h (zsc_r xs (i + 1))
  have h2 : fX8_ifToggled g2 (zsc xs (i + 1)) = some (v, g4) := h2
  unfold fL_case23
  rw [zck_t (by omega), h1, zbe_s, zck_t (by omega), h2, zbe_s]
  exact qtail h3 h4 h5 h6 hK
theorem cs_24 (h : qRel g n R) (hi : 0 ≤ i ∧ i + 5 ≤ (L : Int)) (hK : ∀ g n R, qRel g n R → K g (i + 5) = some ()) : fL_case24 xs L K g i = some () := by
  obtain ⟨e, v, g2, g4, n', R', h1, h2, h3, h4, h5, h6⟩ := op_needed h (zsc_r xs (i + 1)) (zsc_r xs (i + 2))
  have h2 : fX8_neededRating g2 (zsc xs (i + 1)) (zsc xs (i + 2)) = some (v, g4) := h2
  unfold fL_case24
  rw [zck_t (by omega), zck_t (by omega), h1, zbe_s, zck_t (by omega), zck_t (by omega), h2, zbe_s]
  exact qtail h3 h4 h5 h6 hK
theorem cs_25 (h : qRel g n R) (hi : 0 ≤ i ∧ i + 5 ≤ (L : Int)) (hK : ∀ g n R, qRel g n R → K g (i + 5) = some ()) : fL_case25 xs L K g i = some () := by
  obtain ⟨u, g3, h1, h2, h3, h4⟩ := op_share h
  unfold fL_case25
  rw [h1, zbd_s, h2, zbe_s, h3, if_pos rfl]
  exact hK g3 n R h4
theorem cs_26 (h : qRel g n R) (hi : 0 ≤ i ∧ i + 5 ≤ (L : Int)) (hK : ∀ g n R, qRel g n R → K g (i + 5) = some ()) : fL_case26 xs L K g i = some () := by
  obtain ⟨u, g2, g4, h1, h2, h3⟩ := op_digest h
  unfold fL_case26
  rw [h1, zbe_s, h2, zbe_s, zlc_s, if_pos rfl]
  exact hK g4 n R h3
theorem q_law (hL : L ≤ 2560) : ∀ (fu : Nat) (g : zSt) (i : Int) (n : Nat) (R : Nat → Int → Int), qRel g n R → 0 ≤ i → i ≤ (L : Int) → (L : Int) - i < 5 * (fu : Int) → fL_p23 xs L fu g i = some () := by
  intro fu
  induction fu with
  | zero => intro g i n R _ h0 h1 h2; omega
  | succ fu ih =>
    intro g i n R h h0 h1 h2
    rw [fL_p23, ilt (by omega) (by omega)]
    by_cases e : (L : Int) - 5 < i
    · rw [if_pos e]
    rw [if_neg e, zck_t (by omega)]
    have hK : ∀ g n R, qRel g n R → fL_p23 xs L fu g (i + 5) = some () := fun g n R hh => ih g (i + 5) n R hh (by omega) (by omega) (by omega)
    by_cases c0 : i32 (zan (zsc xs i) 31) = i32 0
    · rw [if_pos c0]
      exact cs_0 h ⟨h0, by omega⟩ hK
    rw [if_neg c0]
    by_cases c1 : i32 (zan (zsc xs i) 31) = i32 1
    · rw [if_pos c1]
      exact cs_1 h ⟨h0, by omega⟩ hK
    rw [if_neg c1]
    by_cases c2 : i32 (zan (zsc xs i) 31) = i32 2
    · rw [if_pos c2]
      exact cs_2 h ⟨h0, by omega⟩ hK
    rw [if_neg c2]
    by_cases c3 : i32 (zan (zsc xs i) 31) = i32 3
    · rw [if_pos c3]
      exact cs_3 h ⟨h0, by omega⟩ hK
    rw [if_neg c3]
    by_cases c4 : i32 (zan (zsc xs i) 31) = i32 4
    · rw [if_pos c4]
      exact cs_4 h ⟨h0, by omega⟩ hK
    rw [if_neg c4]
    by_cases c5 : i32 (zan (zsc xs i) 31) = i32 5
    · rw [if_pos c5]
      exact cs_5 h ⟨h0, by omega⟩ hK
    rw [if_neg c5]
    by_cases c6 : i32 (zan (zsc xs i) 31) = i32 6
    · rw [if_pos c6]
      exact cs_6 h ⟨h0, by omega⟩ hK
    rw [if_neg c6]
    by_cases c7 : i32 (zan (zsc xs i) 31) = i32 7
    · rw [if_pos c7]
      exact cs_7 h ⟨h0, by omega⟩ hK
    rw [if_neg c7]
    by_cases c8 : i32 (zan (zsc xs i) 31) = i32 8
    · rw [if_pos c8]
      exact cs_8 h ⟨h0, by omega⟩ hK
    rw [if_neg c8]
    by_cases c9 : i32 (zan (zsc xs i) 31) = i32 9
    · rw [if_pos c9]
      exact cs_9 h ⟨h0, by omega⟩ hK
    rw [if_neg c9]
    by_cases c10 : i32 (zan (zsc xs i) 31) = i32 10
    · rw [if_pos c10]
      exact cs_10 h ⟨h0, by omega⟩ hK
    rw [if_neg c10]
    by_cases c11 : i32 (zan (zsc xs i) 31) = i32 11
    · rw [if_pos c11]
      exact cs_11 h ⟨h0, by omega⟩ hK
    rw [if_neg c11]
    by_cases c12 : i32 (zan (zsc xs i) 31) = i32 12
    · rw [if_pos c12]
      exact cs_12 h ⟨h0, by omega⟩ hK
    rw [if_neg c12]
    by_cases c13 : i32 (zan (zsc xs i) 31) = i32 13
    · rw [if_pos c13]
      exact cs_13 h ⟨h0, by omega⟩ hK
    rw [if_neg c13]
    by_cases c14 : i32 (zan (zsc xs i) 31) = i32 14
    · rw [if_pos c14]
      exact cs_14 h ⟨h0, by omega⟩ hK
    rw [if_neg c14]
    by_cases c15 : i32 (zan (zsc xs i) 31) = i32 15
    · rw [if_pos c15]
      exact cs_15 h ⟨h0, by omega⟩ hK
    rw [if_neg c15]
    by_cases c16 : i32 (zan (zsc xs i) 31) = i32 16
    · rw [if_pos c16]
      exact cs_16 h ⟨h0, by omega⟩ hK
    rw [if_neg c16]
    by_cases c17 : i32 (zan (zsc xs i) 31) = i32 17
    · rw [if_pos c17]
      exact cs_17 h ⟨h0, by omega⟩ hK
    rw [if_neg c17]
    by_cases c18 : i32 (zan (zsc xs i) 31) = i32 18
    · rw [if_pos c18]
      exact cs_18 h ⟨h0, by omega⟩ hK
    rw [if_neg c18]
    by_cases c19 : i32 (zan (zsc xs i) 31) = i32 19
    · rw [if_pos c19]
      exact cs_19 h ⟨h0, by omega⟩ hK
    rw [if_neg c19]
    by_cases c20 : i32 (zan (zsc xs i) 31) = i32 20
    · rw [if_pos c20]
      exact cs_20 h ⟨h0, by omega⟩ hK
    rw [if_neg c20]
    by_cases c21 : i32 (zan (zsc xs i) 31) = i32 21
    · rw [if_pos c21]
      exact cs_21 h ⟨h0, by omega⟩ hK
    rw [if_neg c21]
    by_cases c22 : i32 (zan (zsc xs i) 31) = i32 22
    · rw [if_pos c22]
      exact cs_22 h ⟨h0, by omega⟩ hK
    rw [if_neg c22]
    by_cases c23 : i32 (zan (zsc xs i) 31) = i32 23
    · rw [if_pos c23]
      exact cs_23 h ⟨h0, by omega⟩ hK
    rw [if_neg c23]
    by_cases c24 : i32 (zan (zsc xs i) 31) = i32 24
    · rw [if_pos c24]
      exact cs_24 h ⟨h0, by omega⟩ hK
    rw [if_neg c24]
    by_cases c25 : i32 (zan (zsc xs i) 31) = i32 25
    · rw [if_pos c25]
      exact cs_25 h ⟨h0, by omega⟩ hK
    rw [if_neg c25]
    by_cases c26 : i32 (zan (zsc xs i) 31) = i32 26
    · rw [if_pos c26]
      exact cs_26 h ⟨h0, by omega⟩ hK
    rw [if_neg c26]
    exact hK g n R h
/-- the first world -/
theorem zs0_r : qr zs0 0 = 1 ∧ qr zs0 162 = 10 ∧ (∀ j : Int, j.toNat ≠ 0 → j.toNat ≠ 162 → qr zs0 j = 0) := by
  refine ⟨rfl, rfl, fun j h1 h2 => ?_⟩
  show zs1 401 j.toNat = 0
  unfold zs1
  rw [if_neg (by omega), if_neg (by omega), if_pos rfl, if_neg h1, if_neg h2]
theorem zs0_row : qRow 8 (qr zs0) := by
  obtain ⟨h0, h2, h⟩ := zs0_r
  have e85 := h 85 (by decide) (by decide)
  have e134 := h 134 (by decide) (by decide)
  have e164 := h 164 (by decide) (by decide)
  have e165 := h 165 (by decide) (by decide)
  have e166 := h 166 (by decide) (by decide)
  refine ⟨by omega, by omega, by omega, fun b b0 b1 => by omega, fun k k0 k1 => by omega, fun k k0 k1 => by omega, by omega, by omega, by omega, by omega⟩
theorem zs0_made (k : Nat) (hk : k < 3) : qMade zs0 (200 + 20 * k) := by
  have : k = 0 ∨ k = 1 ∨ k = 2 := by omega
  rcases this with rfl | rfl | rfl <;> exact ⟨⟨rfl, rfl⟩, ⟨rfl, rfl⟩, rfl, rfl⟩
theorem zs0_rel : qRel zs0 0 (fun _ _ => 0) := by
  obtain ⟨h0, h2, h⟩ := zs0_r
  have hR := zs0_row
  have e85 := h 85 (by decide) (by decide)
  have e134 := h 134 (by decide) (by decide)
  have e163 := h 163 (by decide) (by decide)
  have e164 := h 164 (by decide) (by decide)
  have e165 := h 165 (by decide) (by decide)
  have e166 := h 166 (by decide) (by decide)
  have z85 : (qr zs0 85).toNat = 0 := by omega
  have z134 : (qr zs0 134).toNat = 0 := by omega
  refine ⟨⟨⟨?_, ?_⟩, ⟨zs0_made 1 (by omega), zs0_made 2 (by omega)⟩, ?_⟩, ⟨rfl, ⟨hR, fun j hj => h j (by omega) (by omega)⟩, ?_⟩, ?_⟩
  · refine qShip.mk (by rw [h0]; rfl) ⟨rfl, Or.inl rfl, Or.inl rfl, Or.inl rfl, Or.inl rfl⟩ (fun b b0 b1 => by omega) (fun b t b0 b1 ht => by omega) (by rw [e85]; rfl) (fun j j0 j1 => by omega) (by rw [e134]; rfl) (fun j j0 j1 => by omega) ⟨by rw [h2]; rfl, by rw [e163]; rfl, by rw [e164]; rfl, by rw [e165]; rfl, by rw [e166]; rfl⟩
  · have hF := qFo_1 (r := qr zs0) (zs0_made 0 (by omega))
    have l0 : ∀ p, qlamp (qr zs0) p = 0 := by
      intro p
      unfold qlamp
      rw [z134]
      rfl
    have x0 : ∀ x : Int, 0 ≤ x → x < qr zs0 0 → x = 0 := fun x a b => by omega
    refine ⟨⟨by rw [h0]; exact hF, fun x a b => ?_⟩, ⟨?_, fun j j0 j1 => by omega⟩, ⟨?_, fun j j0 j1 => by omega⟩, fun x a b => ?_, fun x q a b hq => ?_, fun x q a b hq => ?_⟩
    · rw [x0 x a b]
      unfold qbh
      rw [h0]
      rfl
    · unfold qburn
      rw [z85]
      rfl
    · unfold qleak
      rw [l0, l0]
      rfl
    · rw [z85, x0 x a b]
      rfl
    · rw [z134, x0 x a b]
      rcases hq with rfl | rfl <;> rfl
    · rw [z134, x0 x a b]
      rcases hq with rfl | rfl <;> rfl
  · refine ⟨⟨by omega, rfl⟩, fun i hi => ⟨i, hi, rfl⟩, fun i j hi hj e => ?_, fun i hi => by omega⟩
    have e : 50 + 20 * i = 50 + 20 * j := e
    omega
  · exact ⟨⟨by omega, rfl⟩, fun i hi => by omega⟩
  · have a1 : zs0.1 0 8 = 0 := rfl
    have a2 : zs0.1 400 4 = 0 := rfl
    exact ⟨⟨by omega, by omega, by omega⟩, fun j j0 j1 => by omega⟩
/-- every script comes to its end -/
theorem q_all (hL : L ≤ 2560) : fL_p23 xs L 600 zs0 0 = some () := q_law hL 600 zs0 0 0 _ zs0_rel (by omega) (by omega) (by omega)
end QCASES
