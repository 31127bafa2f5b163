section QOPS2
variable {g g' g1 g2 g3 g4 : zSt} {m b t x w k p u j a lo hi v M p1 p2 p3 p4 y a1 a2 a3 a4 : Int} {r r' re : Int → Int} {R : Nat → Int → Int} {c s d e N n L : Nat}
theorem c_cnt (h : qCs g n R r) (hR : qRow 8 r) (hs : qsame r r') (f : qfr (fun q => q = 10) g g') (hi : g'.1 10 3 = r' 162 ∧ g'.1 10 4 = r' 163 ∧ g'.1 10 5 = r' 164 ∧ g'.1 10 6 = r' 165 ∧ g'.1 10 7 = r' 166) : qCs g' n R r' := ⟨⟨h.1.1.cnt hR hs f hi, (h.1.2.kept f (fun q a b => by omega)).same hR hs⟩, ⟨h.2.1.1.cg (fun q k a b => f.1 _ _ (by omega)), h.2.1.2.cg (fun q k a b => f.1 _ _ (by omega))⟩, h.2.2.kept f (fun q z => by omega)⟩
theorem m_cnt (h : qMs g n R r) (f : qfr (fun q => q = 401) g g') (he : qr g' = r') (hR' : qRow 8 r') (hE : qend r') : qMs g' n R r' := ⟨he, ⟨hR', hE⟩, h.2.2.cg (f.1 _ _ (by omega)) (fun k => f.1 _ _ (by omega))⟩
theorem qsame_put (hi : 162 ≤ lo) : qsame r (qput r lo v) := fun j j0 j1 => qput_n (by omega)
theorem op_buy (h : qRel g n R) (h1 : qi a1) : qOk (fL_buyFuses g a1) (fun g => fX8_buyFuses g a1) := by
  have hR := h.2.1.2.1.1
  have hr := hR.2.2.2.2.2.2.1
  have h1' := h1
  unfold qi at h1'
  have e0 : g.1 10 3 = qr g 162 := h.1.1.1.2.2.2.2.2.1
  have ck : fX7_buyFuses g a1 = if a1 < 1 then some (0, 2, g) else (if 20 < a1 then some (0, 2, g) else (if i32 50 < i32 (qr g 162 + a1) then some (0, 3, g) else zbd (fX2_save g 10) (fun g1 => zlet (zwr g1 10 3 ((g1.1 10 3) + a1)) (fun g2 => some ((g2.1 10 3), 0, g2))))) := by
    unfold fX7_buyFuses
    rw [ilt (by omega) (by omega), ilt (by omega) (by omega), e0]
  have mk : ∀ g, qr g = qr g → fX8_buyFuses g a1 = if 1 ≤ a1 ∧ a1 ≤ 20 then (if i32 50 < i32 (qr g 162 + a1) then fX8_buyFuses_p35 g 2 a1 else fX8_buyFuses_p35 g 0 a1) else fX8_buyFuses_p35 g 1 a1 := by
    intro g _
    unfold fX8_buyFuses
    rw [zbq (m_within (by omega)), zck_t (by omega), qr_f]
  have pk : ∀ (g : zSt) (E : Int), 1 ≤ E ∧ E ≤ 3 → fX8_buyFuses_p35 g E a1 = some (0, zwr g 400 0 E) := by
    intro g E hE
    unfold fX8_buyFuses_p35
    rw [zlet_e, zwr_e, ilt (by omega) (by omega), if_pos (by omega)]
  by_cases q1 : 1 ≤ a1 ∧ a1 ≤ 20
  · rw [if_neg (by omega), if_neg (by omega), ilt (by omega) (by omega)] at ck
    by_cases q2 : 50 < qr g 162 + a1
    · rw [if_pos q2] at ck
      exact h.ref (E := 2) (by omega) (by unfold fL_buyFuses; rw [zbx_some ck]; rfl) (by rw [mk g rfl, if_pos q1, ilt (by omega) (by omega), if_pos q2]; exact pk g 2 (by omega))
    · rw [if_neg q2] at ck
      obtain ⟨s1, b1, b2, b3⟩ := k_saved hR h.1
      have e1 : s1.1 10 3 = qr g 162 := b2.1.1.2.2.2.2.2.1
      have f1 : qfr (fun q => q = 10) s1 (zwr s1 10 3 (qr g 162 + a1)) := qfr.wr rfl
      have hs : qsame (qr g) (qput (qr g) 162 (qr g 162 + a1)) := qsame_put (by omega)
      have hR' : qRow 8 (qput (qr g) 162 (qr g 162 + a1)) := hR.cnt hs (by rw [qput_e rfl]; omega) (by rw [qput_n (by decide)]; exact hR.2.2.2.2.2.2.2.1) (by rw [qput_n (by decide), qput_n (by decide)]; exact hR.2.2.2.2.2.2.2.2.1) (by rw [qput_n (by decide), qput_n (by decide)]; exact hR.2.2.2.2.2.2.2.2.2)
      have hC : qCs (zwr s1 10 3 (qr g 162 + a1)) (qpn n) (qpush n R (qr g)) (qput (qr g) 162 (qr g 162 + a1)) := by
        have z := b2.1.1.2.2.2.2.2
        refine c_cnt b2 hR hs f1 ⟨?_, ?_, ?_, ?_, ?_⟩
        · rw [zwr_e, qput_e rfl]
        · rw [zwr_n (Or.inr (by decide)), qput_n (by decide)]; exact z.2.1
        · rw [zwr_n (Or.inr (by decide)), qput_n (by decide)]; exact z.2.2.1
        · rw [zwr_n (Or.inr (by decide)), qput_n (by decide)]; exact z.2.2.2.1
        · rw [zwr_n (Or.inr (by decide)), qput_n (by decide)]; exact z.2.2.2.2
      have ck2 : fX7_buyFuses g a1 = some (qr g 162 + a1, 0, zwr s1 10 3 (qr g 162 + a1)) := by
        rw [ck, b1, zbd_s, e1, zlet_e, zwr_e]
      refine h.ans (v := qr g 162 + a1) (by unfold fL_buyFuses; rw [zbx_some ck2]; rfl) hC (b3.tr (qfc.of f1 (fun q z => by omega))) (fun g3 hm => ?_)
      obtain ⟨t1, d1, d2, d3, d4⟩ := m_saved (hm.wz (v := 0) (z := 0) (by decide))
      have et : t1.1 401 (Int.toNat 162) = qr g 162 := congrFun d2.1 162
      have f2 : qfr (fun q => q = 401) t1 (zwr t1 401 (Int.toNat 162) (qr g 162 + a1)) := f401
      have eq2 : qr (zwr t1 401 (Int.toNat 162) (qr g 162 + a1)) = qput (qr g) 162 (qr g 162 + a1) := by rw [qr_put, d2.1]
      refine ⟨zwr t1 401 (Int.toNat 162) (qr g 162 + a1), ?_, m_cnt d2 f2 eq2 hR' (qput_end h.2.1.2.1.2 (by decide)), ((qfm.wz (by decide)).tr d3).tr (qfm.of f2 (fun q z => by omega)), (f2.1 _ _ (by omega)).trans (d4.trans zwr_e)⟩
      show fX8_buyFuses g3 a1 = _
      rw [mk g3 rfl, hm.1, if_pos q1, ilt (by omega) (by omega), if_neg q2]
      unfold fX8_buyFuses_p35
      rw [zlet_e, zwr_e, ilt (by omega) (by omega), if_neg (by omega), d1, zbd_s, zck_t (by omega), zck_t (by omega), et, zlet_e, zck_t (by omega), zwr_e]
  · have ck2 : fX7_buyFuses g a1 = some (0, 2, g) := by
      rw [ck]
      by_cases q : a1 < 1
      · rw [if_pos q]
      · rw [if_neg q, if_pos (by omega)]
    exact h.ref (E := 1) (by omega) (by unfold fL_buyFuses; rw [zbx_some ck2]; rfl) (by rw [mk g rfl, if_neg q1]; exact pk g 1 (by omega))
theorem qdrawn_e (hR : qRow M r) : qsum (qun r 0) 0 (r 85).toNat = qdrawn r := by
  unfold qdrawn
  refine qsum_congr _ _ (fun k a b => ?_)
  have hx := (hR.2.2.2.2.1 k a (by omega)).1
  unfold qun
  rw [qrs0 hR hx]
  by_cases q : qdk r k = 0
  · rw [if_pos ⟨q, rfl⟩, if_pos q]
  · rw [if_neg (fun z => q z.1), if_neg q]
theorem qdrawn_r (hR : qRow M r) : 0 ≤ qdrawn r ∧ qdrawn r ≤ 144 := by
  have h2 := hR.2.1
  have := qsum_le (f := fun k => if qdk r k = 0 then qL r k 1 else 0) (b := 9) (r 85).toNat 0 (fun k a b => by
    have hx := (hR.2.2.2.2.1 k a (by omega)).2.1
    show 0 ≤ (if qdk r k = 0 then qL r k 1 else 0) ∧ (if qdk r k = 0 then qL r k 1 else 0) ≤ 9
    split <;> omega)
  unfold qdrawn
  omega
theorem op_burn (h : qRel g n R) (h1 : qi a1) : qOk (fL_burn g a1) (fun g => fX8_burn g a1) := by
  have hR := h.2.1.2.1.1
  have hr := hR.2.2.2.2.2.2.2.1
  have hr5 := hR.2.2.2.2.2.2.2.2.1
  have hr6 := hR.2.2.2.2.2.2.2.2.2
  have hd := qdrawn_r hR
  have hl := qleak_r hR
  have h1' := h1
  unfold qi at h1'
  have e0 : g.1 10 5 = qr g 164 := h.1.1.1.2.2.2.2.2.2.2.1
  have ck : fX7_burn g a1 = if a1 < 1 then some (0, 2, g) else (if 1000 < a1 then some (0, 2, g) else (if i32 100000 < i32 (qr g 164 + a1) then some (0, 3, g) else zbd (fX2_save g 10) (fun g1 => zck ((0 : Int) ≤ 0 ∧ 0 < 12) (zlet ((g1.1 208 (Int.toNat 0)) * a1) (fun x2 => zlet (zwr g1 10 5 ((g1.1 10 5) + a1)) (fun g3 => zlet (zwr g3 10 6 ((g3.1 10 6) + x2)) (fun g4 => zlet (zwr g4 10 7 ((g4.1 10 7) + ((g4.1 200 7) * a1))) (fun g5 => some (x2, 0, g5))))))))) := by
    unfold fX7_burn
    rw [ilt (by omega) (by omega), ilt (by omega) (by omega), e0]
  have mk : ∀ g, qr g = qr g → fX8_burn g a1 = if 1 ≤ a1 ∧ a1 ≤ 1000 then (if i32 100000 < i32 (qr g 164 + a1) then fX8_burn_p36 g 2 a1 else fX8_burn_p36 g 0 a1) else fX8_burn_p36 g 1 a1 := by
    intro g _
    unfold fX8_burn
    rw [zbq (m_within (by omega)), zck_t (by omega), qr_f]
  have pk : ∀ (g : zSt) (E : Int), 1 ≤ E ∧ E ≤ 3 → fX8_burn_p36 g E a1 = some (0, zwr g 400 0 E) := by
    intro g E hE
    unfold fX8_burn_p36
    rw [zlet_e, zwr_e, ilt (by omega) (by omega), if_pos (by omega)]
  by_cases q1 : 1 ≤ a1 ∧ a1 ≤ 1000
  · rw [if_neg (by omega), if_neg (by omega), ilt (by omega) (by omega)] at ck
    by_cases q2 : 100000 < qr g 164 + a1
    · rw [if_pos q2] at ck
      exact h.ref (E := 2) (by omega) (by unfold fL_burn; rw [zbx_some ck]; rfl) (by rw [mk g rfl, if_pos q1, ilt (by omega) (by omega), if_pos q2]; exact pk g 2 (by omega))
    · rw [if_neg q2] at ck
      obtain ⟨s1, b1, b2, b3⟩ := k_saved hR h.1
      have z := b2.1.1.2.2.2.2.2
      have eu : s1.1 208 (Int.toNat 0) = qdrawn (qr g) := (b2.1.2.2.2.2.1 0 (by omega) (by have := hR.1; omega)).trans (qdrawn_e hR)
      have elk : s1.1 200 7 = qleak (qr g) := b2.1.2.2.2.1.1
      let r1 := qput (qr g) 164 (qr g 164 + a1)
      let r2 := qput r1 165 (qr g 165 + a1 * qdrawn (qr g))
      let r3 := qput r2 166 (qr g 166 + a1 * qleak (qr g))
      have hs1 : qsame (qr g) r1 := qsame_put (by omega)
      have hs2 : qsame (qr g) r2 := fun j j0 j1 => (qput_n (by omega)).trans (hs1 j j0 j1)
      have hs3 : qsame (qr g) r3 := fun j j0 j1 => (qput_n (by omega)).trans (hs2 j j0 j1)
      have m1 : a1 * qdrawn (qr g) ≤ a1 * 144 := Int.mul_le_mul_of_nonneg_left (by omega) (by omega)
      have m2 : a1 * qleak (qr g) ≤ a1 * 270 := Int.mul_le_mul_of_nonneg_left (by omega) (by omega)
      have m3 : 0 ≤ a1 * qdrawn (qr g) := Int.mul_nonneg (by omega) (by omega)
      have m4 : 0 ≤ a1 * qleak (qr g) := Int.mul_nonneg (by omega) (by omega)
      have e1 : r1 164 = qr g 164 + a1 := qput_e rfl
      have e12 : r1 162 = qr g 162 := qput_n (by decide)
      have e15 : r1 165 = qr g 165 := qput_n (by decide)
      have e16 : r1 166 = qr g 166 := qput_n (by decide)
      have e22 : r2 162 = qr g 162 := (qput_n (by decide)).trans e12
      have e24 : r2 164 = qr g 164 + a1 := (qput_n (by decide)).trans e1
      have e25 : r2 165 = qr g 165 + a1 * qdrawn (qr g) := qput_e rfl
      have e26 : r2 166 = qr g 166 := (qput_n (by decide)).trans e16
      have e32 : r3 162 = qr g 162 := (qput_n (by decide)).trans e22
      have e33 : r3 163 = qr g 163 := (qput_n (by decide)).trans ((qput_n (by decide)).trans (qput_n (by decide)))
      have e34 : r3 164 = qr g 164 + a1 := (qput_n (by decide)).trans e24
      have e35 : r3 165 = qr g 165 + a1 * qdrawn (qr g) := (qput_n (by decide)).trans e25
      have e36 : r3 166 = qr g 166 + a1 * qleak (qr g) := qput_e rfl
      have hR2 : qRow 8 r2 := hR.cnt hs2 (by rw [e22]; exact hR.2.2.2.2.2.2.1) (by rw [e24]; omega) (by rw [e25, e24]; omega) (by rw [e26, e24]; omega)
      have hR3 : qRow 8 r3 := hR.cnt hs3 (by rw [e32]; exact hR.2.2.2.2.2.2.1) (by rw [e34]; omega) (by rw [e35, e34]; omega) (by rw [e36, e34]; omega)
      let w1 := zwr s1 10 5 (qr g 164 + a1)
      let w2 := zwr w1 10 6 (qr g 165 + a1 * qdrawn (qr g))
      let w3 := zwr w2 10 7 (qr g 166 + a1 * qleak (qr g))
      have fw : ∀ (h : zSt) (z : Nat) (v : Int), qfr (fun q => q = 10) h (zwr h 10 z v) := fun h z v => qfr.wr rfl
      have f1 : qfr (fun q => q = 10) s1 w3 := ((fw _ _ _).tr (fw _ _ _)).tr (fw _ _ _)
      have hC : qCs w3 (qpn n) (qpush n R (qr g)) r3 := by
        refine c_cnt b2 hR hs3 f1 ⟨?_, ?_, ?_, ?_, ?_⟩
        · rw [e32]; exact (zwr_n (Or.inr (by decide))).trans ((zwr_n (Or.inr (by decide))).trans ((zwr_n (Or.inr (by decide))).trans z.1))
        · rw [e33]; exact (zwr_n (Or.inr (by decide))).trans ((zwr_n (Or.inr (by decide))).trans ((zwr_n (Or.inr (by decide))).trans z.2.1))
        · rw [e34]; exact (zwr_n (Or.inr (by decide))).trans ((zwr_n (Or.inr (by decide))).trans zwr_e)
        · rw [e35]; exact (zwr_n (Or.inr (by decide))).trans zwr_e
        · rw [e36]; exact zwr_e
      have ck2 : fX7_burn g a1 = some (a1 * qdrawn (qr g), 0, w3) := by
        have x6 : w1.1 10 6 = qr g 165 := (zwr_n (Or.inr (by decide))).trans z.2.2.2.1
        have x7 : w2.1 10 7 = qr g 166 := (zwr_n (Or.inr (by decide))).trans ((zwr_n (Or.inr (by decide))).trans z.2.2.2.2)
        have xl : w2.1 200 7 = qleak (qr g) := (zwr_n (Or.inl (by decide))).trans ((zwr_n (Or.inl (by decide))).trans elk)
        rw [ck, b1, zbd_s, zck_t (by omega), eu, Int.mul_comm, zlet_e, z.2.2.1, zlet_e]
        show zlet (zwr w1 10 6 (w1.1 10 6 + a1 * qdrawn (qr g))) _ = _
        rw [x6, zlet_e]
        show zlet (zwr w2 10 7 (w2.1 10 7 + w2.1 200 7 * a1)) _ = _
        rw [x7, xl, Int.mul_comm (qleak (qr g)), zlet_e]
      refine h.ans (v := a1 * qdrawn (qr g)) (by unfold fL_burn; rw [zbx_some ck2]; rfl) hC (b3.tr (qfc.of f1 (fun q z => by omega))) (fun g3 hm => ?_)
      obtain ⟨t1, d1, d2, d3, d4⟩ := m_saved (hm.wz (v := 0) (z := 0) (by decide))
      let y1 := zwr t1 401 (Int.toNat 164) (qr g 164 + a1)
      let y2 := zwr y1 401 (Int.toNat 165) (qr g 165 + a1 * qdrawn (qr g))
      let y3 := zwr y2 401 (Int.toNat 166) (qr g 166 + a1 * qleak (qr g))
      have c1 : qr y1 = r1 := by
        have z : qr y1 = qput (qr t1) 164 _ := qr_put
        rw [d2.1] at z
        exact z
      have c2 : qr y2 = r2 := by
        have z : qr y2 = qput (qr y1) 165 _ := qr_put
        rw [c1] at z
        exact z
      have c3 : qr y3 = r3 := by
        have z : qr y3 = qput (qr y2) 166 _ := qr_put
        rw [c2] at z
        exact z
      have f2 : qfr (fun q => q = 401) t1 y3 := (f401.tr f401).tr f401
      refine ⟨y3, ?_, m_cnt d2 f2 c3 hR3 (qput_end (qput_end (qput_end h.2.1.2.1.2 (by decide)) (by decide)) (by decide)), ((qfm.wz (by decide)).tr d3).tr (qfm.of f2 (fun q z => by omega)), (f2.1 _ _ (by omega)).trans (d4.trans zwr_e)⟩
      show fX8_burn g3 a1 = _
      rw [mk g3 rfl, hm.1, if_pos q1, ilt (by omega) (by omega), if_neg q2]
      have v4 : t1.1 401 (Int.toNat 164) = qr g 164 := congrFun d2.1 164
      have v5 : y1.1 401 (Int.toNat 165) = qr g 165 := (congrFun c1 165).trans e15
      have v6 : y2.1 401 (Int.toNat 166) = qr g 166 := (congrFun c2 166).trans e26
      have vl : fX8_leak y2 = some (qleak (qr g)) := by
        rw [m_leak (m := 8) (by rw [c2]; exact hR2), c2, qleak_cg hs2 hR]
      have vd : fX8_drawn t1 = some (qdrawn (qr g)) := by
        rw [m_drawn (m := 8) (by rw [d2.1]; exact hR), d2.1]
      unfold fX8_burn_p36
      rw [zlet_e, zwr_e, ilt (by omega) (by omega), if_neg (by omega), d1, zbd_s, vd, zbd_s, zlet_e, zck_t (by omega), zck_t (by omega), v4, zlet_e, zck_t (by omega), zck_t (by omega)]
      show zlet (zwr y1 401 (Int.toNat 165) (y1.1 401 (Int.toNat 165) + a1 * qdrawn (qr g))) _ = _
      rw [v5, zlet_e, zck_t (by omega)]
      show zbd (fX8_leak y2) _ = _
      rw [vl, zbd_s, zck_t (by omega)]
      show zlet (zwr y2 401 (Int.toNat 166) (y2.1 401 (Int.toNat 166) + a1 * qleak (qr g))) _ = _
      rw [v6, zlet_e]
  · have ck2 : fX7_burn g a1 = some (0, 2, g) := by
      rw [ck]
      by_cases q : a1 < 1
      · rw [if_pos q]
      · rw [if_neg q, if_pos (by omega)]
    exact h.ref (E := 1) (by omega) (by unfold fL_burn; rw [zbx_some ck2]; rfl) (by rw [mk g rfl, if_neg q1]; exact pk g 1 (by omega))
end QOPS2
