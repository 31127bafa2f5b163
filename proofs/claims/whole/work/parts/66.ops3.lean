section QOPS3
variable {g g' g1 g2 g3 g4 : zSt} {m b t x w k p u j a lo hi v M p1 p2 p3 p4 y a1 a2 a3 a4 : Int} {r r' re : Int → Int} {R : Nat → Int → Int} {c s d e N n L : Nat}
theorem op_undo (h : qRel g n R) : qOk (fL_undo g) (fun g => fX8_undo g) := by
  have hR := h.2.1.2.1.1
  have hr := hR.1
  have hH := h.1.2.2
  have hM := h.2.1.2.2
  have hn := hH.1.1
  have ck : fX7_undo g = if (n : Int) = 0 then some (0, 3, g) else zbd (fX2_restore g 10) (fun g1 => zbd (fX6_take g1 200 10) (fun g2 => some ((g2.1 300 0), 0, g2))) := by
    unfold fX7_undo
    rw [hH.1.2, ieq (by omega) (by omega)]
  by_cases q : (n : Int) = 0
  · rw [if_pos q] at ck
    refine h.ref (E := 1) (by omega) (by unfold fL_undo; rw [zbx_some ck]; rfl) ?_
    show fX8_undo g = _
    unfold fX8_undo
    rw [hM.1.2, ilt (by omega) (by omega), if_neg (by omega)]
    unfold fX8_undo_p13
    rw [zlet_e, zwr_e, ilt (by omega) (by omega), if_pos (by omega)]
  · rw [if_neg q] at ck
    obtain ⟨s1, b1, b2, b3, b4⟩ := k_restore hH (by omega)
    have hrow := (hH.2.2.2 (n - 1) (by omega)).2
    have hm1 := hM.2 (n - 1) (by omega)
    have hMd : qMade s1 200 := (qMade_of h.1.1.2.1.1 hr.1).cg (fun q k a b => b4.1 _ _ (by omega))
    obtain ⟨s2, c1, c2, c3⟩ := k_take hrow (by omega) b3 hMd
    have hC : qCs s2 (n - 1) R (R (n - 1)) := ⟨⟨b3.kept c3 (fun q a b => by omega), c2⟩, ⟨h.1.2.1.1.cg (fun q k a b => (c3.1 _ _ (by omega)).trans (b4.1 _ _ (by omega))), h.1.2.1.2.cg (fun q k a b => (c3.1 _ _ (by omega)).trans (b4.1 _ _ (by omega)))⟩, b2.kept c3 (fun q z => by omega)⟩
    have ck2 : fX7_undo g = some (((n - 1 : Nat) : Int), 0, s2) := by
      rw [ck, b1, zbd_s, c1, zbd_s, hC.2.2.1.2]
    refine h.ans (v := ((n - 1 : Nat) : Int)) (by unfold fL_undo; rw [zbx_some ck2]; rfl) hC (((qfc.of (b4.wk (Q := fun q => 10 ≤ q ∧ q < 25 ∨ q = 300) (fun q z => z)) (fun q z => by omega))).tr (qfc.of c3 (fun q z => by omega))) (fun g3 hm => ?_)
    have hm2 := hm.2.2
    let y1 := zwr g3 400 0 0
    let y2 := zwr y1 400 2 (((n - 1 : Nat) : Int))
    have r2 : qr y2 = qr g := (qr_oth (by decide)).trans ((qr_oth (by decide)).trans hm.1)
    obtain ⟨y3, d1, d2, d3⟩ := m_undo37 (g := y2) (n := n - 1) (r := R (n - 1)) (by rw [r2]; exact h.2.1.2.1.2) (by omega) zwr_e (fun j j0 j1 => by
      rw [show y2.1 402 (Int.toNat (168 * ((n - 1 : Nat) : Int) + j)) = g3.1 402 (Int.toNat (168 * ((n - 1 : Nat) : Int) + j)) from (zwr_n (Or.inl (by decide))).trans (zwr_n (Or.inl (by decide)))]
      exact (hm2.2 (n - 1) (by omega)).1 j j0 j1) hm1.2.1 hm1.2.2
    have fy : qfm g3 y3 := ((qfm.wz (by decide)).tr (qfm.wz (by decide))).tr (qfm.of d3 (fun q z => by omega))
    refine ⟨y3, ?_, ⟨d2, ⟨hrow, hm1.2.1⟩, ⟨by omega, (d3.1 _ _ (by omega)).trans zwr_e⟩, fun i hi => ⟨fun j j0 j1 => ?_, (hM.2 i (by omega)).2⟩⟩, fy, (d3.1 _ _ (by omega)).trans ((zwr_n (Or.inr (by decide))).trans zwr_e)⟩
    · show fX8_undo g3 = _
      have e2 : y1.1 400 2 - 1 = ((n - 1 : Nat) : Int) := by
        rw [show y1.1 400 2 = g3.1 400 2 from zwr_n (Or.inr (by decide)), hm2.1.2]
        omega
      unfold fX8_undo
      rw [hm2.1.2, ilt (by omega) (by omega), if_pos (by omega)]
      unfold fX8_undo_p13
      rw [zlet_e, zwr_e, ilt (by omega) (by omega), if_neg (by omega)]
      show zlet (zwr y1 400 2 (y1.1 400 2 - 1)) _ = _
      rw [e2, zlet_e]
      exact d1
    · rw [d3.1 _ _ (by omega), show y2.1 402 (Int.toNat (168 * (i : Int) + j)) = g3.1 402 (Int.toNat (168 * (i : Int) + j)) from (zwr_n (Or.inl (by decide))).trans (zwr_n (Or.inl (by decide)))]
      exact (hm2.2 i (by omega)).1 j j0 j1
theorem op_append (h : qRel g n R) (h1 : qi a1) : qOk (fL_append g a1) (fun g => fX8_append g a1) := by
  have hT := h.2.2
  have hT1 := hT.1
  have h1' := h1
  unfold qi at h1'
  have ck : fX7_append g a1 = if a1 < 33 then some (0, 2, g) else (if 126 < a1 then some (0, 2, g) else (if g.1 0 8 < 60 then zck ((0 : Int) ≤ (g.1 0 8) ∧ (g.1 0 8) < 60) (zlet (zwr g 320 (Int.toNat (g.1 0 8)) a1) (fun g1 => zlet (zwr g1 0 8 ((g1.1 0 8) + 1)) (fun g2 => some ((g2.1 0 8), 0, g2)))) else some (0, 3, g))) := by
    unfold fX7_append
    rw [ilt (by omega) (by omega), ilt (by omega) (by omega), ilt (by omega) (by omega)]
  have mk : ∀ g', g'.1 400 4 = g.1 0 8 → fX8_append g' a1 = if 33 ≤ a1 ∧ a1 ≤ 126 then (if g.1 0 8 = 60 then fX8_append_p30 g' 2 a1 else fX8_append_p30 g' 0 a1) else fX8_append_p30 g' 1 a1 := by
    intro g' e
    unfold fX8_append
    rw [zbq (m_within (by omega)), e, ieq (by omega) (by omega)]
  have pk : ∀ (g : zSt) (E : Int), 1 ≤ E ∧ E ≤ 3 → fX8_append_p30 g E a1 = some (0, zwr g 400 0 E) := by
    intro g E hE
    unfold fX8_append_p30
    rw [zlet_e, zwr_e, ilt (by omega) (by omega), if_pos (by omega)]
  by_cases q1 : 33 ≤ a1 ∧ a1 ≤ 126
  · rw [if_neg (by omega), if_neg (by omega)] at ck
    by_cases q2 : g.1 0 8 < 60
    · rw [if_pos q2] at ck
      let s1 := zwr g 320 (Int.toNat (g.1 0 8)) a1
      let s2 := zwr s1 0 8 (g.1 0 8 + 1)
      let s3 := zwl s2 1 (i32 (g.1 0 8 + 1)).toInt64
      let y1 := zwr s3 400 0 0
      let y2 := zwr y1 403 (Int.toNat (g.1 0 8)) a1
      let y3 := zwr y2 400 4 (g.1 0 8 + 1)
      have h3 : ∀ c k : Nat, s3.1 c k = s2.1 c k := fun _ _ => rfl
      have ck2 : fX7_append g a1 = some (g.1 0 8 + 1, 0, s2) := by
        rw [ck, zck_t (by omega), zlet_e]
        show zlet (zwr s1 0 8 (s1.1 0 8 + 1)) _ = _
        rw [show s1.1 0 8 = g.1 0 8 from zwr_n (Or.inl (by decide)), zlet_e, zwr_e]
      have em : fX8_append s3 a1 = some (g.1 0 8 + 1, y3) := by
        have e4 : s3.1 400 4 = g.1 0 8 := (h3 400 4).trans (((zwr_n (Or.inl (by decide))).trans (zwr_n (Or.inl (by decide)))).trans hT1.2.2)
        have e5 : y1.1 400 4 = g.1 0 8 := (zwr_n (Or.inr (by decide))).trans e4
        have e6 : y2.1 400 4 = g.1 0 8 := (zwr_n (Or.inl (by decide))).trans e5
        rw [mk s3 e4, if_pos q1, if_neg (by omega)]
        unfold fX8_append_p30
        rw [zlet_e, zwr_e, ilt (by omega) (by omega), if_neg (by omega)]
        show zck (0 ≤ y1.1 400 4 ∧ y1.1 400 4 < 60) (zlet (zwr y1 403 (Int.toNat (y1.1 400 4)) a1) _) = _
        rw [e5, zck_t (by omega), zlet_e]
        show zlet (zwr y2 400 4 (y2.1 400 4 + 1)) _ = _
        rw [e6, zlet_e, zwr_e]
      have lo : ∀ c k : Nat, c ≠ 400 → c ≠ 403 → c ≠ 320 → c ≠ 0 → y3.1 c k = g.1 c k := fun c k a b c1 d => (zwr_n (Or.inl a)).trans ((zwr_n (Or.inl b)).trans ((zwr_n (Or.inl a)).trans ((h3 c k).trans ((zwr_n (Or.inl d)).trans (zwr_n (Or.inl c1))))))
      have er : qr y3 = qr g := by
        funext j
        exact lo 401 _ (by decide) (by decide) (by decide) (by decide)
      refine ⟨0, g.1 0 8 + 1, s3, y3, n, R, by unfold fL_append; rw [zbx_some ck2]; rfl, em, (zwr_n (Or.inr (by decide))).trans ((zwr_n (Or.inl (by decide))).trans zwr_e), fun _ => rfl, by omega, ?_, ?_, ?_⟩
      · rw [er]
        exact ⟨⟨qSh.cg h.1.1.1 (fun q k a b => lo _ _ (by omega) (by omega) (by omega) (by omega)), h.1.1.2.cg (fun q k a b => lo _ _ (by omega) (by omega) (by omega) (by omega))⟩, ⟨h.1.2.1.1.cg (fun q k a b => lo _ _ (by omega) (by omega) (by omega) (by omega)), h.1.2.1.2.cg (fun q k a b => lo _ _ (by omega) (by omega) (by omega) (by omega))⟩, h.1.2.2.cg (fun q k a => lo _ _ (by omega) (by omega) (by omega) (by omega)) rfl⟩
      · rw [er]
        exact ⟨er, h.2.1.2.1, h.2.1.2.2.cg ((zwr_n (Or.inr (by decide))).trans ((zwr_n (Or.inl (by decide))).trans ((zwr_n (Or.inr (by decide))).trans ((h3 400 2).trans ((zwr_n (Or.inl (by decide))).trans (zwr_n (Or.inl (by decide)))))))) (fun k => lo _ _ (by decide) (by decide) (by decide) (by decide))⟩
      · have e08 : y3.1 0 8 = g.1 0 8 + 1 := (zwr_n (Or.inl (by decide))).trans ((zwr_n (Or.inl (by decide))).trans ((zwr_n (Or.inl (by decide))).trans ((h3 0 8).trans zwr_e)))
        have e44 : y3.1 400 4 = g.1 0 8 + 1 := zwr_e
        have e32 : ∀ k, y3.1 320 k = s1.1 320 k := fun k => (zwr_n (Or.inl (by decide))).trans ((zwr_n (Or.inl (by decide))).trans ((zwr_n (Or.inl (by decide))).trans ((h3 320 k).trans (zwr_n (Or.inl (by decide))))))
        have e43 : ∀ k, y3.1 403 k = y2.1 403 k := fun k => zwr_n (Or.inl (by decide))
        refine ⟨⟨by omega, by omega, by omega⟩, fun j j0 j1 => ?_⟩
        rw [e32, e43]
        by_cases q : j = g.1 0 8
        · rw [q, show s1.1 320 (Int.toNat (g.1 0 8)) = a1 from zwr_e, show y2.1 403 (Int.toNat (g.1 0 8)) = a1 from zwr_e]
          exact ⟨rfl, q1.1, q1.2⟩
        · rw [show s1.1 320 (Int.toNat j) = g.1 320 (Int.toNat j) from zwr_n (Or.inr (by omega)), show y2.1 403 (Int.toNat j) = g.1 403 (Int.toNat j) from (zwr_n (Or.inr (by omega))).trans ((zwr_n (Or.inl (by decide))).trans ((h3 403 _).trans ((zwr_n (Or.inl (by decide))).trans (zwr_n (Or.inl (by decide))))))]
          exact hT.2 j j0 (by omega)
    · rw [if_neg q2] at ck
      exact h.ref (E := 2) (by omega) (by unfold fL_append; rw [zbx_some ck]; rfl) (by rw [mk g hT1.2.2, if_pos q1, if_pos (by omega)]; exact pk g 2 (by omega))
  · have ck2 : fX7_append g a1 = some (0, 2, g) := by
      rw [ck]
      by_cases q : a1 < 33
      · rw [if_pos q]
      · rw [if_neg q, if_pos (by omega)]
    exact h.ref (E := 1) (by omega) (by unfold fL_append; rw [zbx_some ck2]; rfl) (by rw [mk g hT1.2.2, if_neg q1]; exact pk g 1 (by omega))
theorem op_clear (h : qRel g n R) : ∃ (v : Int) (g2 g4 : zSt), fX7_clearBuffer g = some (v, g2) ∧ fX8_clearBuffer g2 = some (v, g4) ∧ qRel g4 n R := by
  have hT := h.2.2
  have hT1 := hT.1
  let s1 := zwr g 0 8 0
  let y1 := zwr s1 400 0 0
  let y2 := zwr y1 400 4 0
  have lo : ∀ c k : Nat, c ≠ 400 → c ≠ 0 → y2.1 c k = g.1 c k := fun c k a d => (zwr_n (Or.inl a)).trans ((zwr_n (Or.inl a)).trans (zwr_n (Or.inl d)))
  have er : qr y2 = qr g := by
    funext j
    exact lo 401 _ (by decide) (by decide)
  refine ⟨g.1 0 8, s1, y2, rfl, ?_, ?_, ?_, ?_⟩
  · unfold fX8_clearBuffer
    rw [zlet_e]
    show zlet (y1.1 400 4) (fun x2 => zlet (zwr y1 400 4 0) (fun g3 => some (x2, g3))) = _
    rw [show y1.1 400 4 = g.1 0 8 from ((zwr_n (Or.inr (by decide))).trans (zwr_n (Or.inl (by decide)))).trans hT1.2.2]
    rfl
  · rw [er]
    exact ⟨⟨qSh.cg h.1.1.1 (fun q k a b => lo _ _ (by omega) (by omega)), h.1.1.2.cg (fun q k a b => lo _ _ (by omega) (by omega))⟩, ⟨h.1.2.1.1.cg (fun q k a b => lo _ _ (by omega) (by omega)), h.1.2.1.2.cg (fun q k a b => lo _ _ (by omega) (by omega))⟩, h.1.2.2.cg (fun q k a => lo _ _ (by omega) (by omega)) rfl⟩
  · rw [er]
    exact ⟨er, h.2.1.2.1, h.2.1.2.2.cg ((zwr_n (Or.inr (by decide))).trans ((zwr_n (Or.inr (by decide))).trans (zwr_n (Or.inl (by decide))))) (fun k => lo _ _ (by decide) (by decide))⟩
  · have e08 : y2.1 0 8 = 0 := (zwr_n (Or.inl (by decide))).trans ((zwr_n (Or.inl (by decide))).trans zwr_e)
    have e44 : y2.1 400 4 = 0 := zwr_e
    exact ⟨⟨by omega, by omega, by omega⟩, fun j j0 j1 => by omega⟩
end QOPS3
