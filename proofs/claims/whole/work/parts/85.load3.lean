section QLOAD3
variable {g g' g1 g2 g3 g4 : zSt} {b t x w k p u j a lo hi v M y a1 a2 a3 a4 i q P : Int} {r r' re ρ ρ' T : Int → Int} {R : Nat → Int → Int} {c : Int} {s d e N L m n : Nat} {len : Int}
theorem k_comp (hC : qCr g ρ) (hV : qVS ρ) : fX4_isComplete g = some (qbi (decide (ρ (2 + ρ 1) ≠ -1 ∧ ρ 1 = qlp2 (ρ 0)))) := by
  have hp := qVS_p hV
  have h0 := qVS_0 hV
  have hv := k_val hC hV
  have hlp : 1 ≤ qlp2 (ρ 0) ∧ qlp2 (ρ 0) ≤ 2 := by
    unfold qlp2
    split <;> omega
  unfold fX4_isComplete
  rw [hC.1, ieq (by omega) (by omega), k_last hC hV, zbd_s, hC.2.1, ieq (by omega) (by omega), zck_t (c := 0 ≤ ρ 1 ∧ ρ 1 < 3) (by omega), hv, ieq (by omega) (by omega), qck_0, qck_1]
  by_cases q1 : ρ 0 = 0
  · have := hp.2.2.2.mp q1
    rw [if_pos q1, decide_eq_false (by omega)]; rfl
  · rw [if_neg q1]
    by_cases q2 : ρ 1 = qlp2 (ρ 0)
    · rw [if_pos q2]
      by_cases q3 : ρ (2 + ρ 1) = -1
      · rw [if_pos q3, decide_eq_false (fun z => z.1 q3)]; rfl
      · rw [if_neg q3, decide_eq_true ⟨q3, q2⟩]; rfl
    · rw [if_neg q2, decide_eq_false (fun z => q2 z.2)]; rfl
theorem qFull_of (hV : qVS ρ) (h : ρ (2 + ρ 1) ≠ -1 ∧ ρ 1 = qlp2 (ρ 0)) : qFull ρ := by
  have hp := qVS_p hV
  have hlp : 1 ≤ qlp2 (ρ 0) := by
    unfold qlp2
    split <;> omega
  exact ⟨hV, h.1, fun z => by have := hp.2.2.2.mp z; omega, h.2⟩
theorem qCs.mf' (h : qCs g n R r) (f : qfr (fun q => q = 0) g g') : qCs g' n R r := ⟨⟨h.1.1.kept f (fun q a b => by omega), h.1.2.kept f (fun q a b => by omega)⟩, ⟨h.2.1.1.cg (fun q k a b => f.1 _ _ (by omega)), h.2.1.2.cg (fun q k a b => f.1 _ _ (by omega))⟩, h.2.2.kept f (fun q z => by omega)⟩
theorem op_load (h : qRel g n R) : qOk (fL_load g) (fun g => fX8_load g) := by
  have hR := h.2.1.2.1.1
  have hT := h.2.2
  have hn : 0 ≤ g.1 0 8 ∧ g.1 0 8 ≤ 60 := ⟨hT.1.1, hT.1.2.1⟩
  have hTx : qTxt (fun j => g.1 320 (Int.toNat j)) (g.1 0 8) := fun j j0 j1 => by
    have := hT.2 j j0 j1
    show 33 ≤ g.1 320 (Int.toNat j) ∧ g.1 320 (Int.toNat j) ≤ 126
    rw [this.1]
    exact this.2
  obtain ⟨g2, a1, a2, a3, a4⟩ := k_readS (g := g) (T := fun j => g.1 320 (Int.toNat j)) hn hTx rfl (fun j j0 j1 => rfl)
  have f1 : qfc g g2 := qfc.of a4 (fun q z => by omega)
  have hC : qCs g2 n R (qr g) := ⟨⟨h.1.1.1.kept a4 (fun q a b => by omega), h.1.1.2.kept a4 (fun q a b => by omega)⟩, ⟨h.1.2.1.1.cg (fun q k a b => a4.1 _ _ (by omega)), h.1.2.1.2.cg (fun q k a b => a4.1 _ _ (by omega))⟩, h.1.2.2.kept a4 (fun q z => by omega)⟩
  have hst := qstop_le (T := fun j => g.1 320 (Int.toNat j)) (g.1 0 8).toNat 0 qz0
  have e8 : g2.1 0 8 = g.1 0 8 := a4.1 _ _ (by omega)
  -- the reference reads from any state with the same texts
  have mr : ∀ g3 : zSt, (∀ c k : Nat, 400 ≤ c → g3.1 c k = g.1 c k) → ∃ g9, fX8_readText g3 = some ((qstop (fun j => g.1 320 (Int.toNat j)) (g.1 0 8).toNat 0 qz0).1, g9) ∧ qrf g3 g9 ∧ ((qstop (fun j => g.1 320 (Int.toNat j)) (g.1 0 8).toNat 0 qz0).1 = g.1 0 8 → ∃ P', qMr g9 (qstop (fun j => g.1 320 (Int.toNat j)) (g.1 0 8).toNat 0 qz0).2 P' (g.1 0 8) ∧ qVS (qstop (fun j => g.1 320 (Int.toNat j)) (g.1 0 8).toNat 0 qz0).2 ∧ P' + 1 = ((qrest (fun j => g.1 320 (Int.toNat j)) (g.1 0 8).toNat 0 qz0).length : Int) ∧ 0 ≤ P' ∧ ((qstop (fun j => g.1 320 (Int.toNat j)) (g.1 0 8).toNat 0 qz0).2 (2 + (qstop (fun j => g.1 320 (Int.toNat j)) (g.1 0 8).toNat 0 qz0).2 1) ≠ -1 → qpl (qfe g9) 0 (qrest (fun j => g.1 320 (Int.toNat j)) (g.1 0 8).toNat 0 qz0))) := by
    intro g3 h3
    exact m_readT hn hTx ((h3 _ _ (by omega)).trans hT.1.2.2) (fun j j0 j1 => (h3 _ _ (by omega)).trans (hT.2 j j0 j1).1.symm)
  revert mr hst a1 a2 a3
  generalize hS : qstop (fun j => g.1 320 (Int.toNat j)) (g.1 0 8).toNat 0 qz0 = S
  intro a1 a2 a3 hst mr
  have ck : fX7_load g = if S.1 < g.1 0 8 then some (0, 2, g2) else (if S.2 (2 + S.2 1) ≠ -1 ∧ S.2 1 = qlp2 (S.2 0) then zbd (fX2_save g2 10) (fun g4 => zbe (fX7_addParts g4) (fun v5 g6 => zlet (zwr g6 0 8 0) (fun g7 => some (v5, 0, g7)))) else some (0, 2, g2)) := by
    unfold fX7_load
    rw [a1, zbe_s, e8, ilt (by omega) (by omega), zbq (k_comp a2 a3)]
  by_cases q : S.1 = g.1 0 8 ∧ S.2 (2 + S.2 1) ≠ -1 ∧ S.2 1 = qlp2 (S.2 0)
  · rw [if_neg (by omega), if_pos q.2] at ck
    have hF := qFull_of a3 q.2
    obtain ⟨s1, b1, b2, b3⟩ := k_saved hR hC
    obtain ⟨s2, c1, c2, c3⟩ := k_restart (g := s1)
    have K2 : qCs s2 (qpn n) (qpush n R (qr g)) (qr g) := ⟨⟨b2.1.1.kept c3 (fun q a b => by omega), b2.1.2.kept c3 (fun q a b => by omega)⟩, ⟨b2.2.1.1.cg (fun q k a b => c3.1 _ _ (by omega)), b2.2.1.2.cg (fun q k a b => c3.1 _ _ (by omega))⟩, b2.2.2.kept c3 (fun q z => by omega)⟩
    have l8 : s2.1 0 8 = g.1 0 8 := (c3.1 _ _ (by omega)).trans ((b3.1 _ _ (by omega)).trans e8)
    have lt : ∀ j, 0 ≤ j → j < g.1 0 8 → s2.1 320 (Int.toNat j) = g.1 320 (Int.toNat j) := fun j j0 j1 => (c3.1 _ _ (by omega)).trans ((b3.1 _ _ (by omega)).trans (a4.1 _ _ (by omega)))
    have z0 : (g.1 0 8 - 0).toNat = (g.1 0 8).toNat := by omega
    obtain ⟨s6, d1, d2, d3, d4⟩ := k_adds_l hn hTx zfu s2 0 qz0 0 (qr g) (by omega) (by omega) (by unfold zfu; omega) l8 lt c2 qz0_VS (by rw [z0, hS]; exact q.1) (by rw [z0, hS]; exact hF) K2 hR
    rw [z0] at d1 d2 d3
    have hfull := qrest_full hTx (g.1 0 8).toNat 0 qz0 (by omega) (by omega) qz0_VS (by rw [hS]; exact q.1) (by rw [hS]; exact hF)
    revert d1 d2 d3 mr hfull
    generalize hL : qrest (fun j => g.1 320 (Int.toNat j)) (g.1 0 8).toNat 0 qz0 = L
    intro mr d1 d2 d3 hfull
    let s7 := zwr s6 0 8 0
    let s8 := zwl s7 1 (i32 (qfold L (qr g) 0).2).toInt64
    have ck2 : fX7_load g = some ((qfold L (qr g) 0).2, 0, s7) := by
      rw [ck, b1, zbd_s]
      unfold fX7_addParts
      rw [c1, zbd_s, d1, zbe_s, zlet_e]
    have f6 : ∀ c k : Nat, (400 ≤ c ∨ c = 320) → s8.1 c k = g.1 c k := fun c k z => (show s7.1 c k = s6.1 c k from zwr_n (Or.inl (by omega))).trans ((d4.1 _ _ (by omega)).trans ((c3.1 _ _ (by omega)).trans ((b3.1 _ _ (by omega)).trans (a4.1 _ _ (by omega)))))
    obtain ⟨g9, m1, m2, m3⟩ := mr s8 (fun c k z => f6 c k (Or.inl z))
    obtain ⟨P', n1, n2, n3, n4, n5⟩ := m3 q.1
    have hbd := n1.2.2.2.2.2
    have hdz : g9.1 400 11 ≠ 0 := fun z => q.2.1 (n1.2.2.1.mp z)
    have hz2 := (qVS_0 n2).2
    have hP14 : 4 * P' ≤ 60 := by
      have := hbd.2
      rw [if_neg hdz] at this
      omega
    let y1 := zwr g9 400 0 0
    obtain ⟨y2, o1, o2, o3, o4⟩ := m_endP (g := y1) (P := P') ((zwr_n (Or.inr (by decide))).trans n1.1.2.2) (by omega)
    have hm8 : qMs s8 n R (qr g) := h.2.1.cf (fun c k z => f6 c k (Or.inl z))
    have hm2 : qMs y2 n R (qr g) := ((hm8.rd m2).wz (v := 0) (z := 0) (by decide)).rd o4
    obtain ⟨y3, p1, p2, p3⟩ := m_save (by rw [hm2.1]; exact hm2.2.1.2) hm2.2.2
    rw [hm2.1] at p2
    have hm3 : qMs y3 (qpn n) (qpush n R (qr g)) (qr g) := ⟨by rw [p3.qr, hm2.1], hm2.2.1, p2⟩
    have y9 : y1.1 400 9 = g9.1 400 9 := zwr_n (Or.inr (by decide))
    have hq : qpl (y3.1 405) 0 L := qpl_cg (f := qfe g9) (fun j => by
      rw [p3.1 _ _ (by omega) (by omega), o3 j]
      unfold qfe
      rw [y9, n1.1.2.2, show y1.1 405 j = g9.1 405 j from zwr_n (Or.inl (by decide))]) L 0 (n5 q.2.1)
    obtain ⟨y4, t1, t2, t3, t4, t5, t6⟩ := m_load_l L zfu y3 0 (qr g) hfull hq (by rw [p3.1 _ _ (by omega) (by omega), o2.2.2.1]; omega) (by omega) (by omega) (by unfold zfu; omega) hm3
    have e400 : y4.1 400 0 = 0 := t6.trans ((p3.1 _ _ (by omega) (by omega)).trans ((o4.1 _ _ (by omega) (by omega)).trans zwr_e))
    have em : fX8_load s8 = some ((qfold L (qr g) 0).2, y4) := by
      unfold fX8_load
      rw [m1, zbe_s, m2.1 400 4 (by omega) (by omega), f6 400 4 (by omega), hT.1.2.2, ieq (by omega) (by omega), if_pos q.1, zbq (m_over n1 n2 (by omega)), if_pos ⟨hdz, q.2.2⟩, ieq (by omega) (by omega), if_neg (by omega)]
      unfold fX8_load_p34
      rw [zlet_e, zwr_e, ilt (by omega) (by omega), if_neg (by omega)]
      show zbd (fX8_endPart y1) _ = _
      rw [o1, zbd_s, p1, zbd_s]
      exact t1
    have e2 : y4.2 = s8.2 := t4.trans (p3.2.trans (o4.2.trans m2.2))
    have lo : ∀ c k : Nat, c < 400 → y4.1 c k = s7.1 c k := fun c k z => (t3 c k z).trans ((p3.1 _ _ (by omega) (by omega)).trans ((o4.1 _ _ (by omega) (by omega)).trans ((zwr_n (Or.inl (by omega))).trans (m2.1 _ _ (by omega) (by omega)))))
    have K7 : qCs s7 (qpn n) (qpush n R (qr g)) (qfold L (qr g) 0).1 := d2.mf' (show qfr (fun q => q = 0) s6 s7 from qfr.wr rfl)
    refine ⟨0, _, s8, y4, qpn n, qpush n R (qr g), by unfold fL_load; rw [zbx_some ck2]; rfl, em, e400, fun _ => by rw [e2]; rfl, by omega, ?_, ?_, ?_⟩
    · rw [t2.1]
      exact K7.mf (fun c k z => lo c k z) (by rw [e2]; rfl)
    · rw [t2.1]; exact t2
    · have x8 : y4.1 0 8 = 0 := (lo _ _ (by omega)).trans zwr_e
      exact ⟨⟨by omega, by omega, by omega⟩, fun j j0 j1 => by omega⟩
  · have ck2 : fX7_load g = some (0, 2, g2) := by
      rw [ck]
      by_cases q1 : S.1 < g.1 0 8
      · rw [if_pos q1]
      · rw [if_neg q1, if_neg (fun z => q ⟨by omega, z⟩)]
    obtain ⟨g9, m1, m2, m3⟩ := mr g2 (fun c k z => f1.1 c k (Or.inl z))
    have em : fX8_load g2 = some (0, zwr g9 400 0 1) := by
      have p34 : fX8_load_p34 g9 1 = some (0, zwr g9 400 0 1) := by
        unfold fX8_load_p34
        rw [zlet_e, zwr_e, ilt (by omega) (by omega), if_pos (by omega)]
      unfold fX8_load
      rw [m1, zbe_s, m2.1 400 4 (by omega) (by omega), f1.1 400 4 (by omega), hT.1.2.2, ieq (by omega) (by omega), if_pos (show i32 0 = i32 0 from rfl), p34]
      by_cases q1 : S.1 = g.1 0 8
      · obtain ⟨P', n1, n2, n3, n4, n5⟩ := m3 q1
        rw [if_pos q1, zbq (m_over n1 n2 (by omega)), if_neg (fun z => q ⟨q1, fun zz => z.1 (n1.2.2.1.mpr zz), z.2⟩)]
      · rw [if_neg q1]
    have ff : qfm g2 (zwr g9 400 0 1) := (qfm.rd m2).tr (qfm.wz (by decide))
    have hm : qMs (zwr g9 400 0 1) n R (qr g) := ((h.2.1.cf (fun c k z => f1.1 c k (Or.inl z))).rd m2).wz (by decide)
    refine ⟨1, 0, g2, _, n, R, by unfold fL_load; rw [zbx_some ck2]; rfl, em, zwr_e, fun z => by omega, by omega, ?_, ?_, ?_⟩
    · rw [hm.1]; exact hC.mf (fun c k z => ff.1 c k z) (by rw [ff.2.2.2])
    · rw [hm.1]; exact hm
    · exact hT.cg ((ff.1 _ _ (by omega)).trans (f1.1 _ _ (by omega))) (ff.2.2.1.trans (f1.1 _ _ (by omega))) (fun k => (ff.1 _ _ (by omega)).trans (f1.1 _ _ (by omega))) (fun k => (ff.2.1 k).trans (f1.1 _ _ (by omega)))
end QLOAD3
