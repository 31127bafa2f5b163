section QCDIG
variable {g g' g1 g2 g3 g4 : zSt} {b t x w k p u j a lo hi v M y a1 a2 a3 a4 i l : Int} {r r' re T : Int → Int} {R : Nat → Int → Int} {c s d e N L m n : Nat} {h h0 : Int64}
theorem k_hTr (hC : qCs g n R r) (hR : qRow 8 r) : ∃ g', fX7_hashTrials g h = some (qhT r (r 0 - 1).toNat 1 h, g') ∧ qCs g' n R r ∧ qfr (fun q => (30 ≤ q ∧ q < 45) ∨ (220 ≤ q ∧ q < 231) ∨ (240 ≤ q ∧ q < 251)) g g' := by
  have h1 := hR.1
  obtain ⟨g8, a1, a2, a3, a4⟩ := k_whole hC hR
  have e0 : qwr r 0 = r 0 := qwr_A hR 0 (by omega) (by omega)
  have hW := qwr_row hR
  have key : ∀ (fu : Nat) (g : zSt) (b : Int) (h : Int64), 1 ≤ b → b ≤ r 0 → (r 0 - b).toNat < fu → qCs g n R r → qSv g 240 (qwr r) → ∃ g', fX7_hashTrials_p9 fu g h b = some (qhT r (r 0 - b).toNat b h, g') ∧ qCs g' n R r ∧ qfr (fun q => (30 ≤ q ∧ q < 45) ∨ (220 ≤ q ∧ q < 231)) g g' := by
    intro fu
    induction fu with
    | zero => intro g b h _ _ z; omega
    | succ fu ih =>
      intro g b h b0 b1 hf hK hV
      have ec : g.1 11 0 = r 0 := hK.1.1.1.1
      rw [fX7_hashTrials_p9, ec, ilt (by omega) (by omega)]
      by_cases q : b < r 0
      · obtain ⟨g2, x1, x2, x3⟩ := k_tog hK hR ⟨by omega, q⟩
        have V2 : qSv g2 240 (qwr r) := hV.kept x3 (fun q a b => by omega)
        obtain ⟨g', y1, y2, y3⟩ := ih g2 (b + 1) (qht r b h) (by omega) (by omega) (by omega) x2 V2
        rw [if_pos q, x1, zbe_s, zlet_e, k_cur hW V2 (b := b) (t := 0) (by rw [e0]; omega) (Or.inl rfl) (by omega), zbd_s, zlet_e, k_cur hW V2 (b := b) (t := 1) (by rw [e0]; omega) (Or.inr rfl) rfl, zbd_s, zlet_e, show (r 0 - b).toNat = (r 0 - (b + 1)).toNat + 1 by omega, qhT]
        exact ⟨g', y1, y2, x3.tr y3⟩
      · rw [if_neg q, show (r 0 - b).toNat = 0 by omega]
        exact ⟨g, rfl, hK, qfr.rf⟩
  obtain ⟨g', b1, b2, b3⟩ := key zfu g8 1 h (by omega) (by omega) (by unfold zfu; omega) a2 a3
  refine ⟨g', ?_, b2, (a4.wk (fun q z => by omega)).tr (b3.wk (fun q z => by omega))⟩
  unfold fX7_hashTrials
  rw [a1, zbd_s]
  exact b1
theorem k_hSg (hl : g.1 0 8 = l) (h0 : 0 ≤ l ∧ l ≤ 60) (ht : ∀ j, 0 ≤ j → j < l → g.1 320 (Int.toNat j) = T j) : fX7_hashSigns g h = some (qhs T l.toNat 0 (qh h l)) := by
  unfold fX7_hashSigns
  rw [hl, zlet_e]
  have z := q_hash (L := fun fu h k => fX7_hashSigns_p15 g fu h k) (lo := 0) (hi := l) (f := T) (F := fun h => some h) (fun fu h k k0 k1 => by
    show fX7_hashSigns_p15 g (fu + 1) h k = _
    rw [fX7_hashSigns_p15, hl, ilt (by omega) (by omega), if_pos k1, zck_t (by omega), zlet_e, ht k k0 k1]
    rfl) (fun fu h => by
    show fX7_hashSigns_p15 g (fu + 1) h l = _
    rw [fX7_hashSigns_p15, hl, ilt (by omega) (by omega), if_neg (by omega)]) zfu 0 (qh h l) (by omega) (by omega) (by unfold zfu; omega)
  rw [show (l - 0).toNat = l.toNat by omega] at z
  exact z
theorem c_dig (hC : qCs g n R r) (hR : qRow 8 r) (hl : g.1 0 8 = l) (h0 : 0 ≤ l ∧ l ≤ 60) (ht : ∀ j, 0 ≤ j → j < l → g.1 320 (Int.toNat j) = T j) : ∃ g', fX7_digest g = some (qdig r n T l, g') ∧ qCs g' n R r ∧ qfr (fun q => (30 ≤ q ∧ q < 45) ∨ (220 ≤ q ∧ q < 231) ∨ (240 ≤ q ∧ q < 251)) g g' := by
  have hS := hC.1.1
  have hV := hC.1.2
  obtain ⟨g2, a1, a2, a3⟩ := k_hTr (h := qhP r (qhN (qfq r) 5 (r 134).toNat 0 (qhN (qlp r) 4 (r 85).toNat 0 (qhB r (r 0).toNat 0 (qhs (qco r n) 12 0 2141))))) hC hR
  refine ⟨g2, ?_, a2, a3⟩
  have p45 : ∀ h, fX7_digest_p45 zfu g h 0 = zbe (fX7_hashTrials g (qhP r h)) (fun h1 g2 => zbd (fX7_lossShare g2) (fun u3 => zbd (fX7_bitsOfShare g2 u3) (fun h4 => zlet (((31 : Int64) * h1) + h4) (fun h5 => zbd (fX7_hashSigns g2 h5) (fun h6 => some (h6, g2)))))) := by
    intro h
    rw [show zfu = 1997 + 1 + 1 + 1 from rfl, fX7_digest_p45, ilt (by omega) (by omega), if_pos (by omega), k_lamp hV hR (Or.inl rfl), zbd_s, zlet_e, k_loc hS hV hR (Or.inl rfl), zbd_s, zlet_e, fX7_digest_p45, ilt (by omega) (by omega), if_pos (by omega), show (0 : Int) + 1 = 1 from rfl, k_lamp hV hR (Or.inr rfl), zbd_s, zlet_e, k_loc hS hV hR (Or.inr rfl), zbd_s, zlet_e, fX7_digest_p45, ilt (by omega) (by omega), if_neg (by omega)]
    rfl
  have p6 := q_hash (L := fun fu h k => fX7_digest_p6 fu g h k) (lo := 0) (hi := 12) (f := qco r n) (F := fun b1 => zbd (fX7_hashBoxes g b1) (fun h11 => zbd (fX7_hashLanternsAndFaults g h11) (fun h12 => fX7_digest_p45 zfu g h12 0))) (fun fu h k k0 k1 => by
    show fX7_digest_p6 (fu + 1) g h k = _
    rw [fX7_digest_p6, ilt (by omega) (by omega), if_pos k1, k_count hS hV hR hC.2.2.1.2 ⟨k0, by omega⟩, zbd_s, zlet_e]
    rfl) (fun fu h => by
    show fX7_digest_p6 (fu + 1) g h 12 = _
    rw [fX7_digest_p6, ilt (by omega) (by omega), if_neg (by omega)]) zfu 0 2141 (by omega) (by omega) (by unfold zfu; omega)
  unfold fX7_digest
  rw [zlet_e]
  refine p6.trans ?_
  show zbd (fX7_hashBoxes g (qhs (qco r n) 12 0 2141)) _ = _
  rw [k_hBx hS hV hR, zbd_s, k_hLF hS hV hR, zbd_s, p45, a1, zbe_s, k_share2 a2.1.1 hR, zbd_s, k_bits hR, zbd_s, zlet_e, k_hSg (T := T) ((a3.1 _ _ (by omega)).trans hl) h0 (fun j j0 j1 => (a3.1 _ _ (by omega)).trans (ht j j0 j1)), zbd_s]
  rfl
/-- a loop that hashes, in the reference -/
theorem q_mix {β : Type} {L : Nat → zSt → Int → Option β} {F : zSt → Option β} {f : Int → Int} {P : zSt → Prop} (hs : ∀ fu g k, P g → lo ≤ k → k < hi → L (fu + 1) g k = L fu (zwl g 0 (qh (g.2.2 0) (f k))) (k + 1)) (he : ∀ fu g, P g → L (fu + 1) g hi = F g) (hP : ∀ g v, P g → P (zwl g 0 v)) : ∀ (fu : Nat) (g : zSt) (k : Int), lo ≤ k → k ≤ hi → (hi - k).toNat < fu → P g → ∃ g', L fu g k = F g' ∧ P g' ∧ g'.2.2 0 = qhs f (hi - k).toNat k (g.2.2 0) ∧ g'.1 = g.1 ∧ g'.2.1 = g.2.1 := by
  intro fu
  induction fu with
  | zero => intro g k _ _ z; omega
  | succ fu ih =>
    intro g k h0 h1 hf hp
    by_cases q : k = hi
    · subst q
      rw [he fu g hp, show (k - k).toNat = 0 by omega]
      exact ⟨g, rfl, hp, rfl, rfl, rfl⟩
    · rw [hs fu g k hp h0 (by omega), show (hi - k).toNat = (hi - (k + 1)).toNat + 1 by omega, qhs]
      obtain ⟨g', x1, x2, x3, x4, x5⟩ := ih (zwl g 0 (qh (g.2.2 0) (f k))) (k + 1) (by omega) (by omega) (by omega) (hP g _ hp)
      exact ⟨g', x1, x2, x3, x4, x5⟩
theorem m_mix {v : Int} : fX8_mix g ((i32 v).toInt64) = some (zwl g 0 (qh (g.2.2 0) v)) := rfl
theorem qMs.lz (hM : qMs g n R r) (v : Int64) : qMs (zwl g 0 v) n R r := hM
theorem qMs.lg (hM : qMs g n R r) (h1 : g'.1 = g.1) : qMs g' n R r := hM.cf (fun c k _ => by rw [h1])
theorem m_mixBox (hM : qMs g n R r) (hb : 0 ≤ b ∧ b < r 0) : ∃ g', fX8_mixBox g b = some g' ∧ g'.2.2 0 = qhb r b (g.2.2 0) ∧ g'.1 = g.1 ∧ g'.2.1 = g.2.1 := by
  have hR := hM.2.1.1
  obtain ⟨g1, a1, a2, a3, a4, a5⟩ := q_mix (L := fun fu g k => fX8_mixBox_p2 fu g b k) (lo := 0) (hi := 7) (f := qbp r b) (F := fun g => fX8_mixBox_p27 zfu g b 0) (P := fun g => qMs g n R r) (fun fu g k hp k0 k1 => by
    show fX8_mixBox_p2 (fu + 1) g b k = _
    rw [fX8_mixBox_p2, ilt (by omega) (by omega), if_pos k1, m_boxNow (M := 8) (by rw [hp.1]; exact hR) (by rw [hp.1]; exact hb) ⟨k0, by omega⟩, zbd_s, m_mix, zbd_s, hp.1]) (fun fu g hp => by
    show fX8_mixBox_p2 (fu + 1) g b 7 = _
    rw [fX8_mixBox_p2, ilt (by omega) (by omega), if_neg (by omega)]) (fun g v hp => hp) zfu g 0 (by omega) (by omega) (by unfold zfu; omega) hM
  obtain ⟨g2, b1, b2, b3, b4, b5⟩ := q_mix (L := fun fu g k => fX8_mixBox_p27 fu g b k) (lo := 0) (hi := 12) (f := fun k => qtp r b (k / 6) (k % 6)) (F := fun g => some g) (P := fun g => qMs g n R r) (fun fu g k hp k0 k1 => by
    show fX8_mixBox_p27 (fu + 1) g b k = _
    rw [fX8_mixBox_p27, ilt (by omega) (by omega), if_pos k1, (qdm6 (by omega)).1, (qdm6 (by omega)).2, m_terNow (M := 8) (by rw [hp.1]; exact hR) (by rw [hp.1]; exact hb) (by omega) (by omega), zbd_s, m_mix, zbd_s, hp.1]) (fun fu g hp => by
    show fX8_mixBox_p27 (fu + 1) g b 12 = _
    rw [fX8_mixBox_p27, ilt (by omega) (by omega), if_neg (by omega)]) (fun g v hp => hp) zfu g1 0 (by omega) (by omega) (by unfold zfu; omega) a2
  refine ⟨g2, ?_, ?_, b4.trans a4, b5.trans a5⟩
  · unfold fX8_mixBox
    exact a1.trans b1
  · rw [b3, a3]
    have z := qhN_flat (f := fun k => qtp r b (k / 6) (k % 6)) (F := qtp r b) (w := 6) (fun k i k0 i0 i1 => by
      show qtp r b ((((6 : Nat) : Int) * k + i) / 6) ((((6 : Nat) : Int) * k + i) % 6) = _
      rw [show (((6 : Nat) : Int) * k + i) / 6 = k by omega, show (((6 : Nat) : Int) * k + i) % 6 = i by omega]) 2 0 (qhs (qbp r b) (7 - 0 : Int).toNat 0 (g.2.2 0)) (by omega)
    exact z
end QCDIG
