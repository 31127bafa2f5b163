section QMDIG
variable {g g' g1 g2 g3 g4 : zSt} {b t x w k p u j a lo hi v M y a1 a2 a3 a4 i l : Int} {r r' re T : Int → Int} {R : Nat → Int → Int} {c s d e N L m n : Nat} {h h0 : Int64}
/-- what the digest of the reference leaves -/
def qfx (g g' : zSt) : Prop := (∀ c k : Nat, c < 400 → g'.1 c k = g.1 c k) ∧ (∀ k, g'.1 403 k = g.1 403 k) ∧ g'.1 400 4 = g.1 400 4 ∧ g'.2.1 = g.2.1
theorem qfx.tr (h : qfx g1 g2) (h' : qfx g2 g3) : qfx g1 g3 := ⟨fun c k a => (h'.1 c k a).trans (h.1 c k a), fun k => (h'.2.1 k).trans (h.2.1 k), h'.2.2.1.trans h.2.2.1, h'.2.2.2.trans h.2.2.2⟩
theorem qfx.of (h : qfm g g') : qfx g g' := ⟨h.1, h.2.1, h.2.2.1, by rw [h.2.2.2]⟩
theorem qfx.lg (h1 : g'.1 = g.1) (h2 : g'.2.1 = g.2.1) : qfx g g' := ⟨fun c k _ => by rw [h1], fun k => by rw [h1], by rw [h1], h2⟩
theorem qfx.z {v : Int64} : qfx g (zwl g 0 v) := qfx.lg rfl rfl
theorem m_p38 (hR : qRow 8 r) : ∀ (fu : Nat) (g : zSt) (b : Int), 0 ≤ b → b ≤ r 0 → (r 0 - b).toNat < fu → qMs g n R r → ∃ g', fX8_digest_p38 fu g b = fX8_digest_p61 zfu g' 0 ∧ g'.2.2 0 = qhB r (r 0 - b).toNat b (g.2.2 0) ∧ g'.1 = g.1 ∧ g'.2.1 = g.2.1 := by
  have h1 := hR.1
  intro fu
  induction fu with
  | zero => intro g b _ _ z; omega
  | succ fu ih =>
    intro g b b0 b1 hf hM
    have e0 : g.1 401 (Int.toNat 0) = r 0 := congrFun hM.1 0
    rw [fX8_digest_p38, zck_t (by omega), e0, ilt (by omega) (by omega)]
    by_cases q : b < r 0
    · obtain ⟨g2, x1, x2, x3, x4⟩ := m_mixBox hM ⟨b0, q⟩
      obtain ⟨g', y1, y2, y3, y4⟩ := ih g2 (b + 1) (by omega) (by omega) (by omega) (hM.lg x3)
      rw [if_pos q, x1, zbd_s, show (r 0 - b).toNat = (r 0 - (b + 1)).toNat + 1 by omega, qhB]
      exact ⟨g', y1, by rw [y2, x2], y3.trans x3, y4.trans x4⟩
    · rw [if_neg q, show (r 0 - b).toNat = 0 by omega]
      exact ⟨g, rfl, rfl, rfl, rfl⟩
theorem m_p167 (hR : qRow 8 r) (hr : qend r) : ∀ (fu : Nat) (g : zSt) (b : Int), 1 ≤ b → b ≤ r 0 → (r 0 - b).toNat < fu → qMs g n R r → ∃ g', fX8_digest_p167 fu g b = (zbd (fX8_shareNow g') (fun u2 => zbd (fJxe99ae_doubleToLongBits_ccdee g' u2) (fun h3 => zbd (fX8_mix g' h3) (fun g4 => zbd (fX8_mix g4 ((i32 (g4.1 400 4)).toInt64)) (fun g5 => fX8_digest_p237 zfu g5 0))))) ∧ g'.2.2 0 = qhT r (r 0 - b).toNat b (g.2.2 0) ∧ qMs g' n R r ∧ qfx g g' := by
  have h1 := hR.1
  intro fu
  induction fu with
  | zero => intro g b _ _ z; omega
  | succ fu ih =>
    intro g b b0 b1 hf hM
    have e0 : g.1 401 (Int.toNat 0) = r 0 := congrFun hM.1 0
    rw [fX8_digest_p167, zck_t (by omega), e0, ilt (by omega) (by omega)]
    by_cases q : b < r 0
    · obtain ⟨g7, x1, x2, x3, x4⟩ := m_tog hM ⟨by omega, q⟩
      obtain ⟨g10, y1, y2, y3, y4⟩ := m_whole (g := zwl g7 0 (qh (g7.2.2 0) (qburn (qset 24 (qtn r b 2) 0).1))) x2 (b := b) (t := 0) (by omega) (Or.inl rfl)
      obtain ⟨g13, z1, z2, z3, z4⟩ := m_whole (g := zwl g10 0 (qh (g10.2.2 0) (qcur (qwr r) b 0))) y2 (b := b) (t := 1) (by omega) (Or.inr rfl)
      obtain ⟨g', w1, w2, w3, w4⟩ := ih (zwl g13 0 (qh (g13.2.2 0) (qcur (qwr r) b 1))) (b + 1) (by omega) (by omega) (by omega) z2
      have l7 : g7.2.2 0 = g.2.2 0 := by rw [x3.2.2.2]
      have l10 : g10.2.2 0 = qh (g7.2.2 0) (qburn (qset 24 (qtn r b 2) 0).1) := by rw [y3.2.2.2]; rfl
      have l13 : g13.2.2 0 = qh (g10.2.2 0) (qcur (qwr r) b 0) := by rw [z3.2.2.2]; rfl
      rw [if_pos q, x1, zbe_s, m_mix, zbd_s, y1, zbe_s, m_mix, zbd_s, z1, zbe_s, m_mix, zbd_s, show (r 0 - b).toNat = (r 0 - (b + 1)).toNat + 1 by omega, qhT]
      refine ⟨g', w1, ?_, w3, ((((((qfx.of x3).tr qfx.z).tr (qfx.of y3)).tr qfx.z).tr (qfx.of z3)).tr qfx.z).tr w4⟩
      rw [w2]
      show qhT r (r 0 - (b + 1)).toNat (b + 1) (qh (g13.2.2 0) (qcur (qwr r) b 1)) = _
      rw [l13, l10, l7]
      rfl
    · rw [if_neg q, show (r 0 - b).toNat = 0 by omega]
      exact ⟨g, rfl, rfl, hM, qfx.lg rfl rfl⟩
theorem m_digest (hM : qMs g n R r) (hl : g.1 400 4 = l) (h0 : 0 ≤ l ∧ l ≤ 60) (ht : ∀ j, 0 ≤ j → j < l → g.1 403 (Int.toNat j) = T j) : ∃ g', fX8_digest g = some (qdig r n T l, g') ∧ qMs g' n R r ∧ qfx g g' := by
  have hR := hM.2.1.1
  have h1 := hR.1
  have h2 := hR.2.1
  have h3 := hR.2.2.1
  let s0 := zwl (zwr g 400 0 0) 0 2141
  have hM0 : qMs s0 n R r := hM.wz (v := 0) (z := 0) (by decide)
  have f0 : qfx g s0 := (qfx.of (qfm.wz (by decide))).tr qfx.z
  obtain ⟨g1, a1, a2, a3, a4, a5⟩ := q_mix (L := fun fu g k => fX8_digest_p14 fu g k) (lo := 0) (hi := 12) (f := qco r n) (F := fun g => fX8_digest_p38 zfu g 0) (P := fun g => qMs g n R r) (fun fu g k hp k0 k1 => by
    show fX8_digest_p14 (fu + 1) g k = _
    rw [fX8_digest_p14, ilt (by omega) (by omega), if_pos k1, m_counted (M := 8) (n := n) (by rw [hp.1]; exact hR) ⟨k0, by omega⟩ hp.2.2.1.2, zbd_s, m_mix, zbd_s, hp.1]) (fun fu g hp => by
    show fX8_digest_p14 (fu + 1) g 12 = _
    rw [fX8_digest_p14, ilt (by omega) (by omega), if_neg (by omega)]) (fun g v hp => hp) zfu s0 0 (by omega) (by omega) (by unfold zfu; omega) hM0
  obtain ⟨g2, b1, b2, b3, b4⟩ := m_p38 (n := n) (R := R) hR zfu g1 0 (by omega) (by omega) (by unfold zfu; omega) a2
  have hM2 : qMs g2 n R r := a2.lg b3
  obtain ⟨g3, c1, c2, c3, c4, c5⟩ := q_mix (L := fun fu g k => fX8_digest_p61 fu g k) (lo := 0) (hi := 4 * r 85) (f := fun k => qlp r (k / 4) (k % 4)) (F := fun g => fX8_digest_p97 zfu g 0) (P := fun g => qMs g n R r) (fun fu g k hp k0 k1 => by
    have e : g.1 401 (Int.toNat 85) = r 85 := congrFun hp.1 85
    show fX8_digest_p61 (fu + 1) g k = _
    rw [fX8_digest_p61, zck_t (by omega), e, ilt (by omega) (by omega), if_pos k1, (qdm4 (by omega)).1, (qdm4 (by omega)).2, m_lanNow (M := 8) (by rw [hp.1]; exact hR) (by rw [hp.1]; omega) (by omega), zbd_s, m_mix, zbd_s, hp.1]) (fun fu g hp => by
    have e : g.1 401 (Int.toNat 85) = r 85 := congrFun hp.1 85
    show fX8_digest_p61 (fu + 1) g (4 * r 85) = _
    rw [fX8_digest_p61, zck_t (by omega), e, ilt (by omega) (by omega), if_neg (by omega)]) (fun g v hp => hp) zfu g2 0 (by omega) (by omega) (by unfold zfu; omega) hM2
  obtain ⟨g4, d1, d2, d3, d4, d5⟩ := q_mix (L := fun fu g k => fX8_digest_p97 fu g k) (lo := 0) (hi := 5 * r 134) (f := fun k => qfq r (k / 5) (k % 5)) (F := fun g => fX8_digest_p134 zfu g 0) (P := fun g => qMs g n R r) (fun fu g k hp k0 k1 => by
    have e : g.1 401 (Int.toNat 134) = r 134 := congrFun hp.1 134
    show fX8_digest_p97 (fu + 1) g k = _
    rw [fX8_digest_p97, zck_t (by omega), e, ilt (by omega) (by omega), if_pos k1, (qdm5 (by omega)).1, (qdm5 (by omega)).2, m_fauNow (M := 8) (by rw [hp.1]; exact hR) (by rw [hp.1]; omega) (by omega), zbd_s, m_mix, zbd_s, hp.1]) (fun fu g hp => by
    have e : g.1 401 (Int.toNat 134) = r 134 := congrFun hp.1 134
    show fX8_digest_p97 (fu + 1) g (5 * r 134) = _
    rw [fX8_digest_p97, zck_t (by omega), e, ilt (by omega) (by omega), if_neg (by omega)]) (fun g v hp => hp) zfu g3 0 (by omega) (by omega) (by unfold zfu; omega) c2
  have hl4 : g4.2.2 0 = qhN (qfq r) 5 (r 134).toNat 0 (qhN (qlp r) 4 (r 85).toNat 0 (qhB r (r 0).toNat 0 (qhs (qco r n) 12 0 2141))) := by
    rw [d3, c3, b2, a3]
    have z4 := qhN_flat (f := fun k => qlp r (k / 4) (k % 4)) (F := qlp r) (w := 4) (fun k i k0 i0 i1 => by
      show qlp r ((((4 : Nat) : Int) * k + i) / 4) ((((4 : Nat) : Int) * k + i) % 4) = _
      rw [show (((4 : Nat) : Int) * k + i) / 4 = k by omega, show (((4 : Nat) : Int) * k + i) % 4 = i by omega]) (r 85).toNat 0
    have z5 := qhN_flat (f := fun k => qfq r (k / 5) (k % 5)) (F := qfq r) (w := 5) (fun k i k0 i0 i1 => by
      show qfq r ((((5 : Nat) : Int) * k + i) / 5) ((((5 : Nat) : Int) * k + i) % 5) = _
      rw [show (((5 : Nat) : Int) * k + i) / 5 = k by omega, show (((5 : Nat) : Int) * k + i) % 5 = i by omega]) (r 134).toNat 0
    rw [show (5 * r 134 - 0).toNat = 5 * (r 134).toNat by omega, show (4 * r 85 - 0).toNat = 4 * (r 85).toNat by omega, show (r 0 - 0).toNat = (r 0).toNat by omega]
    have y4 := fun h => z4 h (by omega)
    have y5 := fun h => z5 h (by omega)
    rw [show ((4 : Nat) : Int) * 0 = 0 from rfl] at y4
    rw [show ((5 : Nat) : Int) * 0 = 0 from rfl] at y5
    rw [y4, y5]
    rfl
  have e4 : qr g4 = r := d2.1
  -- the lamps
  have step : ∀ (g : zSt) (p : Int), (p = 0 ∨ p = 1) → qMs g n R r → ∃ g', (∀ K : zSt → Option (Int64 × zSt), zbd (fX8_lampOf g p) (fun v15 => zbd (fX8_mix g ((i32 v15).toInt64)) (fun g16 => zbe (fX8_located g16 p) (fun v17 g18 => zbd (fX8_mix g18 ((i32 v17).toInt64)) (fun g19 => K g19)))) = K g') ∧ g'.2.2 0 = qh (qh (g.2.2 0) (qlamp r p)) (qloc r p) ∧ qMs g' n R r ∧ qfx g g' := by
    intro g p hp hm
    have hmz : qMs (zwl g 0 (qh (g.2.2 0) (qlamp r p))) n R r := hm
    obtain ⟨g18, x1, x2, x3⟩ := m_loc (g := zwl g 0 (qh (g.2.2 0) (qlamp r p))) (p := p) (by rw [hmz.1]; exact hR) hp
    rw [hmz.1] at x1 x2
    have l18 : g18.2.2 0 = qh (g.2.2 0) (qlamp r p) := by rw [x3.2]; rfl
    refine ⟨zwl g18 0 (qh (g18.2.2 0) (qloc r p)), fun K => ?_, ?_, (m_cnt hmz x3 x2 hR hM.2.1.2 : qMs g18 n R r), (qfx.z.tr (qfx.of (qfm.of x3 (fun q z => by omega)))).tr qfx.z⟩
    · rw [m_lampOf (m := 8) (by rw [hm.1]; exact hR) hp, zbd_s, hm.1, m_mix, zbd_s, x1, zbe_s, m_mix, zbd_s]
    · show qh (g18.2.2 0) (qloc r p) = _
      rw [l18]
  obtain ⟨g5, k1, k2, k3, k4⟩ := step g4 0 (Or.inl rfl) d2
  obtain ⟨g6, m1, m2, m3, m4⟩ := step g5 1 (Or.inr rfl) k3
  have p134 : fX8_digest_p134 zfu g4 0 = fX8_digest_p167 zfu g6 1 := by
    rw [show zfu = 1997 + 1 + 1 + 1 from rfl, fX8_digest_p134, ilt (by omega) (by omega), if_pos (by omega), k1, fX8_digest_p134, ilt (by omega) (by omega), if_pos (by omega), show (0 : Int) + 1 = 1 from rfl, m1, fX8_digest_p134, ilt (by omega) (by omega), if_neg (by omega)]
    rfl
  obtain ⟨g7, n1, n2, n3, n4⟩ := m_p167 (n := n) (R := R) hR hM.2.1.2 zfu g6 1 (by omega) (by omega) (by unfold zfu; omega) m3
  let s8 := zwl g7 0 (((31 : Int64) * g7.2.2 0) + (qshv r).toInt64)
  have fA : qfx g s8 := (((((((f0.tr (qfx.lg a4 a5)).tr (qfx.lg b3 b4)).tr (qfx.lg c4 c5)).tr (qfx.lg d4 d5)).tr k4).tr m4).tr n4).tr qfx.z
  have hl8 : s8.1 400 4 = l := fA.2.2.1.trans hl
  let s9 := zwl s8 0 (qh (s8.2.2 0) l)
  have hM9 : qMs s9 n R r := n3
  obtain ⟨g9, o1, o2, o3, o4, o5⟩ := q_mix (L := fun fu g k => fX8_digest_p237 fu g k) (lo := 0) (hi := l) (f := T) (F := fun g => some ((g.2.2 0), g)) (P := fun g => g.1 = s9.1) (fun fu g k hp k0 k1 => by
    show fX8_digest_p237 (fu + 1) g k = _
    have e1 : g.1 400 4 = l := by rw [hp]; exact hl8
    have e2 : g.1 403 (Int.toNat k) = T k := by rw [hp]; exact (fA.2.1 _).trans (ht k k0 k1)
    rw [fX8_digest_p237, e1, ilt (by omega) (by omega), if_pos k1, zck_t (by omega), e2, m_mix, zbd_s]) (fun fu g hp => by
    show fX8_digest_p237 (fu + 1) g l = _
    have e1 : g.1 400 4 = l := by rw [hp]; exact hl8
    rw [fX8_digest_p237, e1, ilt (by omega) (by omega), if_neg (by omega)]) (fun g v hp => hp) zfu s9 0 (by omega) (by omega) (by unfold zfu; omega) rfl
  refine ⟨g9, ?_, hM9.lg o4, (fA.tr qfx.z).tr (qfx.lg o4 o5)⟩
  have hv : g9.2.2 0 = qdig r n T l := by
    rw [o3, show (l - 0).toNat = l.toNat by omega]
    show qhs T l.toNat 0 (qh (((31 : Int64) * g7.2.2 0) + (qshv r).toInt64) l) = _
    rw [n2, m2, k2, hl4]
    rfl
  unfold fX8_digest
  rw [zlet_e, zlet_e]
  refine a1.trans ?_
  show fX8_digest_p38 zfu g1 0 = _
  rw [b1]
  refine c1.trans ?_
  show fX8_digest_p97 zfu g3 0 = _
  refine d1.trans ?_
  show fX8_digest_p134 zfu g4 0 = _
  rw [p134, n1, m_share2 (M := 8) (by rw [n3.1]; exact hR), zbd_s, n3.1, m_bits hR, zbd_s]
  have x8 : fX8_mix g7 (qshv r).toInt64 = some s8 := rfl
  rw [x8, zbd_s, hl8, m_mix, zbd_s]
  refine o1.trans ?_
  show some (g9.2.2 0, g9) = _
  rw [hv]
theorem op_digest (h : qRel g n R) : ∃ (u : Int64) (g2 g4 : zSt), fX7_digest g = some (u, g2) ∧ fX8_digest g2 = some (u, g4) ∧ qRel g4 n R := by
  have hR := h.2.1.2.1.1
  have hT := h.2.2
  obtain ⟨g2, a1, a2, a3⟩ := c_dig (T := fun j => g.1 320 (Int.toNat j)) h.1 hR rfl ⟨hT.1.1, hT.1.2.1⟩ (fun j j0 j1 => rfl)
  have hM2 : qMs g2 n R (qr g) := h.2.1.cf (fun c k q => a3.1 _ _ (by omega))
  obtain ⟨g4, b1, b2, b3⟩ := m_digest (T := fun j => g.1 320 (Int.toNat j)) (l := g.1 0 8) hM2 ((a3.1 _ _ (by omega)).trans hT.1.2.2) ⟨hT.1.1, hT.1.2.1⟩ (fun j j0 j1 => (a3.1 _ _ (by omega)).trans (hT.2 j j0 j1).1.symm)
  refine ⟨qdig (qr g) n (fun j => g.1 320 (Int.toNat j)) (g.1 0 8), g2, g4, a1, b1, ?_, ?_, ?_⟩
  · rw [b2.1]
    exact a2.mf b3.1 b3.2.2.2
  · rw [b2.1]; exact b2
  · exact hT.cg ((b3.1 _ _ (by omega)).trans (a3.1 _ _ (by omega))) (b3.2.2.1.trans (a3.1 _ _ (by omega))) (fun k => (b3.1 _ _ (by omega)).trans (a3.1 _ _ (by omega))) (fun k => (b3.2.1 k).trans (a3.1 _ _ (by omega)))
end QMDIG
