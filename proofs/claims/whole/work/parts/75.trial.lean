section QTRIAL
variable {g g' g1 g2 g3 g4 : zSt} {m b t x w k p u j a lo hi v M p1 p2 p3 p4 y a1 a2 a3 a4 i : Int} {r r' re : Int → Int} {R : Nat → Int → Int} {c s d e N L n : Nat}
theorem m_asd (h : qMs g n R r) : ∃ g1, fX8_keepAside g = some g1 ∧ qr g1 = r ∧ qfr (fun q => q = 404) g g1 ∧ ∀ g3, qkeep g1 g3 → qend (qr g3) → ∃ g4, fX8_takeBack g3 = some g4 ∧ qMs g4 n R r ∧ qfm g g4 ∧ g4.1 400 0 = g.1 400 0 := by
  obtain ⟨g1, a1, a2, a3⟩ := m_aside (g := g)
  have e1 : qr g1 = r := by
    rw [← h.1]
    funext j
    exact a3.1 _ _ (by omega)
  refine ⟨g1, a1, e1, a3, fun g3 hk hE => ?_⟩
  obtain ⟨g4, b1, b2, b3⟩ := m_back (g := g3) (r := r) (fun k k0 k1 => by rw [hk.1 _ _ (by omega) (by omega), a2 k k0 k1, h.1]) h.2.1.2 (by rw [← h.1]; exact qr_nn) hE
  refine ⟨g4, b1, ⟨b2, h.2.1, h.2.2.cg ((b3.1 _ _ (by omega)).trans ((hk.1 _ _ (by omega) (by omega)).trans (a3.1 _ _ (by omega)))) (fun k => (b3.1 _ _ (by omega)).trans ((hk.1 _ _ (by omega) (by omega)).trans (a3.1 _ _ (by omega))))⟩, ((qfm.of a3 (fun q z => by omega)).tr (qfm.ke hk)).tr (qfm.of b3 (fun q z => by omega)), (b3.1 _ _ (by omega)).trans ((hk.1 _ _ (by omega) (by omega)).trans (a3.1 _ _ (by omega)))⟩
theorem qkeep.of (f : qfr (fun q => q = 401) g g') : qkeep g g' := ⟨fun c k a b => f.1 _ _ a, f.2⟩
theorem m_tog (h : qMs g n R r) (hb : 0 < b ∧ b < r 0) : ∃ g', fX8_toggledAnswer g b = some (qburn (qset 24 (qtn r b 2) 0).1, g') ∧ qMs g' n R r ∧ qfm g g' ∧ g'.1 400 0 = g.1 400 0 := by
  have hR := h.2.1.1
  have h1 := hR.1
  obtain ⟨g1, a1, a2, a3, a4⟩ := m_asd h
  have e : qr (zwr g1 401 (Int.toNat (1 + 7 * b + 2)) (1 - qB r b 2)) = qtn r b 2 := by
    rw [qr_put, a2]
    rfl
  have hRe := qtn_row hR hb (Or.inr rfl)
  obtain ⟨g3, b1, b2, b3, b4, b5, b6⟩ := m_settle (m := 8) (g := zwr g1 401 (Int.toNat (1 + 7 * b + 2)) (1 - qB r b 2)) (by rw [e]; exact hRe)
  rw [e] at b2
  obtain ⟨g4, c1, c2, c3, c4⟩ := a4 g3 ((qkeep.of f401).tr b6) (by rw [b2]; exact qset_end 24 _ 0 hRe (qtn_end hR hb (Or.inr rfl) h.2.1.2))
  refine ⟨g4, ?_, c2, c3, c4⟩
  unfold fX8_toggledAnswer fX8_turn
  rw [a1, zbd_s, m_ofBox (by omega), zbd_s, zck_t (by omega), zlet_e, a2, b1, zbd_s, zbd_s, m_burning b5, zbd_s, b2, c1, zbd_s]
theorem k_trial (h : qCs g n R r) (hR : qRow 8 r) : ∃ g1, fX5_copy g 30 10 = some g1 ∧ qShip g1 30 r ∧ qfr (fun q => 30 ≤ q ∧ q < 45) g g1 := by
  obtain ⟨g1, a1, a2, a3⟩ := k_copy (c := 30) hR h.1.1 (by omega)
  exact ⟨g1, a1, a2, a3.wk (fun q z => by omega)⟩
theorem qCs.tri (h : qCs g n R r) (hr : 1 ≤ r 0) (f : qfr (fun q => (30 ≤ q ∧ q < 45) ∨ (220 ≤ q ∧ q < 231)) g g') (hM : qMade g' 220) : qCs g' n R r := ⟨⟨h.1.1.kept f (fun q a b => by omega), h.1.2.kept f (fun q a b => by omega)⟩, ⟨hM, h.2.1.2.cg (fun q k a b => f.1 _ _ (by omega))⟩, h.2.2.kept f (fun q z => by omega)⟩
theorem qset_0 (hR : qRow M r) : (qset 24 r 0).1 0 = r 0 := qset_o (Or.inl rfl) 24 r 0 hR
theorem k_tog (h : qCs g n R r) (hR : qRow 8 r) (hb : 0 < b ∧ b < r 0) : ∃ g', fX7_burningIfToggled g b = some (qburn (qset 24 (qtn r b 2) 0).1, g') ∧ qCs g' n R r ∧ qfr (fun q => (30 ≤ q ∧ q < 45) ∨ (220 ≤ q ∧ q < 231)) g g' := by
  have h1 := hR.1
  have hx := (hR.2.2.2.1 b hb.1 hb.2).2.2.1
  obtain ⟨g1, a1, a2, a3⟩ := k_trial h hR
  have hv : g1.1 34 (Int.toNat b) = qB r b 2 := (a2.2.1 b hb.1 hb.2).2.2
  have s2 := k_turn (c := 30) (d := 34) hR a2 hb (Or.inr rfl : (2 : Int) = 1 ∨ (2 : Int) = 2) rfl
  have f2 : qfr (fun q => q = 34) g1 (zwr g1 34 (Int.toNat b) (1 - qB r b 2)) := qfr.wr rfl
  have hRe := qtn_row hR hb (Or.inr rfl : (2 : Int) = 1 ∨ (2 : Int) = 2)
  have hM : qMade (zwr g1 34 (Int.toNat b) (1 - qB r b 2)) 220 := h.2.1.1.cg (fun q k a b => (f2.1 _ _ (by omega)).trans (a3.1 _ _ (by omega)))
  obtain ⟨g3, b1, b2, b3, b4, b5⟩ := k_settle (c := 30) (s := 220) hRe (by omega) s2 hM
  have f3 : qfr (fun q => (30 ≤ q ∧ q < 45) ∨ (220 ≤ q ∧ q < 231)) g g3 := ((a3.wk (fun q z => by omega)).tr (f2.wk (fun q z => by omega))).tr (b5.wk (fun q z => by omega))
  refine ⟨g3, ?_, h.tri h1.1 f3 (qMade_of b3.1.1 (by have := b4.1; omega)), f3⟩
  have p42 : ∀ y, y = 1 - qB r b 2 → fX7_burningIfToggled_p42 g1 b y = some (qburn (qset 24 (qtn r b 2) 0).1, g3) := by
    intro y hy
    subst hy
    unfold fX7_burningIfToggled_p42
    rw [zck_t (by omega), zck_t (by omega), zlet_e, b1, zbe_s, b3.2.1.1]
  unfold fX7_burningIfToggled
  rw [a1, zbd_s, zck_t (by omega), hv, ieq (by omega) (by omega)]
  rcases hx with q | q
  · rw [if_pos q]; exact p42 1 (by omega)
  · rw [if_neg (by omega)]; exact p42 0 (by omega)
theorem op_ifToggled (h : qRel g n R) (h1 : qi a1) : qOk (fL_ifToggled g a1) (fun g => fX8_ifToggled g a1) := by
  have hR := h.2.1.2.1.1
  have hS := h.1.1.1
  have ck : fX7_ifToggled g a1 = if 0 < a1 ∧ a1 < qr g 0 then zbe (fX7_burningIfToggled g a1) (fun v2 g3 => some (v2, 0, g3)) else some (0, 1, g) := by
    unfold fX7_ifToggled
    rw [zbq (k_isFed hS hR h1)]
  by_cases q1 : 0 < a1 ∧ a1 < qr g 0
  · obtain ⟨s2, b1, b2, b3⟩ := k_tog h.1 hR q1
    rw [if_pos q1, b1, zbe_s] at ck
    refine h.ans (v := qburn (qset 24 (qtn (qr g) a1 2) 0).1) (by unfold fL_ifToggled; rw [zbx_some ck]; rfl) b2 (qfc.of b3 (fun q z => by omega)) (fun g3 hm => ?_)
    obtain ⟨g4, c1, c2, c3, c4⟩ := m_tog (hm.wz (v := 0) (z := 0) (by decide)) q1
    refine ⟨g4, ?_, c2, (qfm.wz (by decide)).tr c3, c4.trans zwr_e⟩
    show fX8_ifToggled g3 a1 = _
    unfold fX8_ifToggled fX8_ifToggled_p14
    rw [zbq (m_isFed (m := 8) (by rw [hm.1]; exact hR) h1), hm.1, if_pos q1, zlet_e, zwr_e, ilt (by omega) (by omega), if_neg (by omega), c1, zbe_s]
  · rw [if_neg q1] at ck
    refine h.ref (E := 1) (by omega) (by unfold fL_ifToggled; rw [zbx_some ck]; rfl) ?_
    show fX8_ifToggled g a1 = _
    unfold fX8_ifToggled fX8_ifToggled_p14
    rw [zbq (m_isFed hR h1), if_neg q1, zlet_e, zwr_e, ilt (by omega) (by omega), if_pos (by omega)]
theorem qan1n : ∀ k : Nat, k < 64 → zan k 1 = ((k % 2 : Nat) : Int) := by decide +kernel
theorem qan1 (h : 0 ≤ k ∧ k < 64) : zan k 1 = k % 2 := by
  have := qan1n k.toNat (by omega)
  rw [show ((k.toNat : Nat) : Int) = k by omega] at this
  omega
/-- what a fault would bring -/
def qfan (r : Int → Int) (w : Int) : Int := if w = 0 then (qset 24 r 0).2 else if w = 1 then qburn (qset 24 r 0).1 else if w = 2 then qleak (qset 24 r 0).1 else if qnext r = -1 then -1 else 100 * (qnext r / 2) + 10 * (qnext r % 2)
theorem m_brF (hR : qRow 8 (qr g)) : ∃ w, qr w = qnF (qr g) a1 a2 a3 ∧ qfr (fun q => q = 401) g w ∧ fX8_bringFault g a1 a2 a3 = zbd (fX8_settle w) (fun g6 => some g6) := by
  have hr := hR.2.2.1
  let w0 := zwr g 401 (Int.toNat (135 + 3 * qr g 134)) a1
  let w1 := zwr w0 401 (Int.toNat (135 + 3 * qr g 134 + 1)) a2
  let w2 := zwr w1 401 (Int.toNat (135 + 3 * qr g 134 + 2)) a3
  let w3 := zwr w2 401 (Int.toNat 134) (qr g 134 + 1)
  have q0 : qr w0 = qput (qr g) (135 + 3 * qr g 134) a1 := qr_put
  have q1 : qr w1 = qput (qr w0) (135 + 3 * qr g 134 + 1) a2 := qr_put
  have q2 : qr w2 = qput (qr w1) (135 + 3 * qr g 134 + 2) a3 := qr_put
  have q3 : qr w3 = qput (qr w2) 134 (qr g 134 + 1) := qr_put
  have e2 : w2.1 401 (Int.toNat 134) = qr g 134 := by
    show qr w2 134 = _
    rw [q2, qput_n (by omega), q1, qput_n (by omega), q0, qput_n (by omega)]
  refine ⟨w3, ?_, ((f401.tr f401).tr f401).tr f401, ?_⟩
  · unfold qnF
    rw [q3, q2, q1, q0]
  · unfold fX8_bringFault
    rw [zck_t (by omega), qr_f, zlet_e, zck_t (by omega), zlet_e, zck_t (by omega), zlet_e, zck_t (by omega), zlet_e, zck_t (by omega), zck_t (by omega)]
    show zlet (zwr w2 401 (Int.toNat 134) (w2.1 401 (Int.toNat 134) + 1)) _ = _
    rw [e2, zlet_e]
theorem m_fau (h : qMs g n R r) (h1 : 0 ≤ a1 ∧ a1 < r 0) (h2 : a2 = 0 ∨ a2 = 1) (h3 : 1 ≤ a3 ∧ a3 ≤ 30) (h4 : 0 ≤ a4 ∧ a4 ≤ 3) : ∃ g', fX8_ifFault_p57 g 0 a1 a2 a3 a4 = some (qfan (qnF r a1 a2 a3) a4, g') ∧ qMs g' n R r ∧ qfm g g' ∧ g'.1 400 0 = 0 := by
  have hR := h.2.1.1
  have hr := hR.2.2.1
  have h0 := hR.1
  obtain ⟨g1, b1, b2, b3, b4⟩ := m_asd (h.wz (v := 0) (z := 0) (by decide))
  obtain ⟨w, c1, c2, c3⟩ := m_brF (g := g1) (a1 := a1) (a2 := a2) (a3 := a3) (by rw [b2]; exact hR)
  rw [b2] at c1
  have hRe : qRow 9 (qnF r a1 a2 a3) := qnF_row hR (by omega) h1 h2 h3
  obtain ⟨g3, d1, d2, d3, d4, d5, d6⟩ := m_settle (m := 9) (g := w) (by rw [c1]; exact hRe)
  rw [c1] at d2 d3 d4
  obtain ⟨g4, e1, e2, e3, e4⟩ := b4 g3 ((qkeep.of c2).tr d6) (by rw [d2]; exact qset_end 24 _ 0 hRe (qnF_end hR (by omega) h.2.1.2))
  refine ⟨g4, ?_, e2, (qfm.wz (by decide)).tr e3, e4.trans zwr_e⟩
  have hnx := qnext_r hRe
  have hn0 : qnF r a1 a2 a3 0 = r 0 := qnF_A (by omega) 0 (by omega) (by omega) (by omega)
  have fa : fX8_faultAnswer g3 a4 = some (qfan (qnF r a1 a2 a3) a4) := by
    unfold fX8_faultAnswer qfan
    rw [ieq (by omega) (by omega), ieq (by omega) (by omega), ieq (by omega) (by omega), d3, d4, ieq (by omega) (by omega), m_burning d5, zbd_s, m_leak d5, zbd_s, d2]
    by_cases q : qnext (qnF r a1 a2 a3) = -1
    · rw [if_pos q, if_pos q]
      simp only [som_if]
    · rw [if_neg q, if_neg q, (qdm2 (by omega)).1, (qdm2 (by omega)).2]
      simp only [som_if]
  unfold fX8_ifFault_p57
  rw [zlet_e, zwr_e, ilt (by omega) (by omega), if_neg (by omega), b1, zbd_s, c3, d1, zbd_s, zbd_s, fa, zbd_s, e1, zbd_s]
theorem op_ifFault (h : qRel g n R) (h1 : qi a1) (h2 : qi a2) (h3 : qi a3) (h4 : qi a4) : qOk (fL_ifFault g a1 a2 a3 a4) (fun g => fX8_ifFault g a1 a2 a3 a4) := by
  have hR := h.2.1.2.1.1
  have hr := hR.2.2.1
  have h0 := hR.1
  have hS := h.1.1.1
  have h3' := h3
  have h4' := h4
  unfold qi at h3' h4'
  have ck : fX7_ifFault g a1 a2 a3 a4 = if 0 ≤ a1 ∧ a1 < qr g 0 then (if 0 ≤ a2 ∧ a2 ≤ 1 then (if 1 ≤ a3 ∧ a3 ≤ 30 then (if a4 < 0 then some (0, 2, g) else (if a4 < 4 then (zbd (fX5_copy g 30 10) (fun g4 => zbd (fX1_add g4 41 a1 a2 a3) (fun g5 => zbd (fX6_take g5 220 30) (fun g6 => zbd (fX6_fuseToBlow g6 220 31) (fun v7 => zbe (fX7_settle g6 30 220) (fun v8 g9 => (if i32 a4 = i32 0 then some (v8, 0, g9) else (if i32 a4 = i32 1 then some ((g9.1 220 6), 0, g9) else (if i32 a4 = i32 2 then some ((g9.1 220 7), 0, g9) else (if i32 v7 = i32 (-1) then some ((-1), 0, g9) else some (((100 * (zsr v7 1)) + (10 * (zan v7 1))), 0, g9)))))))))) ) else some (0, 2, g))) else some (0, 2, g)) else some (0, 1, g)) else some (0, 1, g) := by
    unfold fX7_ifFault
    rw [zbq (k_isBox hS hR h1), zbq (k_isTer h2), zbq (k_isStr h3), ilt (by omega) (by omega), ilt (by omega) (by omega)]
  have mk : ∀ g', qRow 8 (qr g') → fX8_ifFault g' a1 a2 a3 a4 = if 0 ≤ a1 ∧ a1 < qr g' 0 then (if 0 ≤ a2 ∧ a2 ≤ 1 then (if 1 ≤ a3 ∧ a3 ≤ 30 then (if 0 ≤ a4 ∧ a4 ≤ 3 then fX8_ifFault_p57 g' 0 a1 a2 a3 a4 else fX8_ifFault_p57 g' 2 a1 a2 a3 a4) else fX8_ifFault_p57 g' 2 a1 a2 a3 a4) else fX8_ifFault_p57 g' 1 a1 a2 a3 a4) else fX8_ifFault_p57 g' 1 a1 a2 a3 a4 := by
    intro g' hR'
    have pa : fX8_ifFault_p20 g' 0 a1 a2 a3 a4 = fX8_ifFault_p57 g' 1 a1 a2 a3 a4 := by
      unfold fX8_ifFault_p20
      rw [if_pos rfl]
    have pb : fX8_ifFault_p20 g' 1 a1 a2 a3 a4 = if 1 ≤ a3 ∧ a3 ≤ 30 then (if 0 ≤ a4 ∧ a4 ≤ 3 then fX8_ifFault_p57 g' 0 a1 a2 a3 a4 else fX8_ifFault_p57 g' 2 a1 a2 a3 a4) else fX8_ifFault_p57 g' 2 a1 a2 a3 a4 := by
      unfold fX8_ifFault_p20
      rw [ieq (by omega) (by omega), if_neg (by omega), zbq (m_within (by omega)), zbq (m_within (by omega))]
    unfold fX8_ifFault
    rw [pa, pb, zbq (m_isBox hR' h1), zbq (m_isTerminal h2)]
  have pk : ∀ (g : zSt) (E : Int), 1 ≤ E ∧ E ≤ 3 → fX8_ifFault_p57 g E a1 a2 a3 a4 = some (0, zwr g 400 0 E) := by
    intro g E hE
    unfold fX8_ifFault_p57
    rw [zlet_e, zwr_e, ilt (by omega) (by omega), if_pos (by omega)]
  have mk0 := mk g hR
  by_cases q1 : 0 ≤ a1 ∧ a1 < qr g 0
  · rw [if_pos q1] at ck mk0
    by_cases q2 : 0 ≤ a2 ∧ a2 ≤ 1
    · rw [if_pos q2] at ck mk0
      by_cases q3 : 1 ≤ a3 ∧ a3 ≤ 30
      · rw [if_pos q3] at ck mk0
        by_cases q4 : 0 ≤ a4 ∧ a4 ≤ 3
        · rw [if_neg (by omega), if_pos (by omega)] at ck
          have q2' : a2 = 0 ∨ a2 = 1 := by omega
          obtain ⟨s1, b1, b2, b3⟩ := k_trial h.1 hR
          have hRe : qRow 9 (qnF (qr g) a1 a2 a3) := qnF_row hR (by omega) q1 q2' q3
          obtain ⟨s2, c1, c2, c3⟩ := k_addF (c := 30) hR b2 (by omega) (qnF_A (by omega)) qnF_0 (qnF_B (p1 := a1) (p2 := a2) (p3 := a3) (by omega))
          have hM2 : qMade s2 220 := h.1.2.1.1.cg (fun q k a b => (c3.1 _ _ (by omega)).trans (b3.1 _ _ (by omega)))
          obtain ⟨s3, d1, d2, d3⟩ := k_take (s := 220) hRe (by omega) c2 hM2
          have S3 := c2.kept d3 (fun q a b => by omega)
          have hftb := k_ftb hRe S3 d2
          obtain ⟨s4, e1, e2, e3, e4, e5⟩ := k_settle (c := 30) (s := 220) hRe (by omega) S3 (qMade_of d2.1.1 (by have := hRe.1; omega))
          have f4 : qfr (fun q => (30 ≤ q ∧ q < 45) ∨ (220 ≤ q ∧ q < 231)) g s4 := (((b3.wk (fun q z => by omega)).tr (c3.wk (fun q z => by omega))).tr (d3.wk (fun q z => by omega))).tr (e5.wk (fun q z => by omega))
          have hC := h.1.tri h0.1 f4 (qMade_of e3.1.1 (by have := e4.1; omega))
          have hnx := qnext_r hRe
          have hn0 : qnF (qr g) a1 a2 a3 0 = qr g 0 := qnF_A (by omega) 0 (by omega) (by omega) (by omega)
          have ck2 : fX7_ifFault g a1 a2 a3 a4 = some (qfan (qnF (qr g) a1 a2 a3) a4, 0, s4) := by
            rw [ck, b1, zbd_s, c1, zbd_s, d1, zbd_s, hftb, zbd_s, e1, zbe_s, ieq (by omega) (by omega), ieq (by omega) (by omega), ieq (by omega) (by omega), e3.2.1.1, e3.2.2.1.1, ieq (by omega) (by omega)]
            unfold qfan
            by_cases q : qnext (qnF (qr g) a1 a2 a3) = -1
            · rw [if_pos q, if_pos q]
              repeat' split
              all_goals rfl
            · rw [if_neg q, if_neg q, qsr1 (by omega), qan1 (by omega)]
              repeat' split
              all_goals rfl
          refine h.ans (v := qfan (qnF (qr g) a1 a2 a3) a4) (by unfold fL_ifFault; rw [zbx_some ck2]; rfl) hC (qfc.of f4 (fun q z => by omega)) (fun g3 hm => ?_)
          obtain ⟨t2, x1, x2, x3, x4⟩ := m_fau hm q1 q2' q3 q4
          refine ⟨t2, ?_, x2, x3, x4⟩
          show fX8_ifFault g3 a1 a2 a3 a4 = _
          rw [mk g3 (by rw [hm.1]; exact hR), hm.1, if_pos q1, if_pos q2, if_pos q3, if_pos q4]
          exact x1
        · rw [if_neg q4] at mk0
          have ck2 : fX7_ifFault g a1 a2 a3 a4 = some (0, 2, g) := by
            rw [ck]
            by_cases q : a4 < 0
            · rw [if_pos q]
            · rw [if_neg q, if_neg (by omega)]
          exact h.ref (E := 2) (by omega) (by unfold fL_ifFault; rw [zbx_some ck2]; rfl) (by rw [mk0]; exact pk g 2 (by omega))
      · rw [if_neg q3] at ck mk0
        exact h.ref (E := 2) (by omega) (by unfold fL_ifFault; rw [zbx_some ck]; rfl) (by rw [mk0]; exact pk g 2 (by omega))
    · rw [if_neg q2] at ck mk0
      exact h.ref (E := 1) (by omega) (by unfold fL_ifFault; rw [zbx_some ck]; rfl) (by rw [mk0]; exact pk g 1 (by omega))
  · rw [if_neg q1] at ck mk0
    exact h.ref (E := 1) (by omega) (by unfold fL_ifFault; rw [zbx_some ck]; rfl) (by rw [mk0]; exact pk g 1 (by omega))
end QTRIAL
