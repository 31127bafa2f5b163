section QTREE
variable {g : zSt} {m b t x w k : Int}
theorem m_within {a lo hi : Int} (h : (-2147483648 ≤ a ∧ a < 2147483648) ∧ (-2147483648 ≤ lo ∧ lo < 2147483648) ∧ (-2147483648 ≤ hi ∧ hi < 2147483648)) : fX8_within g a lo hi = some (qbi (decide (lo ≤ a ∧ a ≤ hi))) := by
  unfold fX8_within
  rw [ilt h.1 h.2.1, ilt h.2.2 h.1, qck_0, qck_1]
  by_cases h1 : a < lo
  · rw [if_pos h1, decide_eq_false (by omega)]; rfl
  · rw [if_neg h1]
    by_cases h2 : hi < a
    · rw [if_pos h2, decide_eq_false (by omega)]; rfl
    · rw [if_neg h2, decide_eq_true (by omega)]; rfl
theorem m_ofBox (h : 0 ≤ 1 + 7 * b + w ∧ 1 + 7 * b + w < 168) : fX8_ofBox g b w = some (qB (qr g) b w) := by
  unfold fX8_ofBox
  rw [zck_t h]
  rfl
theorem m_ofLantern (h : 0 ≤ 86 + 3 * k + w ∧ 86 + 3 * k + w < 168) : fX8_ofLantern g k w = some (qL (qr g) k w) := by
  unfold fX8_ofLantern
  rw [zck_t (by omega)]
  rfl
theorem m_ofFault (h : 0 ≤ 135 + 3 * k + w ∧ 135 + 3 * k + w < 168) : fX8_ofFault g k w = some (qF (qr g) k w) := by
  unfold fX8_ofFault
  rw [zck_t (by omega)]
  rfl
theorem m_isTerminal (h : -2147483648 ≤ t ∧ t < 2147483648) : fX8_isTerminal g t = some (qbi (decide (0 ≤ t ∧ t ≤ 1))) := by
  unfold fX8_isTerminal
  rw [m_within (by omega), zbd_s, qck_b]
theorem m_isBox (hR : qRow m (qr g)) (h : -2147483648 ≤ b ∧ b < 2147483648) : fX8_isBox g b = some (qbi (decide (0 ≤ b ∧ b < qr g 0))) := by
  have h1 := hR.1
  unfold fX8_isBox
  rw [zck_t (by omega), qr_f, m_within (by omega), zbd_s, qck_b]
  rw [show decide (0 ≤ b ∧ b ≤ qr g 0 - 1) = decide (0 ≤ b ∧ b < qr g 0) from decide_eq_decide.mpr (by omega)]
theorem m_isFed (hR : qRow m (qr g)) (h : -2147483648 ≤ b ∧ b < 2147483648) : fX8_isFed g b = some (qbi (decide (0 < b ∧ b < qr g 0))) := by
  have h1 := hR.1
  unfold fX8_isFed
  rw [zck_t (by omega), qr_f, m_within (by omega), zbd_s, qck_b]
  rw [show decide (1 ≤ b ∧ b ≤ qr g 0 - 1) = decide (0 < b ∧ b < qr g 0) from decide_eq_decide.mpr (by omega)]
theorem m_above (hR : qRow m (qr g)) (hb : 0 < b ∧ b < qr g 0) : fX8_above g b t = some (qab (qr g) b t) := by
  have h1 := hR.1
  have hx := (hR.2.2.2.1 b hb.1 hb.2).2.1
  unfold fX8_above
  rw [m_ofBox (by omega), zbd_s, ieq (by omega) (by omega)]
  unfold qab
  split <;> rfl
theorem m_pole_l (hR : qRow m (qr g)) : ∀ (fu : Nat) (b t : Int), b.toNat < fu → 0 ≤ b → b < qr g 0 → fX8_pole_p5 g fu t b = some (qpol (qr g) b t) := by
  have h1 := hR.1
  intro fu
  induction fu with
  | zero => intro b t h; omega
  | succ fu ih =>
    intro b t h h0 hn
    rw [fX8_pole_p5, ilt (by omega) (by omega)]
    by_cases hb : 0 < b
    · have hx := (hR.2.2.2.1 b hb hn).1
      rw [if_pos hb, m_above hR ⟨hb, hn⟩, zbd_s, m_ofBox (by omega), zbd_s, ih _ _ (by omega) hx.1 (by omega), qpol_s ⟨hb, hx.2⟩]
    · rw [if_neg hb, qpol_0 (by omega)]
theorem m_pole (hR : qRow m (qr g)) (hb : 0 ≤ b ∧ b < qr g 0) : fX8_pole g b t = some (qpol (qr g) b t) := by
  have h1 := hR.1
  exact m_pole_l hR zfu b t (by unfold zfu; omega) hb.1 hb.2
theorem m_depth_l (hR : qRow m (qr g)) : ∀ (fu : Nat) (b a : Int), b.toNat < fu → 0 ≤ b → b < qr g 0 → fX8_depth_p4 g fu a b = some (a + qdep (qr g) b) := by
  have h1 := hR.1
  intro fu
  induction fu with
  | zero => intro b t h; omega
  | succ fu ih =>
    intro b t h h0 hn
    rw [fX8_depth_p4, ilt (by omega) (by omega)]
    by_cases hb : 0 < b
    · have hx := (hR.2.2.2.1 b hb hn).1
      rw [if_pos hb, m_ofBox (by omega), zbd_s, ih _ _ (by omega) hx.1 (by omega), qdep_s ⟨hb, hx.2⟩]
      congr 1
      omega
    · rw [if_neg hb, qdep_0 (by omega)]
      simp
theorem m_depth (hR : qRow m (qr g)) (hb : 0 ≤ b ∧ b < qr g 0) : fX8_depth g b = some (qdep (qr g) b) := by
  have h1 := hR.1
  unfold fX8_depth
  rw [m_depth_l hR zfu b 0 (by unfold zfu; omega) hb.1 hb.2]
  simp
theorem m_isSwitched_l (hR : qRow m (qr g)) : ∀ (fu : Nat) (b : Int) (s : Bool), b.toNat < fu → 0 ≤ b → b < qr g 0 → fX8_isSwitched_p4 g fu (qbi s) b = some (qbi (s && qsw (qr g) b)) := by
  have h1 := hR.1
  intro fu
  induction fu with
  | zero => intro b t h; omega
  | succ fu ih =>
    intro b s h h0 hn
    rw [fX8_isSwitched_p4, ilt (by omega) (by omega), ib0]
    by_cases hb : 0 < b
    · have hx := hR.2.2.2.1 b hb hn
      have hx1 := hx.1
      have e0 : fX8_ofBox g b 0 = _ := m_ofBox (by omega)
      have e2 : fX8_ofBox g b 2 = _ := m_ofBox (by omega)
      have ih0 := ih (qB (qr g) b 0) false (by omega) hx.1.1 (by omega)
      have ih1 := ih (qB (qr g) b 0) true (by omega) hx.1.1 (by omega)
      rw [qbi_f] at ih0
      rw [qbi_t] at ih1
      have hc := hx.2.2.1
      rw [if_pos hb, e0, e2]
      simp only [zbd_s]
      rw [ih0, ih1, ieq (by omega) (by omega), qsw_s ⟨hb, hx.1.2⟩]
      cases s
      · simp
      · simp only [if_true, Bool.true_and]
        split <;> rename_i hc <;> simp [hc]
    · rw [if_neg hb, qsw_0 (by omega), qck_b]
      simp
theorem m_isSwitched (hR : qRow m (qr g)) (hb : 0 ≤ b ∧ b < qr g 0) : fX8_isSwitched g b = some (qbi (qsw (qr g) b)) := by
  have h1 := hR.1
  have := m_isSwitched_l hR zfu b true (by unfold zfu; omega) hb.1 hb.2
  rw [Bool.true_and] at this
  exact this
theorem m_isWhole_l (hR : qRow m (qr g)) : ∀ (fu : Nat) (b t : Int) (s : Bool), b.toNat < fu → 0 ≤ b → b < qr g 0 → (t = 0 ∨ t = 1) → fX8_isWhole_p8 g fu (qbi s) t b = some (qbi (s && qwh (qr g) b t)) := by
  have h1 := hR.1
  intro fu
  induction fu with
  | zero => intro b t s h; omega
  | succ fu ih =>
    intro b t s h h0 hn ht
    rw [fX8_isWhole_p8, ilt (by omega) (by omega), ib0]
    by_cases hb : 0 < b
    · have hx := hR.2.2.2.1 b hb hn
      have hx1 := hx.1
      have e0 : fX8_ofBox g b 0 = _ := m_ofBox (by omega)
      have e2 : fX8_ofBox g b (5 + t) = _ := m_ofBox (by omega)
      have ih0 := ih (qB (qr g) b 0) (qab (qr g) b t) false (by omega) hx.1.1 (by omega) (qab_r ht)
      have ih1 := ih (qB (qr g) b 0) (qab (qr g) b t) true (by omega) hx.1.1 (by omega) (qab_r ht)
      rw [qbi_f] at ih0
      rw [qbi_t] at ih1
      have hc : qB (qr g) b (5 + t) = 0 ∨ qB (qr g) b (5 + t) = 1 := by
        rcases ht with rfl | rfl
        · exact hx.2.2.2.2.2.1
        · exact hx.2.2.2.2.2.2
      have p0 : fX8_isWhole_p35 g (fX8_isWhole_p8 g fu) 0 t b = some (qbi (false && qwh (qr g) (qB (qr g) b 0) (qab (qr g) b t))) := by
        unfold fX8_isWhole_p35
        rw [m_above hR ⟨hb, hn⟩, zbd_s, e0, zbd_s, ih0]
      have p1 : fX8_isWhole_p35 g (fX8_isWhole_p8 g fu) 1 t b = some (qbi (true && qwh (qr g) (qB (qr g) b 0) (qab (qr g) b t))) := by
        unfold fX8_isWhole_p35
        rw [m_above hR ⟨hb, hn⟩, zbd_s, e0, zbd_s, ih1]
      rw [if_pos hb, e2, zbd_s, p0, p1, ieq (by omega) (by omega), qwh_s ⟨hb, hx.1.2⟩]
      cases s
      · simp
      · simp only [if_true, Bool.true_and]
        split <;> rename_i hc <;> simp [hc]
    · rw [if_neg hb, qwh_0 (by omega), qck_b]
      simp
theorem m_isWhole (hR : qRow m (qr g)) (hb : 0 ≤ b ∧ b < qr g 0) (ht : t = 0 ∨ t = 1) : fX8_isWhole g b t = some (qbi (qwh (qr g) b t)) := by
  have h1 := hR.1
  have := m_isWhole_l hR zfu b t true (by unfold zfu; omega) hb.1 hb.2 ht
  rw [Bool.true_and] at this
  exact this
def qal (r : Int → Int) (b t : Int) : Bool := qsw r b && qwh r b t
theorem m_isAlive (hR : qRow m (qr g)) (hb : 0 ≤ b ∧ b < qr g 0) (ht : t = 0 ∨ t = 1) : fX8_isAlive g b t = some (qbi (qal (qr g) b t)) := by
  unfold fX8_isAlive qal
  rw [m_isSwitched hR hb, zbd_s, ib0, m_isWhole hR hb ht, zbd_s, ib0, qck_0, qck_1]
  cases qsw (qr g) b <;> cases qwh (qr g) b t <;> rfl
theorem m_isBehind_l (hR : qRow m (qr g)) (hx0 : 0 ≤ x ∧ x < qr g 0) : ∀ (fu : Nat) (b : Int), b.toNat < fu → 0 ≤ b → b < qr g 0 → fX8_isBehind_p2 g fu x b = some (qbi (decide (qrs (qr g) x b = x))) := by
  have h1 := hR.1
  intro fu
  induction fu with
  | zero => intro b h; omega
  | succ fu ih =>
    intro b h h0 hn
    rw [fX8_isBehind_p2, ilt (by omega) (by omega), ieq (by omega) (by omega)]
    by_cases hb : x < b
    · have hx := (hR.2.2.2.1 b (by omega) hn).1
      rw [if_pos hb, m_ofBox (by omega), zbd_s, ih _ (by omega) hx.1 (by omega), qrs_s (x := x) (b := b) ⟨hb, by omega, hx.2⟩]
    · rw [if_neg hb, qrs_0 (by omega), qck_0, qck_1]
      by_cases e : b = x
      · rw [if_pos e, decide_eq_true e]; rfl
      · rw [if_neg e, decide_eq_false e]; rfl
theorem m_isBehind (hR : qRow m (qr g)) (hx : 0 ≤ x ∧ x < qr g 0) (hb : 0 ≤ b ∧ b < qr g 0) : fX8_isBehind g b x = some (qbi (decide (qrs (qr g) x b = x))) := by
  have h1 := hR.1
  exact m_isBehind_l hR hx zfu b (by unfold zfu; omega) hb.1 hb.2
theorem m_comesBy_l (hR : qRow m (qr g)) (hx0 : 0 ≤ x ∧ x < qr g 0) {u : Int} (hu : u = 0 ∨ u = 1) : ∀ (fu : Nat) (b t : Int), b.toNat < fu → 0 ≤ b → b < qr g 0 → (t = 0 ∨ t = 1) → fX8_comesBy_p6 g fu x u b t = some (qbi (decide (qrs (qr g) x b = x ∧ qrt (qr g) x b t = u))) := by
  have h1 := hR.1
  intro fu
  induction fu with
  | zero => intro b t h; omega
  | succ fu ih =>
    intro b t h h0 hn ht
    rw [fX8_comesBy_p6, ilt (by omega) (by omega), ieq (by omega) (by omega), ieq (by omega) (by omega)]
    by_cases hb : x < b
    · have hx := (hR.2.2.2.1 b (by omega) hn).1
      rw [if_pos hb, m_above hR ⟨by omega, hn⟩, zbd_s, m_ofBox (by omega), zbd_s, ih _ _ (by omega) hx.1 (by omega) (qab_r ht), qrs_s (x := x) (b := b) ⟨hb, by omega, hx.2⟩, qrt_s (x := x) (b := b) ⟨hb, by omega, hx.2⟩]
    · rw [if_neg hb, qrs_0 (by omega), qrt_0 (by omega), qck_0, qck_1]
      by_cases e : b = x
      · rw [if_pos e]
        by_cases e2 : t = u
        · rw [if_pos e2, decide_eq_true ⟨e, e2⟩]; rfl
        · rw [if_neg e2, decide_eq_false (fun q => e2 q.2)]; rfl
      · rw [if_neg e, decide_eq_false (fun q => e q.1)]; rfl
theorem m_comesBy (hR : qRow m (qr g)) (hx : 0 ≤ x ∧ x < qr g 0) {u : Int} (hu : u = 0 ∨ u = 1) (hb : 0 ≤ b ∧ b < qr g 0) (ht : t = 0 ∨ t = 1) : fX8_comesBy g b t x u = some (qbi (decide (qrs (qr g) x b = x ∧ qrt (qr g) x b t = u))) := by
  have h1 := hR.1
  exact m_comesBy_l hR hx hu zfu b t (by unfold zfu; omega) hb.1 hb.2 ht
end QTREE
