section QWHOLE
variable {g g' g1 g2 g3 g4 : zSt} {b t x w k p u j a lo hi v M p1 p2 p3 p4 y a1 a2 a3 a4 i : Int} {r r' re : Int → Int} {R : Nat → Int → Int} {c s d e N L n m : Nat}
/-- the row with all its fuses whole: those from lo on -/
def qwz : Nat → Int → (Int → Int) → (Int → Int)
  | 0, _, r => r
  | m + 1, lo, r => qwz m (lo + 1) (qput r (1 + 7 * (lo / 2) + 5 + lo % 2) 0)
theorem qwz_o (hj : ∀ k, lo ≤ k → k < lo + m → j.toNat ≠ (1 + 7 * (k / 2) + 5 + k % 2).toNat) : qwz m lo r j = r j := by
  induction m generalizing lo r with
  | zero => rfl
  | succ m ih =>
    rw [qwz, ih (fun k a b => hj k (by omega) (by omega)), qput_n (hj lo (by omega) (by omega))]
theorem qwz_z (hl : 2 ≤ lo) (hk : lo ≤ k ∧ k < lo + m) : qwz m lo r (1 + 7 * (k / 2) + 5 + k % 2) = 0 := by
  induction m generalizing lo r with
  | zero => omega
  | succ m ih =>
    rw [qwz]
    by_cases q : k = lo
    · rw [qwz_o (fun k2 a b => by omega), q, qput_e rfl]
    · exact ih (by omega) (by omega)
def qwr (r : Int → Int) : Int → Int := qwz (2 * r 0 - 2).toNat 2 r
theorem qwr_A (hR : qRow M r) : ∀ j, 0 ≤ j → (j = 0 ∨ 85 ≤ j) → qwr r j = r j := by
  have h1 := hR.1
  intro j j0 j1
  exact qwz_o (fun k a b => by omega)
theorem qwr_B (hR : qRow M r) (hb : 0 < b ∧ b < r 0) (hw : 0 ≤ w ∧ w < 5) : qB (qwr r) b w = qB r b w := by
  have h1 := hR.1
  exact qwz_o (fun k x y => by omega)
theorem qwr_0 (hR : qRow M r) (hb : 0 < b ∧ b < r 0) (ht : t = 0 ∨ t = 1) : qB (qwr r) b (5 + t) = 0 := by
  have h1 := hR.1
  have z := qwz_z (r := r) (lo := 2) (k := 2 * b + t) (m := (2 * r 0 - 2).toNat) (by omega) (by omega)
  rw [show (2 * b + t) / 2 = b by omega, show (2 * b + t) % 2 = t by omega] at z
  unfold qwr qB
  rw [show 1 + 7 * b + (5 + t) = 1 + 7 * b + 5 + t by omega]
  exact z
theorem qwr_row (hR : qRow M r) : qRow M (qwr r) := by
  have h1 := hR.1
  have h2 := hR.2.1
  have h3 := hR.2.2.1
  have o : ∀ j, 85 ≤ j → qwr r j = r j := fun j hj => qwr_A hR j (by omega) (by omega)
  have e0 : qwr r 0 = r 0 := qwr_A hR 0 (by omega) (by omega)
  refine ⟨by rw [e0]; exact h1, by rw [o 85 (by omega)]; exact h2, by rw [o 134 (by omega)]; exact h3, fun b b0 b1 => ?_, fun k k0 k1 => ?_, fun k k0 k1 => ?_, ?_, ?_, ?_, ?_⟩
  · rw [e0] at b1
    have hx := hR.2.2.2.1 b b0 b1
    have z5 := qwr_0 hR ⟨b0, b1⟩ (Or.inl rfl : (0 : Int) = 0 ∨ (0 : Int) = 1)
    have z6 := qwr_0 hR ⟨b0, b1⟩ (Or.inr rfl : (1 : Int) = 0 ∨ (1 : Int) = 1)
    unfold qBx at hx ⊢
    rw [qwr_B hR ⟨b0, b1⟩ (w := 0) (by omega), qwr_B hR ⟨b0, b1⟩ (w := 1) (by omega), qwr_B hR ⟨b0, b1⟩ (w := 2) (by omega), qwr_B hR ⟨b0, b1⟩ (w := 3) (by omega), qwr_B hR ⟨b0, b1⟩ (w := 4) (by omega), show (5 : Int) = 5 + 0 from rfl, z5, show (6 : Int) = 5 + 1 from rfl, z6]
    exact ⟨hx.1, hx.2.1, hx.2.2.1, hx.2.2.2.1, hx.2.2.2.2.1, Or.inl rfl, Or.inl rfl⟩
  · rw [o 85 (by omega)] at k1
    have := hR.2.2.2.2.1 k k0 k1
    unfold qLn qL at this ⊢
    rw [o (86 + 3 * k + 0) (by omega), o (86 + 3 * k + 1) (by omega), o (86 + 3 * k + 2) (by omega), e0]
    exact this
  · rw [o 134 (by omega)] at k1
    have := hR.2.2.2.2.2.1 k k0 k1
    unfold qFt qF at this ⊢
    rw [o (135 + 3 * k + 0) (by omega), o (135 + 3 * k + 1) (by omega), o (135 + 3 * k + 2) (by omega), e0]
    exact this
  · rw [o 162 (by omega)]; exact hR.2.2.2.2.2.2.1
  · rw [o 164 (by omega)]; exact hR.2.2.2.2.2.2.2.1
  · rw [o 165 (by omega), o 164 (by omega)]; exact hR.2.2.2.2.2.2.2.2.1
  · rw [o 166 (by omega), o 164 (by omega)]; exact hR.2.2.2.2.2.2.2.2.2
theorem qwr_end (hR : qRow M r) (hE : qend r) : qend (qwr r) := by
  have h1 := hR.1
  intro j hj
  exact (qwz_o (fun k a b => by omega)).trans (hE j hj)
theorem k_whl (hS : g.1 31 0 = r 0) (hr : 1 ≤ r 0 ∧ r 0 ≤ 12) : ∀ (fu : Nat) (g' : zSt) (k : Int), g'.1 31 0 = r 0 → 0 ≤ k → k ≤ 2 * r 0 → (2 * r 0 - k).toNat < fu → ∃ g2, fX7_surveyWithWholeFuses_p13 fu g' k = zbd (fX6_take g2 240 30) (fun g1 => some g1) ∧ (∀ j, k ≤ j → j < 2 * r 0 → g2.1 36 (Int.toNat j) = 0) ∧ (∀ j, 0 ≤ j → j < k → g2.1 36 (Int.toNat j) = g'.1 36 (Int.toNat j)) ∧ qfr (fun q => q = 36) g' g2 := by
  intro fu
  induction fu with
  | zero => intro g' k _ _ _ h; omega
  | succ fu ih =>
    intro g' k e0 h0 hk hf
    rw [fX7_surveyWithWholeFuses_p13, e0, ilt (by omega) (by omega)]
    by_cases e : k < 2 * r 0
    · have f1 : qfr (fun q => q = 36) g' (zwr g' 36 (Int.toNat k) 0) := qfr.wr rfl
      obtain ⟨g2, c1, c2, c3, c4⟩ := ih (zwr g' 36 (Int.toNat k) 0) (k + 1) ((f1.1 _ _ (by omega)).trans e0) (by omega) (by omega) (by omega)
      rw [if_pos e, zck_t (by omega), qck_0, zlet_e]
      refine ⟨g2, c1, fun j j0 j1 => ?_, fun j j0 j1 => ?_, f1.tr c4⟩
      · by_cases q : j = k
        · rw [q, c3 k h0 (by omega), zwr_e]
        · exact c2 j (by omega) j1
      · rw [c3 j j0 (by omega), zwr_n (Or.inr (by omega))]
    · rw [if_neg e]
      exact ⟨g', rfl, fun j j0 j1 => by omega, fun j j0 j1 => rfl, qfr.rf⟩
theorem k_whole (h : qCs g n R r) (hR : qRow 8 r) : ∃ g', fX7_surveyWithWholeFuses g = some g' ∧ qCs g' n R r ∧ qSv g' 240 (qwr r) ∧ qfr (fun q => (30 ≤ q ∧ q < 45) ∨ (240 ≤ q ∧ q < 251)) g g' := by
  have h1 := hR.1
  have h2 := hR.2.1
  have h3 := hR.2.2.1
  obtain ⟨g1, a1, a2, a3⟩ := k_trial h hR
  obtain ⟨g2, b1, b2, b3, b4⟩ := k_whl (g := g1) (r := r) a2.1.1 h1 zfu g1 0 a2.1.1 (by omega) (by omega) (by unfold zfu; omega)
  have o : ∀ j, 85 ≤ j → qwr r j = r j := fun j hj => qwr_A hR j (by omega) (by omega)
  have e0 : qwr r 0 = r 0 := qwr_A hR 0 (by omega) (by omega)
  have S2 : qShip g2 30 (qwr r) := by
    refine qShip.mk ?_ ⟨?_, ?_, ?_, ?_, ?_⟩ (fun b b0 b1 => ?_) (fun b t b0 b1 ht => ?_) ?_ (fun j j0 j1 => ?_) ?_ (fun j j0 j1 => ?_) ?_
    · rw [b4.1 _ _ (by omega), e0]; exact a2.1.1
    · rw [b4.1 _ _ (by omega)]; exact a2.1.2.1
    · rw [b4.1 _ _ (by omega)]; exact a2.1.2.2.1
    · rw [b4.1 _ _ (by omega)]; exact a2.1.2.2.2.1
    · exact Or.inl (b2 0 (by omega) (by omega))
    · exact Or.inl (b2 1 (by omega) (by omega))
    · rw [e0] at b1
      rw [b4.1 _ _ (by omega), b4.1 (30 + 3) _ (by omega), b4.1 (30 + 4) _ (by omega), qwr_B hR ⟨b0, b1⟩ (by omega), qwr_B hR ⟨b0, b1⟩ (by omega), qwr_B hR ⟨b0, b1⟩ (by omega)]
      exact a2.2.1 b b0 b1
    · rw [e0] at b1
      rw [b4.1 _ _ (by omega), qwr_B hR ⟨b0, b1⟩ (by omega), qwr_0 hR ⟨b0, b1⟩ ht]
      exact ⟨(a2.2.2.1 b t b0 b1 ht).1, b2 (2 * b + t) (by omega) (by omega)⟩
    · rw [b4.1 _ _ (by omega), o 85 (by omega)]; exact a2.2.2.2.1.1
    · rw [o 85 (by omega)] at j1
      unfold qL
      rw [b4.1 _ _ (by omega), b4.1 (30 + 9) _ (by omega), b4.1 (30 + 10) _ (by omega), o _ (by omega), o _ (by omega), o _ (by omega)]
      exact a2.2.2.2.1.2 j j0 j1
    · rw [b4.1 _ _ (by omega), o 134 (by omega)]; exact a2.2.2.2.2.1.1
    · rw [o 134 (by omega)] at j1
      unfold qF
      rw [b4.1 _ _ (by omega), b4.1 (30 + 13) _ (by omega), b4.1 (30 + 14) _ (by omega), o _ (by omega), o _ (by omega), o _ (by omega)]
      exact a2.2.2.2.2.1.2 j j0 j1
    · rw [b4.1 _ _ (by omega), b4.1 _ _ (by omega), b4.1 _ _ (by omega), b4.1 _ _ (by omega), b4.1 _ _ (by omega), o 162 (by omega), o 163 (by omega), o 164 (by omega), o 165 (by omega), o 166 (by omega)]
      exact a2.2.2.2.2.2
  have hM : qMade g2 240 := h.2.1.2.cg (fun q k a b => (b4.1 _ _ (by omega)).trans (a3.1 _ _ (by omega)))
  obtain ⟨g3, c1, c2, c3⟩ := k_take (s := 240) (qwr_row hR) (by omega) S2 hM
  have f : qfr (fun q => (30 ≤ q ∧ q < 45) ∨ (240 ≤ q ∧ q < 251)) g g3 := ((a3.wk (fun q z => by omega)).tr (b4.wk (fun q z => by omega))).tr (c3.wk (fun q z => by omega))
  refine ⟨g3, ?_, ⟨⟨h.1.1.kept f (fun q a b => by omega), h.1.2.kept f (fun q a b => by omega)⟩, ⟨h.2.1.1.cg (fun q k a b => f.1 _ _ (by omega)), qMade_of c2.1.1 (by rw [e0]; exact h1.1)⟩, h.2.2.kept f (fun q z => by omega)⟩, c2, f⟩
  unfold fX7_surveyWithWholeFuses
  rw [a1, zbd_s, b1, c1, zbd_s]
end QWHOLE

