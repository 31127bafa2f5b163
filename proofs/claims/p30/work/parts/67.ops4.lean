section QOPS4
variable {g g' g1 g2 g3 g4 : zSt} {m b t x w k p u j a lo hi v M p1 p2 p3 p4 y a1 a2 a3 a4 : Int} {r r' re : Int → Int} {R : Nat → Int → Int} {c s d e N n L : Nat}
theorem qRow.edB (hR : qRow M r) (hb : 0 < b ∧ b < r 0) (hA : ∀ j, 0 ≤ j → (j < 1 + 7 * b ∨ 8 + 7 * b ≤ j) → j ≠ 162 → r' j = r j) (hB : qBx r' b) (h162 : 0 ≤ r' 162 ∧ r' 162 ≤ 50) : qRow M r' := by
  have h1 := hR.1
  have h2 := hR.2.1
  have h3 := hR.2.2.1
  have o : ∀ j, 85 ≤ j → j ≠ 162 → r' j = r j := fun j hj hj2 => hA j (by omega) (by omega) hj2
  have e0 : r' 0 = r 0 := hA 0 (by omega) (by omega) (by omega)
  refine ⟨by rw [e0]; exact h1, by rw [o 85 (by omega) (by omega)]; exact h2, by rw [o 134 (by omega) (by omega)]; exact h3, fun b2 b0 b1 => ?_, fun k k0 k1 => ?_, fun k k0 k1 => ?_, h162, ?_, ?_, ?_⟩
  · rw [e0] at b1
    by_cases q : b2 = b
    · rw [q]; exact hB
    · exact (hR.2.2.2.1 b2 b0 b1).cg (fun w w0 w1 => hA _ (by omega) (by omega) (by omega))
  · rw [o 85 (by omega) (by omega)] at k1
    have := hR.2.2.2.2.1 k k0 k1
    unfold qLn qL at this ⊢
    rw [o (86 + 3 * k + 0) (by omega) (by omega), o (86 + 3 * k + 1) (by omega) (by omega), o (86 + 3 * k + 2) (by omega) (by omega), e0]
    exact this
  · rw [o 134 (by omega) (by omega)] at k1
    have := hR.2.2.2.2.2.1 k k0 k1
    unfold qFt qF at this ⊢
    rw [o (135 + 3 * k + 0) (by omega) (by omega), o (135 + 3 * k + 1) (by omega) (by omega), o (135 + 3 * k + 2) (by omega) (by omega), e0]
    exact this
  · rw [o 164 (by omega) (by omega)]; exact hR.2.2.2.2.2.2.2.1
  · rw [o 165 (by omega) (by omega), o 164 (by omega) (by omega)]; exact hR.2.2.2.2.2.2.2.2.1
  · rw [o 166 (by omega) (by omega), o 164 (by omega) (by omega)]; exact hR.2.2.2.2.2.2.2.2.2
theorem qShip.edB (hR : qRow M r) (hS : qShip g c r) (hb : 0 < b ∧ b < r 0) (hA : ∀ j, 0 ≤ j → (j < 1 + 7 * b ∨ 8 + 7 * b ≤ j) → j ≠ 162 → r' j = r j) (f : qfr (fun q => q = c ∨ (c + 3 ≤ q ∧ q ≤ c + 6)) g g') (h0 : qB r' b 0 = qB r b 0) (g3 : ∀ k : Nat, k ≠ Int.toNat b → g'.1 (c + 3) k = g.1 (c + 3) k ∧ g'.1 (c + 4) k = g.1 (c + 4) k) (g5 : ∀ k : Nat, k ≠ Int.toNat (2 * b) → k ≠ Int.toNat (2 * b + 1) → g'.1 (c + 5) k = g.1 (c + 5) k ∧ g'.1 (c + 6) k = g.1 (c + 6) k) (g4 : g'.1 (c + 3) (Int.toNat b) = qB r' b 1 ∧ g'.1 (c + 4) (Int.toNat b) = qB r' b 2) (g6 : ∀ t, (t = 0 ∨ t = 1) → g'.1 (c + 5) (Int.toNat (2 * b + t)) = qB r' b (3 + t) ∧ g'.1 (c + 6) (Int.toNat (2 * b + t)) = qB r' b (5 + t)) (hi : g'.1 c 3 = r' 162) (hi2 : ∀ k : Nat, k ≠ 3 → g'.1 c k = g.1 c k) : qShip g' c r' := by
  have h1 := hR.1
  have h2 := hR.2.1
  have h3 := hR.2.2.1
  have o : ∀ j, 85 ≤ j → j ≠ 162 → r' j = r j := fun j hj hj2 => hA j (by omega) (by omega) hj2
  have e0 : r' 0 = r 0 := hA 0 (by omega) (by omega) (by omega)
  have oB : ∀ b2 w, 0 < b2 → b2 < r 0 → b2 ≠ b → 0 ≤ w → w < 7 → qB r' b2 w = qB r b2 w := fun b2 w b0 b1 ne w0 w1 => hA _ (by omega) (by omega) (by omega)
  refine qShip.mk ?_ ⟨?_, ?_, ?_, ?_, ?_⟩ (fun b2 b0 b1 => ?_) (fun b2 t b0 b1 ht => ?_) ?_ (fun j j0 j1 => ?_) ?_ (fun j j0 j1 => ?_) ⟨hi, ?_, ?_, ?_, ?_⟩
  · rw [f.1 _ _ (by omega), e0]; exact hS.1.1
  · rw [f.1 _ _ (by omega)]; exact hS.1.2.1
  · rw [(g3 0 (by omega)).1]; exact hS.1.2.2.1
  · rw [(g3 0 (by omega)).2]; exact hS.1.2.2.2.1
  · rw [(g5 0 (by omega) (by omega)).2]; exact hS.1.2.2.2.2.1
  · rw [(g5 1 (by omega) (by omega)).2]; exact hS.1.2.2.2.2.2
  · rw [e0] at b1
    rw [f.1 _ _ (by omega)]
    have hh := hS.2.1 b2 b0 b1
    by_cases q : b2 = b
    · rw [q] at hh ⊢
      rw [h0]
      exact ⟨hh.1, g4.1, g4.2⟩
    · have z := g3 (Int.toNat b2) (by omega)
      rw [z.1, z.2, oB b2 0 b0 b1 q (by omega) (by omega), oB b2 1 b0 b1 q (by omega) (by omega), oB b2 2 b0 b1 q (by omega) (by omega)]
      exact hh
  · rw [e0] at b1
    by_cases q : b2 = b
    · rw [q]; exact g6 t ht
    · have z := g5 (Int.toNat (2 * b2 + t)) (by omega) (by omega)
      rw [z.1, z.2, oB b2 (3 + t) b0 b1 q (by omega) (by omega), oB b2 (5 + t) b0 b1 q (by omega) (by omega)]
      exact hS.2.2.1 b2 t b0 b1 ht
  · rw [f.1 _ _ (by omega), o 85 (by omega) (by omega)]; exact hS.2.2.2.1.1
  · rw [o 85 (by omega) (by omega)] at j1
    unfold qL
    rw [f.1 _ _ (by omega), f.1 (c + 9) _ (by omega), f.1 (c + 10) _ (by omega), o (86 + 3 * j + 0) (by omega) (by omega), o (86 + 3 * j + 1) (by omega) (by omega), o (86 + 3 * j + 2) (by omega) (by omega)]
    exact hS.2.2.2.1.2 j j0 j1
  · rw [f.1 _ _ (by omega), o 134 (by omega) (by omega)]; exact hS.2.2.2.2.1.1
  · rw [o 134 (by omega) (by omega)] at j1
    unfold qF
    rw [f.1 _ _ (by omega), f.1 (c + 13) _ (by omega), f.1 (c + 14) _ (by omega), o (135 + 3 * j + 0) (by omega) (by omega), o (135 + 3 * j + 1) (by omega) (by omega), o (135 + 3 * j + 2) (by omega) (by omega)]
    exact hS.2.2.2.2.1.2 j j0 j1
  · rw [hi2 4 (by decide), o 163 (by omega) (by omega)]; exact hS.2.2.2.2.2.2.1
  · rw [hi2 5 (by decide), o 164 (by omega) (by omega)]; exact hS.2.2.2.2.2.2.2.1
  · rw [hi2 6 (by decide), o 165 (by omega) (by omega)]; exact hS.2.2.2.2.2.2.2.2.1
  · rw [hi2 7 (by decide), o 166 (by omega) (by omega)]; exact hS.2.2.2.2.2.2.2.2.2
/-- a switch turned or a cable crossed -/
def qtn (r : Int → Int) (b w : Int) : Int → Int := qput r (1 + 7 * b + w) (1 - qB r b w)
theorem qtn_A (hb : 0 < b) (hw : w = 1 ∨ w = 2) : ∀ j, 0 ≤ j → (j < 1 + 7 * b ∨ 8 + 7 * b ≤ j) → j ≠ 162 → qtn r b w j = r j := fun j j0 j1 _ => qput_n (by omega)
theorem qtn_e (hb : 0 < b) (hw : w = 1 ∨ w = 2) : qB (qtn r b w) b w = 1 - qB r b w := qput_e rfl
theorem qtn_n (hb : 0 < b) (hw : w = 1 ∨ w = 2) (hx : 0 ≤ x ∧ x < 7) (ne : x ≠ w) : qB (qtn r b w) b x = qB r b x := qput_n (by omega)
theorem qtn_row (hR : qRow M r) (hb : 0 < b ∧ b < r 0) (hw : w = 1 ∨ w = 2) : qRow M (qtn r b w) := by
  have h1 := hR.1
  have hx := hR.2.2.2.1 b hb.1 hb.2
  refine hR.edB hb (qtn_A hb.1 hw) ?_ (by rw [show qtn r b w 162 = r 162 from qput_n (by omega)]; exact hR.2.2.2.2.2.2.1)
  unfold qBx at hx ⊢
  rcases hw with rfl | rfl
  · rw [qtn_e hb.1 (Or.inl rfl), qtn_n hb.1 (Or.inl rfl) (x := 0) (by omega) (by omega), qtn_n hb.1 (Or.inl rfl) (x := 2) (by omega) (by omega), qtn_n hb.1 (Or.inl rfl) (x := 3) (by omega) (by omega), qtn_n hb.1 (Or.inl rfl) (x := 4) (by omega) (by omega), qtn_n hb.1 (Or.inl rfl) (x := 5) (by omega) (by omega), qtn_n hb.1 (Or.inl rfl) (x := 6) (by omega) (by omega)]
    omega
  · rw [qtn_e hb.1 (Or.inr rfl), qtn_n hb.1 (Or.inr rfl) (x := 0) (by omega) (by omega), qtn_n hb.1 (Or.inr rfl) (x := 1) (by omega) (by omega), qtn_n hb.1 (Or.inr rfl) (x := 3) (by omega) (by omega), qtn_n hb.1 (Or.inr rfl) (x := 4) (by omega) (by omega), qtn_n hb.1 (Or.inr rfl) (x := 5) (by omega) (by omega), qtn_n hb.1 (Or.inr rfl) (x := 6) (by omega) (by omega)]
    omega
theorem qtn_end (hR : qRow M r) (hb : 0 < b ∧ b < r 0) (hw : w = 1 ∨ w = 2) (hE : qend r) : qend (qtn r b w) := by
  have h1 := hR.1
  exact qput_end hE (by omega)
theorem k_turn (hR : qRow M r) (hS : qShip g c r) (hb : 0 < b ∧ b < r 0) (hw : w = 1 ∨ w = 2) (hd : d = c + 2 + w.toNat) : qShip (zwr g d (Int.toNat b) (1 - qB r b w)) c (qtn r b w) := by
  have h1 := hR.1
  have z := hS.2.1 b hb.1 hb.2
  subst hd
  refine hS.edB hR hb (qtn_A hb.1 hw) (qfr.wr (by omega)) (qtn_n hb.1 hw (by omega) (by omega)) (fun k hk => ⟨zwr_n (Or.inr hk), zwr_n (Or.inr hk)⟩) (fun k hk hk2 => ⟨zwr_n (Or.inl (by omega)), zwr_n (Or.inl (by omega))⟩) ?_ (fun t ht => ?_) ?_ (fun k hk => zwr_n (Or.inl (by omega)))
  · rcases hw with rfl | rfl
    · rw [qtn_e hb.1 (Or.inl rfl), qtn_n hb.1 (Or.inl rfl) (x := 2) (by omega) (by omega)]
      exact ⟨zwr_e, (zwr_n (Or.inl (by show c + 4 ≠ c + 2 + 1; omega))).trans z.2.2⟩
    · rw [qtn_e hb.1 (Or.inr rfl), qtn_n hb.1 (Or.inr rfl) (x := 1) (by omega) (by omega)]
      exact ⟨(zwr_n (Or.inl (by show c + 3 ≠ c + 2 + 2; omega))).trans z.2.1, zwr_e⟩
  · rw [zwr_n (Or.inl (by omega)), zwr_n (Or.inl (by omega)), qtn_n hb.1 hw (x := 3 + t) (by omega) (by omega), qtn_n hb.1 hw (x := 5 + t) (by omega) (by omega)]
    exact hS.2.2.1 b t hb.1 hb.2 ht
  · rw [zwr_n (Or.inl (by omega)), show qtn r b w 162 = r 162 from qput_n (by omega)]; exact hS.2.2.2.2.2.1
theorem c_turn (h : qCs g n R r) (hR : qRow 8 r) (hb : 0 < b ∧ b < r 0) (hw : w = 1 ∨ w = 2) (hd : d = 12 + w.toNat) : ∃ g3, fX7_settle (zwr g d (Int.toNat b) (1 - qB r b w)) 10 200 = some ((qset 24 (qtn r b w) 0).2, g3) ∧ qCs g3 n R (qset 24 (qtn r b w) 0).1 ∧ qfc g g3 :=
  k_mut h hR.1.1 (P := fun q => q = d) (qfr.wr rfl) (fun q z => by omega) (k_turn (c := 10) hR h.1.1 hb hw hd) (qtn_row hR hb hw)
end QOPS4

