section QREM
variable {g g' g1 g2 g3 g4 : zSt} {m b t x w k p u j a lo hi v M p1 p2 p3 p4 y a1 a2 a3 a4 i n : Int} {r r' re : Int → Int} {R : Nat → Int → Int} {c s d e N L n' : Nat}
theorem k_rm3 (hn : 1 ≤ n ∧ n ≤ 16) : ∀ (fu : Nat) (g : zSt) (a : Int), 0 ≤ a → a ≤ n - 1 → (n - 1 - a).toNat < fu → g.1 d 0 = n → (∀ k, 0 ≤ k → k < n → g.1 (d + 3) (Int.toNat k) = 0 ∨ g.1 (d + 3) (Int.toNat k) = 1) → ∃ g', fX3_remove_p2 fu g d a = some g' ∧ ((∀ k, a ≤ k → k < n - 1 → g'.1 (d + 1) (Int.toNat k) = g.1 (d + 1) (Int.toNat (k + 1))) ∧ (∀ k, 0 ≤ k → k < a → g'.1 (d + 1) (Int.toNat k) = g.1 (d + 1) (Int.toNat k)) ∧ (∀ k, a ≤ k → k < n - 1 → g'.1 (d + 2) (Int.toNat k) = g.1 (d + 2) (Int.toNat (k + 1))) ∧ (∀ k, 0 ≤ k → k < a → g'.1 (d + 2) (Int.toNat k) = g.1 (d + 2) (Int.toNat k)) ∧ (∀ k, a ≤ k → k < n - 1 → g'.1 (d + 3) (Int.toNat k) = g.1 (d + 3) (Int.toNat (k + 1))) ∧ (∀ k, 0 ≤ k → k < a → g'.1 (d + 3) (Int.toNat k) = g.1 (d + 3) (Int.toNat k))) ∧ g'.1 d 0 = n - 1 ∧ qfr (fun q => q = d ∨ q = d + 1 ∨ q = d + 2 ∨ q = d + 3) g g' := by
  intro fu
  induction fu with
  | zero => intro g a _ _ h; omega
  | succ fu ih =>
    intro g a h0 ha hf hc hB3
    rw [fX3_remove_p2, hc, ilt (by omega) (by omega)]
    by_cases q : a < n - 1
    · have f1 : qfr (fun q => q = d + 1 ∨ q = d + 2 ∨ q = d + 3) g (zwr (zwr (zwr g (d + 1) (Int.toNat a) (g.1 (d + 1) (Int.toNat (a + 1)))) (d + 2) (Int.toNat a) (g.1 (d + 2) (Int.toNat (a + 1)))) (d + 3) (Int.toNat a) (g.1 (d + 3) (Int.toNat (a + 1)))) := ((qfr.wr (by omega)).tr (qfr.wr (by omega))).tr (qfr.wr (by omega))
      have b3 := hB3 (a + 1) (by omega) (by omega)
      have hB2 : ∀ k, 0 ≤ k → k < n → (zwr (zwr (zwr g (d + 1) (Int.toNat a) (g.1 (d + 1) (Int.toNat (a + 1)))) (d + 2) (Int.toNat a) (g.1 (d + 2) (Int.toNat (a + 1)))) (d + 3) (Int.toNat a) (g.1 (d + 3) (Int.toNat (a + 1)))).1 (d + 3) (Int.toNat k) = 0 ∨ (zwr (zwr (zwr g (d + 1) (Int.toNat a) (g.1 (d + 1) (Int.toNat (a + 1)))) (d + 2) (Int.toNat a) (g.1 (d + 2) (Int.toNat (a + 1)))) (d + 3) (Int.toNat a) (g.1 (d + 3) (Int.toNat (a + 1)))).1 (d + 3) (Int.toNat k) = 1 := by
        intro k k0 k1
        by_cases z : k = a
        · rw [z, zwr_e]; exact b3
        · rw [zwr_n (Or.inr (by omega)), zwr_n (Or.inl (by omega)), zwr_n (Or.inl (by omega))]; exact hB3 k k0 k1
      obtain ⟨g', t1, ⟨u1, v1, u2, v2, u3, v3⟩, t3, t4⟩ := ih (zwr (zwr (zwr g (d + 1) (Int.toNat a) (g.1 (d + 1) (Int.toNat (a + 1)))) (d + 2) (Int.toNat a) (g.1 (d + 2) (Int.toNat (a + 1)))) (d + 3) (Int.toNat a) (g.1 (d + 3) (Int.toNat (a + 1)))) (a + 1) (by omega) (by omega) (by omega) (by rw [f1.1 _ _ (by omega)]; exact hc) hB2
      refine ⟨g', ?_, ⟨?_, ?_, ?_, ?_, ?_, ?_⟩, t3, (f1.wk (fun q h => by omega)).tr t4⟩
      · rw [if_pos q, zck_t (c := 0 ≤ a + 1 ∧ a + 1 < 16) (by omega), zck_t (c := 0 ≤ a ∧ a < 16) (by omega), zlet_e, zck_t (c := 0 ≤ a + 1 ∧ a + 1 < 16) (by omega), zck_t (c := 0 ≤ a ∧ a < 16) (by omega), zwr_n (c' := d + 2) (Or.inl (by omega)), zlet_e, zck_t (c := 0 ≤ a + 1 ∧ a + 1 < 16) (by omega), zck_t (c := 0 ≤ a ∧ a < 16) (by omega), zwr_n (c' := d + 3) (Or.inl (by omega)), zwr_n (c' := d + 3) (Or.inl (by omega)), zck_t (c := g.1 (d + 3) (Int.toNat (a + 1)) = 0 ∨ g.1 (d + 3) (Int.toNat (a + 1)) = 1) b3, zlet_e]
        exact t1
      · intro k k0 k1
        by_cases z : k = a
        · rw [z, v1 a h0 (by omega), zwr_n (Or.inl (by omega)), zwr_n (Or.inl (by omega)), zwr_e]
        · rw [u1 k (by omega) k1, zwr_n (Or.inl (by omega)), zwr_n (Or.inl (by omega)), zwr_n (Or.inr (by omega))]
      · intro k k0 k1
        rw [v1 k k0 (by omega), zwr_n (Or.inl (by omega)), zwr_n (Or.inl (by omega)), zwr_n (Or.inr (by omega))]
      · intro k k0 k1
        by_cases z : k = a
        · rw [z, v2 a h0 (by omega), zwr_n (Or.inl (by omega)), zwr_e]
        · rw [u2 k (by omega) k1, zwr_n (Or.inl (by omega)), zwr_n (Or.inr (by omega)), zwr_n (Or.inl (by omega))]
      · intro k k0 k1
        rw [v2 k k0 (by omega), zwr_n (Or.inl (by omega)), zwr_n (Or.inr (by omega)), zwr_n (Or.inl (by omega))]
      · intro k k0 k1
        by_cases z : k = a
        · rw [z, v3 a h0 (by omega), zwr_e]
        · rw [u3 k (by omega) k1, zwr_n (Or.inr (by omega)), zwr_n (Or.inl (by omega)), zwr_n (Or.inl (by omega))]
      · intro k k0 k1
        rw [v3 k k0 (by omega), zwr_n (Or.inr (by omega)), zwr_n (Or.inl (by omega)), zwr_n (Or.inl (by omega))]
    · rw [if_neg q, zlet_e]
      exact ⟨_, rfl, ⟨fun k k0 k1 => by omega, fun k k0 k1 => zwr_n (Or.inl (by omega)), fun k k0 k1 => by omega, fun k k0 k1 => zwr_n (Or.inl (by omega)), fun k k0 k1 => by omega, fun k k0 k1 => zwr_n (Or.inl (by omega))⟩, zwr_e, qfr.wr (by omega)⟩
theorem k_rm1 (hn : 1 ≤ n ∧ n ≤ 9) : ∀ (fu : Nat) (g : zSt) (a : Int), 0 ≤ a → a ≤ n - 1 → (n - 1 - a).toNat < fu → g.1 d 0 = n → ∃ g', fX1_remove_p2 fu g d a = some g' ∧ ((∀ k, a ≤ k → k < n - 1 → g'.1 (d + 1) (Int.toNat k) = g.1 (d + 1) (Int.toNat (k + 1))) ∧ (∀ k, 0 ≤ k → k < a → g'.1 (d + 1) (Int.toNat k) = g.1 (d + 1) (Int.toNat k)) ∧ (∀ k, a ≤ k → k < n - 1 → g'.1 (d + 2) (Int.toNat k) = g.1 (d + 2) (Int.toNat (k + 1))) ∧ (∀ k, 0 ≤ k → k < a → g'.1 (d + 2) (Int.toNat k) = g.1 (d + 2) (Int.toNat k)) ∧ (∀ k, a ≤ k → k < n - 1 → g'.1 (d + 3) (Int.toNat k) = g.1 (d + 3) (Int.toNat (k + 1))) ∧ (∀ k, 0 ≤ k → k < a → g'.1 (d + 3) (Int.toNat k) = g.1 (d + 3) (Int.toNat k))) ∧ g'.1 d 0 = n - 1 ∧ qfr (fun q => q = d ∨ q = d + 1 ∨ q = d + 2 ∨ q = d + 3) g g' := by
  intro fu
  induction fu with
  | zero => intro g a _ _ h; omega
  | succ fu ih =>
    intro g a h0 ha hf hc 
    rw [fX1_remove_p2, hc, ilt (by omega) (by omega)]
    by_cases q : a < n - 1
    · have f1 : qfr (fun q => q = d + 1 ∨ q = d + 2 ∨ q = d + 3) g (zwr (zwr (zwr g (d + 1) (Int.toNat a) (g.1 (d + 1) (Int.toNat (a + 1)))) (d + 2) (Int.toNat a) (g.1 (d + 2) (Int.toNat (a + 1)))) (d + 3) (Int.toNat a) (g.1 (d + 3) (Int.toNat (a + 1)))) := ((qfr.wr (by omega)).tr (qfr.wr (by omega))).tr (qfr.wr (by omega))
      obtain ⟨g', t1, ⟨u1, v1, u2, v2, u3, v3⟩, t3, t4⟩ := ih (zwr (zwr (zwr g (d + 1) (Int.toNat a) (g.1 (d + 1) (Int.toNat (a + 1)))) (d + 2) (Int.toNat a) (g.1 (d + 2) (Int.toNat (a + 1)))) (d + 3) (Int.toNat a) (g.1 (d + 3) (Int.toNat (a + 1)))) (a + 1) (by omega) (by omega) (by omega) (by rw [f1.1 _ _ (by omega)]; exact hc) 
      refine ⟨g', ?_, ⟨?_, ?_, ?_, ?_, ?_, ?_⟩, t3, (f1.wk (fun q h => by omega)).tr t4⟩
      · rw [if_pos q, zck_t (c := 0 ≤ a + 1 ∧ a + 1 < 9) (by omega), zck_t (c := 0 ≤ a ∧ a < 9) (by omega), zlet_e, zck_t (c := 0 ≤ a + 1 ∧ a + 1 < 9) (by omega), zck_t (c := 0 ≤ a ∧ a < 9) (by omega), zwr_n (c' := d + 2) (Or.inl (by omega)), zlet_e, zck_t (c := 0 ≤ a + 1 ∧ a + 1 < 9) (by omega), zck_t (c := 0 ≤ a ∧ a < 9) (by omega), zwr_n (c' := d + 3) (Or.inl (by omega)), zwr_n (c' := d + 3) (Or.inl (by omega)), zlet_e]
        exact t1
      · intro k k0 k1
        by_cases z : k = a
        · rw [z, v1 a h0 (by omega), zwr_n (Or.inl (by omega)), zwr_n (Or.inl (by omega)), zwr_e]
        · rw [u1 k (by omega) k1, zwr_n (Or.inl (by omega)), zwr_n (Or.inl (by omega)), zwr_n (Or.inr (by omega))]
      · intro k k0 k1
        rw [v1 k k0 (by omega), zwr_n (Or.inl (by omega)), zwr_n (Or.inl (by omega)), zwr_n (Or.inr (by omega))]
      · intro k k0 k1
        by_cases z : k = a
        · rw [z, v2 a h0 (by omega), zwr_n (Or.inl (by omega)), zwr_e]
        · rw [u2 k (by omega) k1, zwr_n (Or.inl (by omega)), zwr_n (Or.inr (by omega)), zwr_n (Or.inl (by omega))]
      · intro k k0 k1
        rw [v2 k k0 (by omega), zwr_n (Or.inl (by omega)), zwr_n (Or.inr (by omega)), zwr_n (Or.inl (by omega))]
      · intro k k0 k1
        by_cases z : k = a
        · rw [z, v3 a h0 (by omega), zwr_e]
        · rw [u3 k (by omega) k1, zwr_n (Or.inr (by omega)), zwr_n (Or.inl (by omega)), zwr_n (Or.inl (by omega))]
      · intro k k0 k1
        rw [v3 k k0 (by omega), zwr_n (Or.inr (by omega)), zwr_n (Or.inl (by omega)), zwr_n (Or.inl (by omega))]
    · rw [if_neg q, zlet_e]
      exact ⟨_, rfl, ⟨fun k k0 k1 => by omega, fun k k0 k1 => zwr_n (Or.inl (by omega)), fun k k0 k1 => by omega, fun k k0 k1 => zwr_n (Or.inl (by omega)), fun k k0 k1 => by omega, fun k k0 k1 => zwr_n (Or.inl (by omega))⟩, zwr_e, qfr.wr (by omega)⟩
/-- the row without one of its lanterns -/
def qrmL (r : Int → Int) (a : Int) : Int → Int := fun j => if j.toNat = 85 then r 85 - 1 else if 86 + 3 * a ≤ (j.toNat : Int) ∧ (j.toNat : Int) < 86 + 3 * (r 85 - 1) then r (j + 3) else r j
theorem qrmL_0 : qrmL r a 85 = r 85 - 1 := if_pos rfl
theorem qrmL_A (ha : 0 ≤ a) : ∀ j, 0 ≤ j → j ≠ 85 → (j < 86 ∨ 86 + 3 * (r 85 - 1) ≤ j) → qrmL r a j = r j := by
  intro j j0 j1 j2
  unfold qrmL
  rw [if_neg (by omega), if_neg (by omega)]
theorem qrmL_lo (ha : 0 ≤ a) (hk : 0 ≤ k ∧ k < a) (hw : 0 ≤ w ∧ w < 3) : qL (qrmL r a) k w = qL r k w := by
  unfold qL qrmL
  rw [if_neg (by omega), if_neg (by omega)]
theorem qrmL_hi (ha : 0 ≤ a) (hk : a ≤ k ∧ k < r 85 - 1) (hw : 0 ≤ w ∧ w < 3) : qL (qrmL r a) k w = qL r (k + 1) w := by
  unfold qL qrmL
  rw [if_neg (by omega), if_pos (by omega)]
  congr 1
  omega
theorem qrmL_end (hR : qRow M r) (ha : 0 ≤ a) (hE : qend r) : qend (qrmL r a) := by
  have h2 := hR.2.1
  have h3 := hR.2.2.1
  intro j hj
  unfold qrmL
  rw [if_neg (by omega), if_neg (by omega)]
  exact hE j hj
/-- the row without one of its faults -/
def qrmF (r : Int → Int) (a : Int) : Int → Int := fun j => if j.toNat = 134 then r 134 - 1 else if 135 + 3 * a ≤ (j.toNat : Int) ∧ (j.toNat : Int) < 135 + 3 * (r 134 - 1) then r (j + 3) else r j
theorem qrmF_0 : qrmF r a 134 = r 134 - 1 := if_pos rfl
theorem qrmF_A (ha : 0 ≤ a) : ∀ j, 0 ≤ j → j ≠ 134 → (j < 135 ∨ 135 + 3 * (r 134 - 1) ≤ j) → qrmF r a j = r j := by
  intro j j0 j1 j2
  unfold qrmF
  rw [if_neg (by omega), if_neg (by omega)]
theorem qrmF_lo (ha : 0 ≤ a) (hk : 0 ≤ k ∧ k < a) (hw : 0 ≤ w ∧ w < 3) : qF (qrmF r a) k w = qF r k w := by
  unfold qF qrmF
  rw [if_neg (by omega), if_neg (by omega)]
theorem qrmF_hi (ha : 0 ≤ a) (hk : a ≤ k ∧ k < r 134 - 1) (hw : 0 ≤ w ∧ w < 3) : qF (qrmF r a) k w = qF r (k + 1) w := by
  unfold qF qrmF
  rw [if_neg (by omega), if_pos (by omega)]
  congr 1
  omega
theorem qrmF_end (hR : qRow M r) (ha : 0 ≤ a) (hE : qend r) : qend (qrmF r a) := by
  have h2 := hR.2.1
  have h3 := hR.2.2.1
  intro j hj
  unfold qrmF
  rw [if_neg (by omega), if_neg (by omega)]
  exact hE j hj
theorem qrmL_row (hR : qRow M r) (ha : 0 ≤ a ∧ a < r 85) : qRow M (qrmL r a) := by
  have h1 := hR.1
  have h2 := hR.2.1
  have h3 := hR.2.2.1
  have o : ∀ j, 134 ≤ j → qrmL r a j = r j := fun j hj => qrmL_A ha.1 j (by omega) (by omega) (by omega)
  have o2 : ∀ j, 0 ≤ j → j < 85 → qrmL r a j = r j := fun j a0 b0 => qrmL_A ha.1 j (by omega) (by omega) (by omega)
  have e0 := o2 0 (by omega) (by omega)
  refine ⟨by rw [e0]; exact h1, by rw [qrmL_0]; omega, by rw [o 134 (by omega)]; exact h3, fun b b0 b1 => ?_, fun k k0 k1 => ?_, fun k k0 k1 => ?_, ?_, ?_, ?_, ?_⟩
  · rw [e0] at b1
    exact (hR.2.2.2.1 b b0 b1).cg (fun w w0 w1 => o2 _ (by omega) (by omega))
  · rw [qrmL_0] at k1
    unfold qLn
    by_cases q : k < a
    · rw [qrmL_lo ha.1 ⟨k0, q⟩ (by omega), qrmL_lo ha.1 ⟨k0, q⟩ (by omega), qrmL_lo ha.1 ⟨k0, q⟩ (by omega), e0]
      exact hR.2.2.2.2.1 k k0 (by omega)
    · rw [qrmL_hi ha.1 ⟨by omega, k1⟩ (by omega), qrmL_hi ha.1 ⟨by omega, k1⟩ (by omega), qrmL_hi ha.1 ⟨by omega, k1⟩ (by omega), e0]
      exact hR.2.2.2.2.1 (k + 1) (by omega) (by omega)
  · rw [o 134 (by omega)] at k1
    have := hR.2.2.2.2.2.1 k k0 k1
    unfold qFt qF at this ⊢
    rw [o (135 + 3 * k + 0) (by omega), o (135 + 3 * k + 1) (by omega), o (135 + 3 * k + 2) (by omega), e0]
    exact this
  · rw [o 162 (by omega)]; exact hR.2.2.2.2.2.2.1
  · rw [o 164 (by omega)]; exact hR.2.2.2.2.2.2.2.1
  · rw [o 165 (by omega), o 164 (by omega)]; exact hR.2.2.2.2.2.2.2.2.1
  · rw [o 166 (by omega), o 164 (by omega)]; exact hR.2.2.2.2.2.2.2.2.2
theorem qrmF_row (hR : qRow M r) (ha : 0 ≤ a ∧ a < r 134) : qRow M (qrmF r a) := by
  have h1 := hR.1
  have h2 := hR.2.1
  have h3 := hR.2.2.1
  have o : ∀ j, 162 ≤ j → qrmF r a j = r j := fun j hj => qrmF_A ha.1 j (by omega) (by omega) (by omega)
  have o2 : ∀ j, 0 ≤ j → j < 134 → qrmF r a j = r j := fun j a0 b0 => qrmF_A ha.1 j (by omega) (by omega) (by omega)
  have e0 := o2 0 (by omega) (by omega)
  refine ⟨by rw [e0]; exact h1, by rw [o2 85 (by omega) (by omega)]; exact h2, by rw [qrmF_0]; omega, fun b b0 b1 => ?_, fun k k0 k1 => ?_, fun k k0 k1 => ?_, ?_, ?_, ?_, ?_⟩
  · rw [e0] at b1
    exact (hR.2.2.2.1 b b0 b1).cg (fun w w0 w1 => o2 _ (by omega) (by omega))
  · rw [o2 85 (by omega) (by omega)] at k1
    have := hR.2.2.2.2.1 k k0 k1
    unfold qLn qL at this ⊢
    rw [o2 (86 + 3 * k + 0) (by omega) (by omega), o2 (86 + 3 * k + 1) (by omega) (by omega), o2 (86 + 3 * k + 2) (by omega) (by omega), e0]
    exact this
  · rw [qrmF_0] at k1
    unfold qFt
    by_cases q : k < a
    · rw [qrmF_lo ha.1 ⟨k0, q⟩ (by omega), qrmF_lo ha.1 ⟨k0, q⟩ (by omega), qrmF_lo ha.1 ⟨k0, q⟩ (by omega), e0]
      exact hR.2.2.2.2.2.1 k k0 (by omega)
    · rw [qrmF_hi ha.1 ⟨by omega, k1⟩ (by omega), qrmF_hi ha.1 ⟨by omega, k1⟩ (by omega), qrmF_hi ha.1 ⟨by omega, k1⟩ (by omega), e0]
      exact hR.2.2.2.2.2.1 (k + 1) (by omega) (by omega)
  · rw [o 162 (by omega)]; exact hR.2.2.2.2.2.2.1
  · rw [o 164 (by omega)]; exact hR.2.2.2.2.2.2.2.1
  · rw [o 165 (by omega), o 164 (by omega)]; exact hR.2.2.2.2.2.2.2.2.1
  · rw [o 166 (by omega), o 164 (by omega)]; exact hR.2.2.2.2.2.2.2.2.2
theorem k_rmL (hR : qRow M r) (hS : qShip g c r) (ha : 0 ≤ a ∧ a < r 85) : ∃ g', fX3_remove g (c + 7) a = some g' ∧ qShip g' c (qrmL r a) ∧ qfr (fun q => c + 7 ≤ q ∧ q ≤ c + 10) g g' := by
  have h1 := hR.1
  have h2 := hR.2.1
  have h3 := hR.2.2.1
  have o : ∀ j, 134 ≤ j → qrmL r a j = r j := fun j hj => qrmL_A ha.1 j (by omega) (by omega) (by omega)
  have o2 : ∀ j, 0 ≤ j → j < 85 → qrmL r a j = r j := fun j a0 b0 => qrmL_A ha.1 j (by omega) (by omega) (by omega)
  have e0 := o2 0 (by omega) (by omega)
  obtain ⟨g', t1, ⟨u1, v1, u2, v2, u3, v3⟩, t3, t4⟩ := k_rm3 (d := c + 7) (n := r 85) (by omega) zfu g a ha.1 (by omega) (by unfold zfu; omega) hS.2.2.2.1.1 (fun k k0 k1 => by
    have z := (hS.2.2.2.1.2 k k0 k1).2.2
    rw [show c + 7 + 3 = c + 10 from rfl, z]
    exact (hR.2.2.2.2.1 k k0 k1).2.2)
  refine ⟨g', t1, qShip.mk ?_ ⟨?_, ?_, ?_, ?_, ?_⟩ (fun b b0 b1 => ?_) (fun b t b0 b1 ht => ?_) ?_ (fun j j0 j1 => ?_) ?_ (fun j j0 j1 => ?_) ?_, t4.wk (fun q z => by omega)⟩
  · rw [t4.1 _ _ (by omega), e0]; exact hS.1.1
  · rw [t4.1 _ _ (by omega)]; exact hS.1.2.1
  · rw [t4.1 _ _ (by omega)]; exact hS.1.2.2.1
  · rw [t4.1 _ _ (by omega)]; exact hS.1.2.2.2.1
  · rw [t4.1 _ _ (by omega)]; exact hS.1.2.2.2.2.1
  · rw [t4.1 _ _ (by omega)]; exact hS.1.2.2.2.2.2
  · rw [e0] at b1
    unfold qB
    rw [t4.1 _ _ (by omega), t4.1 (c + 3) _ (by omega), t4.1 (c + 4) _ (by omega), o2 _ (by omega) (by omega), o2 _ (by omega) (by omega), o2 _ (by omega) (by omega)]
    exact hS.2.1 b b0 b1
  · rw [e0] at b1
    unfold qB
    rw [t4.1 _ _ (by omega), t4.1 (c + 6) _ (by omega), o2 _ (by omega) (by omega), o2 _ (by omega) (by omega)]
    exact hS.2.2.1 b t b0 b1 ht
  · rw [qrmL_0]; exact t3
  · rw [qrmL_0] at j1
    by_cases q : j < a
    · rw [qrmL_lo ha.1 ⟨j0, q⟩ (by omega), qrmL_lo ha.1 ⟨j0, q⟩ (by omega), qrmL_lo ha.1 ⟨j0, q⟩ (by omega)]
      have z := hS.2.2.2.1.2 j j0 (by omega)
      exact ⟨(v1 j j0 q).trans z.1, (v2 j j0 q).trans z.2.1, (v3 j j0 q).trans z.2.2⟩
    · rw [qrmL_hi ha.1 ⟨by omega, j1⟩ (by omega), qrmL_hi ha.1 ⟨by omega, j1⟩ (by omega), qrmL_hi ha.1 ⟨by omega, j1⟩ (by omega)]
      have z := hS.2.2.2.1.2 (j + 1) (by omega) (by omega)
      exact ⟨(u1 j (by omega) j1).trans z.1, (u2 j (by omega) j1).trans z.2.1, (u3 j (by omega) j1).trans z.2.2⟩
  · rw [t4.1 _ _ (by omega), o 134 (by omega)]; exact hS.2.2.2.2.1.1
  · rw [o 134 (by omega)] at j1
    unfold qF
    rw [t4.1 _ _ (by omega), t4.1 (c + 13) _ (by omega), t4.1 (c + 14) _ (by omega), o _ (by omega), o _ (by omega), o _ (by omega)]
    exact hS.2.2.2.2.1.2 j j0 j1
  · rw [t4.1 _ _ (by omega), t4.1 _ _ (by omega), t4.1 _ _ (by omega), t4.1 _ _ (by omega), t4.1 _ _ (by omega), o 162 (by omega), o 163 (by omega), o 164 (by omega), o 165 (by omega), o 166 (by omega)]
    exact hS.2.2.2.2.2
theorem k_rmF (hR : qRow M r) (hS : qShip g c r) (ha : 0 ≤ a ∧ a < r 134) : ∃ g', fX1_remove g (c + 11) a = some g' ∧ qShip g' c (qrmF r a) ∧ qfr (fun q => c + 11 ≤ q ∧ q ≤ c + 14) g g' := by
  have h1 := hR.1
  have h2 := hR.2.1
  have h3 := hR.2.2.1
  have o : ∀ j, 162 ≤ j → qrmF r a j = r j := fun j hj => qrmF_A ha.1 j (by omega) (by omega) (by omega)
  have o2 : ∀ j, 0 ≤ j → j < 134 → qrmF r a j = r j := fun j a0 b0 => qrmF_A ha.1 j (by omega) (by omega) (by omega)
  have e0 := o2 0 (by omega) (by omega)
  obtain ⟨g', t1, ⟨u1, v1, u2, v2, u3, v3⟩, t3, t4⟩ := k_rm1 (d := c + 11) (n := r 134) (by omega) zfu g a ha.1 (by omega) (by unfold zfu; omega) hS.2.2.2.2.1.1
  refine ⟨g', t1, qShip.mk ?_ ⟨?_, ?_, ?_, ?_, ?_⟩ (fun b b0 b1 => ?_) (fun b t b0 b1 ht => ?_) ?_ (fun j j0 j1 => ?_) ?_ (fun j j0 j1 => ?_) ?_, t4.wk (fun q z => by omega)⟩
  · rw [t4.1 _ _ (by omega), e0]; exact hS.1.1
  · rw [t4.1 _ _ (by omega)]; exact hS.1.2.1
  · rw [t4.1 _ _ (by omega)]; exact hS.1.2.2.1
  · rw [t4.1 _ _ (by omega)]; exact hS.1.2.2.2.1
  · rw [t4.1 _ _ (by omega)]; exact hS.1.2.2.2.2.1
  · rw [t4.1 _ _ (by omega)]; exact hS.1.2.2.2.2.2
  · rw [e0] at b1
    unfold qB
    rw [t4.1 _ _ (by omega), t4.1 (c + 3) _ (by omega), t4.1 (c + 4) _ (by omega), o2 _ (by omega) (by omega), o2 _ (by omega) (by omega), o2 _ (by omega) (by omega)]
    exact hS.2.1 b b0 b1
  · rw [e0] at b1
    unfold qB
    rw [t4.1 _ _ (by omega), t4.1 (c + 6) _ (by omega), o2 _ (by omega) (by omega), o2 _ (by omega) (by omega)]
    exact hS.2.2.1 b t b0 b1 ht
  · rw [t4.1 _ _ (by omega), o2 85 (by omega) (by omega)]; exact hS.2.2.2.1.1
  · rw [o2 85 (by omega) (by omega)] at j1
    unfold qL
    rw [t4.1 _ _ (by omega), t4.1 (c + 9) _ (by omega), t4.1 (c + 10) _ (by omega), o2 _ (by omega) (by omega), o2 _ (by omega) (by omega), o2 _ (by omega) (by omega)]
    exact hS.2.2.2.1.2 j j0 j1
  · rw [qrmF_0]; exact t3
  · rw [qrmF_0] at j1
    by_cases q : j < a
    · rw [qrmF_lo ha.1 ⟨j0, q⟩ (by omega), qrmF_lo ha.1 ⟨j0, q⟩ (by omega), qrmF_lo ha.1 ⟨j0, q⟩ (by omega)]
      have z := hS.2.2.2.2.1.2 j j0 (by omega)
      exact ⟨(v1 j j0 q).trans z.1, (v2 j j0 q).trans z.2.1, (v3 j j0 q).trans z.2.2⟩
    · rw [qrmF_hi ha.1 ⟨by omega, j1⟩ (by omega), qrmF_hi ha.1 ⟨by omega, j1⟩ (by omega), qrmF_hi ha.1 ⟨by omega, j1⟩ (by omega)]
      have z := hS.2.2.2.2.1.2 (j + 1) (by omega) (by omega)
      exact ⟨(u1 j (by omega) j1).trans z.1, (u2 j (by omega) j1).trans z.2.1, (u3 j (by omega) j1).trans z.2.2⟩
  · rw [t4.1 _ _ (by omega), t4.1 _ _ (by omega), t4.1 _ _ (by omega), t4.1 _ _ (by omega), t4.1 _ _ (by omega), o 162 (by omega), o 163 (by omega), o 164 (by omega), o 165 (by omega), o 166 (by omega)]
    exact hS.2.2.2.2.2
end QREM

