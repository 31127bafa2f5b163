section QCCOPY
variable {g g' : zSt} {m b t x w k p u j a lo hi i v n M : Int} {r r' W bx W2 bx2 : Int → Int} {c c1 s d e N N2 : Nat}
theorem k_cp62 (hde : d + 6 ≤ e ∨ e + 6 ≤ d) (hn : 0 ≤ n ∧ 2 * n ≤ 24) : ∀ (fu : Nat) (g : zSt) (a : Int), 0 ≤ a → a ≤ 2 * n → (2 * n - a).toNat < fu → g.1 d 0 = n → (∀ k, 0 ≤ k → k < 2 * n → g.1 (e + 5) (Int.toNat k) = 0 ∨ g.1 (e + 5) (Int.toNat k) = 1) → ∃ g', fX0_copy_p62 fu g d e a = some g' ∧ ((∀ k, a ≤ k → k < 2 * n → g'.1 (d + 4) (Int.toNat k) = g.1 (e + 4) (Int.toNat k)) ∧ (∀ k, 0 ≤ k → k < a → g'.1 (d + 4) (Int.toNat k) = g.1 (d + 4) (Int.toNat k)) ∧ (∀ k, a ≤ k → k < 2 * n → g'.1 (d + 5) (Int.toNat k) = g.1 (e + 5) (Int.toNat k)) ∧ (∀ k, 0 ≤ k → k < a → g'.1 (d + 5) (Int.toNat k) = g.1 (d + 5) (Int.toNat k))) ∧ qfr (fun q => q = d + 4 ∨ q = d + 5) g g' := by
  intro fu
  induction fu with
  | zero => intro g a _ _ h; omega
  | succ fu ih =>
    intro g a h0 ha hf hc hB5
    rw [fX0_copy_p62, hc, ilt (by omega) (by omega)]
    by_cases q : a < 2 * n
    · have f1 : qfr (fun q => q = d + 4 ∨ q = d + 5) g (zwr (zwr g (d + 4) (Int.toNat a) (g.1 (e + 4) (Int.toNat a))) (d + 5) (Int.toNat a) (g.1 (e + 5) (Int.toNat a))) := (qfr.wr (by omega)).tr (qfr.wr (by omega))
      have b5 := hB5 a h0 q
      obtain ⟨g', t1, ⟨u4, v4, u5, v5⟩, t3⟩ := ih (zwr (zwr g (d + 4) (Int.toNat a) (g.1 (e + 4) (Int.toNat a))) (d + 5) (Int.toNat a) (g.1 (e + 5) (Int.toNat a))) (a + 1) (by omega) (by omega) (by omega) (by rw [f1.1 _ _ (by omega)]; exact hc) (fun k k0 k1 => by rw [f1.1 _ _ (by omega)]; exact hB5 k k0 k1)
      refine ⟨g', ?_, ⟨?_, ?_, ?_, ?_⟩, f1.tr t3⟩
      · rw [if_pos q, zck_t (c := 0 ≤ a ∧ a < 24) (by omega), zck_t (c := 0 ≤ a ∧ a < 24) (by omega), zlet_e, zck_t (c := 0 ≤ a ∧ a < 24) (by omega), zck_t (c := 0 ≤ a ∧ a < 24) (by omega), zwr_n (c' := e + 5) (Or.inl (by omega)), zck_t (c := g.1 (e + 5) (Int.toNat a) = 0 ∨ g.1 (e + 5) (Int.toNat a) = 1) b5, zlet_e]
        exact t1
      · intro k k0 k1
        by_cases z : k = a
        · rw [z, v4 a h0 (by omega), zwr_n (Or.inl (by omega)), zwr_e]
        · rw [u4 k (by omega) k1, f1.1 _ _ (by omega)]
      · intro k k0 k1
        rw [v4 k k0 (by omega), zwr_n (Or.inl (by omega)), zwr_n (Or.inr (by omega))]
      · intro k k0 k1
        by_cases z : k = a
        · rw [z, v5 a h0 (by omega), zwr_e]
        · rw [u5 k (by omega) k1, f1.1 _ _ (by omega)]
      · intro k k0 k1
        rw [v5 k k0 (by omega), zwr_n (Or.inr (by omega)), zwr_n (Or.inl (by omega))]
    · have q2 : a = 2 * n := by omega
      rw [if_neg q]
      exact ⟨g, rfl, ⟨fun k k0 k1 => by omega, fun k k0 k1 => rfl, fun k k0 k1 => by omega, fun k k0 k1 => rfl⟩, qfr.rf⟩
theorem k_cp10 (hde : d + 4 ≤ e ∨ e + 4 ≤ d) (hn : 0 ≤ n ∧ n ≤ 12) : ∀ (fu : Nat) (g : zSt) (a : Int), 0 ≤ a → a ≤ n → (n - a).toNat < fu → g.1 d 0 = n → (∀ k, 0 ≤ k → k < n → g.1 (e + 2) (Int.toNat k) = 0 ∨ g.1 (e + 2) (Int.toNat k) = 1) → (∀ k, 0 ≤ k → k < n → g.1 (e + 3) (Int.toNat k) = 0 ∨ g.1 (e + 3) (Int.toNat k) = 1) → ∃ g', fX0_copy_p10 fu g d e a = fX0_copy_p62 zfu g' d e 0 ∧ ((∀ k, a ≤ k → k < n → g'.1 (d + 1) (Int.toNat k) = g.1 (e + 1) (Int.toNat k)) ∧ (∀ k, 0 ≤ k → k < a → g'.1 (d + 1) (Int.toNat k) = g.1 (d + 1) (Int.toNat k)) ∧ (∀ k, a ≤ k → k < n → g'.1 (d + 2) (Int.toNat k) = g.1 (e + 2) (Int.toNat k)) ∧ (∀ k, 0 ≤ k → k < a → g'.1 (d + 2) (Int.toNat k) = g.1 (d + 2) (Int.toNat k)) ∧ (∀ k, a ≤ k → k < n → g'.1 (d + 3) (Int.toNat k) = g.1 (e + 3) (Int.toNat k)) ∧ (∀ k, 0 ≤ k → k < a → g'.1 (d + 3) (Int.toNat k) = g.1 (d + 3) (Int.toNat k))) ∧ qfr (fun q => q = d + 1 ∨ q = d + 2 ∨ q = d + 3) g g' := by
  intro fu
  induction fu with
  | zero => intro g a _ _ h; omega
  | succ fu ih =>
    intro g a h0 ha hf hc hB2 hB3
    rw [fX0_copy_p10, hc, ilt (by omega) (by omega)]
    by_cases q : a < n
    · have f1 : qfr (fun q => q = d + 1 ∨ q = d + 2 ∨ q = d + 3) g (zwr (zwr (zwr g (d + 1) (Int.toNat a) (g.1 (e + 1) (Int.toNat a))) (d + 2) (Int.toNat a) (g.1 (e + 2) (Int.toNat a))) (d + 3) (Int.toNat a) (g.1 (e + 3) (Int.toNat a))) := ((qfr.wr (by omega)).tr (qfr.wr (by omega))).tr (qfr.wr (by omega))
      have b2 := hB2 a h0 q
      have b3 := hB3 a h0 q
      obtain ⟨g', t1, ⟨u1, v1, u2, v2, u3, v3⟩, t3⟩ := ih (zwr (zwr (zwr g (d + 1) (Int.toNat a) (g.1 (e + 1) (Int.toNat a))) (d + 2) (Int.toNat a) (g.1 (e + 2) (Int.toNat a))) (d + 3) (Int.toNat a) (g.1 (e + 3) (Int.toNat a))) (a + 1) (by omega) (by omega) (by omega) (by rw [f1.1 _ _ (by omega)]; exact hc) (fun k k0 k1 => by rw [f1.1 _ _ (by omega)]; exact hB2 k k0 k1) (fun k k0 k1 => by rw [f1.1 _ _ (by omega)]; exact hB3 k k0 k1)
      refine ⟨g', ?_, ⟨?_, ?_, ?_, ?_, ?_, ?_⟩, f1.tr t3⟩
      · rw [if_pos q, zck_t (c := 0 ≤ a ∧ a < 12) (by omega), zck_t (c := 0 ≤ a ∧ a < 12) (by omega), zlet_e, zck_t (c := 0 ≤ a ∧ a < 12) (by omega), zck_t (c := 0 ≤ a ∧ a < 12) (by omega), zwr_n (c' := e + 2) (Or.inl (by omega)), zck_t (c := g.1 (e + 2) (Int.toNat a) = 0 ∨ g.1 (e + 2) (Int.toNat a) = 1) b2, zlet_e, zck_t (c := 0 ≤ a ∧ a < 12) (by omega), zck_t (c := 0 ≤ a ∧ a < 12) (by omega), zwr_n (c' := e + 3) (Or.inl (by omega)), zwr_n (c' := e + 3) (Or.inl (by omega)), zck_t (c := g.1 (e + 3) (Int.toNat a) = 0 ∨ g.1 (e + 3) (Int.toNat a) = 1) b3, zlet_e]
        exact t1
      · intro k k0 k1
        by_cases z : k = a
        · rw [z, v1 a h0 (by omega), zwr_n (Or.inl (by omega)), zwr_n (Or.inl (by omega)), zwr_e]
        · rw [u1 k (by omega) k1, f1.1 _ _ (by omega)]
      · intro k k0 k1
        rw [v1 k k0 (by omega), zwr_n (Or.inl (by omega)), zwr_n (Or.inl (by omega)), zwr_n (Or.inr (by omega))]
      · intro k k0 k1
        by_cases z : k = a
        · rw [z, v2 a h0 (by omega), zwr_n (Or.inl (by omega)), zwr_e]
        · rw [u2 k (by omega) k1, f1.1 _ _ (by omega)]
      · intro k k0 k1
        rw [v2 k k0 (by omega), zwr_n (Or.inl (by omega)), zwr_n (Or.inr (by omega)), zwr_n (Or.inl (by omega))]
      · intro k k0 k1
        by_cases z : k = a
        · rw [z, v3 a h0 (by omega), zwr_e]
        · rw [u3 k (by omega) k1, f1.1 _ _ (by omega)]
      · intro k k0 k1
        rw [v3 k k0 (by omega), zwr_n (Or.inr (by omega)), zwr_n (Or.inl (by omega)), zwr_n (Or.inl (by omega))]
    · have q2 : a = n := by omega
      rw [if_neg q]
      exact ⟨g, rfl, ⟨fun k k0 k1 => by omega, fun k k0 k1 => rfl, fun k k0 k1 => by omega, fun k k0 k1 => rfl, fun k k0 k1 => by omega, fun k k0 k1 => rfl⟩, qfr.rf⟩
theorem k_cp3 (hde : d + 4 ≤ e ∨ e + 4 ≤ d) (hn : 0 ≤ n ∧ n ≤ 16) : ∀ (fu : Nat) (g : zSt) (a : Int), 0 ≤ a → a ≤ n → (n - a).toNat < fu → g.1 d 0 = n → (∀ k, 0 ≤ k → k < n → g.1 (e + 3) (Int.toNat k) = 0 ∨ g.1 (e + 3) (Int.toNat k) = 1) → ∃ g', fX3_copy_p10 fu g d e a = some g' ∧ ((∀ k, a ≤ k → k < n → g'.1 (d + 1) (Int.toNat k) = g.1 (e + 1) (Int.toNat k)) ∧ (∀ k, 0 ≤ k → k < a → g'.1 (d + 1) (Int.toNat k) = g.1 (d + 1) (Int.toNat k)) ∧ (∀ k, a ≤ k → k < n → g'.1 (d + 2) (Int.toNat k) = g.1 (e + 2) (Int.toNat k)) ∧ (∀ k, 0 ≤ k → k < a → g'.1 (d + 2) (Int.toNat k) = g.1 (d + 2) (Int.toNat k)) ∧ (∀ k, a ≤ k → k < n → g'.1 (d + 3) (Int.toNat k) = g.1 (e + 3) (Int.toNat k)) ∧ (∀ k, 0 ≤ k → k < a → g'.1 (d + 3) (Int.toNat k) = g.1 (d + 3) (Int.toNat k))) ∧ qfr (fun q => q = d + 1 ∨ q = d + 2 ∨ q = d + 3) g g' := by
  intro fu
  induction fu with
  | zero => intro g a _ _ h; omega
  | succ fu ih =>
    intro g a h0 ha hf hc hB3
    rw [fX3_copy_p10, hc, ilt (by omega) (by omega)]
    by_cases q : a < n
    · have f1 : qfr (fun q => q = d + 1 ∨ q = d + 2 ∨ q = d + 3) g (zwr (zwr (zwr g (d + 1) (Int.toNat a) (g.1 (e + 1) (Int.toNat a))) (d + 2) (Int.toNat a) (g.1 (e + 2) (Int.toNat a))) (d + 3) (Int.toNat a) (g.1 (e + 3) (Int.toNat a))) := ((qfr.wr (by omega)).tr (qfr.wr (by omega))).tr (qfr.wr (by omega))
      have b3 := hB3 a h0 q
      obtain ⟨g', t1, ⟨u1, v1, u2, v2, u3, v3⟩, t3⟩ := ih (zwr (zwr (zwr g (d + 1) (Int.toNat a) (g.1 (e + 1) (Int.toNat a))) (d + 2) (Int.toNat a) (g.1 (e + 2) (Int.toNat a))) (d + 3) (Int.toNat a) (g.1 (e + 3) (Int.toNat a))) (a + 1) (by omega) (by omega) (by omega) (by rw [f1.1 _ _ (by omega)]; exact hc) (fun k k0 k1 => by rw [f1.1 _ _ (by omega)]; exact hB3 k k0 k1)
      refine ⟨g', ?_, ⟨?_, ?_, ?_, ?_, ?_, ?_⟩, f1.tr t3⟩
      · rw [if_pos q, zck_t (c := 0 ≤ a ∧ a < 16) (by omega), zck_t (c := 0 ≤ a ∧ a < 16) (by omega), zlet_e, zck_t (c := 0 ≤ a ∧ a < 16) (by omega), zck_t (c := 0 ≤ a ∧ a < 16) (by omega), zwr_n (c' := e + 2) (Or.inl (by omega)), zlet_e, zck_t (c := 0 ≤ a ∧ a < 16) (by omega), zck_t (c := 0 ≤ a ∧ a < 16) (by omega), zwr_n (c' := e + 3) (Or.inl (by omega)), zwr_n (c' := e + 3) (Or.inl (by omega)), zck_t (c := g.1 (e + 3) (Int.toNat a) = 0 ∨ g.1 (e + 3) (Int.toNat a) = 1) b3, zlet_e]
        exact t1
      · intro k k0 k1
        by_cases z : k = a
        · rw [z, v1 a h0 (by omega), zwr_n (Or.inl (by omega)), zwr_n (Or.inl (by omega)), zwr_e]
        · rw [u1 k (by omega) k1, f1.1 _ _ (by omega)]
      · intro k k0 k1
        rw [v1 k k0 (by omega), zwr_n (Or.inl (by omega)), zwr_n (Or.inl (by omega)), zwr_n (Or.inr (by omega))]
      · intro k k0 k1
        by_cases z : k = a
        · rw [z, v2 a h0 (by omega), zwr_n (Or.inl (by omega)), zwr_e]
        · rw [u2 k (by omega) k1, f1.1 _ _ (by omega)]
      · intro k k0 k1
        rw [v2 k k0 (by omega), zwr_n (Or.inl (by omega)), zwr_n (Or.inr (by omega)), zwr_n (Or.inl (by omega))]
      · intro k k0 k1
        by_cases z : k = a
        · rw [z, v3 a h0 (by omega), zwr_e]
        · rw [u3 k (by omega) k1, f1.1 _ _ (by omega)]
      · intro k k0 k1
        rw [v3 k k0 (by omega), zwr_n (Or.inr (by omega)), zwr_n (Or.inl (by omega)), zwr_n (Or.inl (by omega))]
    · have q2 : a = n := by omega
      rw [if_neg q]
      exact ⟨g, rfl, ⟨fun k k0 k1 => by omega, fun k k0 k1 => rfl, fun k k0 k1 => by omega, fun k k0 k1 => rfl, fun k k0 k1 => by omega, fun k k0 k1 => rfl⟩, qfr.rf⟩
theorem k_cp1 (hde : d + 4 ≤ e ∨ e + 4 ≤ d) (hn : 0 ≤ n ∧ n ≤ 9) : ∀ (fu : Nat) (g : zSt) (a : Int), 0 ≤ a → a ≤ n → (n - a).toNat < fu → g.1 d 0 = n → ∃ g', fX1_copy_p10 fu g d e a = some g' ∧ ((∀ k, a ≤ k → k < n → g'.1 (d + 1) (Int.toNat k) = g.1 (e + 1) (Int.toNat k)) ∧ (∀ k, 0 ≤ k → k < a → g'.1 (d + 1) (Int.toNat k) = g.1 (d + 1) (Int.toNat k)) ∧ (∀ k, a ≤ k → k < n → g'.1 (d + 2) (Int.toNat k) = g.1 (e + 2) (Int.toNat k)) ∧ (∀ k, 0 ≤ k → k < a → g'.1 (d + 2) (Int.toNat k) = g.1 (d + 2) (Int.toNat k)) ∧ (∀ k, a ≤ k → k < n → g'.1 (d + 3) (Int.toNat k) = g.1 (e + 3) (Int.toNat k)) ∧ (∀ k, 0 ≤ k → k < a → g'.1 (d + 3) (Int.toNat k) = g.1 (d + 3) (Int.toNat k))) ∧ qfr (fun q => q = d + 1 ∨ q = d + 2 ∨ q = d + 3) g g' := by
  intro fu
  induction fu with
  | zero => intro g a _ _ h; omega
  | succ fu ih =>
    intro g a h0 ha hf hc 
    rw [fX1_copy_p10, hc, ilt (by omega) (by omega)]
    by_cases q : a < n
    · have f1 : qfr (fun q => q = d + 1 ∨ q = d + 2 ∨ q = d + 3) g (zwr (zwr (zwr g (d + 1) (Int.toNat a) (g.1 (e + 1) (Int.toNat a))) (d + 2) (Int.toNat a) (g.1 (e + 2) (Int.toNat a))) (d + 3) (Int.toNat a) (g.1 (e + 3) (Int.toNat a))) := ((qfr.wr (by omega)).tr (qfr.wr (by omega))).tr (qfr.wr (by omega))
      obtain ⟨g', t1, ⟨u1, v1, u2, v2, u3, v3⟩, t3⟩ := ih (zwr (zwr (zwr g (d + 1) (Int.toNat a) (g.1 (e + 1) (Int.toNat a))) (d + 2) (Int.toNat a) (g.1 (e + 2) (Int.toNat a))) (d + 3) (Int.toNat a) (g.1 (e + 3) (Int.toNat a))) (a + 1) (by omega) (by omega) (by omega) (by rw [f1.1 _ _ (by omega)]; exact hc) 
      refine ⟨g', ?_, ⟨?_, ?_, ?_, ?_, ?_, ?_⟩, f1.tr t3⟩
      · rw [if_pos q, zck_t (c := 0 ≤ a ∧ a < 9) (by omega), zck_t (c := 0 ≤ a ∧ a < 9) (by omega), zlet_e, zck_t (c := 0 ≤ a ∧ a < 9) (by omega), zck_t (c := 0 ≤ a ∧ a < 9) (by omega), zwr_n (c' := e + 2) (Or.inl (by omega)), zlet_e, zck_t (c := 0 ≤ a ∧ a < 9) (by omega), zck_t (c := 0 ≤ a ∧ a < 9) (by omega), zwr_n (c' := e + 3) (Or.inl (by omega)), zwr_n (c' := e + 3) (Or.inl (by omega)), zlet_e]
        exact t1
      · intro k k0 k1
        by_cases z : k = a
        · rw [z, v1 a h0 (by omega), zwr_n (Or.inl (by omega)), zwr_n (Or.inl (by omega)), zwr_e]
        · rw [u1 k (by omega) k1, f1.1 _ _ (by omega)]
      · intro k k0 k1
        rw [v1 k k0 (by omega), zwr_n (Or.inl (by omega)), zwr_n (Or.inl (by omega)), zwr_n (Or.inr (by omega))]
      · intro k k0 k1
        by_cases z : k = a
        · rw [z, v2 a h0 (by omega), zwr_n (Or.inl (by omega)), zwr_e]
        · rw [u2 k (by omega) k1, f1.1 _ _ (by omega)]
      · intro k k0 k1
        rw [v2 k k0 (by omega), zwr_n (Or.inl (by omega)), zwr_n (Or.inr (by omega)), zwr_n (Or.inl (by omega))]
      · intro k k0 k1
        by_cases z : k = a
        · rw [z, v3 a h0 (by omega), zwr_e]
        · rw [u3 k (by omega) k1, f1.1 _ _ (by omega)]
      · intro k k0 k1
        rw [v3 k k0 (by omega), zwr_n (Or.inr (by omega)), zwr_n (Or.inl (by omega)), zwr_n (Or.inl (by omega))]
    · have q2 : a = n := by omega
      rw [if_neg q]
      exact ⟨g, rfl, ⟨fun k k0 k1 => by omega, fun k k0 k1 => rfl, fun k k0 k1 => by omega, fun k k0 k1 => rfl, fun k k0 k1 => by omega, fun k k0 k1 => rfl⟩, qfr.rf⟩
/-- a ship's copy: the same row -/
theorem k_copy (hR : qRow M r) (hS : qShip g c1 r) (hd : c + 15 ≤ c1 ∨ c1 + 15 ≤ c) : ∃ g', fX5_copy g c c1 = some g' ∧ qShip g' c r ∧ qfr (fun q => c ≤ q ∧ q < c + 15) g g' := by
  have h1 := hR.1
  have h2 := hR.2.1
  have h3 := hR.2.2.1
  have f0 : qfr (fun q => q = c + 1) g (zwr g (c + 1) 0 (g.1 (c1 + 1) 0)) := qfr.wr rfl
  have S0 := hS.kept f0 (fun q a b => by omega)
  have b3 : ∀ k, 0 ≤ k → k < r 0 → (zwr g (c + 1) 0 (g.1 (c1 + 1) 0)).1 (c1 + 1 + 2) (Int.toNat k) = 0 ∨ (zwr g (c + 1) 0 (g.1 (c1 + 1) 0)).1 (c1 + 1 + 2) (Int.toNat k) = 1 := by
    intro k k0 k1
    by_cases q : k = 0
    · rw [q]; exact S0.1.2.2.1
    · have hx := (hR.2.2.2.1 k (by omega) k1).2.1
      have e := (S0.2.1 k (by omega) k1).2.1
      rw [show c1 + 1 + 2 = c1 + 3 from rfl, e]; exact hx
  have b4 : ∀ k, 0 ≤ k → k < r 0 → (zwr g (c + 1) 0 (g.1 (c1 + 1) 0)).1 (c1 + 1 + 3) (Int.toNat k) = 0 ∨ (zwr g (c + 1) 0 (g.1 (c1 + 1) 0)).1 (c1 + 1 + 3) (Int.toNat k) = 1 := by
    intro k k0 k1
    by_cases q : k = 0
    · rw [q]; exact S0.1.2.2.2.1
    · have hx := (hR.2.2.2.1 k (by omega) k1).2.2.1
      have e := (S0.2.1 k (by omega) k1).2.2
      rw [show c1 + 1 + 3 = c1 + 4 from rfl, e]; exact hx
  obtain ⟨ga, a1, ⟨a2, _, a3, _, a4, _⟩, a5⟩ := k_cp10 (d := c + 1) (e := c1 + 1) (n := r 0) (by omega) (by omega) zfu (zwr g (c + 1) 0 (g.1 (c1 + 1) 0)) 0 (by omega) (by omega) (by unfold zfu; omega) (by rw [zwr_e, hS.1.1]) b3 b4
  have SA := S0.kept a5 (fun q a b => by omega)
  have b6 : ∀ k, 0 ≤ k → k < 2 * r 0 → ga.1 (c1 + 1 + 5) (Int.toNat k) = 0 ∨ ga.1 (c1 + 1 + 5) (Int.toNat k) = 1 := by
    intro k k0 k1
    rw [show c1 + 1 + 5 = c1 + 6 from rfl]
    by_cases q : k = 0
    · rw [q]; exact SA.1.2.2.2.2.1
    · by_cases q1 : k = 1
      · rw [q1]; exact SA.1.2.2.2.2.2
      · have hx := hR.2.2.2.1 (k / 2) (by omega) (by omega)
        have e := (SA.2.2.1 (k / 2) (k % 2) (by omega) (by omega) (by omega)).2
        rw [show 2 * (k / 2) + k % 2 = k by omega] at e
        rw [e]
        rcases (show k % 2 = 0 ∨ k % 2 = 1 by omega) with z | z <;> rw [z]
        · exact hx.2.2.2.2.2.1
        · exact hx.2.2.2.2.2.2
  obtain ⟨gb, c1', ⟨c2, _, c3, _⟩, c5⟩ := k_cp62 (d := c + 1) (e := c1 + 1) (n := r 0) (by omega) (by omega) zfu ga 0 (by omega) (by omega) (by unfold zfu; omega) (by rw [a5.1 _ _ (by omega), zwr_e, hS.1.1]) b6
  have SB := SA.kept c5 (fun q a b => by omega)
  have f3 : qfr (fun q => q = c + 7) gb (zwr gb (c + 7) 0 (gb.1 (c1 + 7) 0)) := qfr.wr rfl
  have SC := SB.kept f3 (fun q a b => by omega)
  obtain ⟨gd, d1, ⟨d2, _, d3, _, d4, _⟩, d5⟩ := k_cp3 (d := c + 7) (e := c1 + 7) (n := r 85) (by omega) (by omega) zfu (zwr gb (c + 7) 0 (gb.1 (c1 + 7) 0)) 0 (by omega) (by omega) (by unfold zfu; omega) (by rw [zwr_e, SB.2.2.2.1.1]) (fun k k0 k1 => by
    have e := (SC.2.2.2.1.2 k k0 k1).2.2
    rw [show c1 + 7 + 3 = c1 + 10 from rfl, e]
    exact (hR.2.2.2.2.1 k k0 k1).2.2)
  have SD := SC.kept d5 (fun q a b => by omega)
  have f4 : qfr (fun q => q = c + 11) gd (zwr gd (c + 11) 0 (gd.1 (c1 + 11) 0)) := qfr.wr rfl
  have SE := SD.kept f4 (fun q a b => by omega)
  obtain ⟨ge, e1, ⟨e2, _, e3, _, e4, _⟩, e5⟩ := k_cp1 (d := c + 11) (e := c1 + 11) (n := r 134) (by omega) (by omega) zfu (zwr gd (c + 11) 0 (gd.1 (c1 + 11) 0)) 0 (by omega) (by omega) (by unfold zfu; omega) (by rw [zwr_e, SD.2.2.2.2.1.1])
  have SF := SE.kept e5 (fun q a b => by omega)
  let h3' := zwr ge c 3 (ge.1 c1 3)
  let h4' := zwr h3' c 4 (h3'.1 c1 4)
  let h5' := zwr h4' c 5 (h4'.1 c1 5)
  let h6' := zwr h5' c 6 (h5'.1 c1 6)
  let h7' := zwr h6' c 7 (h6'.1 c1 7)
  have fw : ∀ (h : zSt) (z : Nat) (v : Int), qfr (fun q => q = c) h (zwr h c z v) := fun h z v => qfr.wr rfl
  have fz : qfr (fun q => q = c) ge h7' := ((((fw _ _ _).tr (fw _ _ _)).tr (fw _ _ _)).tr (fw _ _ _)).tr (fw _ _ _)
  have i3 : h7'.1 c 3 = ge.1 c1 3 := by
    show (zwr h6' c 7 _).1 c 3 = _
    rw [zwr_n (Or.inr (by omega)), show h6'.1 c 3 = h5'.1 c 3 from zwr_n (Or.inr (by omega)), show h5'.1 c 3 = h4'.1 c 3 from zwr_n (Or.inr (by omega)), show h4'.1 c 3 = h3'.1 c 3 from zwr_n (Or.inr (by omega))]
    exact zwr_e
  have x3 : ∀ z, h3'.1 c1 z = ge.1 c1 z := fun z => zwr_n (Or.inl (by omega))
  have x4 : ∀ z, h4'.1 c1 z = ge.1 c1 z := fun z => (zwr_n (Or.inl (by omega))).trans (x3 z)
  have x5 : ∀ z, h5'.1 c1 z = ge.1 c1 z := fun z => (zwr_n (Or.inl (by omega))).trans (x4 z)
  have x6 : ∀ z, h6'.1 c1 z = ge.1 c1 z := fun z => (zwr_n (Or.inl (by omega))).trans (x5 z)
  have i4 : h7'.1 c 4 = ge.1 c1 4 := by
    show (zwr h6' c 7 _).1 c 4 = _
    rw [zwr_n (Or.inr (by omega)), show h6'.1 c 4 = h5'.1 c 4 from zwr_n (Or.inr (by omega)), show h5'.1 c 4 = h4'.1 c 4 from zwr_n (Or.inr (by omega)), show h4'.1 c 4 = h3'.1 c1 4 from zwr_e, x3]
  have i5 : h7'.1 c 5 = ge.1 c1 5 := by
    show (zwr h6' c 7 _).1 c 5 = _
    rw [zwr_n (Or.inr (by omega)), show h6'.1 c 5 = h5'.1 c 5 from zwr_n (Or.inr (by omega)), show h5'.1 c 5 = h4'.1 c1 5 from zwr_e, x4]
  have i6 : h7'.1 c 6 = ge.1 c1 6 := by
    show (zwr h6' c 7 _).1 c 6 = _
    rw [zwr_n (Or.inr (by omega)), show h6'.1 c 6 = h5'.1 c1 6 from zwr_e, x5]
  have i7 : h7'.1 c 7 = ge.1 c1 7 := by
    show (zwr h6' c 7 _).1 c 7 = _
    rw [zwr_e, x6]
  refine ⟨h7', ?_, ?_, ?_⟩
  · unfold fX5_copy fX0_copy fX3_copy fX1_copy
    rw [zlet_e, a1, c1', zbd_s, zlet_e, d1, zbd_s, zlet_e, e1, zbd_s, zlet_e, zlet_e, zlet_e, zlet_e, zlet_e]
  · refine qShip.mk ?_ ⟨?_, ?_, ?_, ?_, ?_⟩ (fun b b0 b1 => ?_) (fun b t b0 b1 ht => ?_) ?_ (fun j j0 j1 => ?_) ?_ (fun j j0 j1 => ?_) ⟨?_, ?_, ?_, ?_, ?_⟩
    · rw [fz.1 _ _ (by omega), e5.1 _ _ (by omega), f4.1 _ _ (by omega), d5.1 _ _ (by omega), f3.1 _ _ (by omega), c5.1 _ _ (by omega), a5.1 _ _ (by omega), zwr_e, hS.1.1]
    · rw [fz.1 _ _ (by omega), e5.1 _ _ (by omega), f4.1 _ _ (by omega), d5.1 _ _ (by omega), f3.1 _ _ (by omega), c5.1 _ _ (by omega)]
      exact (a2 0 (by omega) (by omega)).trans S0.1.2.1
    · rw [fz.1 _ _ (by omega), e5.1 _ _ (by omega), f4.1 _ _ (by omega), d5.1 _ _ (by omega), f3.1 _ _ (by omega), c5.1 _ _ (by omega)]
      have := b3 0 (by omega) (by omega)
      rw [← a3 0 (by omega) (by omega)] at this
      exact this
    · rw [fz.1 _ _ (by omega), e5.1 _ _ (by omega), f4.1 _ _ (by omega), d5.1 _ _ (by omega), f3.1 _ _ (by omega), c5.1 _ _ (by omega)]
      have := b4 0 (by omega) (by omega)
      rw [← a4 0 (by omega) (by omega)] at this
      exact this
    · rw [fz.1 _ _ (by omega), e5.1 _ _ (by omega), f4.1 _ _ (by omega), d5.1 _ _ (by omega), f3.1 _ _ (by omega)]
      have := b6 0 (by omega) (by omega)
      rw [← c3 0 (by omega) (by omega)] at this
      exact this
    · rw [fz.1 _ _ (by omega), e5.1 _ _ (by omega), f4.1 _ _ (by omega), d5.1 _ _ (by omega), f3.1 _ _ (by omega)]
      have := b6 1 (by omega) (by omega)
      rw [← c3 1 (by omega) (by omega)] at this
      exact this
    · rw [fz.1 _ _ (by omega), e5.1 _ _ (by omega), f4.1 _ _ (by omega), d5.1 _ _ (by omega), f3.1 _ _ (by omega), c5.1 _ _ (by omega), fz.1 (c + 3) _ (by omega), e5.1 (c + 3) _ (by omega), f4.1 (c + 3) _ (by omega), d5.1 (c + 3) _ (by omega), f3.1 (c + 3) _ (by omega), c5.1 (c + 3) _ (by omega), fz.1 (c + 4) _ (by omega), e5.1 (c + 4) _ (by omega), f4.1 (c + 4) _ (by omega), d5.1 (c + 4) _ (by omega), f3.1 (c + 4) _ (by omega), c5.1 (c + 4) _ (by omega)]
      have z := S0.2.1 b b0 b1
      exact ⟨(a2 b (by omega) b1).trans z.1, (a3 b (by omega) b1).trans z.2.1, (a4 b (by omega) b1).trans z.2.2⟩
    · rw [fz.1 _ _ (by omega), e5.1 _ _ (by omega), f4.1 _ _ (by omega), d5.1 _ _ (by omega), f3.1 _ _ (by omega), fz.1 (c + 6) _ (by omega), e5.1 (c + 6) _ (by omega), f4.1 (c + 6) _ (by omega), d5.1 (c + 6) _ (by omega), f3.1 (c + 6) _ (by omega)]
      have z := SA.2.2.1 b t b0 b1 ht
      exact ⟨(c2 _ (by omega) (by omega)).trans z.1, (c3 _ (by omega) (by omega)).trans z.2⟩
    · rw [fz.1 _ _ (by omega), e5.1 _ _ (by omega), f4.1 _ _ (by omega), d5.1 _ _ (by omega), zwr_e, SB.2.2.2.1.1]
    · rw [fz.1 _ _ (by omega), e5.1 _ _ (by omega), f4.1 _ _ (by omega), fz.1 (c + 9) _ (by omega), e5.1 (c + 9) _ (by omega), f4.1 (c + 9) _ (by omega), fz.1 (c + 10) _ (by omega), e5.1 (c + 10) _ (by omega), f4.1 (c + 10) _ (by omega)]
      have z := SC.2.2.2.1.2 j j0 j1
      exact ⟨(d2 j j0 j1).trans z.1, (d3 j j0 j1).trans z.2.1, (d4 j j0 j1).trans z.2.2⟩
    · rw [fz.1 _ _ (by omega), e5.1 _ _ (by omega), zwr_e, SD.2.2.2.2.1.1]
    · rw [fz.1 _ _ (by omega), fz.1 (c + 13) _ (by omega), fz.1 (c + 14) _ (by omega)]
      have z := SE.2.2.2.2.1.2 j j0 j1
      exact ⟨(e2 j j0 j1).trans z.1, (e3 j j0 j1).trans z.2.1, (e4 j j0 j1).trans z.2.2⟩
    · rw [i3]; exact SF.2.2.2.2.2.1
    · rw [i4]; exact SF.2.2.2.2.2.2.1
    · rw [i5]; exact SF.2.2.2.2.2.2.2.1
    · rw [i6]; exact SF.2.2.2.2.2.2.2.2.1
    · rw [i7]; exact SF.2.2.2.2.2.2.2.2.2
  · exact ((((((f0.wk (fun q h => by omega)).tr (a5.wk (fun q h => by omega))).tr (c5.wk (fun q h => by omega))).tr (f3.wk (fun q h => by omega))).tr (d5.wk (fun q h => by omega))).tr ((f4.wk (fun q h => by omega)).tr (e5.wk (fun q h => by omega)))).tr (fz.wk (fun q h => by omega))
end QCCOPY

