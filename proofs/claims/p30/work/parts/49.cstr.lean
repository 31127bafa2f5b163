section QCSTR
variable {g g' : zSt} {m b t x w k p u j a lo hi i v n M : Int} {r W bx W2 bx2 : Int → Int} {c s N N2 : Nat}
def qlW (r : Int → Int) (k : Int) : Int := if qlv r k = true then qF r k 2 else 0
def qbf (r : Int → Int) (k : Int) : Int := qF r k 0
def qSt (g : zSt) (s : Nat) (r : Int → Int) (k : Int) : Prop := ∀ x p, 0 ≤ x → x < r 0 → (p = 0 ∨ p = 1) → g.1 (s + 10) (Int.toNat (2 * x + p)) = qsum (fun j => if qbf r j = x then (if qfp r j = p then qlW r j else 0) else 0) 0 k.toNat
theorem k_str_l (hR : qRow M r) (hsc : c + 15 ≤ s) : ∀ (fu : Nat) (g : zSt) (k : Int), 0 ≤ k → k ≤ r 134 → (r 134 - k).toNat < fu → qShip g c r → qFo g s r (r 0) → qSt g s r k → ∃ g', fX6_findStrengths_p2 fu g s (c + 11) k = some g' ∧ qSt g' s r (r 134) ∧ qfr (fun q => q = s + 10) g g' := by
  have h1 := hR.1
  have h2 := hR.2.2.1
  intro fu
  induction fu with
  | zero => intro g k _ _ h; omega
  | succ fu ih =>
    intro g k h0 hk hf hS hF hI
    rw [fX6_findStrengths_p2, hS.2.2.2.2.1.1, ilt (by omega) (by omega)]
    by_cases e : k < r 134
    · have hx := hR.2.2.2.2.2.1 k h0 e
      have hx0 := hx.1
      have hx1 := hx.2.1
      have hl := hS.2.2.2.2.1.2 k h0 e
      have l0 : g.1 (c + 11 + 1) (Int.toNat k) = qF r k 0 := hl.1
      have l1 : g.1 (c + 11 + 2) (Int.toNat k) = qF r k 1 := hl.2.1
      have l2 : g.1 (c + 11 + 3) (Int.toNat k) = qF r k 2 := hl.2.2
      have hp : g.1 (s + 5) (Int.toNat (2 * qF r k 0 + qF r k 1)) = qfp r k := ((hF _ hx0.1 hx0.2).2 _ hx1).2
      have hpr := qfp_r hR ⟨h0, e⟩
      have hal : fX6_isAlive g s (2 * qF r k 0 + qF r k 1) = some (qbi (qlv r k)) := k_alive hR hF hx0 hx1 rfl
      have hkk : (k + 1).toNat = k.toNat + 1 := by omega
      have hk0 : (0 : Int) + (k.toNat : Nat) = k := by omega
      rw [if_pos e, zck_t (by omega), l0, l1, zlet_e, hal, zbd_s, ib0]
      by_cases q : qlv r k = true
      · rw [if_pos q, zck_t (by omega), zck_t (by omega), hp, zlet_e, zck_t (by omega), zck_t (by omega), zlet_e, l2]
        have f1 : qfr (fun q => q = s + 10) g (zwr g (s + 10) (Int.toNat (2 * qF r k 0 + qfp r k)) (g.1 (s + 10) (Int.toNat (2 * qF r k 0 + qfp r k)) + qF r k 2)) := qfr.wr rfl
        have hI2 : qSt (zwr g (s + 10) (Int.toNat (2 * qF r k 0 + qfp r k)) (g.1 (s + 10) (Int.toNat (2 * qF r k 0 + qfp r k)) + qF r k 2)) s r (k + 1) := by
          intro x p x0 x1 hp
          rw [hkk, qsum_snoc, hk0, ← hI x p x0 x1 hp]
          have ew : qlW r k = qF r k 2 := if_pos q
          by_cases q1 : qbf r k = x
          · rw [if_pos q1]
            have q1 : qF r k 0 = x := q1
            by_cases q2 : qfp r k = p
            · rw [if_pos q2, q1, q2, zwr_e, ew]
            · rw [if_neg q2, zwr_n (Or.inr (by omega))]; omega
          · rw [if_neg q1]
            have q1 : ¬ qF r k 0 = x := q1
            rw [zwr_n (Or.inr (by omega))]; omega
        obtain ⟨g', u1, u2, u3⟩ := ih _ (k + 1) (by omega) (by omega) (by omega) (hS.kept f1 (fun q a b => by omega)) (hF.kept f1 (by omega)) hI2
        refine ⟨g', ?_, u2, f1.tr u3⟩
        rw [zck_t (by omega), zck_t (by omega)]
        exact u1
      · rw [if_neg q, zck_t (by omega)]
        have hI2 : qSt g s r (k + 1) := by
          intro x p x0 x1 hp
          rw [hkk, qsum_snoc, hk0, ← hI x p x0 x1 hp]
          have ew : qlW r k = 0 := if_neg q
          rw [ew, ite_self, ite_self]; omega
        exact ih _ (k + 1) (by omega) (by omega) (by omega) hS hF hI2
    · have e : k = r 134 := by omega
      subst e
      rw [if_neg (by omega)]
      exact ⟨g, rfl, hI, qfr.rf⟩
theorem k_str (hR : qRow M r) (hsc : c + 15 ≤ s) (hS : qShip g c r) (hF : qFo g s r (r 0)) (hC : ∀ x p, 0 ≤ x → x < r 0 → (p = 0 ∨ p = 1) → g.1 (s + 10) (Int.toNat (2 * x + p)) = 0) : ∃ g', fX6_findStrengths g s (c + 11) = some g' ∧ qSt g' s r (r 134) ∧ qfr (fun q => q = s + 10) g g' := by
  have h2 := hR.2.2.1
  exact k_str_l hR hsc zfu g 0 (by omega) (by omega) (by unfold zfu; omega) hS hF hC
/-- strengths summed up to each box -/
theorem k_upStr (hR : qRow M r) (hsc : c + 15 ≤ s) (hS : qShip g c r) (hI : qSt g s r (r 134)) : ∃ g', fX6_sumUpStrengths g s (c + 1) = some g' ∧ (∀ x p, 0 ≤ x → x < r 0 → (p = 0 ∨ p = 1) → g'.1 (s + 10) (Int.toNat (2 * x + p)) = qsum (fun k => if qrs r x (qbf r k) = x then (if qfp r k = p then qlW r k else 0) else 0) 0 (r 134).toNat) ∧ qfr (fun q => q = s + 10) g g' := by
  have h1 := hR.1
  have h2 := hR.2.2.1
  have hb : ∀ k, 0 ≤ k → k < 0 + ((r 134).toNat : Int) → 0 ≤ qbf r k ∧ qbf r k < r 0 := fun k a b => (hR.2.2.2.2.2.1 k a (by omega)).1
  have hP : qPo g (s + 10) r (qlW r) (qbf r) (qfp r) (r 134).toNat (r 0 - 1) := by
    intro x p x0 x1 hp
    rw [hI x p x0 x1 hp, qat_top x1 hb]
  obtain ⟨g', t1, t2, t3⟩ := k_upStrengths_l hR hsc hb zfu g (r 0 - 1) (by omega) (by omega) (by unfold zfu; omega) hS hP
  refine ⟨g', ?_, ?_, t3⟩
  · unfold fX6_sumUpStrengths
    rw [hS.1.1, zlet_e]
    exact t1
  · intro x p x0 x1 hp
    rw [t2 x p x0 x1 hp, qat_0 x0]
end QCSTR

