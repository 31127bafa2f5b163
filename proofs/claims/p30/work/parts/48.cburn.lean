section QCBURN2
variable {g g' : zSt} {m b t x w k p u j a lo hi i v n M : Int} {r W bx W2 bx2 : Int → Int} {c s N N2 : Nat}
theorem qFo.kept {P : Nat → Prop} (h : qFo g s r n) (f : qfr P g g') (hP : ¬ P (s + 1) ∧ ¬ P (s + 3) ∧ ¬ P (s + 4) ∧ ¬ P (s + 5)) : qFo g' s r n := by
  intro b b0 b1
  have hb := h b b0 b1
  rw [f.1 _ _ hP.1, f.1 _ _ hP.2.1]
  refine ⟨hb.1, fun t ht => ?_⟩
  rw [f.1 _ _ hP.2.2.1, f.1 _ _ hP.2.2.2]
  exact hb.2 t ht
theorem k_burn47 {k7 : zSt → Nat → Nat → Int → Option zSt} (hR : qRow M r) (hk : 0 ≤ k ∧ k < r 85) (hsc : c + 15 ≤ s) (hS : qShip g c r) (hF : qFo g s r (r 0)) (hI : qBu g s r k) (hy : v = qbi (decide (qL r k 2 = 1 ∧ qpol r (qL r k 0) 0 = 1))) : ∃ g', fX6_findBurning_p47 k7 g v s (c + 7) k (qL r k 0) = k7 g' s (c + 7) (k + 1) ∧ qBu g' s r (k + 1) ∧ qfr (fun q => q = s ∨ q = s + 6 ∨ q = s + 8) g g' := by
  have hx0 := (hR.2.2.2.2.1 k hk.1 hk.2).1
  unfold fX6_findBurning_p47
  rw [k_alive hR hF hx0 (t := 0) (Or.inl rfl) (by omega), zbd_s, ib0, k_alive hR hF hx0 (t := 1) (Or.inr rfl) rfl, zbd_s, ib0, hy, ib0]
  have key := qdk_al r k
  have go : ∀ v, v = qbi (decide (qdk r k = 0)) → ∃ g', fX6_findBurning_p86 k7 g (s + 6) k v s (c + 7) k (qL r k 0) = k7 g' s (c + 7) (k + 1) ∧ qBu g' s r (k + 1) ∧ qfr (fun q => q = s ∨ q = s + 6 ∨ q = s + 8) g g' := fun v hv => k_burn86 hR hk hsc hS hI hv
  by_cases e1 : qal r (qL r k 0) 0 = true
  · rw [if_pos e1]
    by_cases e2 : qal r (qL r k 0) 1 = true
    · rw [if_pos e2]
      by_cases e3 : qL r k 2 = 1 ∧ qpol r (qL r k 0) 0 = 1
      · rw [if_pos (decide_eq_true e3)]
        exact go 0 (by rw [decide_eq_false (fun q => by rw [key] at q; exact q.2.2 e3)]; rfl)
      · rw [if_neg (by simpa using e3)]
        exact go 1 (by rw [decide_eq_true (by rw [key]; exact ⟨e1, e2, e3⟩)]; rfl)
    · rw [if_neg e2]
      exact go 0 (by rw [decide_eq_false (fun q => by rw [key] at q; exact e2 q.2.1)]; rfl)
  · rw [if_neg e1]
    exact go 0 (by rw [decide_eq_false (fun q => by rw [key] at q; exact e1 q.1)]; rfl)
theorem k_burn_l (hR : qRow M r) (hsc : c + 15 ≤ s) : ∀ (fu : Nat) (g : zSt) (k : Int), 0 ≤ k → k ≤ r 85 → (r 85 - k).toNat < fu → qShip g c r → qFo g s r (r 0) → qBu g s r k → ∃ g', fX6_findBurning_p7 fu g s (c + 7) k = some g' ∧ qBu g' s r (r 85) ∧ qfr (fun q => q = s ∨ q = s + 6 ∨ q = s + 8) g g' := by
  have h1 := hR.1
  have h2 := hR.2.1
  intro fu
  induction fu with
  | zero => intro g k _ _ h; omega
  | succ fu ih =>
    intro g k h0 hk hf hS hF hI
    rw [fX6_findBurning_p7, hS.2.2.2.1.1, ilt (by omega) (by omega)]
    by_cases e : k < r 85
    · have hx := hR.2.2.2.2.1 k h0 e
      have hx0 := hx.1
      have hx2 := hx.2.2
      have hl := hS.2.2.2.1.2 k h0 e
      have l0 : g.1 (c + 7 + 1) (Int.toNat k) = qL r k 0 := hl.1
      have l2 : g.1 (c + 7 + 3) (Int.toNat k) = qL r k 2 := hl.2.2
      have hp : g.1 (s + 5) (Int.toNat (2 * qL r k 0)) = qpol r (qL r k 0) 0 := by
        have := ((hF (qL r k 0) hx0.1 hx0.2).2 0 (Or.inl rfl)).2
        rw [show 2 * qL r k 0 + 0 = 2 * qL r k 0 by omega] at this
        exact this
      have hpr := qpol_r (r := r) (b := qL r k 0) (t := 0) (Or.inl rfl)
      have step : ∀ v, v = qbi (decide (qL r k 2 = 1 ∧ qpol r (qL r k 0) 0 = 1)) → ∃ g', fX6_findBurning_p47 (fX6_findBurning_p7 fu) g v s (c + 7) k (qL r k 0) = some g' ∧ qBu g' s r (r 85) ∧ qfr (fun q => q = s ∨ q = s + 6 ∨ q = s + 8) g g' := by
        intro v hv
        obtain ⟨g1, t1, t2, t3⟩ := k_burn47 (k7 := fX6_findBurning_p7 fu) hR ⟨h0, e⟩ hsc hS hF hI hv
        obtain ⟨g', u1, u2, u3⟩ := ih g1 (k + 1) (by omega) (by omega) (by omega) (hS.kept t3 (fun q a b => by omega)) (hF.kept t3 (by omega)) t2
        exact ⟨g', t1.trans u1, u2, t3.tr u3⟩
      rw [if_pos e, zck_t (by omega), zlet_e, zck_t (by omega), l0, l2, ieq (by omega) (by omega), hp, ieq (by omega) (by omega)]
      by_cases q1 : qL r k 2 = 0
      · rw [if_pos q1]
        exact step 0 (by rw [decide_eq_false (by omega)]; rfl)
      · rw [if_neg q1, zck_t (by omega)]
        by_cases q2 : qpol r (qL r k 0) 0 = 0
        · rw [if_pos q2]
          exact step 0 (by rw [decide_eq_false (by omega)]; rfl)
        · rw [if_neg q2]
          exact step 1 (by rw [decide_eq_true (by omega)]; rfl)
    · have e : k = r 85 := by omega
      subst e
      rw [if_neg (by omega)]
      exact ⟨g, rfl, hI, qfr.rf⟩
theorem k_burn (hR : qRow M r) (hsc : c + 15 ≤ s) (hS : qShip g c r) (hF : qFo g s r (r 0)) (hC : ∀ x, 0 ≤ x → x < r 0 → g.1 (s + 8) (Int.toNat x) = 0) : ∃ g', fX6_findBurning g s (c + 7) = some g' ∧ qBu g' s r (r 85) ∧ qfr (fun q => q = s ∨ q = s + 6 ∨ q = s + 8) g g' := by
  have h2 := hR.2.1
  have f1 : qfr (fun q => q = s ∨ q = s + 6 ∨ q = s + 8) g (zwr g s 6 0) := qfr.wr (by omega)
  obtain ⟨g', t1, t2, t3⟩ := k_burn_l hR hsc zfu (zwr g s 6 0) 0 (by omega) (by omega) (by unfold zfu; omega) (hS.kept f1 (fun q a b => by omega)) (hF.kept f1 (by omega)) ⟨zwr_e, fun j a b => by omega, fun x a b => by rw [zwr_n (Or.inl (by omega))]; exact hC x a b⟩
  exact ⟨g', t1, t2, f1.tr t3⟩
end QCBURN2

