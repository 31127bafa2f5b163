section QCSUM
variable {g g' : zSt} {m b t x w k p u j a lo hi i v n M : Int} {r W bx : Int → Int} {c s N : Nat}
theorem k_up13 {k2 : zSt → Nat → Nat → Int → Option zSt} {fu : Nat} (hS : qShip g c r) (hR : qRow M r) (hm : 0 < m ∧ m < r 0) (hp : p = 0 ∨ p = 1) : fX6_sumUpStrengths_p13 k2 (fu + 1) g s (c + 1) m p = fX6_sumUpStrengths_p13 k2 fu (zwr g (s + 10) (Int.toNat (2 * qB r m 0 + p)) (g.1 (s + 10) (Int.toNat (2 * qB r m 0 + p)) + g.1 (s + 10) (Int.toNat (2 * m + p)))) s (c + 1) m (p + 1) := by
  have h1 := hR.1
  have hx1 := (hR.2.2.2.1 m hm.1 hm.2).1
  have e0 : g.1 (c + 1 + 1) (Int.toNat m) = qB r m 0 := (hS.2.1 m hm.1 hm.2).1
  rw [fX6_sumUpStrengths_p13, ilt (by omega) (by omega), if_pos (by omega), zck_t (by omega), zlet_e, e0, zck_t (by omega), zck_t (by omega), zck_t (by omega), zlet_e]
/-- the sums by pole at the cell d, when the boxes beyond m have been passed down -/
def qPo (g : zSt) (d : Nat) (r W : Int → Int) (bx : Int → Int) (pk : Int → Int) (N : Nat) (m : Int) : Prop := ∀ x p, 0 ≤ x → x < r 0 → (p = 0 ∨ p = 1) → g.1 d (Int.toNat (2 * x + p)) = qat r (fun k => if pk k = p then W k else 0) bx N m x
theorem k_upStrengths_l {pk : Int → Int} (hR : qRow M r) (hsc : c + 15 ≤ s) (hb : ∀ k, 0 ≤ k → k < 0 + (N : Int) → 0 ≤ bx k ∧ bx k < r 0) : ∀ (fu : Nat) (g : zSt) (m : Int), 0 ≤ m → m < r 0 → m.toNat < fu → qShip g c r → qPo g (s + 10) r W bx pk N m → ∃ g', fX6_sumUpStrengths_p7 fu g s (c + 1) m = some g' ∧ qPo g' (s + 10) r W bx pk N 0 ∧ qfr (fun q => q = s + 10) g g' := by
  have h1 := hR.1
  intro fu
  induction fu with
  | zero => intro g m _ _ h; omega
  | succ fu ih =>
    intro g m h0 hm hf hS hP
    rw [fX6_sumUpStrengths_p7, ilt (by omega) (by omega)]
    by_cases e : 0 < m
    · have hx1 := (hR.2.2.2.1 m e hm).1
      rw [if_pos e, show zfu = 1997 + 1 + 1 + 1 from rfl, k_up13 hS hR ⟨e, hm⟩ (Or.inl rfl)]
      have f1 : qfr (fun q => q = s + 10) g (zwr g (s + 10) (Int.toNat (2 * qB r m 0 + 0)) (g.1 (s + 10) (Int.toNat (2 * qB r m 0 + 0)) + g.1 (s + 10) (Int.toNat (2 * m + 0)))) := qfr.wr rfl
      rw [k_up13 (hS.kept f1 (fun q a b => by omega)) hR ⟨e, hm⟩ (Or.inr (by omega)), fX6_sumUpStrengths_p13, ilt (by omega) (by omega), if_neg (by omega)]
      generalize hg1 : zwr g (s + 10) (Int.toNat (2 * qB r m 0 + 0)) (g.1 (s + 10) (Int.toNat (2 * qB r m 0 + 0)) + g.1 (s + 10) (Int.toNat (2 * m + 0))) = g1 at f1 ⊢
      have r1 : ∀ i : Nat, g1.1 (s + 10) i = if i = Int.toNat (2 * qB r m 0 + 0) then g.1 (s + 10) (Int.toNat (2 * qB r m 0 + 0)) + g.1 (s + 10) (Int.toNat (2 * m + 0)) else g.1 (s + 10) i := fun i => by rw [← hg1]; simp only [zwr, true_and]
      have f2 : qfr (fun q => q = s + 10) g1 (zwr g1 (s + 10) (Int.toNat (2 * qB r m 0 + (0 + 1))) (g1.1 (s + 10) (Int.toNat (2 * qB r m 0 + (0 + 1))) + g1.1 (s + 10) (Int.toNat (2 * m + (0 + 1))))) := qfr.wr rfl
      generalize hg2 : zwr g1 (s + 10) (Int.toNat (2 * qB r m 0 + (0 + 1))) (g1.1 (s + 10) (Int.toNat (2 * qB r m 0 + (0 + 1))) + g1.1 (s + 10) (Int.toNat (2 * m + (0 + 1)))) = g2 at f2 ⊢
      have r2 : ∀ i : Nat, g2.1 (s + 10) i = if i = Int.toNat (2 * qB r m 0 + (0 + 1)) then g1.1 (s + 10) (Int.toNat (2 * qB r m 0 + (0 + 1))) + g1.1 (s + 10) (Int.toNat (2 * m + (0 + 1))) else g1.1 (s + 10) i := fun i => by rw [← hg2]; simp only [zwr, true_and]
      have hP2 : qPo g2 (s + 10) r W bx pk N (m - 1) := by
        intro x p x0 x1 hp
        rw [qat_step hR ⟨e, hm⟩ ⟨x0, x1⟩ hb, ← hP x p x0 x1 hp, ← hP m p h0 hm hp]
        rcases hp with rfl | rfl
        · rw [r2, if_neg (by omega), r1]
          by_cases q : x = qB r m 0
          · rw [if_pos (by omega), if_pos q, q]
          · rw [if_neg (by omega), if_neg q]; omega
        · rw [r2]
          by_cases q : x = qB r m 0
          · rw [if_pos (by omega), if_pos q, r1, if_neg (by omega), r1, if_neg (by omega), q]; rfl
          · rw [if_neg (by omega), if_neg q, r1, if_neg (by omega)]; omega
      obtain ⟨g', t1, t2, t3⟩ := ih g2 (m - 1) (by omega) (by omega) (by omega) (hS.kept (f1.tr f2) (fun q a b => by omega)) hP2
      exact ⟨g', t1, t2, (f1.tr f2).tr t3⟩
    · have e : m = 0 := by omega
      subst e
      rw [if_neg (by omega)]
      exact ⟨g, rfl, hP, qfr.rf⟩
end QCSUM

