section QCCUR
variable {g g' : zSt} {m b t x w k p u j a lo hi i v n M : Int} {r W bx W2 bx2 : Int → Int} {c s N N2 : Nat}
theorem k_up36 {k7 : zSt → Nat → Nat → Int → Option zSt} {fu : Nat} (hR : qRow M r) (hm : 0 < m ∧ m < r 0) (hp : p = 0 ∨ p = 1) : fX6_sumUpCurrents_p36 k7 (fu + 1) g s (c + 1) m (qB r m 0) p = fX6_sumUpCurrents_p36 k7 fu (zwr g (s + 9) (Int.toNat (2 * qB r m 0 + p)) (g.1 (s + 9) (Int.toNat (2 * qB r m 0 + p)) + g.1 (s + 9) (Int.toNat (2 * m + p)))) s (c + 1) m (qB r m 0) (p + 1) := by
  have h1 := hR.1
  have hx1 := (hR.2.2.2.1 m hm.1 hm.2).1
  rw [fX6_sumUpCurrents_p36, ilt (by omega) (by omega), if_pos (by omega), zlet_e, zck_t (by omega), zck_t (by omega), zck_t (by omega), zlet_e]
/-- the sums at the cell d, when the boxes beyond m have been passed down -/
def qUo (g : zSt) (d : Nat) (r W : Int → Int) (bx : Int → Int) (N : Nat) (m : Int) : Prop := ∀ x, 0 ≤ x → x < r 0 → g.1 d (Int.toNat x) = qat r W bx N m x
theorem k_upCurrents_l {pk : Int → Int} (hR : qRow M r) (hsc : c + 15 ≤ s) (hb : ∀ k, 0 ≤ k → k < 0 + (N : Int) → 0 ≤ bx k ∧ bx k < r 0) (hb2 : ∀ k, 0 ≤ k → k < 0 + (N2 : Int) → 0 ≤ bx2 k ∧ bx2 k < r 0) : ∀ (fu : Nat) (g : zSt) (m : Int), 0 ≤ m → m < r 0 → m.toNat < fu → qShip g c r → qPo g (s + 9) r W bx pk N m → qUo g (s + 8) r W2 bx2 N2 m → ∃ g', fX6_sumUpCurrents_p7 fu g s (c + 1) m = some g' ∧ qPo g' (s + 9) r W bx pk N 0 ∧ qUo g' (s + 8) r W2 bx2 N2 0 ∧ qfr (fun q => q = s + 8 ∨ q = s + 9) g g' := by
  have h1 := hR.1
  intro fu
  induction fu with
  | zero => intro g m _ _ h; omega
  | succ fu ih =>
    intro g m h0 hm hf hS hP hU
    rw [fX6_sumUpCurrents_p7, ilt (by omega) (by omega)]
    by_cases e : 0 < m
    · have hx1 := (hR.2.2.2.1 m e hm).1
      have e0 : g.1 (c + 1 + 1) (Int.toNat m) = qB r m 0 := (hS.2.1 m e hm).1
      rw [if_pos e, zck_t (by omega), zlet_e, e0, zck_t (by omega), zck_t (by omega), zck_t (by omega), zlet_e]
      have f0 : qfr (fun q => q = s + 8 ∨ q = s + 9) g (zwr g (s + 8) (Int.toNat (qB r m 0)) (g.1 (s + 8) (Int.toNat (qB r m 0)) + g.1 (s + 8) (Int.toNat m))) := qfr.wr (Or.inl rfl)
      generalize hg0 : zwr g (s + 8) (Int.toNat (qB r m 0)) (g.1 (s + 8) (Int.toNat (qB r m 0)) + g.1 (s + 8) (Int.toNat m)) = g0 at f0 ⊢
      have r0 : ∀ i : Nat, g0.1 (s + 8) i = if i = Int.toNat (qB r m 0) then g.1 (s + 8) (Int.toNat (qB r m 0)) + g.1 (s + 8) (Int.toNat m) else g.1 (s + 8) i := fun i => by rw [← hg0]; simp only [zwr, true_and]
      have r09 : ∀ i : Nat, g0.1 (s + 9) i = g.1 (s + 9) i := fun i => by rw [← hg0]; exact zwr_n (Or.inl (by omega))
      rw [show zfu = 1997 + 1 + 1 + 1 from rfl, k_up36 hR ⟨e, hm⟩ (Or.inl rfl)]
      have f1 : qfr (fun q => q = s + 8 ∨ q = s + 9) g0 (zwr g0 (s + 9) (Int.toNat (2 * qB r m 0 + 0)) (g0.1 (s + 9) (Int.toNat (2 * qB r m 0 + 0)) + g0.1 (s + 9) (Int.toNat (2 * m + 0)))) := qfr.wr (Or.inr rfl)
      rw [k_up36 hR ⟨e, hm⟩ (Or.inr (by omega)), fX6_sumUpCurrents_p36, ilt (by omega) (by omega), if_neg (by omega)]
      generalize hg1 : zwr g0 (s + 9) (Int.toNat (2 * qB r m 0 + 0)) (g0.1 (s + 9) (Int.toNat (2 * qB r m 0 + 0)) + g0.1 (s + 9) (Int.toNat (2 * m + 0))) = g1 at f1 ⊢
      have r1 : ∀ i : Nat, g1.1 (s + 9) i = if i = Int.toNat (2 * qB r m 0 + 0) then g0.1 (s + 9) (Int.toNat (2 * qB r m 0 + 0)) + g0.1 (s + 9) (Int.toNat (2 * m + 0)) else g0.1 (s + 9) i := fun i => by rw [← hg1]; simp only [zwr, true_and]
      have r18 : ∀ i : Nat, g1.1 (s + 8) i = g0.1 (s + 8) i := fun i => by rw [← hg1]; exact zwr_n (Or.inl (by omega))
      have f2 : qfr (fun q => q = s + 8 ∨ q = s + 9) g1 (zwr g1 (s + 9) (Int.toNat (2 * qB r m 0 + (0 + 1))) (g1.1 (s + 9) (Int.toNat (2 * qB r m 0 + (0 + 1))) + g1.1 (s + 9) (Int.toNat (2 * m + (0 + 1))))) := qfr.wr (Or.inr rfl)
      generalize hg2 : zwr g1 (s + 9) (Int.toNat (2 * qB r m 0 + (0 + 1))) (g1.1 (s + 9) (Int.toNat (2 * qB r m 0 + (0 + 1))) + g1.1 (s + 9) (Int.toNat (2 * m + (0 + 1)))) = g2 at f2 ⊢
      have r2 : ∀ i : Nat, g2.1 (s + 9) i = if i = Int.toNat (2 * qB r m 0 + (0 + 1)) then g1.1 (s + 9) (Int.toNat (2 * qB r m 0 + (0 + 1))) + g1.1 (s + 9) (Int.toNat (2 * m + (0 + 1))) else g1.1 (s + 9) i := fun i => by rw [← hg2]; simp only [zwr, true_and]
      have r28 : ∀ i : Nat, g2.1 (s + 8) i = g1.1 (s + 8) i := fun i => by rw [← hg2]; exact zwr_n (Or.inl (by omega))
      have hU2 : qUo g2 (s + 8) r W2 bx2 N2 (m - 1) := by
        intro x x0 x1
        rw [qat_step hR ⟨e, hm⟩ ⟨x0, x1⟩ hb2, ← hU x x0 x1, ← hU m h0 hm, r28, r18, r0]
        by_cases q : x = qB r m 0
        · rw [if_pos (by omega), if_pos q, q]
        · rw [if_neg (by omega), if_neg q]; omega
      have hP2 : qPo g2 (s + 9) r W bx pk N (m - 1) := by
        intro x p x0 x1 hp
        rw [qat_step hR ⟨e, hm⟩ ⟨x0, x1⟩ hb, ← hP x p x0 x1 hp, ← hP m p h0 hm hp]
        rcases hp with rfl | rfl
        · rw [r2, if_neg (by omega), r1]
          by_cases q : x = qB r m 0
          · rw [if_pos (by omega), if_pos q, r09, r09, q]
          · rw [if_neg (by omega), if_neg q, r09]; omega
        · rw [r2]
          by_cases q : x = qB r m 0
          · rw [if_pos (by omega), if_pos q, r1, if_neg (by omega), r1, if_neg (by omega), r09, r09, q]; rfl
          · rw [if_neg (by omega), if_neg q, r1, if_neg (by omega), r09]; omega
      obtain ⟨g', t1, t2, t3, t4⟩ := ih g2 (m - 1) (by omega) (by omega) (by omega) (hS.kept ((f0.tr f1).tr f2) (fun q a b => by omega)) hP2 hU2
      exact ⟨g', t1, t2, t3, ((f0.tr f1).tr f2).tr t4⟩
    · have e : m = 0 := by omega
      subst e
      rw [if_neg (by omega)]
      exact ⟨g, rfl, hP, hU, qfr.rf⟩
end QCCUR

