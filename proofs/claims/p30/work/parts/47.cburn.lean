section QCBURN
variable {g g' : zSt} {m b t x w k p u j a lo hi i v n M : Int} {r W bx W2 bx2 : Int → Int} {c s N N2 : Nat}
theorem qsr1n : ∀ k : Nat, k < 64 → zsr k 1 = ((k / 2 : Nat) : Int) := by decide +kernel
theorem qsr1 (h : 0 ≤ k ∧ k < 64) : zsr k 1 = k / 2 := by
  have := qsr1n k.toNat (by omega)
  rw [show ((k.toNat : Nat) : Int) = k by omega] at this
  omega
theorem k_alive (hR : qRow M r) (hF : qFo g s r (r 0)) (hb : 0 ≤ b ∧ b < r 0) (ht : t = 0 ∨ t = 1) (hi : i = 2 * b + t) : fX6_isAlive g s i = some (qbi (qal r b t)) := by
  subst hi
  have h1 := hR.1
  have hf := hF b hb.1 hb.2
  have hq := hf.2 t ht
  unfold fX6_isAlive qal
  rw [qsr1 (by omega), show (2 * b + t) / 2 = b by omega, zck_t (by omega), hf.1.2, ib0, hq.1, ib0]
  rw [zck_t (c := 0 ≤ 2 * b + t ∧ 2 * b + t < 24) (by omega), qck_1]
  cases qsw r b <;> cases qwh r b t <;> rfl
/-- what findBurning knows when k lanterns are done -/
def qBu (g : zSt) (s : Nat) (r : Int → Int) (k : Int) : Prop := g.1 s 6 = qsum (fun j => if qdk r j = 0 then 1 else 0) 0 k.toNat ∧ (∀ j, 0 ≤ j → j < k → g.1 (s + 6) (Int.toNat j) = qbi (decide (qdk r j = 0))) ∧ ∀ x, 0 ≤ x → x < r 0 → g.1 (s + 8) (Int.toNat x) = qsum (fun j => if qL r j 0 = x then (if qdk r j = 0 then qL r j 1 else 0) else 0) 0 k.toNat
theorem qdk_al (r : Int → Int) (k : Int) : (qdk r k = 0) = (qal r (qL r k 0) 0 = true ∧ qal r (qL r k 0) 1 = true ∧ ¬ (qL r k 2 = 1 ∧ qpol r (qL r k 0) 0 = 1)) := by
  unfold qdk qal
  cases qsw r (qL r k 0) <;> cases qwh r (qL r k 0) 0 <;> cases qwh r (qL r k 0) 1 <;> simp
theorem k_burn86 {k7 : zSt → Nat → Nat → Int → Option zSt} (hR : qRow M r) (hk : 0 ≤ k ∧ k < r 85) (hsc : c + 15 ≤ s) (hS : qShip g c r) (hI : qBu g s r k) (hy : v = qbi (decide (qdk r k = 0))) : ∃ g', fX6_findBurning_p86 k7 g (s + 6) k v s (c + 7) k (qL r k 0) = k7 g' s (c + 7) (k + 1) ∧ qBu g' s r (k + 1) ∧ qfr (fun q => q = s ∨ q = s + 6 ∨ q = s + 8) g g' := by
  have h1 := hR.1
  have h2 := hR.2.1
  have hx := hR.2.2.2.2.1 k hk.1 hk.2
  have hx0 := hx.1
  have hu : g.1 (c + 7 + 2) (Int.toNat k) = qL r k 1 := (hS.2.2.2.1.2 k hk.1 hk.2).2.1
  have hv := qbi_r (decide (qdk r k = 0))
  have hkk : (k + 1).toNat = k.toNat + 1 := by omega
  have hk0 : (0 : Int) + (k.toNat : Nat) = k := by omega
  unfold fX6_findBurning_p86
  rw [zck_t (by omega), zck_t (by omega), zlet_e, zck_t (by omega), zwr_e, hy, ib0]
  have f1 : qfr (fun q => q = s ∨ q = s + 6 ∨ q = s + 8) g (zwr g (s + 6) (Int.toNat k) (qbi (decide (qdk r k = 0)))) := qfr.wr (by omega)
  by_cases e : qdk r k = 0
  · rw [if_pos (decide_eq_true e), zlet_e, zck_t (by omega), zck_t (by omega), zck_t (by omega), zlet_e]
    have f2 := (f1.tr (qfr.wr (c := s) (k := 6) (v := (zwr g (s + 6) (Int.toNat k) (qbi (decide (qdk r k = 0)))).1 s 6 + 1) (by omega)))
    refine ⟨_, rfl, ?_, f2.tr (qfr.wr (by omega))⟩
    refine ⟨?_, ?_, ?_⟩
    · rw [zwr_n (Or.inl (by omega)), zwr_e, zwr_n (Or.inl (by omega)), hI.1, hkk, qsum_snoc, hk0, if_pos e]
    · intro j j0 j1
      rw [zwr_n (Or.inl (by omega)), zwr_n (Or.inl (by omega))]
      by_cases q : j = k
      · rw [q, zwr_e]
      · rw [zwr_n (Or.inr (by omega))]; exact hI.2.1 j j0 (by omega)
    · intro x x0 x1
      have hux : (zwr (zwr g (s + 6) (Int.toNat k) (qbi (decide (qdk r k = 0)))) s 6 ((zwr g (s + 6) (Int.toNat k) (qbi (decide (qdk r k = 0)))).1 s 6 + 1)).1 (c + 7 + 2) (Int.toNat k) = qL r k 1 := by
        rw [zwr_n (Or.inl (by omega)), zwr_n (Or.inl (by omega))]; exact hu
      rw [hux, hkk, qsum_snoc, hk0, ← hI.2.2 x x0 x1]
      by_cases q : qL r k 0 = x
      · rw [if_pos q, if_pos e, q, zwr_e, zwr_n (Or.inl (by omega)), zwr_n (Or.inl (by omega))]
      · rw [if_neg q, zwr_n (Or.inr (by omega)), zwr_n (Or.inl (by omega)), zwr_n (Or.inl (by omega))]; omega
  · rw [if_neg (by simp [e])]
    refine ⟨_, rfl, ?_, f1⟩
    refine ⟨?_, ?_, ?_⟩
    · rw [zwr_n (Or.inl (by omega)), hI.1, hkk, qsum_snoc, hk0, if_neg e]; omega
    · intro j j0 j1
      by_cases q : j = k
      · rw [q, zwr_e]
      · rw [zwr_n (Or.inr (by omega))]; exact hI.2.1 j j0 (by omega)
    · intro x x0 x1
      rw [hkk, qsum_snoc, hk0, if_neg e, ite_self, zwr_n (Or.inl (by omega)), ← hI.2.2 x x0 x1]; omega
end QCBURN

