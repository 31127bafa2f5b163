section QSHIP
variable {g g' : zSt} {m b t x w k p u j a lo hi i v n : Int} {r : Int → Int} {c s : Nat}
/-- a ship of the class, at its first cell c, agrees with a row -/
def qShip (g : zSt) (c : Nat) (r : Int → Int) : Prop :=
  (g.1 (c + 1) 0 = r 0 ∧ g.1 (c + 2) 0 = -1 ∧ (g.1 (c + 3) 0 = 0 ∨ g.1 (c + 3) 0 = 1) ∧ (g.1 (c + 4) 0 = 0 ∨ g.1 (c + 4) 0 = 1) ∧ (g.1 (c + 6) 0 = 0 ∨ g.1 (c + 6) 0 = 1) ∧ (g.1 (c + 6) 1 = 0 ∨ g.1 (c + 6) 1 = 1)) ∧
  (∀ b, 0 < b → b < r 0 → g.1 (c + 2) (Int.toNat b) = qB r b 0 ∧ g.1 (c + 3) (Int.toNat b) = qB r b 1 ∧ g.1 (c + 4) (Int.toNat b) = qB r b 2) ∧
  (∀ b t, 0 < b → b < r 0 → (t = 0 ∨ t = 1) → g.1 (c + 5) (Int.toNat (2 * b + t)) = qB r b (3 + t) ∧ g.1 (c + 6) (Int.toNat (2 * b + t)) = qB r b (5 + t)) ∧
  (g.1 (c + 7) 0 = r 85 ∧ ∀ k, 0 ≤ k → k < r 85 → g.1 (c + 8) (Int.toNat k) = qL r k 0 ∧ g.1 (c + 9) (Int.toNat k) = qL r k 1 ∧ g.1 (c + 10) (Int.toNat k) = qL r k 2) ∧
  (g.1 (c + 11) 0 = r 134 ∧ ∀ k, 0 ≤ k → k < r 134 → g.1 (c + 12) (Int.toNat k) = qF r k 0 ∧ g.1 (c + 13) (Int.toNat k) = qF r k 1 ∧ g.1 (c + 14) (Int.toNat k) = qF r k 2) ∧
  (g.1 c 3 = r 162 ∧ g.1 c 4 = r 163 ∧ g.1 c 5 = r 164 ∧ g.1 c 6 = r 165 ∧ g.1 c 7 = r 166)
/-- nothing but the cells of P has changed -/
def qfr (P : Nat → Prop) (g g' : zSt) : Prop := (∀ c k : Nat, ¬ P c → g'.1 c k = g.1 c k) ∧ g'.2 = g.2
theorem qfr.rf {P : Nat → Prop} : qfr P g g := ⟨fun _ _ _ => rfl, rfl⟩
theorem qfr.tr {P : Nat → Prop} {g1 g2 g3 : zSt} (h : qfr P g1 g2) (h' : qfr P g2 g3) : qfr P g1 g3 := ⟨fun c k a => (h'.1 c k a).trans (h.1 c k a), h'.2.trans h.2⟩
theorem qfr.wk {P Q : Nat → Prop} (h : qfr P g g') (hq : ∀ c, P c → Q c) : qfr Q g g' := ⟨fun c k a => h.1 c k (fun z => a (hq c z)), h.2⟩
theorem qfr.wr {P : Nat → Prop} {c k : Nat} {v : Int} (hc : P c) : qfr P g (zwr g c k v) := ⟨fun c' k' a => zwr_n (Or.inl (fun z => a (z ▸ hc))), rfl⟩
theorem qShip.kept {P : Nat → Prop} (h : qShip g c r) (f : qfr P g g') (hP : ∀ q, c ≤ q → q < c + 15 → ¬ P q) : qShip g' c r := by
  have e : ∀ d k : Nat, d < 15 → g'.1 (c + d) k = g.1 (c + d) k := fun d k hd => f.1 _ _ (hP _ (by omega) (by omega))
  have e0 : ∀ k : Nat, g'.1 c k = g.1 c k := fun k => e 0 k (by omega)
  unfold qShip at h ⊢
  simp only [e 1 _ (by omega), e 2 _ (by omega), e 3 _ (by omega), e 4 _ (by omega), e 5 _ (by omega), e 6 _ (by omega), e 7 _ (by omega), e 8 _ (by omega), e 9 _ (by omega), e 10 _ (by omega), e 11 _ (by omega), e 12 _ (by omega), e 13 _ (by omega), e 14 _ (by omega), e0]
  exact h
def qCl (g : zSt) (s : Nat) (k : Int) : Prop := ∀ b, 0 ≤ b → b < k → g.1 (s + 2) (Int.toNat b) = 0 ∧ g.1 (s + 8) (Int.toNat b) = 0 ∧ ∀ p, (p = 0 ∨ p = 1) → g.1 (s + 9) (Int.toNat (2 * b + p)) = 0 ∧ g.1 (s + 10) (Int.toNat (2 * b + p)) = 0
theorem k_clear_l (hn : 0 ≤ n ∧ n ≤ 12) : ∀ (fu : Nat) (g : zSt) (k : Int), 0 ≤ k → k ≤ n → (n - k).toNat < fu → qCl g s k → ∃ g', fX6_clearSums_p2 fu g s n k = some g' ∧ qCl g' s n ∧ qfr (fun q => q = s + 2 ∨ q = s + 8 ∨ q = s + 9 ∨ q = s + 10) g g' := by
  intro fu
  induction fu with
  | zero => intro g k _ _ h; omega
  | succ fu ih =>
    intro g k h0 hk hf hI
    rw [fX6_clearSums_p2, ilt (by omega) (by omega)]
    by_cases e : k < n
    · rw [if_pos e, zck_t (by omega), zlet_e, zck_t (by omega), zlet_e, show zfu = 1997 + 1 + 1 + 1 from rfl, fX6_clearSums_p23, ilt (by omega) (by omega), if_pos (by omega), zck_t (by omega), zlet_e, zck_t (by omega), zlet_e, fX6_clearSums_p23, ilt (by omega) (by omega), if_pos (by omega), zck_t (by omega), zlet_e, zck_t (by omega), zlet_e, fX6_clearSums_p23, ilt (by omega) (by omega), if_neg (by omega)]
      have hfr : qfr (fun q => q = s + 2 ∨ q = s + 8 ∨ q = s + 9 ∨ q = s + 10) g (zwr (zwr (zwr (zwr (zwr (zwr g (s + 2) (Int.toNat k) 0) (s + 8) (Int.toNat k) 0) (s + 9) (Int.toNat (2 * k + 0)) 0) (s + 10) (Int.toNat (2 * k + 0)) 0) (s + 9) (Int.toNat (2 * k + (0 + 1))) 0) (s + 10) (Int.toNat (2 * k + (0 + 1))) 0) :=
        (((((qfr.wr (by omega)).tr (qfr.wr (by omega))).tr (qfr.wr (by omega))).tr (qfr.wr (by omega))).tr (qfr.wr (by omega))).tr (qfr.wr (by omega))
      have hI2 : qCl (zwr (zwr (zwr (zwr (zwr (zwr g (s + 2) (Int.toNat k) 0) (s + 8) (Int.toNat k) 0) (s + 9) (Int.toNat (2 * k + 0)) 0) (s + 10) (Int.toNat (2 * k + 0)) 0) (s + 9) (Int.toNat (2 * k + (0 + 1))) 0) (s + 10) (Int.toNat (2 * k + (0 + 1))) 0) s (k + 1) := by
        intro b b0 b1
        by_cases eb : b < k
        · have hb := hI b b0 eb
          refine ⟨?_, ?_, fun p hp => ⟨?_, ?_⟩⟩
          · have := hb.1
            simp only [zwr, true_and, and_true]
            repeat' split
            all_goals omega
          · have := hb.2.1
            simp only [zwr, true_and, and_true]
            repeat' split
            all_goals omega
          · have := (hb.2.2 p hp).1
            simp only [zwr, true_and, and_true]
            repeat' split
            all_goals omega
          · have := (hb.2.2 p hp).2
            simp only [zwr, true_and, and_true]
            repeat' split
            all_goals omega
        · have eb : b = k := by omega
          refine ⟨?_, ?_, fun p hp => ?_⟩
          · simp only [zwr, true_and, and_true]
            repeat' split
            all_goals omega
          · simp only [zwr, true_and, and_true]
            repeat' split
            all_goals omega
          · rcases hp with rfl | rfl <;> refine ⟨?_, ?_⟩ <;> simp only [zwr, true_and, and_true] <;> (repeat' split) <;> omega
      obtain ⟨g', t1, t2, t3⟩ := ih _ (k + 1) (by omega) (by omega) (by omega) hI2
      exact ⟨g', t1, t2, hfr.tr t3⟩
    · have e : k = n := by omega
      subst e
      rw [if_neg (by omega)]
      exact ⟨g, rfl, hI, qfr.rf⟩
theorem k_clear (hn : 0 ≤ n ∧ n ≤ 12) : ∃ g', fX6_clearSums g s n = some g' ∧ qCl g' s n ∧ qfr (fun q => q = s + 2 ∨ q = s + 8 ∨ q = s + 9 ∨ q = s + 10) g g' :=
  k_clear_l hn zfu g 0 (by omega) (by omega) (by unfold zfu; omega) (fun b b0 b1 => by omega)
end QSHIP

