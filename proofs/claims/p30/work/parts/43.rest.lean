section QREST
variable {g g' : zSt} {m b t x w k p u j a lo hi i v n M : Int} {r : Int → Int} {c s : Nat}
theorem qrs_r (hR : qRow M r) (hx : 0 ≤ x) (hb : 0 ≤ b ∧ b < r 0) : 0 ≤ qrs r x b ∧ qrs r x b ≤ x ∨ qrs r x b = b ∧ b ≤ x := by
  have key : ∀ (N : Nat) (b : Int), b.toNat ≤ N → 0 ≤ b → b < r 0 → 0 ≤ qrs r x b ∧ qrs r x b ≤ x := by
    intro N
    induction N with
    | zero => intro b h h0 hn; rw [qrs_0 (by omega)]; omega
    | succ N ih =>
      intro b h h0 hn
      by_cases e : x < b
      · have hx1 := (hR.2.2.2.1 b (by omega) hn).1
        rw [qrs_s (x := x) (b := b) ⟨e, by omega, hx1.2⟩]
        exact ih _ (by omega) hx1.1 (by omega)
      · rw [qrs_0 (by omega)]; omega
  exact Or.inl (key b.toNat b (Nat.le_refl _) hb.1 hb.2)
theorem qrs_pred (hR : qRow M r) (hm : 0 < m ∧ m < r 0) (hb : 0 ≤ b ∧ b < r 0) : qrs r (m - 1) b = if qrs r m b = m then qB r m 0 else qrs r m b := by
  have hxm := (hR.2.2.2.1 m hm.1 hm.2).1
  have key : ∀ (N : Nat) (b : Int), b.toNat ≤ N → 0 ≤ b → b < r 0 → qrs r (m - 1) b = if qrs r m b = m then qB r m 0 else qrs r m b := by
    intro N
    induction N with
    | zero =>
      intro b h h0 hn
      rw [qrs_0 (x := m - 1) (by omega), qrs_0 (x := m) (by omega), if_neg (by omega)]
    | succ N ih =>
      intro b h h0 hn
      by_cases e1 : m < b
      · have hx1 := (hR.2.2.2.1 b (by omega) hn).1
        rw [qrs_s (x := m) (b := b) ⟨e1, by omega, hx1.2⟩, qrs_s (x := m - 1) (b := b) ⟨by omega, by omega, hx1.2⟩]
        exact ih _ (by omega) hx1.1 (by omega)
      · rw [qrs_0 (x := m) (b := b) (by omega)]
        by_cases e2 : b = m
        · subst e2
          rw [if_pos rfl, qrs_s (x := b - 1) (b := b) ⟨by omega, by omega, hxm.2⟩, qrs_0 (by omega)]
        · rw [if_neg e2, qrs_0 (by omega)]
  exact key b.toNat b (Nat.le_refl _) hb.1 hb.2
theorem qsum_step {W bx : Int → Int} {N : Nat} (hR : qRow M r) (hm : 0 < m ∧ m < r 0) (hx : 0 ≤ x ∧ x < m) (hb : ∀ k, lo ≤ k → k < lo + N → 0 ≤ bx k ∧ bx k < r 0) : qsum (fun k => if qrs r (m - 1) (bx k) = x then W k else 0) lo N = qsum (fun k => if qrs r m (bx k) = x then W k else 0) lo N + (if x = qB r m 0 then qsum (fun k => if qrs r m (bx k) = m then W k else 0) lo N else 0) := by
  by_cases e : x = qB r m 0
  · rw [if_pos e, ← qsum_add]
    refine qsum_congr N lo (fun k h1 h2 => ?_)
    rw [qrs_pred hR hm (hb k h1 h2)]
    by_cases q : qrs r m (bx k) = m
    · rw [if_pos q, if_pos e.symm, if_neg (by omega), if_pos q]; omega
    · rw [if_neg q, if_neg q]; omega
  · rw [if_neg e]
    have : qsum (fun k => if qrs r (m - 1) (bx k) = x then W k else 0) lo N = qsum (fun k => if qrs r m (bx k) = x then W k else 0) lo N := by
      refine qsum_congr N lo (fun k h1 h2 => ?_)
      rw [qrs_pred hR hm (hb k h1 h2)]
      by_cases q : qrs r m (bx k) = m
      · rw [if_pos q, if_neg (fun z => e z.symm), if_neg (by omega)]
      · rw [if_neg q]
    omega
/-- what the sum at box x is when the boxes beyond m have been passed down -/
def qat (r W bx : Int → Int) (N : Nat) (m x : Int) : Int := qsum (fun k => if qrs r (if x ≤ m then m else x) (bx k) = x then W k else 0) 0 N
theorem qat_step {W bx : Int → Int} {N : Nat} (hR : qRow M r) (hm : 0 < m ∧ m < r 0) (hx : 0 ≤ x ∧ x < r 0) (hb : ∀ k, 0 ≤ k → k < 0 + (N : Int) → 0 ≤ bx k ∧ bx k < r 0) : qat r W bx N (m - 1) x = qat r W bx N m x + (if x = qB r m 0 then qat r W bx N m m else 0) := by
  have hxm := (hR.2.2.2.1 m hm.1 hm.2).1
  unfold qat
  by_cases e : x < m
  · rw [if_pos (show x ≤ m - 1 by omega), if_pos (show x ≤ m by omega), if_pos (show m ≤ m by omega)]
    exact qsum_step hR hm ⟨hx.1, e⟩ hb
  · rw [if_neg (show ¬ x ≤ m - 1 by omega), if_neg (show ¬ x = qB r m 0 by omega)]
    by_cases e2 : x = m
    · subst e2
      rw [if_pos (show x ≤ x by omega)]; omega
    · rw [if_neg (show ¬ x ≤ m by omega)]; omega
theorem qat_top {W bx : Int → Int} {N : Nat} (hx : x < r 0) (hb : ∀ k, 0 ≤ k → k < 0 + (N : Int) → 0 ≤ bx k ∧ bx k < r 0) : qat r W bx N (r 0 - 1) x = qsum (fun k => if bx k = x then W k else 0) 0 N := by
  unfold qat
  rw [if_pos (by omega)]
  refine qsum_congr N 0 (fun k h1 h2 => ?_)
  have := hb k h1 h2
  show (if qrs r (r 0 - 1) (bx k) = x then W k else 0) = _
  rw [qrs_0 (by omega)]
theorem qat_0 {W bx : Int → Int} {N : Nat} (hx : 0 ≤ x) : qat r W bx N 0 x = qsum (fun k => if qrs r x (bx k) = x then W k else 0) 0 N := by
  unfold qat
  by_cases e : x ≤ 0
  · rw [if_pos e, show x = 0 by omega]
  · rw [if_neg e]
end QREST

