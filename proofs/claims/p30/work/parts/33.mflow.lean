section QSETTLE
variable {g : zSt} {m b t x w k p u n j a c lo hi : Int} {r : Int → Int}
theorem q_loopE {L : Nat → Int → Int → Option Int} {n : Int} {f : Int → Int} {E : Int → Option Int} (hs : ∀ fu a k, 0 ≤ k → k < n → L (fu + 1) a k = L fu (a + f k) (k + 1)) (he : ∀ fu a, L (fu + 1) a n = E a) : ∀ (fu : Nat) (k a : Int), 0 ≤ k → k ≤ n → (n - k).toNat < fu → L fu a k = E (a + qsum f k (n - k).toNat) := by
  intro fu
  induction fu with
  | zero => intro k a _ _ h; omega
  | succ fu ih =>
    intro k a h0 hn h
    by_cases hk : k = n
    · subst hk
      rw [he, show (k - k).toNat = 0 by omega]
      simp [qsum]
    · rw [hs fu a k h0 (by omega), ih (k + 1) (a + f k) (by omega) (by omega) (by omega), show (n - k).toNat = (n - (k + 1)).toNat + 1 by omega, qsum]
      congr 1
      omega
theorem qsum_neg (f : Int → Int) (m : Nat) : ∀ lo : Int, qsum (fun k => - f k) lo m = - qsum f lo m := by
  induction m with
  | zero => intro lo; rfl
  | succ m ih => intro lo; simp only [qsum, ih]; omega
end QSETTLE

