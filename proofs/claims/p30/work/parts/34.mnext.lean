section QNEXT
variable {g : zSt} {m b t x w k p u n j a c lo hi : Int} {r : Int → Int}
theorem qdm2n : ∀ k : Nat, k < 64 → zdv k 2 = ((k / 2 : Nat) : Int) ∧ zmo k 2 = ((k % 2 : Nat) : Int) := by decide +kernel
theorem qdm4n : ∀ k : Nat, k < 64 → zdv k 4 = ((k / 4 : Nat) : Int) ∧ zmo k 4 = ((k % 4 : Nat) : Int) := by decide +kernel
theorem qdm5n : ∀ k : Nat, k < 64 → zdv k 5 = ((k / 5 : Nat) : Int) ∧ zmo k 5 = ((k % 5 : Nat) : Int) := by decide +kernel
theorem qdm6n : ∀ k : Nat, k < 64 → zdv k 6 = ((k / 6 : Nat) : Int) ∧ zmo k 6 = ((k % 6 : Nat) : Int) := by decide +kernel
theorem qdm2 (h : 0 ≤ k ∧ k < 64) : zdv k 2 = k / 2 ∧ zmo k 2 = k % 2 := by
  have := qdm2n k.toNat (by omega)
  rw [show ((k.toNat : Nat) : Int) = k by omega] at this
  omega
theorem qdm4 (h : 0 ≤ k ∧ k < 64) : zdv k 4 = k / 4 ∧ zmo k 4 = k % 4 := by
  have := qdm4n k.toNat (by omega)
  rw [show ((k.toNat : Nat) : Int) = k by omega] at this
  omega
theorem qdm5 (h : 0 ≤ k ∧ k < 64) : zdv k 5 = k / 5 ∧ zmo k 5 = k % 5 := by
  have := qdm5n k.toNat (by omega)
  rw [show ((k.toNat : Nat) : Int) = k by omega] at this
  omega
theorem qdm6 (h : 0 ≤ k ∧ k < 64) : zdv k 6 = k / 6 ∧ zmo k 6 = k % 6 := by
  have := qdm6n k.toNat (by omega)
  rw [show ((k.toNat : Nat) : Int) = k by omega] at this
  omega
theorem qdep_r (r : Int → Int) (b : Int) : 0 ≤ qdep r b ∧ qdep r b ≤ b.toNat := by
  have key : ∀ (n : Nat) (b : Int), b.toNat ≤ n → 0 ≤ qdep r b ∧ qdep r b ≤ b.toNat := by
    intro n
    induction n with
    | zero => intro b h; rw [qdep_0 (by omega)]; omega
    | succ n ih =>
      intro b h
      by_cases hb : 0 < b ∧ qB r b 0 < b
      · rw [qdep_s hb]
        have := ih (qB r b 0) (by omega)
        omega
      · rw [qdep, dif_neg hb]; omega
  exact key b.toNat b (Nat.le_refl _)
theorem qcur_r (hR : qRow m r) : 0 ≤ qcur r b t ∧ qcur r b t ≤ 500 := by
  have h1 := hR.2.1
  have h2 := hR.2.2.1
  have e1 := qsum_le (f := qun r b) (b := 9) (r 85).toNat 0 (fun k h3 h4 => by
    have hx := (hR.2.2.2.2.1 k h3 (by omega)).2.1
    unfold qun
    split <;> omega)
  have e2 := qsum_le (f := qfl r b t) (b := 30) (r 134).toNat 0 (fun k h3 h4 => by
    have hx := qflow_r hR (k := k) ⟨h3, by omega⟩
    unfold qfl
    split <;> omega)
  unfold qcur
  split <;> omega
def qbad (r : Int → Int) (k : Int) : Prop := qB r (k / 2) (3 + k % 2) < qcur r (k / 2) (k % 2)
theorem qbad_al (hR : qRow m r) (hk : 2 ≤ k ∧ k < 2 * r 0) (h : qbad r k) : qal r (k / 2) (k % 2) = true := by
  have hx := hR.2.2.2.1 (k / 2) (by omega) (by omega)
  have h3 := hx.2.2.2.1
  have h4 := hx.2.2.2.2.1
  unfold qbad qcur at h
  by_cases e : qal r (k / 2) (k % 2) = true
  · exact e
  · rw [if_neg e] at h
    rcases (show k % 2 = 0 ∨ k % 2 = 1 by omega) with q | q <;> rw [q] at h <;> simp at h <;> omega
/-- one step of the search for the fuse that blows next -/
def qst (r : Int → Int) (k best : Int) : Int := if qB r (k / 2) (3 + k % 2) < qcur r (k / 2) (k % 2) then (if best = -1 then k else if qdep r (best / 2) < qdep r (k / 2) then k else best) else best
def qnx (r : Int → Int) : Nat → Int → Int → Int
  | 0, _, best => best
  | m + 1, lo, best => qnx r m (lo + 1) (qst r lo best)
def qnext (r : Int → Int) : Int := qnx r (2 * r 0 - 2).toNat 2 (-1)
theorem qst_r (hk : 2 ≤ k ∧ k < n) (ha : a = -1 ∨ (2 ≤ a ∧ a < n)) : qst r k a = -1 ∨ (2 ≤ qst r k a ∧ qst r k a < n) := by
  unfold qst
  repeat' split
  all_goals omega
theorem qnx_r (r : Int → Int) (N : Int) : ∀ (M : Nat) (lo a : Int), 2 ≤ lo → lo + M = N → (a = -1 ∨ ((2 ≤ a ∧ a < N) ∧ qbad r a)) → (qnx r M lo a = -1 ∨ ((2 ≤ qnx r M lo a ∧ qnx r M lo a < N) ∧ qbad r (qnx r M lo a))) := by
  intro M
  induction M with
  | zero => intro lo a _ _ h; exact h
  | succ M ih =>
    intro lo a h0 hn ha
    rw [qnx]
    refine ih (lo + 1) _ (by omega) (by omega) ?_
    unfold qst
    by_cases e : qB r (lo / 2) (3 + lo % 2) < qcur r (lo / 2) (lo % 2)
    · rw [if_pos e]
      split
      · exact Or.inr ⟨by omega, e⟩
      · split
        · exact Or.inr ⟨by omega, e⟩
        · exact ha
    · rw [if_neg e]
      exact ha
theorem qnext_r (hR : qRow m r) : qnext r = -1 ∨ ((2 ≤ qnext r ∧ qnext r < 2 * r 0) ∧ qbad r (qnext r)) := by
  have h1 := hR.1
  exact qnx_r r (2 * r 0) _ 2 (-1) (by omega) (by omega) (Or.inl rfl)
end QNEXT

