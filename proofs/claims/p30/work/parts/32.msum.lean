section QSUMS
variable {g : zSt} {m b t x w k : Int}
/-- a loop that adds up -/
theorem q_loop {L : Nat → Int → Int → Option Int} {n : Int} {f : Int → Int} (hs : ∀ fu a k, 0 ≤ k → k < n → L (fu + 1) a k = L fu (a + f k) (k + 1)) (he : ∀ fu a, L (fu + 1) a n = some a) : ∀ (fu : Nat) (k a : Int), 0 ≤ k → k ≤ n → (n - k).toNat < fu → L fu a k = some (a + qsum f k (n - k).toNat) := by
  intro fu
  induction fu with
  | zero => intro k a _ _ h; omega
  | succ fu ih =>
    intro k a h0 hn h
    by_cases hk : k = n
    · subst hk
      rw [he, show (k - k).toNat = 0 by omega]
      simp [qsum]
    · rw [hs fu a k h0 (by omega), ih (k + 1) (a + f k) (by omega) (by omega) (by omega), show (n - k).toNat = (n - (k + 1)).toNat + 1 by omega, qsum]
      congr 1
      omega
theorem q_loop0 {L : Nat → Int → Int → Option Int} {n : Int} {f : Int → Int} (hn : 0 ≤ n ∧ n < 1999) (hs : ∀ fu a k, 0 ≤ k → k < n → L (fu + 1) a k = L fu (a + f k) (k + 1)) (he : ∀ fu a, L (fu + 1) a n = some a) : L zfu 0 0 = some (qsum f 0 n.toNat) := by
  have := q_loop hs he zfu 0 0 (by omega) (by omega) (by unfold zfu; omega)
  rw [this]
  simp
def qdk (r : Int → Int) (k : Int) : Int := if qsw r (qL r k 0) = true then (if qwh r (qL r k 0) 0 = true then (if qwh r (qL r k 0) 1 = true then (if qL r k 2 = 1 ∧ qpol r (qL r k 0) 0 = 1 then 4 else 0) else 3) else 2) else 1
def qlv (r : Int → Int) (k : Int) : Bool := qal r (qF r k 0) (qF r k 1)
def qfp (r : Int → Int) (k : Int) : Int := qpol r (qF r k 0) (qF r k 1)
def qburn (r : Int → Int) : Int := qsum (fun k => if qdk r k = 0 then 1 else 0) 0 (r 85).toNat
def qdrawn (r : Int → Int) : Int := qsum (fun k => if qdk r k = 0 then qL r k 1 else 0) 0 (r 85).toNat
def qlw (r : Int → Int) (p k : Int) : Int := if qlv r k = true ∧ qfp r k = p then qF r k 2 else 0
def qlamp (r : Int → Int) (p : Int) : Int := qsum (qlw r p) 0 (r 134).toNat
def qleak (r : Int → Int) : Int := if qlamp r 0 < qlamp r 1 then qlamp r 0 else qlamp r 1
def qleft (r : Int → Int) (p k : Int) : Int := if qleak r - qsum (qlw r p) 0 k.toNat < 0 then 0 else qleak r - qsum (qlw r p) 0 k.toNat
def qflow (r : Int → Int) (k : Int) : Int := if qlv r k = true then (if qleft r (qfp r k) k < qF r k 2 then qleft r (qfp r k) k else qF r k 2) else 0
def qun (r : Int → Int) (b k : Int) : Int := if qdk r k = 0 ∧ qrs r b (qL r k 0) = b then qL r k 1 else 0
def qfl (r : Int → Int) (b t k : Int) : Int := if qrs r b (qF r k 0) = b ∧ qrt r b (qF r k 0) (qF r k 1) = t then qflow r k else 0
def qcur (r : Int → Int) (b t : Int) : Int := if qal r b t = true then qsum (qun r b) 0 (r 85).toNat + qsum (qfl r b t) 0 (r 134).toNat else 0
theorem qpol_r {r : Int → Int} (ht : t = 0 ∨ t = 1) : qpol r b t = 0 ∨ qpol r b t = 1 := by
  have key : ∀ (n : Nat) (b t : Int), b.toNat ≤ n → (t = 0 ∨ t = 1) → (qpol r b t = 0 ∨ qpol r b t = 1) := by
    intro n
    induction n with
    | zero => intro b t h ht; rw [qpol_0 (by omega)]; exact ht
    | succ n ih =>
      intro b t h ht
      by_cases hb : 0 < b ∧ qB r b 0 < b
      · rw [qpol_s hb]; exact ih _ _ (by omega) (qab_r ht)
      · rw [qpol, dif_neg hb]; exact ht
  exact key b.toNat b t (Nat.le_refl _) ht
theorem qdk_r (r : Int → Int) (k : Int) : 0 ≤ qdk r k ∧ qdk r k ≤ 4 := by
  unfold qdk
  repeat' split
  all_goals omega
theorem qfp_r {r : Int → Int} (hR : qRow m r) (hk : 0 ≤ k ∧ k < r 134) : qfp r k = 0 ∨ qfp r k = 1 := qpol_r (hR.2.2.2.2.2.1 k hk.1 hk.2).2.1
theorem qlw_r {r : Int → Int} {p : Int} (hR : qRow m r) (hk : 0 ≤ k ∧ k < r 134) : 0 ≤ qlw r p k ∧ qlw r p k ≤ 30 := by
  have hx := (hR.2.2.2.2.2.1 k hk.1 hk.2).2.2
  unfold qlw
  split <;> omega
theorem qlws_r {r : Int → Int} {p : Int} (hR : qRow m r) {j : Nat} (hj : (j : Int) ≤ r 134) : 0 ≤ qsum (qlw r p) 0 j ∧ qsum (qlw r p) 0 j ≤ 270 := by
  have h1 := hR.2.2.1
  have := qsum_le (f := qlw r p) (b := 30) j 0 (fun k a b => qlw_r hR ⟨a, by omega⟩)
  omega
theorem qlamp_r {r : Int → Int} {p : Int} (hR : qRow m r) : 0 ≤ qlamp r p ∧ qlamp r p ≤ 270 := by
  have h1 := hR.2.2.1
  exact qlws_r hR (by omega)
theorem qleak_r {r : Int → Int} (hR : qRow m r) : 0 ≤ qleak r ∧ qleak r ≤ 270 := by
  have h0 := qlamp_r (p := 0) hR
  have h1 := qlamp_r (p := 1) hR
  unfold qleak
  split <;> omega
theorem qleft_r {r : Int → Int} {p : Int} (hR : qRow m r) (hk : 0 ≤ k ∧ k ≤ r 134) : 0 ≤ qleft r p k ∧ qleft r p k ≤ 270 := by
  have h0 := qleak_r hR
  have h1 := qlws_r (p := p) hR (j := k.toNat) (by omega)
  unfold qleft
  split <;> omega
theorem qflow_r {r : Int → Int} (hR : qRow m r) (hk : 0 ≤ k ∧ k < r 134) : 0 ≤ qflow r k ∧ qflow r k ≤ 30 := by
  have hx := (hR.2.2.2.2.2.1 k hk.1 hk.2).2.2
  have := qleft_r (p := qfp r k) hR (k := k) ⟨hk.1, by omega⟩
  unfold qflow
  repeat' split
  all_goals omega
end QSUMS

