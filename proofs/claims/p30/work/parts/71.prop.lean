section QPROP
variable {g g' g1 g2 g3 g4 : zSt} {m b t x w k p u j a lo hi v M p1 p2 p3 p4 y a1 a2 a3 a4 i n : Int} {r r' re : Int → Int} {R : Nat → Int → Int} {c s d e N L : Nat}
def qla (r : Int → Int) (b k : Int) : Int := if qL r k 0 = b then (if qdk r k = 0 then 1 else 0) else 0
def qlu (r : Int → Int) (b k : Int) : Int := if qL r k 0 = b then qL r k 1 else 0
def qfa (r : Int → Int) (b t k : Int) : Int := if qF r k 0 = b then (if qF r k 1 = t then qF r k 2 else 0) else 0
def qbw (r : Int → Int) (k : Int) : Int := qB r (k / 2) (5 + k % 2)
/-- the properties of a box, a terminal, a lantern, a fault, and the counts -/
def qbp (r : Int → Int) (b w : Int) : Int := if w = 3 then qdep r b else if w = 4 then qbh r b else if w = 5 then qsum (qla r b) 0 (r 85).toNat else if w = 6 then qsum (qlu r b) 0 (r 85).toNat else if b = 0 then -1 else qB r b w
def qtp (r : Int → Int) (b t w : Int) : Int := if w = 0 then qpol r b t else if w = 1 then qbi (qal r b t) else if w = 2 then qcur r b t else if w = 3 then (if b = 0 then -1 else qB r b (3 + t)) else if w = 4 then (if b = 0 then -1 else qB r b (5 + t)) else qsum (qfa r b t) 0 (r 134).toNat
def qlp (r : Int → Int) (k w : Int) : Int := if w = 3 then qdk r k else qL r k w
def qfq (r : Int → Int) (k w : Int) : Int := if w < 3 then qF r k w else if w = 3 then qfp r k else qflow r k
def qco (r : Int → Int) (n : Int) (w : Int) : Int := if w = 0 then r 0 else if w = 1 then r 85 else if w = 2 then qburn r else if w = 3 then r 134 else if w = 4 then qleak r else if w = 5 then qsum (qbw r) 2 (2 * r 0 - 2).toNat else if w = 6 then r 162 else if w = 7 then r 163 else if w = 8 then r 164 else if w = 9 then r 165 else if w = 10 then r 166 else n
theorem q_loopN {L : Nat → Int → Int → Option Int} {f : Int → Int} (hn : lo ≤ n ∧ n - lo < 1999 ∧ 0 ≤ lo) (hs : ∀ fu a k, 0 ≤ k → lo ≤ k → k < n → L (fu + 1) a k = L fu (a + f k) (k + 1)) (he : ∀ fu a, L (fu + 1) a n = some a) : L zfu 0 lo = some (qsum f lo (n - lo).toNat) := by
  have key : ∀ (fu : Nat) (k a : Int), lo ≤ k → k ≤ n → (n - k).toNat < fu → L fu a k = some (a + qsum f k (n - k).toNat) := by
    intro fu
    induction fu with
    | zero => intro k a _ _ h; omega
    | succ fu ih =>
      intro k a h0 hn h
      by_cases hk : k = n
      · subst hk
        rw [he, show (k - k).toNat = 0 by omega]
        simp [qsum]
      · rw [hs fu a k (by omega) h0 (by omega), ih (k + 1) (a + f k) (by omega) (by omega) (by omega), show (n - k).toNat = (n - (k + 1)).toNat + 1 by omega, qsum]
        congr 1
        omega
  have := key zfu lo 0 (by omega) (by omega) (by unfold zfu; omega)
  rw [this]
  simp
end QPROP

