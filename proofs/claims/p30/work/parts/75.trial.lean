section QTRIAL
variable {g g' g1 g2 g3 g4 : zSt} {m b t x w k p u j a lo hi v M p1 p2 p3 p4 y a1 a2 a3 a4 i : Int} {r r' re : Int → Int} {R : Nat → Int → Int} {c s d e N L n : Nat}
theorem k_trial (h : qCs g n R r) (hR : qRow 8 r) : ∃ g1, fX5_copy g 30 10 = some g1 ∧ qShip g1 30 r ∧ qfr (fun q => 30 ≤ q ∧ q < 45) g g1 := by
  obtain ⟨g1, a1, a2, a3⟩ := k_copy (c := 30) hR h.1.1 (by omega)
  exact ⟨g1, a1, a2, a3.wk (fun q z => by omega)⟩
theorem qCs.tri (h : qCs g n R r) (hr : 1 ≤ r 0) (f : qfr (fun q => (30 ≤ q ∧ q < 45) ∨ (220 ≤ q ∧ q < 231)) g g') (hM : qMade g' 220) : qCs g' n R r := ⟨⟨h.1.1.kept f (fun q a b => by omega), h.1.2.kept f (fun q a b => by omega)⟩, ⟨hM, h.2.1.2.cg (fun q k a b => f.1 _ _ (by omega))⟩, h.2.2.kept f (fun q z => by omega)⟩
theorem qset_0 (hR : qRow M r) : (qset 24 r 0).1 0 = r 0 := qset_o (Or.inl rfl) 24 r 0 hR
theorem k_tog (h : qCs g n R r) (hR : qRow 8 r) (hb : 0 < b ∧ b < r 0) : ∃ g', fX7_burningIfToggled g b = some (qburn (qset 24 (qtn r b 2) 0).1, g') ∧ qCs g' n R r ∧ qfr (fun q => (30 ≤ q ∧ q < 45) ∨ (220 ≤ q ∧ q < 231)) g g' := by
  have h1 := hR.1
  have hx := (hR.2.2.2.1 b hb.1 hb.2).2.2.1
  obtain ⟨g1, a1, a2, a3⟩ := k_trial h hR
  have hv : g1.1 34 (Int.toNat b) = qB r b 2 := (a2.2.1 b hb.1 hb.2).2.2
  have s2 := k_turn (c := 30) (d := 34) hR a2 hb (Or.inr rfl : (2 : Int) = 1 ∨ (2 : Int) = 2) rfl
  have f2 : qfr (fun q => q = 34) g1 (zwr g1 34 (Int.toNat b) (1 - qB r b 2)) := qfr.wr rfl
  have hRe := qtn_row hR hb (Or.inr rfl : (2 : Int) = 1 ∨ (2 : Int) = 2)
  have hM : qMade (zwr g1 34 (Int.toNat b) (1 - qB r b 2)) 220 := h.2.1.1.cg (fun q k a b => (f2.1 _ _ (by omega)).trans (a3.1 _ _ (by omega)))
  obtain ⟨g3, b1, b2, b3, b4, b5⟩ := k_settle (c := 30) (s := 220) hRe (by omega) s2 hM
  have f3 : qfr (fun q => (30 ≤ q ∧ q < 45) ∨ (220 ≤ q ∧ q < 231)) g g3 := ((a3.wk (fun q z => by omega)).tr (f2.wk (fun q z => by omega))).tr (b5.wk (fun q z => by omega))
  refine ⟨g3, ?_, h.tri h1.1 f3 (qMade_of b3.1.1 (by have := b4.1; omega)), f3⟩
  have p42 : ∀ y, y = 1 - qB r b 2 → fX7_burningIfToggled_p42 g1 b y = some (qburn (qset 24 (qtn r b 2) 0).1, g3) := by
    intro y hy
    subst hy
    unfold fX7_burningIfToggled_p42
    rw [zck_t (by omega), zck_t (by omega), zlet_e, b1, zbe_s, b3.2.1.1]
  unfold fX7_burningIfToggled
  rw [a1, zbd_s, zck_t (by omega), hv, ieq (by omega) (by omega)]
  rcases hx with q | q
  · rw [if_pos q]; exact p42 1 (by omega)
  · rw [if_neg (by omega)]; exact p42 0 (by omega)
theorem qan1n : ∀ k : Nat, k < 64 → zan k 1 = ((k % 2 : Nat) : Int) := by decide +kernel
theorem qan1 (h : 0 ≤ k ∧ k < 64) : zan k 1 = k % 2 := by
  have := qan1n k.toNat (by omega)
  rw [show ((k.toNat : Nat) : Int) = k by omega] at this
  omega
/-- what a fault would bring -/
def qfan (r : Int → Int) (w : Int) : Int := if w = 0 then (qset 24 r 0).2 else if w = 1 then qburn (qset 24 r 0).1 else if w = 2 then qleak (qset 24 r 0).1 else if qnext r = -1 then -1 else 100 * (qnext r / 2) + 10 * (qnext r % 2)
end QTRIAL

