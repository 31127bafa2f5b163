section PLFIND3
variable {g g' : zSt} {m b t x w k p u n j a lo hi v M : Int} {r W bx tm W2 bx2 : Int → Int} {c0 c1 c2 c3 c4 c5 c6 N N2 : Nat}
theorem qab_2 (ht : t = 0 ∨ t = 1) : qab r b (qab r b t) = t := by
  unfold qab
  split <;> omega
theorem qrt_pred (hR : qRow M r) (hm : 0 < m ∧ m < r 0) (hb : 0 ≤ b ∧ b < r 0) : qrt r (m - 1) b t = if qrs r m b = m then qab r m (qrt r m b t) else qrt r m b t := by
  have hxm := (hR.2.2.2.1 m hm.1 hm.2).1
  have key : ∀ (N : Nat) (b t : Int), b.toNat ≤ N → 0 ≤ b → b < r 0 → qrt r (m - 1) b t = if qrs r m b = m then qab r m (qrt r m b t) else qrt r m b t := by
    intro N
    induction N with
    | zero =>
      intro b t h h0 hn
      rw [qrt_0 (x := m - 1) (by omega), qrs_0 (x := m) (by omega), qrt_0 (x := m) (by omega), if_neg (by omega)]
    | succ N ih =>
      intro b t h h0 hn
      by_cases e1 : m < b
      · have hx1 := (hR.2.2.2.1 b (by omega) hn).1
        rw [qrs_s (x := m) (b := b) ⟨e1, by omega, hx1.2⟩, qrt_s (x := m) (b := b) ⟨e1, by omega, hx1.2⟩, qrt_s (x := m - 1) (b := b) ⟨by omega, by omega, hx1.2⟩]
        exact ih _ _ (by omega) hx1.1 (by omega)
      · rw [qrs_0 (x := m) (b := b) (by omega), qrt_0 (x := m) (b := b) (by omega)]
        by_cases e2 : b = m
        · subst e2
          rw [if_pos rfl, qrt_s (x := b - 1) (b := b) ⟨by omega, by omega, hxm.2⟩, qrt_0 (by omega)]
        · rw [if_neg e2, qrt_0 (by omega)]
  exact key b.toNat b t (Nat.le_refl _) hb.1 hb.2
/-- what the sum at a terminal is when the boxes beyond m have been passed down -/
def qtt (r W bx tm : Int → Int) (N : Nat) (m x t : Int) : Int := qsum (fun k => if qrs r (if x ≤ m then m else x) (bx k) = x ∧ qrt r (if x ≤ m then m else x) (bx k) (tm k) = t then W k else 0) 0 N
theorem qtt_step (hR : qRow M r) (hm : 0 < m ∧ m < r 0) (hx : 0 ≤ x ∧ x < r 0) (ht : t = 0 ∨ t = 1) (hb : ∀ k, 0 ≤ k → k < 0 + (N : Int) → 0 ≤ bx k ∧ bx k < r 0) (hq : ∀ k, 0 ≤ k → k < 0 + (N : Int) → tm k = 0 ∨ tm k = 1) : qtt r W bx tm N (m - 1) x t = qtt r W bx tm N m x t + (if x = qB r m 0 then qtt r W bx tm N m m (qab r m t) else 0) := by
  have hxm := (hR.2.2.2.1 m hm.1 hm.2).1
  unfold qtt
  by_cases e : x < m
  · rw [if_pos (show x ≤ m - 1 by omega), if_pos (show x ≤ m by omega), if_pos (show m ≤ m by omega)]
    by_cases e3 : x = qB r m 0
    · rw [if_pos e3, ← qsum_add]
      refine qsum_congr N 0 (fun k h1 h2 => ?_)
      have hbk := hb k h1 h2
      have hq2 := qrt_r (r := r) (x := m) (b := bx k) (hq k h1 h2)
      rw [qrs_pred hR hm hbk, qrt_pred hR hm hbk]
      by_cases q : qrs r m (bx k) = m
      · rw [if_pos q, if_pos q, if_neg (show ¬ (qrs r m (bx k) = x ∧ _) from fun z => by omega)]
        by_cases q3 : qrt r m (bx k) (tm k) = qab r m t
        · rw [if_pos ⟨e3.symm, by rw [q3, qab_2 ht]⟩, if_pos ⟨q, q3⟩, Int.zero_add]
        · rw [if_neg (fun z => q3 (by rw [← z.2, qab_2 hq2])), if_neg (fun z => q3 z.2)]; rfl
      · rw [if_neg q, if_neg q, if_neg (show ¬ (qrs r m (bx k) = m ∧ _) from fun z => q z.1), Int.add_zero]
    · rw [if_neg e3, Int.add_zero]
      refine qsum_congr N 0 (fun k h1 h2 => ?_)
      have hbk := hb k h1 h2
      rw [qrs_pred hR hm hbk, qrt_pred hR hm hbk]
      by_cases q : qrs r m (bx k) = m
      · rw [if_pos q, if_pos q, if_neg (fun z => e3 z.1.symm), if_neg (fun z => by omega)]
      · rw [if_neg q, if_neg q]
  · rw [if_neg (show ¬ x ≤ m - 1 by omega), if_neg (show ¬ x = qB r m 0 by omega), Int.add_zero]
    by_cases e2 : x = m
    · subst e2
      rw [if_pos (show x ≤ x by omega)]
    · rw [if_neg (show ¬ x ≤ m by omega)]
theorem qtt_top (hx : x < r 0) (hb : ∀ k, 0 ≤ k → k < 0 + (N : Int) → 0 ≤ bx k ∧ bx k < r 0) : qtt r W bx tm N (r 0 - 1) x t = qsum (fun k => if bx k = x ∧ tm k = t then W k else 0) 0 N := by
  unfold qtt
  rw [if_pos (by omega)]
  refine qsum_congr N 0 (fun k h1 h2 => ?_)
  have := hb k h1 h2
  show (if qrs r (r 0 - 1) (bx k) = x ∧ qrt r (r 0 - 1) (bx k) (tm k) = t then W k else 0) = _
  rw [qrs_0 (by omega), qrt_0 (by omega)]
theorem qtt_0 (hx : 0 ≤ x) : qtt r W bx tm N 0 x t = qsum (fun k => if qrs r x (bx k) = x ∧ qrt r x (bx k) (tm k) = t then W k else 0) 0 N := by
  unfold qtt
  by_cases e : x ≤ 0
  · rw [if_pos e, show x = 0 by omega]
  · rw [if_neg e]
def qTr (g : zSt) (c5 : Nat) (r W bx : Int → Int) (N : Nat) (W2 bx2 tm : Int → Int) (N2 : Nat) (m : Int) : Prop := ∀ x t, 0 ≤ x → x < r 0 → (t = 0 ∨ t = 1) → g.1 c5 (Int.toNat (2 * x + t)) = qat r W bx N m x + qtt r W2 bx2 tm N2 m x t
theorem l_find457 (hd : qdi c0 c1 c2 c3 c4 c5 c6) (hR : qRow M r) (hL : qLw g c0 c1 c2 c3 r) (hm : 0 < m ∧ m < r 0) (ht : t = 0 ∨ t = 1) {k449 : zSt → Nat → Nat → Int → Option zSt} {fu : Nat} : fL_find_p457 k449 (fu + 1) g c0 c5 m t = fL_find_p457 k449 fu (zwr g c5 (Int.toNat (2 * qB r m 0 + qab r m t)) (g.1 c5 (Int.toNat (2 * qB r m 0 + qab r m t)) + g.1 c5 (Int.toNat (2 * m + t)))) c0 c5 m (t + 1) := by
  have h7 := hL.2.1
  have hx := hR.2.2.2.1 m hm.1 hm.2
  have hx0 := hx.1
  have hx1 := q01 hx.2.1
  have hq := q01 (qab_r (r := r) (b := m) ht)
  have ht0 := q01 ht
  have key : ∀ y, y = qab r m t → fL_find_p496 k449 (fL_find_p457 k449 fu) g c5 (2 * qB r m 0) y c0 c5 m t = fL_find_p457 k449 fu (zwr g c5 (Int.toNat (2 * qB r m 0 + qab r m t)) (g.1 c5 (Int.toNat (2 * qB r m 0 + qab r m t)) + g.1 c5 (Int.toNat (2 * m + t)))) c0 c5 m (t + 1) := by
    intro y hy
    subst hy
    unfold fL_find_p496
    rw [zlet_e, zck_t (by omega), zck_t (by omega), zck_t (by omega), zlet_e]
  rw [fL_find_p457, ilt (by omega) (by omega), if_pos (by omega), zck_t (by omega), zck_t (by omega), hL.bw hm 1 (by omega), hL.b0 hm, ieq (by omega) (by omega)]
  by_cases e : qB r m 1 = 1
  · rw [if_pos e]
    exact key _ (by unfold qab; rw [if_pos e])
  · rw [if_neg e]
    exact key _ (by unfold qab; rw [if_neg e])
theorem l_find449 (hd : qdi c0 c1 c2 c3 c4 c5 c6) (hR : qRow M r) (hb : ∀ k, 0 ≤ k → k < 0 + (N : Int) → 0 ≤ bx k ∧ bx k < r 0) (hb2 : ∀ k, 0 ≤ k → k < 0 + (N2 : Int) → 0 ≤ bx2 k ∧ bx2 k < r 0) (hq : ∀ k, 0 ≤ k → k < 0 + (N2 : Int) → tm k = 0 ∨ tm k = 1) : ∀ (fu : Nat) (g : zSt) (m : Int), 0 ≤ m → m < r 0 → m.toNat < fu → qLw g c0 c1 c2 c3 r → qTr g c5 r W bx N W2 bx2 tm N2 m → ∃ g', fL_find_p449 fu g c0 c5 m = some g' ∧ qTr g' c5 r W bx N W2 bx2 tm N2 0 ∧ qfr (fun q => q = c5) g g' := by
  have h1 := hR.1
  intro fu
  induction fu with
  | zero => intro g m _ _ h; omega
  | succ fu ih =>
    intro g m h0 hm hf hL hT
    rw [fL_find_p449, ilt (by omega) (by omega)]
    by_cases e : 0 < m
    · have hx1 := (hR.2.2.2.1 m e hm).1
      have a0 := qab_r (r := r) (b := m) (t := 0) (Or.inl rfl)
      have a1 : qab r m 1 = 1 - qab r m 0 := by unfold qab; split <;> rfl
      have a00 := q01 a0
      rw [if_pos e, show zfu = 1997 + 1 + 1 + 1 from rfl, l_find457 hd hR hL ⟨e, hm⟩ (Or.inl rfl)]
      have f1 : qfr (fun q => q = c5) g (zwr g c5 (Int.toNat (2 * qB r m 0 + qab r m 0)) (g.1 c5 (Int.toNat (2 * qB r m 0 + qab r m 0)) + g.1 c5 (Int.toNat (2 * m + 0)))) := qfr.wr rfl
      rw [l_find457 hd hR (hL.k5 hd f1) ⟨e, hm⟩ (Or.inr (by omega)), fL_find_p457, ilt (by omega) (by omega), if_neg (by omega)]
      have r1 : ∀ i : Nat, (zwr g c5 (Int.toNat (2 * qB r m 0 + qab r m 0)) (g.1 c5 (Int.toNat (2 * qB r m 0 + qab r m 0)) + g.1 c5 (Int.toNat (2 * m + 0)))).1 c5 i = if i = Int.toNat (2 * qB r m 0 + qab r m 0) then g.1 c5 (Int.toNat (2 * qB r m 0 + qab r m 0)) + g.1 c5 (Int.toNat (2 * m + 0)) else g.1 c5 i := fun i => by simp only [zwr, true_and]
      generalize zwr g c5 (Int.toNat (2 * qB r m 0 + qab r m 0)) (g.1 c5 (Int.toNat (2 * qB r m 0 + qab r m 0)) + g.1 c5 (Int.toNat (2 * m + 0))) = g1 at f1 r1 ⊢
      have f2 : qfr (fun q => q = c5) g1 (zwr g1 c5 (Int.toNat (2 * qB r m 0 + qab r m (0 + 1))) (g1.1 c5 (Int.toNat (2 * qB r m 0 + qab r m (0 + 1))) + g1.1 c5 (Int.toNat (2 * m + (0 + 1))))) := qfr.wr rfl
      have r2 : ∀ i : Nat, (zwr g1 c5 (Int.toNat (2 * qB r m 0 + qab r m (0 + 1))) (g1.1 c5 (Int.toNat (2 * qB r m 0 + qab r m (0 + 1))) + g1.1 c5 (Int.toNat (2 * m + (0 + 1))))).1 c5 i = if i = Int.toNat (2 * qB r m 0 + qab r m (0 + 1)) then g1.1 c5 (Int.toNat (2 * qB r m 0 + qab r m (0 + 1))) + g1.1 c5 (Int.toNat (2 * m + (0 + 1))) else g1.1 c5 i := fun i => by simp only [zwr, true_and]
      generalize zwr g1 c5 (Int.toNat (2 * qB r m 0 + qab r m (0 + 1))) (g1.1 c5 (Int.toNat (2 * qB r m 0 + qab r m (0 + 1))) + g1.1 c5 (Int.toNat (2 * m + (0 + 1)))) = g2 at f2 r2 ⊢
      rw [show qab r m (0 + 1) = 1 - qab r m 0 from a1] at r2
      have hT2 : qTr g2 c5 r W bx N W2 bx2 tm N2 (m - 1) := by
        intro x t x0 x1 hxt
        have key : g2.1 c5 (Int.toNat (2 * x + t)) = g.1 c5 (Int.toNat (2 * x + t)) + (if x = qB r m 0 then g.1 c5 (Int.toNat (2 * m + qab r m t)) else 0) := by
          by_cases q : x = qB r m 0
          · rw [if_pos q, r2]
            rcases a0 with z | z
            · rw [z] at r1 r2 a1 ⊢
              rcases hxt with rfl | rfl
              · rw [if_neg (by omega), r1, if_pos (by omega), z, q]
              · rw [if_pos (by omega), r1, if_neg (by omega), r1, if_neg (by omega), a1, q]; rfl
            · rw [z] at r1 r2 a1 ⊢
              rcases hxt with rfl | rfl
              · rw [if_pos (by omega), r1, if_neg (by omega), r1, if_neg (by omega), z, q]; rfl
              · rw [if_neg (by omega), r1, if_pos (by omega), a1, q]; rfl
          · have hxt0 := q01 hxt
            rw [if_neg q, r2, if_neg (by omega), r1, if_neg (by omega), Int.add_zero]
        rw [key, qat_step hR ⟨e, hm⟩ ⟨x0, x1⟩ hb, qtt_step hR ⟨e, hm⟩ ⟨x0, x1⟩ hxt hb2 hq, hT x t x0 x1 hxt]
        by_cases q : x = qB r m 0
        · rw [if_pos q, if_pos q, if_pos q, hT m _ h0 hm (qab_r hxt)]
          omega
        · rw [if_neg q, if_neg q, if_neg q]
          omega
      obtain ⟨g', t1, t2, t3⟩ := ih g2 (m - 1) (by omega) (by omega) (by omega) (hL.k5 hd (f1.tr f2)) hT2
      exact ⟨g', t1, t2, (f1.tr f2).tr t3⟩
    · have e : m = 0 := by omega
      subst e
      rw [if_neg (by omega)]
      exact ⟨g, rfl, hT, qfr.rf⟩
end PLFIND3
