section PLFIND4
variable {g g' : zSt} {m b t x w k p u n j a lo hi v M : Int} {r : Int → Int} {c0 c1 c2 c3 c4 c5 c6 N N2 : Nat}
theorem l_find13 : ∀ (fu : Nat) (g : zSt) (a : Int), 0 ≤ a → a ≤ 14 → (14 - a).toNat < fu → (∀ j, 0 ≤ j → j < a → g.1 c5 (Int.toNat j) = 0) → ∃ g', fL_find_p13 fu g c0 c1 c2 c3 c4 c5 c6 a = fL_find_p35 zfu g' c0 c1 c2 c3 c4 c5 c6 1 ∧ (∀ j, 0 ≤ j → j < 14 → g'.1 c5 (Int.toNat j) = 0) ∧ qfr (fun q => q = c5) g g' := by
  intro fu
  induction fu with
  | zero => intro g a _ _ h; omega
  | succ fu ih =>
    intro g a h0 hn hf hz
    rw [fL_find_p13, ilt (by omega) (by omega)]
    by_cases e : a < 14
    · rw [if_pos e, zck_t (by omega), zlet_e]
      have f1 : qfr (fun q => q = c5) g (zwr g c5 (Int.toNat a) 0) := qfr.wr rfl
      obtain ⟨g', t1, t2, t3⟩ := ih (zwr g c5 (Int.toNat a) 0) (a + 1) (by omega) (by omega) (by omega) (fun j j0 j1 => by
        by_cases q : j = a
        · rw [q, zwr_e]
        · rw [zwr_n (Or.inr (by omega))]; exact hz j j0 (by omega))
      exact ⟨g', t1, t2, f1.tr t3⟩
    · rw [if_neg e]
      exact ⟨g, rfl, fun j j0 j1 => hz j j0 (by omega), qfr.rf⟩
def qCu (g : zSt) (c5 : Nat) (r : Int → Int) : Prop := ∀ b t, 0 ≤ b → b < r 0 → (t = 0 ∨ t = 1) → g.1 c5 (Int.toNat (2 * b + t)) = qsum (qun r b) 0 (r 85).toNat + qsum (qfl r b t) 0 (r 134).toNat
theorem qCu.al (h : qCu g c5 r) (hb : 0 ≤ b ∧ b < r 0) (ht : t = 0 ∨ t = 1) (ha : qal r b t = true) : g.1 c5 (Int.toNat (2 * b + t)) = qcur r b t := by
  rw [h b t hb.1 hb.2 ht]
  unfold qcur
  rw [if_pos ha]
def qW1 (r : Int → Int) (k : Int) : Int := if qdk r k = 0 then qL r k 1 else 0
theorem l_find (hd : qdi c0 c1 c2 c3 c4 c5 c6) (hR : qRow m r) (hL : qLw g c0 c1 c2 c3 r) : ∃ g', fL_find g c0 c1 c2 c3 c4 c5 c6 = some g' ∧ qLi g' c4 r (r 0) ∧ qCu g' c5 r ∧ qFa g' c6 r (r 134) ∧ qfr (fun q => q = c4 ∨ q = c5 ∨ q = c6) g g' := by
  have h0 := hR.1
  have h1 := hR.2.1
  have h2 := hR.2.2.1
  have h7 := hL.2.1
  have d45 : c4 ≠ c5 := fun q => hd.2.1.2.2.2.2 q.symm
  unfold fL_find
  rw [zck_t (by omega), zlet_e, zck_t (by omega), zlet_e]
  have f1 : qfr (fun q => q = c4) g (zwr (zwr g c4 (Int.toNat 0) 2) c4 (Int.toNat 1) 3) := qfr.tr (P := fun q => q = c4) (qfr.wr rfl) (qfr.wr rfl)
  have v0 : (zwr (zwr g c4 (Int.toNat 0) 2) c4 (Int.toNat 1) 3).1 c4 (Int.toNat 0) = 2 := by rw [zwr_n (Or.inr (by decide)), zwr_e]
  have v1 : (zwr (zwr g c4 (Int.toNat 0) 2) c4 (Int.toNat 1) 3).1 c4 (Int.toNat 1) = 3 := zwr_e
  generalize zwr (zwr g c4 (Int.toNat 0) 2) c4 (Int.toNat 1) 3 = g1 at f1 v0 v1 ⊢
  obtain ⟨g2, a1, a2, a3⟩ := l_find13 (c0 := c0) (c1 := c1) (c2 := c2) (c3 := c3) (c4 := c4) (c5 := c5) (c6 := c6) zfu g1 0 (by omega) (by omega) (by unfold zfu; omega) (fun j j0 j1 => by omega)
  have hL2 := (hL.k4 hd f1).k5 hd a3
  have e0 : qlt r 0 0 = 2 := by unfold qlt qal; rw [qpol_0 (by omega), qsw_0 (by omega), qwh_0 (by omega)]; rfl
  have e1 : qlt r 0 1 = 3 := by unfold qlt qal; rw [qpol_0 (by omega), qsw_0 (by omega), qwh_0 (by omega)]; rfl
  have hI2 : qLi g2 c4 r 1 := fun x t x0 x1 ht => by
    have hx : x = 0 := by omega
    subst hx
    rw [a3.1 _ _ d45]
    rcases ht with rfl | rfl
    · rw [e0]; exact v0
    · rw [e1]; exact v1
  obtain ⟨g3, b1, b2, b3⟩ := l_find35 hd hR zfu g2 1 (by omega) h0.1 (by unfold zfu; omega) hL2 hI2
  have hL3 := hL2.k4 hd b3
  have hC3 : qCa g3 c5 r 0 := fun x t x0 x1 ht => by
    have ht0 := q01 ht
    rw [b3.1 _ _ (fun q => d45 q.symm), a2 _ (by omega) (by omega)]
    rfl
  obtain ⟨g4, s1, s2, s3⟩ := l_find170 hd hR zfu g3 0 (by omega) h1.1 (by unfold zfu; omega) hL3 b2 hC3
  have hL4 := hL3.k5 hd s3
  have hI4 := b2.k5 hd s3
  have hC4 : qCb g4 c5 r 0 := fun x t x0 x1 ht => by
    rw [s2 x t x0 x1 ht]
    exact (Int.add_zero _).symm
  obtain ⟨g5, t1, t2, t3, t4⟩ := l_find296 hd hR zfu g4 0 (by omega) h2.1 (by unfold zfu; omega) hL4 hI4 hC4 (fun j j0 j1 => by omega)
  have hL5 := hL4.k56 hd t4
  have hI5 := hI4.k56 hd t4
  have hbL : ∀ k, 0 ≤ k → k < 0 + ((r 85).toNat : Int) → 0 ≤ qL r k 0 ∧ qL r k 0 < r 0 := fun k k0 k1 => (hR.2.2.2.2.1 k k0 (by omega)).1
  have hbF : ∀ k, 0 ≤ k → k < 0 + ((r 134).toNat : Int) → 0 ≤ qF r k 0 ∧ qF r k 0 < r 0 := fun k k0 k1 => (hR.2.2.2.2.2.1 k k0 (by omega)).1
  have hqF : ∀ k, 0 ≤ k → k < 0 + ((r 134).toNat : Int) → qF r k 1 = 0 ∨ qF r k 1 = 1 := fun k k0 k1 => (hR.2.2.2.2.2.1 k k0 (by omega)).2.1
  have hT5 : qTr g5 c5 r (qW1 r) (fun k => qL r k 0) (r 85).toNat (qflow r) (fun k => qF r k 0) (fun k => qF r k 1) (r 134).toNat (r 0 - 1) := fun x t x0 x1 ht => by
    rw [t2 x t x0 x1 ht, qat_top x1 hbL, qtt_top x1 hbF]
    rfl
  obtain ⟨g6, u1, u2, u3⟩ := l_find449 hd hR hbL hbF hqF zfu g5 (r 0 - 1) (by omega) (by omega) (by unfold zfu; omega) hL5 hT5
  refine ⟨g6, ?_, hI5.k5 hd u3, fun x t x0 x1 ht => ?_, fun j j0 j1 => ?_, ?_⟩
  · rw [a1, b1, s1, ← qleft_0 (p := 0) hR]
    have q1 : qleft r 0 0 = qleft r 1 0 := (qleft_0 hR).trans (qleft_0 hR).symm
    have t1' := t1
    rw [← q1] at t1'
    rw [t1', u1]
  · rw [u2 x t x0 x1 ht, qat_0 x0, qtt_0 x0]
    congr 1
    refine qsum_congr _ 0 (fun k k0 k1 => ?_)
    unfold qun qW1
    by_cases z : qrs r x (qL r k 0) = x
    · by_cases z2 : qdk r k = 0
      · rw [if_pos z, if_pos z2, if_pos ⟨z2, z⟩]
      · rw [if_pos z, if_neg z2, if_neg (fun q => z2 q.1)]
    · rw [if_neg z, if_neg (fun q => z q.2)]
  · rw [u3.1 _ _ (fun q => hd.2.2.1.2.2.2.2.2 q)]
    exact t3 j j0 j1
  · exact ((((f1.wk (fun q h => Or.inl h)).tr (a3.wk (fun q h => Or.inr (Or.inl h)))).tr (b3.wk (fun q h => Or.inl h))).tr (s3.wk (fun q h => Or.inr (Or.inl h)))).tr ((t4.wk (fun q h => Or.inr h)).tr (u3.wk (fun q h => Or.inr (Or.inl h))))
end PLFIND4
