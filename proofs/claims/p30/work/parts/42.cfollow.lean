section QFOLLOW2
variable {g g' : zSt} {m b t x w k p u j a lo hi i v n : Int} {r : Int → Int} {c s : Nat}
theorem k_follow_l (hR : qRow m r) (hsc : c + 15 ≤ s) : ∀ (fu : Nat) (g : zSt) (k : Int), 1 ≤ k → k ≤ r 0 → (r 0 - k).toNat < fu → qShip g c r → qFo g s r k → ∃ g', fX6_followCables_p2 fu g s (c + 1) k = fX6_followCables_p151 zfu g' s (c + 1) (r 0 - 1) ∧ qFo g' s r (r 0) ∧ qfr (fun q => q = s + 1 ∨ q = s + 3 ∨ q = s + 4 ∨ q = s + 5) g g' := by
  have h1 := hR.1
  intro fu
  induction fu with
  | zero => intro g k _ _ h; omega
  | succ fu ih =>
    intro g k h0 hk hf hS hF
    rw [fX6_followCables_p2, hS.1.1, ilt (by omega) (by omega)]
    by_cases e : k < r 0
    · have hx := hR.2.2.2.1 k (by omega) e
      have hx1 := hx.1
      have hx3 := hx.2.2.1
      have ek := hS.2.1 k (by omega) e
      have e0 : g.1 (c + 1 + 1) (Int.toNat k) = qB r k 0 := ek.1
      have e2 : g.1 (c + 1 + 3) (Int.toNat k) = qB r k 2 := ek.2.2
      have hu := (hF (qB r k 0) hx1.1 hx1.2).1
      have hd : qdep r (qB r k 0) + 1 = qdep r k := (qdep_s ⟨by omega, hx1.2⟩).symm
      have hw : qsw r k = (decide (qB r k 2 = 1) && qsw r (qB r k 0)) := qsw_s ⟨by omega, hx1.2⟩
      rw [if_pos e, zck_t (by omega), zlet_e, e0, zck_t (by omega), zck_t (by omega), zlet_e, zck_t (by omega), hu.1, hd, zwr_n (Or.inl (by omega)), e2, ieq (by omega) (by omega), zck_t (by omega), zwr_n (Or.inl (by omega)), hu.2, ib0]
      have body : ∀ v : Int, v = qbi (!qsw r k) → ∃ g', fX6_followCables_p63 (fX6_followCables_p2 fu) zfu (zwr (zwr g (s + 1) (Int.toNat k) (qdep r k)) (s + 3) (Int.toNat k) v) s (c + 1) k 0 = fX6_followCables_p151 zfu g' s (c + 1) (r 0 - 1) ∧ qFo g' s r (r 0) ∧ qfr (fun q => q = s + 1 ∨ q = s + 3 ∨ q = s + 4 ∨ q = s + 5) g g' := by
        intro v hv
        subst hv
        have f1 : qfr (fun q => q = s + 1 ∨ q = s + 3) g (zwr (zwr g (s + 1) (Int.toNat k) (qdep r k)) (s + 3) (Int.toNat k) (qbi (!qsw r k))) := (qfr.wr (by omega)).tr (qfr.wr (by omega))
        have s1 := hS.kept f1 (fun q a b => by omega)
        have F1 : qFo (zwr (zwr g (s + 1) (Int.toNat k) (qdep r k)) (s + 3) (Int.toNat k) (qbi (!qsw r k))) s r k := by
          intro b b0 b1
          have hb := hF b b0 b1
          refine ⟨⟨?_, ?_⟩, fun t ht => ⟨?_, ?_⟩⟩
          · rw [zwr_n (Or.inl (by omega)), zwr_n (Or.inr (by omega))]; exact hb.1.1
          · rw [zwr_n (Or.inr (by omega)), zwr_n (Or.inl (by omega))]; exact hb.1.2
          · rw [zwr_n (Or.inl (by omega)), zwr_n (Or.inl (by omega))]; exact (hb.2 t ht).1
          · rw [zwr_n (Or.inl (by omega)), zwr_n (Or.inl (by omega))]; exact (hb.2 t ht).2
        rw [show zfu = 1997 + 1 + 1 + 1 from rfl, k_follow63 s1 hR ⟨by omega, e⟩ (Or.inl rfl) hsc F1]
        have f2 := f1.wk (Q := fun q => q = s + 1 ∨ q = s + 3 ∨ q = s + 4 ∨ q = s + 5) (fun q h => by omega)
        have f3 := f2.tr ((qfr.wr (c := s + 5) (k := Int.toNat (2 * k + 0)) (v := qpol r k 0) (by omega)).tr (qfr.wr (c := s + 4) (k := Int.toNat (2 * k + 0)) (v := qbi (!qwh r k 0)) (by omega)))
        have s2 := hS.kept f3 (fun q a b => by omega)
        have F2 : qFo (zwr (zwr (zwr (zwr g (s + 1) (Int.toNat k) (qdep r k)) (s + 3) (Int.toNat k) (qbi (!qsw r k))) (s + 5) (Int.toNat (2 * k + 0)) (qpol r k 0)) (s + 4) (Int.toNat (2 * k + 0)) (qbi (!qwh r k 0))) s r k := by
          intro b b0 b1
          have hb := F1 b b0 b1
          refine ⟨⟨?_, ?_⟩, fun t ht => ⟨?_, ?_⟩⟩
          · rw [zwr_n (Or.inl (by omega)), zwr_n (Or.inl (by omega))]; exact hb.1.1
          · rw [zwr_n (Or.inl (by omega)), zwr_n (Or.inl (by omega))]; exact hb.1.2
          · rw [zwr_n (Or.inr (by omega)), zwr_n (Or.inl (by omega))]; exact (hb.2 t ht).1
          · rw [zwr_n (Or.inl (by omega)), zwr_n (Or.inr (by omega))]; exact (hb.2 t ht).2
        rw [k_follow63 s2 hR ⟨by omega, e⟩ (Or.inr (by omega)) hsc F2, fX6_followCables_p63, ilt (by omega) (by omega), if_neg (by omega)]
        have f4 := f3.tr ((qfr.wr (c := s + 5) (k := Int.toNat (2 * k + (0 + 1))) (v := qpol r k (0 + 1)) (by omega)).tr (qfr.wr (c := s + 4) (k := Int.toNat (2 * k + (0 + 1))) (v := qbi (!qwh r k (0 + 1))) (by omega)))
        obtain ⟨g', t1, t2, t3⟩ := ih _ (k + 1) (by omega) (by omega) (by omega) (hS.kept f4 (fun q a b => by omega)) (qFo_s hF ⟨by omega, by omega⟩)
        exact ⟨g', t1, t2, f4.tr t3⟩
      rcases hx3 with q | q
      · rw [if_pos q, qck_1, zlet_e]
        exact body 1 (by rw [hw, q]; rfl)
      · rw [if_neg (by omega)]
        cases hq : qsw r (qB r k 0)
        · rw [zck_t (by omega), if_pos (by decide), qck_1, zlet_e]
          exact body 1 (by rw [hw, q, hq]; rfl)
        · rw [zck_t (by omega), if_neg (by decide), zck_t (by omega), qck_0, zlet_e]
          exact body 0 (by rw [hw, q, hq]; rfl)
    · have e : k = r 0 := by omega
      rw [if_neg (by omega), zlet_e]
      subst e
      exact ⟨g, rfl, hF, qfr.rf⟩
end QFOLLOW2

