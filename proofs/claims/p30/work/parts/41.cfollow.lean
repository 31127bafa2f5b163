section QFOLLOW
variable {g g' : zSt} {m b t x w k p u j a lo hi i v n : Int} {r : Int → Int} {c s : Nat}
theorem qbi_n (x : Bool) : qbi (!x) = 0 ∨ qbi (!x) = 1 := qbi_r _
/-- what is known of the way up from the first k boxes -/
def qFo (g : zSt) (s : Nat) (r : Int → Int) (k : Int) : Prop := ∀ b, 0 ≤ b → b < k → (g.1 (s + 1) (Int.toNat b) = qdep r b ∧ g.1 (s + 3) (Int.toNat b) = qbi (!qsw r b)) ∧ ∀ t, (t = 0 ∨ t = 1) → g.1 (s + 4) (Int.toNat (2 * b + t)) = qbi (!qwh r b t) ∧ g.1 (s + 5) (Int.toNat (2 * b + t)) = qpol r b t
/-- a survey's entries of the switchboard, as they were made -/
def qMade (g : zSt) (s : Nat) : Prop := (g.1 (s + 1) 0 = 0 ∧ g.1 (s + 3) 0 = 0) ∧ (g.1 (s + 4) 0 = 0 ∧ g.1 (s + 4) 1 = 0) ∧ g.1 (s + 5) 0 = 0 ∧ g.1 (s + 5) 1 = 1
theorem qFo_1 (h : qMade g s) : qFo g s r 1 := by
  intro b b0 b1
  have : b = 0 := by omega
  subst this
  rw [qdep_0 (by omega), qsw_0 (by omega)]
  refine ⟨⟨h.1.1, h.1.2⟩, fun t ht => ?_⟩
  rw [qwh_0 (by omega), qpol_0 (by omega)]
  rcases ht with rfl | rfl
  · exact ⟨h.2.1.1, h.2.2.1⟩
  · exact ⟨h.2.1.2, h.2.2.2⟩
theorem k_conn (hS : qShip g c r) (hR : qRow m r) (hk : 0 < k ∧ k < r 0) : fX0_connected g (c + 1) k t = some (2 * qB r k 0 + qab r k t) := by
  have h1 := hR.1
  have e := hS.2.1 k hk.1 hk.2
  have hx := (hR.2.2.2.1 k hk.1 hk.2).2.1
  have e1 : g.1 (c + 1 + 1) (Int.toNat k) = qB r k 0 := e.1
  have e2 : g.1 (c + 1 + 2) (Int.toNat k) = qB r k 1 := e.2.1
  unfold fX0_connected qab
  rw [zck_t (by omega), zck_t (by omega), e1, e2, ieq (by omega) (by omega)]
  rcases hx with q | q
  · rw [if_pos q, if_neg (by omega)]
  · rw [if_neg (by omega), if_pos q]
theorem k_follow63 (hS : qShip g c r) (hR : qRow m r) (hk : 0 < k ∧ k < r 0) (ht : t = 0 ∨ t = 1) (hsc : c + 15 ≤ s) (hF : qFo g s r k) {k2 : zSt → Nat → Nat → Int → Option zSt} {fu : Nat} : fX6_followCables_p63 k2 (fu + 1) g s (c + 1) k t = fX6_followCables_p63 k2 fu (zwr (zwr g (s + 5) (Int.toNat (2 * k + t)) (qpol r k t)) (s + 4) (Int.toNat (2 * k + t)) (qbi (!qwh r k t))) s (c + 1) k (t + 1) := by
  have h1 := hR.1
  have hx := hR.2.2.2.1 k hk.1 hk.2
  have hx1 := hx.1
  have hq := qab_r (r := r) (b := k) ht
  have hu := (hF (qB r k 0) hx1.1 hx1.2).2 (qab r k t) hq
  have hb : g.1 (c + 1 + 5) (Int.toNat (2 * k + t)) = qB r k (5 + t) := (hS.2.2.1 k t hk.1 hk.2 ht).2
  have hbr : qB r k (5 + t) = 0 ∨ qB r k (5 + t) = 1 := by
    rcases ht with rfl | rfl
    · exact hx.2.2.2.2.2.1
    · exact hx.2.2.2.2.2.2
  rw [fX6_followCables_p63, ilt (by omega) (by omega), if_pos (by omega), zlet_e, k_conn hS hR hk, zbd_s, zck_t (by omega), zck_t (by omega), zlet_e, zck_t (by omega), hu.2, zwr_n (Or.inl (by omega)), hb, ieq (by omega) (by omega), zck_t (by omega), zwr_n (Or.inl (by omega)), hu.1, ib0, qpol_s ⟨hk.1, hx1.2⟩, qwh_s ⟨hk.1, hx1.2⟩]
  rcases hbr with q | q
  · rw [if_pos q, q]
    cases qwh r (qB r k 0) (qab r k t)
    · rw [if_pos (by decide), zck_t (by omega), qck_1, zlet_e]; rfl
    · rw [if_neg (by decide), zck_t (by omega), qck_0, zlet_e]; rfl
  · rw [if_neg (by omega), q, zck_t (by omega), qck_1, zlet_e]; rfl
/-- one box of the way: what it leaves -/
theorem qFo_s (hF : qFo g s r k) (hk : 0 ≤ k ∧ k < 12) : qFo (zwr (zwr (zwr (zwr (zwr (zwr g (s + 1) (Int.toNat k) (qdep r k)) (s + 3) (Int.toNat k) (qbi (!qsw r k))) (s + 5) (Int.toNat (2 * k + 0)) (qpol r k 0)) (s + 4) (Int.toNat (2 * k + 0)) (qbi (!qwh r k 0))) (s + 5) (Int.toNat (2 * k + (0 + 1))) (qpol r k 1)) (s + 4) (Int.toNat (2 * k + (0 + 1))) (qbi (!qwh r k 1))) s r (k + 1) := by
  intro b b0 b1
  by_cases eb : b < k
  · have hb := hF b b0 eb
    refine ⟨⟨?_, ?_⟩, fun t ht => ⟨?_, ?_⟩⟩
    · rw [← hb.1.1]
      simp only [zwr, true_and, and_true]
      repeat' split
      all_goals first | rfl | omega
    · rw [← hb.1.2]
      simp only [zwr, true_and, and_true]
      repeat' split
      all_goals first | rfl | omega
    · rw [← (hb.2 t ht).1]
      simp only [zwr, true_and, and_true]
      repeat' split
      all_goals first | rfl | omega
    · rw [← (hb.2 t ht).2]
      simp only [zwr, true_and, and_true]
      repeat' split
      all_goals first | rfl | omega
  · have eb : b = k := by omega
    subst eb
    refine ⟨⟨?_, ?_⟩, fun t ht => ?_⟩
    · rw [zwr_n (Or.inl (by omega)), zwr_n (Or.inl (by omega)), zwr_n (Or.inl (by omega)), zwr_n (Or.inl (by omega)), zwr_n (Or.inl (by omega)), zwr_e]
    · rw [zwr_n (Or.inl (by omega)), zwr_n (Or.inl (by omega)), zwr_n (Or.inl (by omega)), zwr_n (Or.inl (by omega)), zwr_e]
    · rcases ht with rfl | rfl
      · refine ⟨?_, ?_⟩
        · rw [zwr_n (Or.inr (by omega)), zwr_n (Or.inl (by omega)), zwr_e]
        · rw [zwr_n (Or.inl (by omega)), zwr_n (Or.inr (by omega)), zwr_n (Or.inl (by omega)), zwr_e]
      · refine ⟨zwr_e, ?_⟩
        rw [zwr_n (Or.inl (by omega))]
        exact zwr_e
end QFOLLOW

