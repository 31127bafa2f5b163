section QCSETTLE
variable {g g' : zSt} {m b t x w k p u j a lo hi i v n M : Int} {r r' W bx W2 bx2 : Int → Int} {c s N N2 : Nat}
/-- a ship agrees with a row, where it agrees with another in all that this one has -/
theorem qShip.mk (h0 : g.1 (c + 1) 0 = r 0) (hz : g.1 (c + 2) 0 = -1 ∧ (g.1 (c + 3) 0 = 0 ∨ g.1 (c + 3) 0 = 1) ∧ (g.1 (c + 4) 0 = 0 ∨ g.1 (c + 4) 0 = 1) ∧ (g.1 (c + 6) 0 = 0 ∨ g.1 (c + 6) 0 = 1) ∧ (g.1 (c + 6) 1 = 0 ∨ g.1 (c + 6) 1 = 1))
    (hb : ∀ b, 0 < b → b < r 0 → g.1 (c + 2) (Int.toNat b) = qB r b 0 ∧ g.1 (c + 3) (Int.toNat b) = qB r b 1 ∧ g.1 (c + 4) (Int.toNat b) = qB r b 2)
    (hf : ∀ b t, 0 < b → b < r 0 → (t = 0 ∨ t = 1) → g.1 (c + 5) (Int.toNat (2 * b + t)) = qB r b (3 + t) ∧ g.1 (c + 6) (Int.toNat (2 * b + t)) = qB r b (5 + t))
    (hl0 : g.1 (c + 7) 0 = r 85) (hl : ∀ k, 0 ≤ k → k < r 85 → g.1 (c + 8) (Int.toNat k) = qL r k 0 ∧ g.1 (c + 9) (Int.toNat k) = qL r k 1 ∧ g.1 (c + 10) (Int.toNat k) = qL r k 2)
    (hq0 : g.1 (c + 11) 0 = r 134) (hq : ∀ k, 0 ≤ k → k < r 134 → g.1 (c + 12) (Int.toNat k) = qF r k 0 ∧ g.1 (c + 13) (Int.toNat k) = qF r k 1 ∧ g.1 (c + 14) (Int.toNat k) = qF r k 2)
    (hi : g.1 c 3 = r 162 ∧ g.1 c 4 = r 163 ∧ g.1 c 5 = r 164 ∧ g.1 c 6 = r 165 ∧ g.1 c 7 = r 166) : qShip g c r := ⟨⟨h0, hz.1, hz.2.1, hz.2.2.1, hz.2.2.2.1, hz.2.2.2.2⟩, hb, hf, ⟨hl0, hl⟩, ⟨hq0, hq⟩, hi⟩
theorem qmark_L (hk : 2 ≤ k ∧ k < 24) (hj : 0 ≤ j) (hw : 0 ≤ w ∧ w < 3) (hj2 : j < 16) : qL (qmark r k) j w = qL r j w := qmark_o hk (by omega) (by omega)
theorem qmark_F (hk : 2 ≤ k ∧ k < 24) (hj : 0 ≤ j) (hw : 0 ≤ w ∧ w < 3) (hj2 : j < 9) : qF (qmark r k) j w = qF r j w := qmark_o hk (by omega) (by omega)
theorem k_mark (hR : qRow M r) (hS : qShip g c r) (hk : 2 ≤ k ∧ k < 2 * r 0) : qShip (zwr (zwr g (c + 6) (Int.toNat k) 1) c 4 ((zwr g (c + 6) (Int.toNat k) 1).1 c 4 + 1)) c (qmark r k) := by
  have h1 := hR.1
  have h2 := hR.2.1
  have h3 := hR.2.2.1
  have hk2 : 2 ≤ k ∧ k < 24 := by omega
  have o : ∀ j, 0 ≤ j ∧ j ≠ 163 → (j = 0 ∨ 85 ≤ j) → qmark r k j = r j := fun j a b => qmark_o hk2 a b
  have e0 := o 0 (by omega) (by omega)
  refine qShip.mk ?_ ⟨?_, ?_, ?_, ?_, ?_⟩ (fun b b0 b1 => ?_) (fun b t b0 b1 ht => ?_) ?_ (fun j j0 j1 => ?_) ?_ (fun j j0 j1 => ?_) ⟨?_, ?_, ?_, ?_, ?_⟩
  · rw [zwr_n (Or.inl (by omega)), zwr_n (Or.inl (by omega)), e0]; exact hS.1.1
  · rw [zwr_n (Or.inl (by omega)), zwr_n (Or.inl (by omega))]; exact hS.1.2.1
  · rw [zwr_n (Or.inl (by omega)), zwr_n (Or.inl (by omega))]; exact hS.1.2.2.1
  · rw [zwr_n (Or.inl (by omega)), zwr_n (Or.inl (by omega))]; exact hS.1.2.2.2.1
  · rw [zwr_n (Or.inl (by omega)), zwr_n (Or.inr (by omega))]; exact hS.1.2.2.2.2.1
  · rw [zwr_n (Or.inl (by omega)), zwr_n (Or.inr (by omega))]; exact hS.1.2.2.2.2.2
  · rw [e0] at b1
    rw [zwr_n (Or.inl (by omega)), zwr_n (Or.inl (by omega)), zwr_n (Or.inl (by omega)), zwr_n (Or.inl (by omega)), zwr_n (Or.inl (by omega)), zwr_n (Or.inl (by omega)), qmark_B hk2 (by omega) (by omega), if_neg (by omega), qmark_B hk2 (by omega) (by omega), if_neg (by omega), qmark_B hk2 (by omega) (by omega), if_neg (by omega)]
    exact hS.2.1 b b0 b1
  · rw [e0] at b1
    have hb := hS.2.2.1 b t b0 b1 ht
    rw [qmark_B hk2 (by omega) (by omega), if_neg (by omega), qmark_B hk2 (by omega) (by omega), zwr_n (Or.inl (by omega)), zwr_n (Or.inl (by omega)), zwr_n (Or.inl (by omega))]
    refine ⟨hb.1, ?_⟩
    by_cases e : k = 2 * b + t
    · rw [if_pos (by omega), e, zwr_e]
    · rw [if_neg (by omega), zwr_n (Or.inr (by omega))]; exact hb.2
  · rw [zwr_n (Or.inl (by omega)), zwr_n (Or.inl (by omega)), o 85 (by omega) (by omega)]; exact hS.2.2.2.1.1
  · rw [o 85 (by omega) (by omega)] at j1
    rw [zwr_n (Or.inl (by omega)), zwr_n (Or.inl (by omega)), zwr_n (Or.inl (by omega)), zwr_n (Or.inl (by omega)), zwr_n (Or.inl (by omega)), zwr_n (Or.inl (by omega)), qmark_L hk2 j0 (by omega) (by omega), qmark_L hk2 j0 (by omega) (by omega), qmark_L hk2 j0 (by omega) (by omega)]
    exact hS.2.2.2.1.2 j j0 j1
  · rw [zwr_n (Or.inl (by omega)), zwr_n (Or.inl (by omega)), o 134 (by omega) (by omega)]; exact hS.2.2.2.2.1.1
  · rw [o 134 (by omega) (by omega)] at j1
    rw [zwr_n (Or.inl (by omega)), zwr_n (Or.inl (by omega)), zwr_n (Or.inl (by omega)), zwr_n (Or.inl (by omega)), zwr_n (Or.inl (by omega)), zwr_n (Or.inl (by omega)), qmark_F hk2 j0 (by omega) (by omega), qmark_F hk2 j0 (by omega) (by omega), qmark_F hk2 j0 (by omega) (by omega)]
    exact hS.2.2.2.2.1.2 j j0 j1
  · rw [zwr_n (Or.inr (by omega)), zwr_n (Or.inl (by omega)), o 162 (by omega) (by omega)]; exact hS.2.2.2.2.2.1
  · rw [zwr_e, zwr_n (Or.inl (by omega)), qmark_163, hS.2.2.2.2.2.2.1]
  · rw [zwr_n (Or.inr (by omega)), zwr_n (Or.inl (by omega)), o 164 (by omega) (by omega)]; exact hS.2.2.2.2.2.2.2.1
  · rw [zwr_n (Or.inr (by omega)), zwr_n (Or.inl (by omega)), o 165 (by omega) (by omega)]; exact hS.2.2.2.2.2.2.2.2.1
  · rw [zwr_n (Or.inr (by omega)), zwr_n (Or.inl (by omega)), o 166 (by omega) (by omega)]; exact hS.2.2.2.2.2.2.2.2.2
theorem k_settle_l (hsc : c + 15 ≤ s) : ∀ (fu : Nat) (g : zSt) (r : Int → Int) (a : Int), qRow M r → (qms r).toNat < fu → 0 ≤ a → a ≤ 22 - qms r → qShip g c r → qSv g s r → ∃ g', fX7_settle_p7 fu g c s a = some ((qset fu r a).2, g') ∧ qShip g' c (qset fu r a).1 ∧ qSv g' s (qset fu r a).1 ∧ qRow M (qset fu r a).1 ∧ qfr (fun q => q = c ∨ q = c + 6 ∨ (s ≤ q ∧ q < s + 11)) g g' := by
  intro fu
  induction fu with
  | zero => intro g r a _ h; omega
  | succ fu ih =>
    intro g r a hR hf h0 ha hS hV
    have h1 := hR.1
    have hnr := qnext_r hR
    have hms := qms_r hR
    rw [fX7_settle_p7, ilt (by omega) (by omega), if_pos (by omega), k_ftb hR hS hV, zbd_s, ieq (by omega) (by omega), qset]
    by_cases e : qnext r = -1
    · rw [if_pos e, if_pos e]
      exact ⟨g, rfl, hS, hV, hR, qfr.rf⟩
    · rw [if_neg e, if_neg e]
      have hk := hnr.resolve_left e
      have hms2 := qms_mark hR hk.1 hk.2
      have hR2 := qmark_row hR hk.1
      have hms3 := qms_r hR2
      have hS2 := k_mark hR hS hk.1
      have f2 : qfr (fun q => q = c ∨ q = c + 6) g (zwr (zwr g (c + 6) (Int.toNat (qnext r)) 1) c 4 ((zwr g (c + 6) (Int.toNat (qnext r)) 1).1 c 4 + 1)) := (qfr.wr (by omega)).tr (qfr.wr (by omega))
      have hM : qMade (zwr (zwr g (c + 6) (Int.toNat (qnext r)) 1) c 4 ((zwr g (c + 6) (Int.toNat (qnext r)) 1).1 c 4 + 1)) s := qMade_of (hV.1.1.kept f2 (by omega)) h1.1
      obtain ⟨g4, t1, t2, t3⟩ := k_take hR2 hsc hS2 hM
      have hS4 := hS2.kept t3 (fun q a b => by omega)
      obtain ⟨g', u1, u2, u3, u4, u5⟩ := ih g4 _ (a + 1) hR2 (by omega) (by omega) (by omega) hS4 t2
      refine ⟨g', ?_, u2, u3, u4, ((f2.wk (fun q h => by omega)).tr (t3.wk (fun q h => by omega))).tr u5⟩
      rw [zck_t (by omega), qck_1, zlet_e, zlet_e, t1, zbd_s]
      exact u1
theorem k_settle (hR : qRow M r) (hsc : c + 15 ≤ s) (hS : qShip g c r) (hM : qMade g s) : ∃ g', fX7_settle g c s = some ((qset 24 r 0).2, g') ∧ qShip g' c (qset 24 r 0).1 ∧ qSv g' s (qset 24 r 0).1 ∧ qRow M (qset 24 r 0).1 ∧ qfr (fun q => q = c ∨ q = c + 6 ∨ (s ≤ q ∧ q < s + 11)) g g' := by
  have hms := qms_r hR
  obtain ⟨g4, t1, t2, t3⟩ := k_take hR hsc hS hM
  obtain ⟨g', u1, u2, u3, u4, u5⟩ := k_settle_l hsc zfu g4 r 0 hR (by unfold zfu; omega) (by omega) (by omega) (hS.kept t3 (fun q a b => by omega)) t2
  rw [qset_fu zfu 24 r 0 hR (by unfold zfu; omega) (by omega)] at u1 u2 u3 u4
  refine ⟨g', ?_, u2, u3, u4, (t3.wk (fun q h => by omega)).tr u5⟩
  unfold fX7_settle
  rw [t1, zbd_s]
  exact u1
theorem qset_o (hj : j = 0 ∨ (85 ≤ j ∧ j ≠ 163)) : ∀ (f : Nat) (r : Int → Int) (a : Int), qRow M r → (qset f r a).1 j = r j := by
  intro f
  induction f with
  | zero => intro r a _; rfl
  | succ f ih =>
    intro r a hR
    rw [qset]
    by_cases e : qnext r = -1
    · rw [if_pos e]
    · have h1 := hR.1
      have hk := (qnext_r hR).resolve_left e
      rw [if_neg e, ih _ _ (qmark_row hR hk.1)]
      exact qmark_o (by omega) (by omega) (by omega)
theorem qset_B (hb : 0 ≤ b ∧ b < 12) (hw : 0 ≤ w ∧ w < 5) : ∀ (f : Nat) (r : Int → Int) (a : Int), qRow M r → qB (qset f r a).1 b w = qB r b w := by
  intro f
  induction f with
  | zero => intro r a _; rfl
  | succ f ih =>
    intro r a hR
    rw [qset]
    by_cases e : qnext r = -1
    · rw [if_pos e]
    · have h1 := hR.1
      have hk := (qnext_r hR).resolve_left e
      rw [if_neg e, ih _ _ (qmark_row hR hk.1), qmark_B (by omega) hb (by omega), if_neg (by omega)]
/-- nothing beyond a row's room is ever there -/
def qend (r : Int → Int) : Prop := ∀ j : Int, 168 ≤ j.toNat → r j = 0
theorem qput_end (h : qend r) (hi : i.toNat < 168) : qend (qput r i v) := fun j hj => by rw [qput_n (by omega)]; exact h j hj
theorem qset_end : ∀ (f : Nat) (r : Int → Int) (a : Int), qRow M r → qend r → qend (qset f r a).1 := by
  intro f
  induction f with
  | zero => intro r a _ h; exact h
  | succ f ih =>
    intro r a hR h
    rw [qset]
    by_cases e : qnext r = -1
    · rw [if_pos e]; exact h
    · have h1 := hR.1
      have hk := (qnext_r hR).resolve_left e
      rw [if_neg e]
      exact ih _ _ (qmark_row hR hk.1) (qput_end (qput_end h (by omega)) (by decide))
end QCSETTLE

