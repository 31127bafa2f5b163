section QCBEH
variable {g g' : zSt} {m b t x w k p u j a lo hi i v n M : Int} {r W bx W2 bx2 : Int → Int} {c s N N2 : Nat}
/-- the boxes behind a box -/
def qbh (r : Int → Int) (b : Int) : Int := qsum (fun j => if qrs r b j = b then 1 else 0) (b + 1) (r 0 - 1 - b).toNat
def qba (r : Int → Int) (m x : Int) : Int := qsum (fun j => if qrs r (if x ≤ m then m else x) j = x then 1 else 0) ((if x ≤ m then m else x) + 1) (r 0 - 1 - (if x ≤ m then m else x)).toNat
theorem qba_step (hR : qRow M r) (hm : 0 < m ∧ m < r 0) (hx : 0 ≤ x ∧ x < r 0) : qba r (m - 1) x = qba r m x + (if x = qB r m 0 then qba r m m + 1 else 0) := by
  have hxm := (hR.2.2.2.1 m hm.1 hm.2).1
  unfold qba
  by_cases e : x < m
  · rw [if_pos (show x ≤ m - 1 by omega), if_pos (show x ≤ m by omega), if_pos (show m ≤ m by omega)]
    rw [show (r 0 - 1 - (m - 1)).toNat = (r 0 - 1 - m).toNat + 1 by omega, qsum, show m - 1 + 1 = m by omega]
    have hs := qsum_step (W := fun _ => 1) (bx := fun j => j) (N := (r 0 - 1 - m).toNat) (lo := m + 1) hR hm ⟨hx.1, e⟩ (fun k h1 h2 => by omega)
    rw [hs, qrs_pred hR hm ⟨by omega, hm.2⟩, qrs_0 (x := m) (b := m) (by omega), if_pos rfl]
    by_cases q : x = qB r m 0
    · rw [if_pos q, if_pos q, if_pos q.symm]; omega
    · rw [if_neg q, if_neg q, if_neg (fun z => q z.symm)]; omega
  · rw [if_neg (show ¬ x ≤ m - 1 by omega), if_neg (show ¬ x = qB r m 0 by omega)]
    by_cases e2 : x = m
    · subst e2
      rw [if_pos (show x ≤ x by omega)]; omega
    · rw [if_neg (show ¬ x ≤ m by omega)]; omega
def qBo (g : zSt) (s : Nat) (r : Int → Int) (m : Int) : Prop := ∀ x, 0 ≤ x → x < r 0 → g.1 (s + 2) (Int.toNat x) = qba r m x
theorem k_behind_l (hR : qRow M r) (hsc : c + 15 ≤ s) : ∀ (fu : Nat) (g : zSt) (m : Int), 0 ≤ m → m < r 0 → m.toNat < fu → qShip g c r → qBo g s r m → ∃ g', fX6_followCables_p151 fu g s (c + 1) m = some g' ∧ qBo g' s r 0 ∧ qfr (fun q => q = s + 2) g g' := by
  have h1 := hR.1
  intro fu
  induction fu with
  | zero => intro g m _ _ h; omega
  | succ fu ih =>
    intro g m h0 hm hf hS hU
    rw [fX6_followCables_p151, ilt (by omega) (by omega)]
    by_cases e : 0 < m
    · have hx1 := (hR.2.2.2.1 m e hm).1
      have e0 : g.1 (c + 1 + 1) (Int.toNat m) = qB r m 0 := (hS.2.1 m e hm).1
      rw [if_pos e, zck_t (by omega), zlet_e, e0, zck_t (by omega), zck_t (by omega), zck_t (by omega), zlet_e]
      have f0 : qfr (fun q => q = s + 2) g (zwr g (s + 2) (Int.toNat (qB r m 0)) (g.1 (s + 2) (Int.toNat (qB r m 0)) + (g.1 (s + 2) (Int.toNat m) + 1))) := qfr.wr rfl
      generalize hg0 : zwr g (s + 2) (Int.toNat (qB r m 0)) (g.1 (s + 2) (Int.toNat (qB r m 0)) + (g.1 (s + 2) (Int.toNat m) + 1)) = g0 at f0 ⊢
      have r0 : ∀ i : Nat, g0.1 (s + 2) i = if i = Int.toNat (qB r m 0) then g.1 (s + 2) (Int.toNat (qB r m 0)) + (g.1 (s + 2) (Int.toNat m) + 1) else g.1 (s + 2) i := fun i => by rw [← hg0]; simp only [zwr, true_and]
      have hU2 : qBo g0 s r (m - 1) := by
        intro x x0 x1
        rw [qba_step hR ⟨e, hm⟩ ⟨x0, x1⟩, ← hU x x0 x1, ← hU m h0 hm, r0]
        by_cases q : x = qB r m 0
        · rw [if_pos (by omega), if_pos q, q]
        · rw [if_neg (by omega), if_neg q]; omega
      obtain ⟨g', t1, t2, t3⟩ := ih g0 (m + (-1)) (by omega) (by omega) (by omega) (hS.kept f0 (fun q a b => by omega)) hU2
      exact ⟨g', t1, t2, f0.tr t3⟩
    · have e : m = 0 := by omega
      subst e
      rw [if_neg (by omega)]
      exact ⟨g, rfl, hU, qfr.rf⟩
theorem qba_top (hx : x < r 0) (h1 : 1 ≤ r 0) : qba r (r 0 - 1) x = 0 := by
  unfold qba
  rw [if_pos (by omega), show (r 0 - 1 - (r 0 - 1)).toNat = 0 by omega]
  rfl
theorem qba_0 (hx : 0 ≤ x) : qba r 0 x = qbh r x := by
  unfold qba qbh
  by_cases e : x ≤ 0
  · rw [if_pos e, show x = 0 by omega]
  · rw [if_neg e]
/-- followCables: the ways up and the boxes behind -/
theorem k_follow (hR : qRow M r) (hsc : c + 15 ≤ s) (hS : qShip g c r) (hM : qMade g s) (hC : qCl g s (r 0)) : ∃ g', fX6_followCables g s (c + 1) = some g' ∧ qFo g' s r (r 0) ∧ (∀ x, 0 ≤ x → x < r 0 → g'.1 (s + 2) (Int.toNat x) = qbh r x) ∧ qfr (fun q => q = s + 1 ∨ q = s + 2 ∨ q = s + 3 ∨ q = s + 4 ∨ q = s + 5) g g' := by
  have h1 := hR.1
  obtain ⟨g1, t1, t2, t3⟩ := k_follow_l hR hsc zfu g 1 (by omega) (by omega) (by unfold zfu; omega) hS (qFo_1 hM)
  have hB : qBo g1 s r (r 0 - 1) := by
    intro x x0 x1
    rw [t3.1 _ _ (by omega), (hC x x0 x1).1, qba_top x1 (by omega)]
  obtain ⟨g2, u1, u2, u3⟩ := k_behind_l hR hsc zfu g1 (r 0 - 1) (by omega) (by omega) (by unfold zfu; omega) (hS.kept t3 (fun q a b => by omega)) hB
  refine ⟨g2, ?_, ?_, ?_, (t3.wk (fun q h => by omega)).tr (u3.wk (fun q h => by omega))⟩
  · unfold fX6_followCables
    rw [t1, u1]
  · intro b b0 b1
    have hb := t2 b b0 b1
    refine ⟨⟨?_, ?_⟩, fun t ht => ⟨?_, ?_⟩⟩
    · rw [u3.1 _ _ (by omega)]; exact hb.1.1
    · rw [u3.1 _ _ (by omega)]; exact hb.1.2
    · rw [u3.1 _ _ (by omega)]; exact (hb.2 t ht).1
    · rw [u3.1 _ _ (by omega)]; exact (hb.2 t ht).2
  · intro x x0 x1
    rw [u2 x x0 x1, qba_0 x0]
end QCBEH

