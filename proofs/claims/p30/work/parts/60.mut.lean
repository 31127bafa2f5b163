section QMUT
variable {g g' g1 g2 g3 g4 : zSt} {m b t x w k p u j a lo hi v M p1 p2 p3 p4 y : Int} {r r' re : Int → Int} {R : Nat → Int → Int} {c s d e N n L : Nat} {xs : Nat → Int32} {K : zSt → Int → Option Unit}
theorem k_saved (hR : qRow 8 r) (h : qCs g n R r) : ∃ g1, fX2_save g 10 = some g1 ∧ qCs g1 (qpn n) (qpush n R r) r ∧ qfc g g1 := by
  obtain ⟨g1, a1, a2, a3, a4⟩ := k_save hR h.1.1 h.2.2
  refine ⟨g1, a1, ⟨⟨qSh.cg h.1.1 (fun q k a b => a3 _ _ (by omega)), h.1.2.cg (fun q k a b => a3 _ _ (by omega))⟩, ⟨h.2.1.1.cg (fun q k a b => a3 _ _ (by omega)), h.2.1.2.cg (fun q k a b => a3 _ _ (by omega))⟩, a2⟩, ⟨fun c k z => a3 _ _ (by omega), a4⟩⟩
theorem k_mut {P : Nat → Prop} (h : qCs g1 n R r) (h0 : 1 ≤ r 0) (f : qfr P g1 g2) (hP : ∀ q, P q → 10 ≤ q ∧ q < 25) (hS : qShip g2 10 re) (hR : qRow 8 re) : ∃ g3, fX7_settle g2 10 200 = some ((qset 24 re 0).2, g3) ∧ qCs g3 n R (qset 24 re 0).1 ∧ qfc g1 g3 := by
  have hM : qMade g2 200 := (qMade_of h.1.2.1.1 h0).cg (fun q k a b => f.1 _ _ (fun z => by have := hP _ z; omega))
  obtain ⟨g3, a1, a2, a3, a4, a5⟩ := k_settle hR (by omega) hS hM
  have e : ∀ q k : Nat, ¬ (10 ≤ q ∧ q < 25) → ¬ (200 ≤ q ∧ q < 211) → g3.1 q k = g1.1 q k := fun q k z1 z2 => (a5.1 _ _ (by omega)).trans (f.1 _ _ (fun z => by have := hP _ z; omega))
  have e2 : g3.2 = g1.2 := a5.2.trans f.2
  exact ⟨g3, a1, ⟨⟨a2, a3⟩, ⟨h.2.1.1.cg (fun q k a b => e _ _ (by omega) (by omega)), h.2.1.2.cg (fun q k a b => e _ _ (by omega) (by omega))⟩, h.2.2.cg (fun q k a => e _ _ (by omega) (by omega)) (by rw [e2])⟩, ⟨fun c k z => e _ _ (by omega) (by omega), by rw [e2]⟩⟩
theorem zlc_s (q : Int64) : zlc q q = 0 := by
  unfold zlc lg_cmp
  rw [if_neg (by simp), if_pos rfl]
  rfl
end QMUT

