section QMUT
variable {g g' g1 g2 g3 g4 : zSt} {m b t x w k p u j a lo hi v M p1 p2 p3 p4 y : Int} {r r' re : Int → Int} {R : Nat → Int → Int} {c s d e N n L : Nat} {xs : Nat → Int32} {K : zSt → Int → Option Unit}
theorem k_saved (hR : qRow 8 r) (h : qCs g n R r) : ∃ g1, fX2_save g 10 = some g1 ∧ qCs g1 (qpn n) (qpush n R r) r ∧ qfc g g1 := by
  obtain ⟨g1, a1, a2, a3, a4⟩ := k_save hR h.1.1 h.2.2
  refine ⟨g1, a1, ⟨⟨qSh.cg h.1.1 (fun q k a b => a3 _ _ (by omega)), h.1.2.cg (fun q k a b => a3 _ _ (by omega))⟩, ⟨h.2.1.1.cg (fun q k a b => a3 _ _ (by omega)), h.2.1.2.cg (fun q k a b => a3 _ _ (by omega))⟩, a2⟩, ⟨fun c k z => a3 _ _ (by omega), a4⟩⟩
theorem k_mut {P : Nat → Prop} (h : qCs g1 n R r) (h0 : 1 ≤ r 0) (f : qfr P g1 g2) (hP : ∀ q, P q → 10 ≤ q ∧ q < 25) (hS : qShip g2 10 re) (hR : qRow 8 re) : ∃ g3, fX7_settle g2 10 200 = some ((qset 24 re 0).2, g3) ∧ qCs g3 n R (qset 24 re 0).1 ∧ qfc g1 g3 := by
  have hM : qMade g2 200 := (qMade_of h.1.2.1.1 h0).cg (fun q k a b => f.1 _ _ (fun z => by have := hP _ z; omega))
  obtain ⟨g3, a1, a2, a3, a4, a5⟩ := k_settle hR (by omega) hS hM
  have e : ∀ q k : Nat, ¬ (10 ≤ q ∧ q < 25) → ¬ (200 ≤ q ∧ q < 211) → g3.1 q k = g1.1 q k := fun q k z1 z2 => (a5.1 _ _ (by omega)).trans (f.1 _ _ (fun z => by have := hP _ z; omega))
  have e2 : g3.2 = g1.2 := a5.2.trans f.2
  exact ⟨g3, a1, ⟨⟨a2, a3⟩, ⟨h.2.1.1.cg (fun q k a b => e _ _ (by omega) (by omega)), h.2.1.2.cg (fun q k a b => e _ _ (by omega) (by omega))⟩, h.2.2.cg (fun q k a => e _ _ (by omega) (by omega)) (by rw [e2])⟩, ⟨fun c k z => e _ _ (by omega) (by omega), by rw [e2]⟩⟩
theorem m_saved (h : qMs g n R r) : ∃ g1, fX8_save g = some g1 ∧ qMs g1 (qpn n) (qpush n R r) r ∧ qfm g g1 ∧ g1.1 400 0 = g.1 400 0 := by
  have hr := h.1
  obtain ⟨g1, a1, a2, a3⟩ := m_save (by rw [hr]; exact h.2.1.2) h.2.2
  rw [hr] at a2
  exact ⟨g1, a1, ⟨by rw [a3.qr, hr], h.2.1, a2⟩, qfm.sk a3, a3.1 _ _ (by omega) (by omega)⟩
theorem m_mut (h : qMs g1 n R r) (f : qfr (fun q => q = 401) g1 g2) (he : qr g2 = re) (hR : qRow 8 re) (hE : qend re) : ∃ g3, fX8_settle g2 = some g3 ∧ qMs g3 n R (qset 24 re 0).1 ∧ qfm g1 g3 ∧ g3.1 400 6 = (qset 24 re 0).2 ∧ g3.1 400 7 = qnext re ∧ g3.1 400 0 = g1.1 400 0 := by
  obtain ⟨g3, a1, a2, a3, a4, a5, a6⟩ := m_settle (g := g2) (m := 8) (by rw [he]; exact hR)
  rw [he] at a2 a3 a4
  have hH : qHm g3 n R := h.2.2.cg ((a6.1 _ _ (by omega) (by omega)).trans (f.1 _ _ (by omega))) (fun k => (a6.1 _ _ (by omega) (by omega)).trans (f.1 _ _ (by omega)))
  refine ⟨g3, a1, ⟨a2, ⟨by rw [← a2]; exact a5, qset_end 24 re 0 hR hE⟩, hH⟩, (qfm.of f (fun q z => by omega)).tr (qfm.ke a6), a3, a4, (a6.1 _ _ (by omega) (by omega)).trans (f.1 _ _ (by omega))⟩
theorem zlc_s (q : Int64) : zlc q q = 0 := by
  unfold zlc lg_cmp
  rw [if_neg (by simp), if_pos rfl]
  rfl
/-- class and reference come to the same -/
def qOk (o1 : Option (Int × zSt)) (o2 : zSt → Option (Int × zSt)) : Prop := ∃ (e v : Int) (g2 g4 : zSt) (n : Nat) (R : Nat → Int → Int), o1 = some (e, g2) ∧ o2 g2 = some (v, g4) ∧ g4.1 400 0 = e ∧ (e = 0 → g4.2.2 1 = (i32 v).toInt64) ∧ (0 ≤ e ∧ e ≤ 3) ∧ qRel g4 n R
theorem qOk.go {o1 : Option (Int × zSt)} {o2 : zSt → Option (Int × zSt)} (h : qOk o1 o2) (hK : ∀ g n R, qRel g n R → K g x = some ()) : zbe o1 (fun v1 g2 => zbe (o2 g2) (fun v3 g4 => zbd (fX8_thrown g4) (fun v5 => (if i32 v5 = i32 v1 then (if i32 v1 = i32 0 then (if i32 (zlc (g4.2.2 1) ((i32 v3).toInt64)) = i32 0 then K g4 x else none) else K g4 x) else none)))) = some () := by
  obtain ⟨e, v, g2, g4, n, R, h1, h2, h3, h4, h5, h6⟩ := h
  rw [h1, zbe_s, h2, zbe_s]
  unfold fX8_thrown
  rw [h3, zbd_s, if_pos rfl, ieq (by omega) (by omega)]
  by_cases q : e = 0
  · rw [if_pos q, h4 q, zlc_s, if_pos rfl]
    exact hK g4 n R h6
  · rw [if_neg q]
    exact hK g4 n R h6
/-- both refuse -/
theorem qRel.ref {E : Int} {o1 : Option (Int × zSt)} {o2 : zSt → Option (Int × zSt)} (h : qRel g n R) (hE : 1 ≤ E ∧ E ≤ 3) (h1 : o1 = some (E, g)) (h2 : o2 g = some (0, zwr g 400 0 E)) : qOk o1 o2 := by
  have f : qfm g (zwr g 400 0 E) := qfm.wz (by decide)
  have e : qr (zwr g 400 0 E) = qr g := qr_oth (by decide)
  refine ⟨E, 0, g, _, n, R, h1, h2, zwr_e, fun z => by omega, by omega, ?_, ?_, ?_⟩
  · rw [e]; exact h.1.mf (fun c k q => f.1 c k q) rfl
  · rw [e]; exact ⟨e, h.2.1.2.1, h.2.1.2.2.cg (zwr_n (Or.inr (by decide))) (fun k => zwr_n (Or.inl (by decide)))⟩
  · exact h.2.2.cg (f.1 _ _ (by omega)) f.2.2.1 (fun k => f.1 _ _ (by omega)) f.2.1
/-- both answer -/
theorem qRel.ans {o1 : Option (Int × zSt)} {o2 : zSt → Option (Int × zSt)} {n' : Nat} {R' : Nat → Int → Int} (h : qRel g n R) (h1 : o1 = some (0, zwl g2 1 (i32 v).toInt64)) (hc : qCs g2 n' R' r) (f1 : qfc g g2) (h2 : ∀ g3, qMs g3 n R (qr g) → ∃ g4, o2 g3 = some (v, g4) ∧ qMs g4 n' R' r ∧ qfm g3 g4 ∧ g4.1 400 0 = 0) : qOk o1 o2 := by
  obtain ⟨g4, a1, a2, a3, a4⟩ := h2 (zwl g2 1 (i32 v).toInt64) (h.2.1.cf (fun c k q => f1.1 c k (Or.inl q)))
  refine ⟨0, v, _, g4, n', R', h1, a1, a4, fun _ => ?_, by omega, qRel.fin h.2.2 hc a2 f1 a3⟩
  rw [a3.2.2.2]
  rfl
theorem qMs.wz {z : Nat} (h : qMs g n R r) (hz : z ≠ 2) : qMs (zwr g 400 z v) n R r := ⟨(qr_oth (by decide)).trans h.1, h.2.1, h.2.2.cg (zwr_n (Or.inr (fun q => hz q.symm))) (fun k => zwr_n (Or.inl (by decide)))⟩
end QMUT
