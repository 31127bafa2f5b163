section QCHIST
variable {g g' : zSt} {m b t x w k p u j a lo hi v M : Int} {r r' : Int → Int} {R : Nat → Int → Int} {c s d e N n : Nat}
/-- the saved states of the class: n of them, the rows R -/
def qHc (g : zSt) (n : Nat) (R : Nat → Int → Int) : Prop := (n ≤ 6 ∧ g.1 300 0 = n) ∧ (∀ i : Nat, i < 6 → ∃ j : Nat, j < 6 ∧ g.2.1 i = 50 + 20 * j) ∧ (∀ i j : Nat, i < 6 → j < 6 → g.2.1 i = g.2.1 j → i = j) ∧ (∀ i : Nat, i < n → qShip g (g.2.1 i) (R i) ∧ qRow 8 (R i))
def qpush (n : Nat) (R : Nat → Int → Int) (r : Int → Int) : Nat → Int → Int := fun i => if n = 6 then (if i = 5 then r else R (i + 1)) else if i = n then r else R i
def qpn (n : Nat) : Nat := if n = 6 then 6 else n + 1
theorem zK6 {j : Nat} (h : j < 6) : zK (50 + 20 * j) = 6 := by
  have : j = 0 ∨ j = 1 ∨ j = 2 ∨ j = 3 ∨ j = 4 ∨ j = 5 := by omega
  rcases this with rfl | rfl | rfl | rfl | rfl | rfl <;> rfl
theorem qHc.kept {P : Nat → Prop} (h : qHc g n R) (f : qfr P g g') (hP : ∀ q, P q → q < 50 ∨ (200 ≤ q ∧ q ≠ 300)) : qHc g' n R := by
  have e2 : g'.2.1 = g.2.1 := by rw [f.2]
  unfold qHc
  rw [e2, f.1 300 _ (fun z => by have := hP _ z; omega)]
  refine ⟨h.1, h.2.1, h.2.2.1, fun i hi => ?_⟩
  obtain ⟨j, hj, ej⟩ := h.2.1 i (by have := h.1.1; omega)
  have := h.2.2.2 i hi
  refine ⟨this.1.kept f (fun q a b z => ?_), this.2⟩
  have := hP q z
  omega
theorem k_drop_l (g : zSt) (c0 : Nat) (hp : ∀ i : Nat, i < 6 → ∃ j : Nat, j < 6 ∧ g.2.1 i = 50 + 20 * j) : ∃ g', fX2_dropOldest_p9 (1994 + 1 + 1 + 1 + 1 + 1 + 1) g c0 0 = some g' ∧ g'.1 = (zwr g 300 0 5).1 ∧ g'.2.2 = g.2.2 ∧ (∀ i : Nat, i < 5 → g'.2.1 i = g.2.1 (i + 1)) ∧ g'.2.1 5 = c0 := by
  have hz : ∀ i : Nat, i < 6 → zK (g.2.1 i) = 6 := by
    intro i hi
    obtain ⟨j, hj, ej⟩ := hp i hi
    rw [ej]; exact zK6 hj
  have z1 := hz 1 (by omega)
  have z2 := hz 2 (by omega)
  have z3 := hz 3 (by omega)
  have z4 := hz 4 (by omega)
  have z5 := hz 5 (by omega)
  let g1 := zws g 0 (g.2.1 1)
  let g2 := zws g1 1 (g.2.1 2)
  let g3 := zws g2 2 (g.2.1 3)
  let g4 := zws g3 3 (g.2.1 4)
  let g5 := zws g4 4 (g.2.1 5)
  let g6 := zws g5 5 c0
  have e1 : fX2_dropOldest_p9 (1994 + 1 + 1 + 1 + 1 + 1 + 1) g c0 0 = fX2_dropOldest_p9 (1994 + 1 + 1 + 1 + 1 + 1) g1 c0 1 := by
    rw [fX2_dropOldest_p9, ilt (by omega) (by omega), if_pos (by omega), zck_t (by omega), zck_t (show zK (g.2.1 (Int.toNat (0 + 1))) = 6 from z1), zlet_e, zck_t (by omega), zlet_e]
    rfl
  have e2 : fX2_dropOldest_p9 (1994 + 1 + 1 + 1 + 1 + 1) g1 c0 1 = fX2_dropOldest_p9 (1994 + 1 + 1 + 1 + 1) g2 c0 2 := by
    rw [fX2_dropOldest_p9, ilt (by omega) (by omega), if_pos (by omega), zck_t (by omega), zck_t (show zK (g1.2.1 (Int.toNat (1 + 1))) = 6 from z2), zlet_e, zck_t (by omega), zlet_e]
    rfl
  have e3 : fX2_dropOldest_p9 (1994 + 1 + 1 + 1 + 1) g2 c0 2 = fX2_dropOldest_p9 (1994 + 1 + 1 + 1) g3 c0 3 := by
    rw [fX2_dropOldest_p9, ilt (by omega) (by omega), if_pos (by omega), zck_t (by omega), zck_t (show zK (g2.2.1 (Int.toNat (2 + 1))) = 6 from z3), zlet_e, zck_t (by omega), zlet_e]
    rfl
  have e4 : fX2_dropOldest_p9 (1994 + 1 + 1 + 1) g3 c0 3 = fX2_dropOldest_p9 (1994 + 1 + 1) g4 c0 4 := by
    rw [fX2_dropOldest_p9, ilt (by omega) (by omega), if_pos (by omega), zck_t (by omega), zck_t (show zK (g3.2.1 (Int.toNat (3 + 1))) = 6 from z4), zlet_e, zck_t (by omega), zlet_e]
    rfl
  have e5 : fX2_dropOldest_p9 (1994 + 1 + 1) g4 c0 4 = fX2_dropOldest_p9 (1994 + 1) g5 c0 5 := by
    rw [fX2_dropOldest_p9, ilt (by omega) (by omega), if_pos (by omega), zck_t (by omega), zck_t (show zK (g4.2.1 (Int.toNat (4 + 1))) = 6 from z5), zlet_e, zck_t (by omega), zlet_e]
    rfl
  have e6 : fX2_dropOldest_p9 (1994 + 1) g5 c0 5 = some (zwr g6 300 0 5) := by
    rw [fX2_dropOldest_p9, ilt (by omega) (by omega), if_neg (by omega), zck_t (by omega), zlet_e, zlet_e]
    rfl
  refine ⟨zwr g6 300 0 5, by rw [e1, e2, e3, e4, e5, e6], rfl, rfl, fun i hi => ?_, rfl⟩
  have : i = 0 ∨ i = 1 ∨ i = 2 ∨ i = 3 ∨ i = 4 := by omega
  rcases this with rfl | rfl | rfl | rfl | rfl <;> rfl
theorem k_save13 (hR : qRow 8 r) (hS : qShip g 10 r) (hn : n < 6) (h3 : g.1 300 0 = n) (hp : ∀ i : Nat, i < 6 → ∃ j : Nat, j < 6 ∧ g.2.1 i = 50 + 20 * j) (hi : ∀ i j : Nat, i < 6 → j < 6 → g.2.1 i = g.2.1 j → i = j) (hs : ∀ i : Nat, i < n → qShip g (g.2.1 i) (R i) ∧ qRow 8 (R i)) : ∃ g', fX2_save_p13 g 10 = some g' ∧ qHc g' (n + 1) (fun i => if i = n then r else R i) ∧ qfr (fun q => (50 ≤ q ∧ q < 170) ∨ q = 300) g g' := by
  obtain ⟨j, hj, ej⟩ := hp n hn
  have hn2 : Int.toNat (n : Int) = n := by omega
  obtain ⟨g1, t1, t2, t3⟩ := k_copy (c := g.2.1 n) hR hS (by omega)
  have f1 : qfr (fun q => q = 300) g1 (zwr g1 300 0 (g1.1 300 0 + 1)) := qfr.wr rfl
  refine ⟨zwr g1 300 0 (g1.1 300 0 + 1), ?_, ?_, ?_⟩
  · unfold fX2_save_p13
    rw [h3, hn2, zck_t (by omega), zck_t (by rw [ej]; exact zK6 hj), zlet_e, t1, zbd_s, zlet_e]
  · have e2 : (zwr g1 300 0 (g1.1 300 0 + 1)).2.1 = g.2.1 := by rw [f1.2, t3.2]
    refine ⟨⟨by omega, ?_⟩, ?_, ?_, fun i hin => ?_⟩
    · rw [zwr_e, t3.1 _ _ (by omega), h3]; omega
    · rw [e2]; exact hp
    · rw [e2]; exact hi
    · rw [e2]
      by_cases q : i = n
      · subst q
        simp only [if_true]
        exact ⟨t2.kept f1 (fun z a b => by omega), hR⟩
      · simp only [if_neg q]
        obtain ⟨j2, hj2, ej2⟩ := hp i (by omega)
        have hne : g.2.1 i ≠ g.2.1 n := fun z => q (hi i n (by omega) hn z)
        have hh := hs i (by omega)
        have hjj : j ≠ j2 := fun z => hne (by rw [ej, ej2, z])
        exact ⟨(hh.1.kept t3 (fun z a b => by omega)).kept f1 (fun z a b => by omega), hh.2⟩
  · exact (t3.wk (fun q h => by omega)).tr (f1.wk (fun q h => by omega))
/-- saving: what is left is the pushed history -/
theorem k_save (hR : qRow 8 r) (hS : qShip g 10 r) (hH : qHc g n R) : ∃ g', fX2_save g 10 = some g' ∧ qHc g' (qpn n) (qpush n R r) ∧ (∀ c k : Nat, ¬ ((50 ≤ c ∧ c < 170) ∨ c = 300) → g'.1 c k = g.1 c k) ∧ g'.2.2 = g.2.2 := by
  have hn := hH.1.1
  unfold fX2_save
  rw [hH.1.2, ilt (by omega) (by omega)]
  by_cases e : n = 6
  · subst e
    rw [if_neg (by omega)]
    obtain ⟨j0, hj0, ej0⟩ := hH.2.1 0 (by omega)
    obtain ⟨gd, a1, a2, a3, a4, a5⟩ := k_drop_l g (g.2.1 0) hH.2.1
    have hd : fX2_dropOldest g = some gd := by
      unfold fX2_dropOldest
      rw [zck_t (by omega), zck_t (show zK (g.2.1 (Int.toNat 0)) = 6 by show zK (g.2.1 0) = 6; rw [ej0]; exact zK6 hj0), zlet_e]
      exact a1
    have fc : ∀ c k : Nat, c ≠ 300 → gd.1 c k = g.1 c k := fun c k h => by rw [a2, zwr_n (Or.inl h)]
    have ep : ∀ i : Nat, i < 6 → gd.2.1 i = g.2.1 (if i = 5 then 0 else i + 1) := by
      intro i hi
      by_cases q : i = 5
      · rw [q, a5, if_pos rfl]
      · rw [if_neg q, a4 i (by omega)]
    have sh : ∀ (q : Nat) (r : Int → Int), q + 15 ≤ 300 → qShip g q r → qShip gd q r := by
      intro q r hq hs
      have e : ∀ d k : Nat, d < 15 → gd.1 (q + d) k = g.1 (q + d) k := fun d k hd => fc _ _ (by omega)
      have e0 : ∀ k : Nat, gd.1 q k = g.1 q k := fun k => e 0 k (by omega)
      unfold qShip at hs ⊢
      simp only [e 1 _ (by omega), e 2 _ (by omega), e 3 _ (by omega), e 4 _ (by omega), e 5 _ (by omega), e 6 _ (by omega), e 7 _ (by omega), e 8 _ (by omega), e 9 _ (by omega), e 10 _ (by omega), e 11 _ (by omega), e 12 _ (by omega), e 13 _ (by omega), e 14 _ (by omega), e0]
      exact hs
    obtain ⟨g', b1, b2, b3⟩ := k_save13 (n := 5) (R := fun i => R (i + 1)) (g := gd) hR (sh 10 r (by omega) hS) (by omega) (by rw [a2]; exact zwr_e) (fun i hi => by
      rw [ep i hi]
      exact hH.2.1 _ (by split <;> omega)) (fun i j hi hj => by
      rw [ep i hi, ep j hj]
      intro z
      have := hH.2.2.1 _ _ (by split <;> omega) (by split <;> omega) z
      split at this <;> split at this <;> omega) (fun i hi => by
      rw [ep i (by omega), if_neg (by omega)]
      obtain ⟨j, hj, ej⟩ := hH.2.1 (i + 1) (by omega)
      have := hH.2.2.2 (i + 1) (by omega)
      exact ⟨sh _ _ (by omega) this.1, this.2⟩)
    refine ⟨g', ?_, b2, fun c k h => ?_, ?_⟩
    · rw [hd, zbd_s]; exact b1
    · rw [b3.1 c k h, fc c k (by omega)]
    · rw [b3.2, a3]
  · rw [if_pos (by omega)]
    obtain ⟨g', b1, b2, b3⟩ := k_save13 (n := n) (R := R) hR hS (by omega) hH.1.2 hH.2.1 hH.2.2.1 hH.2.2.2
    refine ⟨g', b1, ?_, b3.1, by rw [b3.2]⟩
    have e1 : qpn n = n + 1 := if_neg e
    have e2 : qpush n R r = fun i => if i = n then r else R i := by
      funext i
      unfold qpush
      rw [if_neg e]
    rw [e1, e2]
    exact b2
end QCHIST

