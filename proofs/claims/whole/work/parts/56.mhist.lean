section QMHIST
variable {g g' : zSt} {m b t x w k p u j a lo hi v M : Int} {r r' : Int → Int} {R : Nat → Int → Int} {c s d e N n : Nat}
/-- a loop that moves numbers, one by one -/
theorem q_mv {β : Type} {L : Nat → zSt → Int → Option β} {C D : Nat} {A B : Int → Int} {F : zSt → Option β} {I : zSt → Prop} (hs : ∀ fu g a, I g → lo ≤ a → a < hi → L (fu + 1) g a = L fu (zwr g C (Int.toNat (A a)) (g.1 D (Int.toNat (B a)))) (a + 1)) (he : ∀ fu g, I g → L (fu + 1) g hi = F g) (hI : ∀ g a v, I g → lo ≤ a → a < hi → I (zwr g C (Int.toNat (A a)) v)) (hA : ∀ a k, lo ≤ a → a < k → k < hi → Int.toNat (A k) ≠ Int.toNat (A a) ∧ (D ≠ C ∨ Int.toNat (B k) ≠ Int.toNat (A a))) : ∀ (fu : Nat) (g : zSt) (a : Int), lo ≤ a → a ≤ hi → (hi - a).toNat < fu → I g → ∃ g', L fu g a = F g' ∧ I g' ∧ (∀ k, a ≤ k → k < hi → g'.1 C (Int.toNat (A k)) = g.1 D (Int.toNat (B k))) ∧ (∀ j : Nat, (∀ k, a ≤ k → k < hi → j ≠ Int.toNat (A k)) → g'.1 C j = g.1 C j) ∧ qfr (fun q => q = C) g g' := by
  intro fu
  induction fu with
  | zero => intro g a _ _ h; omega
  | succ fu ih =>
    intro g a h0 h1 hf hi0
    by_cases q : a = hi
    · subst q
      exact ⟨g, he fu g hi0, hi0, fun k a b => by omega, fun j _ => rfl, qfr.rf⟩
    · obtain ⟨g', t1, t2, t3, t4, t5⟩ := ih (zwr g C (Int.toNat (A a)) (g.1 D (Int.toNat (B a)))) (a + 1) (by omega) (by omega) (by omega) (hI g a _ hi0 h0 (by omega))
      refine ⟨g', (hs fu g a hi0 h0 (by omega)).trans t1, t2, fun k k0 k1 => ?_, fun j hj => ?_, (show qfr (fun q => q = C) g (zwr g C (Int.toNat (A a)) (g.1 D (Int.toNat (B a)))) from qfr.wr rfl).tr t5⟩
      · by_cases z : k = a
        · subst z
          rw [t4 _ (fun k2 a b => fun z => (hA k k2 h0 (by omega) b).1 z.symm)]
          exact zwr_e
        · rw [t3 k (by omega) k1]
          exact zwr_n ((hA a k h0 (by omega) k1).2)
      · rw [t4 j (fun k a b => hj k (by omega) b)]
        exact zwr_n (Or.inr (hj a (by omega) (by omega)))
def qnn (r : Int → Int) : Prop := ∀ j : Int, r (j.toNat : Int) = r j
theorem qr_nn : qnn (qr g) := fun j => by
  show g.1 401 (Int.toNat (j.toNat : Int)) = g.1 401 (Int.toNat j)
  rw [Int.toNat_natCast]
/-- the saved states of the reference -/
def qHm (g : zSt) (n : Nat) (R : Nat → Int → Int) : Prop := (n ≤ 6 ∧ g.1 400 2 = n) ∧ ∀ i : Nat, i < n → (∀ j : Int, 0 ≤ j → j < 168 → g.1 402 (Int.toNat (168 * i + j)) = R i j) ∧ qend (R i) ∧ qnn (R i)
/-- what saving changes -/
def qsk (g g' : zSt) : Prop := (∀ c k : Nat, c ≠ 402 → (c = 400 → k ≠ 2) → g'.1 c k = g.1 c k) ∧ g'.2 = g.2
theorem qsk.rf : qsk g g := ⟨fun _ _ _ _ => rfl, rfl⟩
theorem qsk.tr {g1 g2 g3 : zSt} (h : qsk g1 g2) (h' : qsk g2 g3) : qsk g1 g3 := ⟨fun c k a b => (h'.1 c k a b).trans (h.1 c k a b), h'.2.trans h.2⟩
theorem qsk.of (h : qfr (fun q => q = 402) g g') : qsk g g' := ⟨fun c k a b => h.1 c k a, h.2⟩
theorem qsk.w2 : qsk g (zwr g 400 2 v) := ⟨fun c k a b => zwr_n ((Decidable.em (c = 400)).elim (fun h => Or.inr (b h)) Or.inl), rfl⟩
theorem qsk.qr (h : qsk g g') : qr g' = qr g := by
  funext j
  exact h.1 401 _ (by omega) (by omega)
theorem m_save54 (hn : n < 6) (h2 : g.1 400 2 = n) : ∃ g', fX8_save_p54 zfu g 0 = some g' ∧ g'.1 400 2 = ((n + 1 : Nat) : Int) ∧ (∀ j : Int, 0 ≤ j → j < 168 → g'.1 402 (Int.toNat (168 * n + j)) = qr g j) ∧ (∀ j : Nat, (j : Int) < 168 * n → g'.1 402 j = g.1 402 j) ∧ qsk g g' := by
  obtain ⟨g1, t1, t2, t3, t4, t5⟩ := q_mv (L := fX8_save_p54) (lo := 0) (hi := 168) (C := 402) (D := 401) (A := fun a => 168 * n + a) (B := fun a => a) (F := fun g => some (zwr g 400 2 (g.1 400 2 + 1))) (I := fun g => g.1 400 2 = n) (fun fu g a hi a0 a1 => by rw [fX8_save_p54, ilt (by omega) (by omega), if_pos a1, zck_t (by omega), hi, zck_t (by omega), zlet_e]) (fun fu g hi => by rw [fX8_save_p54, ilt (by omega) (by omega), if_neg (by omega), zlet_e]) (fun g a v hi a0 a1 => (zwr_n (Or.inl (by decide))).trans hi) (fun a k a0 a1 a2 => ⟨by omega, Or.inl (by decide)⟩) zfu g 0 (by omega) (by omega) (by unfold zfu; omega) h2
  refine ⟨_, t1, ?_, fun j j0 j1 => ?_, fun j hj => ?_, (qsk.of t5).tr qsk.w2⟩
  · rw [zwr_e, t2]; omega
  · rw [zwr_n (Or.inl (by decide))]
    exact t3 j j0 j1
  · rw [zwr_n (Or.inl (by decide))]
    exact t4 j (fun k k0 k1 => by omega)
theorem m_save (hE : qend (qr g)) (hH : qHm g n R) : ∃ g', fX8_save g = some g' ∧ qHm g' (qpn n) (qpush n R (qr g)) ∧ qsk g g' := by
  have hn := hH.1.1
  unfold fX8_save
  rw [hH.1.2, ieq (by omega) (by omega)]
  by_cases e : n = 6
  · subst e
    rw [if_pos (by omega)]
    obtain ⟨g1, t1, t2, t3, t4, t5⟩ := q_mv (L := fX8_save_p13) (lo := 168) (hi := 1008) (C := 402) (D := 402) (A := fun a => a - 168) (B := fun a => a) (F := fun g => fX8_save_p54 zfu (zwr g 400 2 (g.1 400 2 - 1)) 0) (I := fun g => g.1 400 2 = 6) (fun fu g a hi a0 a1 => by rw [fX8_save_p13, ilt (by omega) (by omega), if_pos a1, zck_t (by omega), zck_t (by omega), zlet_e]) (fun fu g hi => by rw [fX8_save_p13, ilt (by omega) (by omega), if_neg (by omega), zlet_e]) (fun g a v hi a0 a1 => (zwr_n (Or.inl (by decide))).trans hi) (fun a k a0 a1 a2 => ⟨by omega, Or.inr (by omega)⟩) zfu g 168 (by omega) (by omega) (by unfold zfu; omega) hH.1.2
    have e5 : (zwr g1 400 2 (g1.1 400 2 - 1)).1 400 2 = ((5 : Nat) : Int) := by rw [zwr_e, t2]; rfl
    obtain ⟨g', u1, u2, u3, u4, u5⟩ := m_save54 (n := 5) (by omega) e5
    have k1 : qsk g (zwr g1 400 2 (g1.1 400 2 - 1)) := (qsk.of t5).tr qsk.w2
    refine ⟨g', t1.trans u1, ⟨⟨Nat.le_refl 6, u2⟩, fun i hi => ?_⟩, k1.tr u5⟩
    have hi : i < 6 := hi
    unfold qpush
    rw [if_pos rfl]
    by_cases q : i = 5
    · subst q
      rw [if_pos rfl]
      refine ⟨fun j j0 j1 => ?_, hE, qr_nn⟩
      rw [u3 j j0 j1, k1.qr]
    · rw [if_neg q]
      have hh := hH.2 (i + 1) (by omega)
      refine ⟨fun j j0 j1 => ?_, hh.2⟩
      rw [u4 _ (by omega), zwr_n (Or.inl (by decide)), ← hh.1 j j0 j1]
      have := t3 (168 * ((i + 1 : Nat) : Int) + j) (by omega) (by omega)
      rw [show (168 * ((i + 1 : Nat) : Int) + j - 168) = 168 * (i : Int) + j by omega] at this
      exact this
  · rw [if_neg (by omega)]
    obtain ⟨g', u1, u2, u3, u4, u5⟩ := m_save54 (n := n) (by omega) hH.1.2
    have e1 : qpn n = n + 1 := if_neg e
    refine ⟨g', u1, ?_, u5⟩
    rw [e1]
    refine ⟨⟨by omega, u2⟩, fun i hi => ?_⟩
    unfold qpush
    rw [if_neg e]
    by_cases q : i = n
    · subst q
      rw [if_pos rfl]
      exact ⟨u3, hE, qr_nn⟩
    · rw [if_neg q]
      have hh := hH.2 i (by omega)
      refine ⟨fun j j0 j1 => ?_, hh.2⟩
      rw [u4 _ (by omega)]
      exact hh.1 j j0 j1
theorem m_undo37 (hE : qend (qr g)) (hn : n < 6) (h2 : g.1 400 2 = n) (hr : ∀ j : Int, 0 ≤ j → j < 168 → g.1 402 (Int.toNat (168 * n + j)) = r j) (hrE : qend r) (hrn : qnn r) : ∃ g', fX8_undo_p37 zfu g 0 = some ((n : Int), g') ∧ qr g' = r ∧ qfr (fun q => q = 401) g g' := by
  obtain ⟨g1, t1, t2, t3, t4, t5⟩ := q_mv (L := fX8_undo_p37) (lo := 0) (hi := 168) (C := 401) (D := 402) (A := fun a => a) (B := fun a => 168 * n + a) (F := fun g => some ((n : Int), g)) (I := fun g => g.1 400 2 = n) (fun fu g a hi a0 a1 => by rw [fX8_undo_p37, ilt (by omega) (by omega), if_pos a1, hi, zck_t (by omega), zck_t (by omega), zlet_e]) (fun fu g hi => by rw [fX8_undo_p37, ilt (by omega) (by omega), if_neg (by omega), hi]) (fun g a v hi a0 a1 => (zwr_n (Or.inl (by decide))).trans hi) (fun a k a0 a1 a2 => ⟨by omega, Or.inl (by decide)⟩) zfu g 0 (by omega) (by omega) (by unfold zfu; omega) h2
  refine ⟨g1, t1, ?_, t5⟩
  funext j
  rw [← hrn j]
  by_cases q : j.toNat < 168
  · have := t3 (j.toNat : Int) (by omega) (by omega)
    rw [Int.toNat_natCast] at this
    show g1.1 401 j.toNat = _
    rw [this]
    exact hr _ (by omega) (by omega)
  · have h1 := t4 j.toNat (fun k k0 k1 => by omega)
    show g1.1 401 j.toNat = _
    rw [h1]
    have := hE j (by omega)
    show qr g j = _
    rw [this, hrn j, hrE j (by omega)]
theorem m_aside : ∃ g', fX8_keepAside g = some g' ∧ (∀ k, 0 ≤ k → k < 168 → g'.1 404 (Int.toNat k) = qr g k) ∧ qfr (fun q => q = 404) g g' := by
  obtain ⟨g1, t1, t2, t3, t4, t5⟩ := q_mv (L := fX8_keepAside_p2) (lo := 0) (hi := 168) (C := 404) (D := 401) (A := fun a => a) (B := fun a => a) (F := fun g => some g) (I := fun _ => True) (fun fu g a hi a0 a1 => by rw [fX8_keepAside_p2, ilt (by omega) (by omega), if_pos a1, zck_t (by omega), zck_t (by omega), zlet_e]) (fun fu g hi => by rw [fX8_keepAside_p2, ilt (by omega) (by omega), if_neg (by omega)]) (fun g a v hi a0 a1 => trivial) (fun a k a0 a1 a2 => ⟨by omega, Or.inl (by decide)⟩) zfu g 0 (by omega) (by omega) (by unfold zfu; omega) trivial
  exact ⟨g1, t1, fun k k0 k1 => t3 k k0 k1, t5⟩
theorem m_back (hr : ∀ k, 0 ≤ k → k < 168 → g.1 404 (Int.toNat k) = r k) (hrE : qend r) (hrn : qnn r) (hE : qend (qr g)) : ∃ g', fX8_takeBack g = some g' ∧ qr g' = r ∧ qfr (fun q => q = 401) g g' := by
  obtain ⟨g1, t1, t2, t3, t4, t5⟩ := q_mv (L := fX8_takeBack_p2) (lo := 0) (hi := 168) (C := 401) (D := 404) (A := fun a => a) (B := fun a => a) (F := fun g => some g) (I := fun _ => True) (fun fu g a hi a0 a1 => by rw [fX8_takeBack_p2, ilt (by omega) (by omega), if_pos a1, zck_t (by omega), zck_t (by omega), zlet_e]) (fun fu g hi => by rw [fX8_takeBack_p2, ilt (by omega) (by omega), if_neg (by omega)]) (fun g a v hi a0 a1 => trivial) (fun a k a0 a1 a2 => ⟨by omega, Or.inl (by decide)⟩) zfu g 0 (by omega) (by omega) (by unfold zfu; omega) trivial
  refine ⟨g1, t1, ?_, t5⟩
  funext j
  rw [← hrn j]
  by_cases q : j.toNat < 168
  · have := t3 (j.toNat : Int) (by omega) (by omega)
    rw [Int.toNat_natCast] at this
    show g1.1 401 j.toNat = _
    rw [this]
    have h2 := hr (j.toNat : Int) (by omega) (by omega)
    rw [Int.toNat_natCast] at h2
    exact h2
  · have h1 := t4 j.toNat (fun k k0 k1 => by omega)
    show g1.1 401 j.toNat = _
    rw [h1]
    have := hE j (by omega)
    show qr g j = _
    rw [this, hrn j, hrE j (by omega)]
end QMHIST
