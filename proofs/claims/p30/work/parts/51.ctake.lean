section QCTAKE
variable {g g' : zSt} {m b t x w k p u j a lo hi i v n M : Int} {r W bx W2 bx2 : Int → Int} {c s N N2 : Nat}
/-- a survey holds the answers of a row -/
def qSv (g : zSt) (s : Nat) (r : Int → Int) : Prop :=
  (qFo g s r (r 0) ∧ ∀ x, 0 ≤ x → x < r 0 → g.1 (s + 2) (Int.toNat x) = qbh r x) ∧
  (g.1 s 6 = qburn r ∧ ∀ j, 0 ≤ j → j < r 85 → g.1 (s + 6) (Int.toNat j) = qbi (decide (qdk r j = 0))) ∧
  (g.1 s 7 = qleak r ∧ ∀ j, 0 ≤ j → j < r 134 → g.1 (s + 7) (Int.toNat j) = qflow r j) ∧
  (∀ x, 0 ≤ x → x < r 0 → g.1 (s + 8) (Int.toNat x) = qsum (qun r x) 0 (r 85).toNat) ∧
  (∀ x q, 0 ≤ x → x < r 0 → (q = 0 ∨ q = 1) → g.1 (s + 9) (Int.toNat (2 * x + q)) = qsum (fun j => if qrs r x (qbf r j) = x then (if qfp r j = q then qflow r j else 0) else 0) 0 (r 134).toNat) ∧
  (∀ x q, 0 ≤ x → x < r 0 → (q = 0 ∨ q = 1) → g.1 (s + 10) (Int.toNat (2 * x + q)) = qsum (fun j => if qrs r x (qbf r j) = x then (if qfp r j = q then qlW r j else 0) else 0) 0 (r 134).toNat)
theorem qMade_of (h : qFo g s r n) (hn : 1 ≤ n) : qMade g s := by
  have hb := h 0 (by omega) (by omega)
  have h0 := hb.2 0 (Or.inl rfl)
  have h1 := hb.2 1 (Or.inr rfl)
  rw [qdep_0 (by omega), qsw_0 (by omega)] at hb
  rw [qwh_0 (by omega), qpol_0 (by omega)] at h0 h1
  exact ⟨⟨hb.1.1, hb.1.2⟩, ⟨h0.1, h1.1⟩, h0.2, h1.2⟩
theorem qSv.kept {P : Nat → Prop} (h : qSv g s r) (f : qfr P g g') (hP : ∀ q, s ≤ q → q < s + 11 → ¬ P q) : qSv g' s r := by
  have e : ∀ d k : Nat, d < 11 → g'.1 (s + d) k = g.1 (s + d) k := fun d k hd => f.1 _ _ (hP _ (by omega) (by omega))
  have e0 : ∀ k : Nat, g'.1 s k = g.1 s k := fun k => e 0 k (by omega)
  unfold qSv qFo at h ⊢
  simp only [e 1 _ (by omega), e 2 _ (by omega), e 3 _ (by omega), e 4 _ (by omega), e 5 _ (by omega), e 6 _ (by omega), e 7 _ (by omega), e 8 _ (by omega), e 9 _ (by omega), e 10 _ (by omega), e0]
  exact h
theorem qrs0 (hR : qRow M r) (hb : 0 ≤ b ∧ b < r 0) : qrs r 0 b = 0 := by
  have := qrs_r hR (x := 0) (by omega) hb
  omega
theorem qlamp_e (hR : qRow M r) : qsum (fun j => if qrs r 0 (qbf r j) = 0 then (if qfp r j = p then qlW r j else 0) else 0) 0 (r 134).toNat = qlamp r p := by
  unfold qlamp
  refine qsum_congr _ 0 (fun k a b => ?_)
  have hx := (hR.2.2.2.2.2.1 k a (by omega)).1
  rw [if_pos (show qrs r 0 (qbf r k) = 0 from qrs0 hR hx)]
  unfold qlw qlW
  by_cases e1 : qlv r k = true
  · by_cases e2 : qfp r k = p
    · rw [if_pos e2, if_pos e1, if_pos ⟨e1, e2⟩]
    · rw [if_neg e2, if_neg (fun q => e2 q.2)]
  · rw [if_neg e1, ite_self, if_neg (fun q => e1 q.1)]
theorem k_take (hR : qRow M (r)) (hsc : c + 15 ≤ s) (hS : qShip g c r) (hM : qMade g s) : ∃ g', fX6_take g s c = some g' ∧ qSv g' s r ∧ qfr (fun q => s ≤ q ∧ q < s + 11) g g' := by
  have h1 := hR.1
  have h2 := hR.2.1
  have h3 := hR.2.2.1
  have hbf : ∀ k, 0 ≤ k → k < 0 + ((r 134).toNat : Int) → 0 ≤ qbf r k ∧ qbf r k < r 0 := fun k a b => (hR.2.2.2.2.2.1 k a (by omega)).1
  have hbl : ∀ k, 0 ≤ k → k < 0 + ((r 85).toNat : Int) → 0 ≤ qL r k 0 ∧ qL r k 0 < r 0 := fun k a b => (hR.2.2.2.2.1 k a (by omega)).1
  obtain ⟨g1, a1, a2, a3⟩ := k_clear (g := g) (s := s) (n := r 0) ⟨by omega, h1.2⟩
  have S1 := hS.kept a3 (fun q a b => by omega)
  have M1 : qMade g1 s := by
    unfold qMade at hM ⊢
    rw [a3.1 (s + 1) _ (by omega), a3.1 (s + 3) _ (by omega), a3.1 (s + 4) _ (by omega), a3.1 (s + 4) _ (by omega), a3.1 (s + 5) _ (by omega), a3.1 (s + 5) _ (by omega)]
    exact hM
  obtain ⟨g2, b1, b2, b3, b4⟩ := k_follow hR hsc S1 M1 a2
  have S2 := S1.kept b4 (fun q a b => by omega)
  obtain ⟨g3, c1, c2, c3⟩ := k_burn hR hsc S2 b2 (fun x a b => by rw [b4.1 _ _ (by omega)]; exact (a2 x a b).2.1)
  have S3 := S2.kept c3 (fun q a b => by omega)
  have F3 := b2.kept c3 (by omega)
  obtain ⟨g4, d1, d2, d3⟩ := k_str hR hsc S3 F3 (fun x p a b hp => by rw [c3.1 _ _ (by omega), b4.1 _ _ (by omega)]; exact ((a2 x a b).2.2 p hp).2)
  have S4 := S3.kept d3 (fun q a b => by omega)
  have F4 := F3.kept d3 (by omega)
  obtain ⟨g5, e1, e2, e3⟩ := k_upStr hR hsc S4 d2
  have S5 := S4.kept e3 (fun q a b => by omega)
  have F5 := F4.kept e3 (by omega)
  have L0 := e2 0 0 (by omega) (by omega) (Or.inl rfl)
  have L1 := e2 0 1 (by omega) (by omega) (Or.inr rfl)
  rw [qlamp_e hR] at L0 L1
  have L0' : fX6_lampOf g5 s 0 = some (qlamp r 0) := by
    unfold fX6_lampOf
    rw [zck_t (by omega)]
    exact congrArg some L0
  have L1' : fX6_lampOf g5 s 1 = some (qlamp r 1) := by
    unfold fX6_lampOf
    rw [zck_t (by omega)]
    exact congrArg some L1
  have hl0 := qlamp_r (p := 0) hR
  have hl1 := qlamp_r (p := 1) hR
  have hz : zmn (qlamp r 0) (qlamp r 1) = qleak r := by
    unfold zmn qleak
    rw [ilt (by omega) (by omega)]
    repeat' split
    all_goals omega
  have f6 : qfr (fun q => q = s) g5 (zwr g5 s 7 (qleak r)) := qfr.wr rfl
  have S6 := S5.kept f6 (fun q a b => by omega)
  have F6 := F5.kept f6 (by omega)
  have W6 : qFw (zwr g5 s 7 (qleak r)) s r 0 0 := by
    refine ⟨fun j j0 j1 _ => ?_, fun x q x0 x1 hq => ?_⟩
    · unfold qbd at j1
      rw [if_pos rfl, ite_self] at j1
      omega
    · unfold qbd
      rw [if_pos rfl, ite_self, f6.1 _ _ (by omega), e3.1 _ _ (by omega), d3.1 _ _ (by omega), c3.1 _ _ (by omega), b4.1 _ _ (by omega), ((a2 x x0 x1).2.2 q hq).1]
      rfl
  obtain ⟨g7, p1, p2, p3⟩ := k_share hR hsc (Or.inl rfl) S6 F6 zwr_e W6
  have S7 := S6.kept p3 (fun q a b => by omega)
  have F7 := F6.kept p3 (by omega)
  have W7 : qFw g7 s r 1 0 := by
    have B0 : ∀ q, qbd r 0 (r 134) q = qbd r 1 0 q := by
      intro q
      unfold qbd
      simp
    refine ⟨fun j j0 j1 j2 => p2.1 j j0 (by rw [B0]; exact j1) j2, fun x q x0 x1 hq => ?_⟩
    rw [p2.2 x q x0 x1 hq, B0]
  obtain ⟨g8, q1, q2, q3⟩ := k_share hR hsc (Or.inr rfl) S7 F7 (by rw [p3.1 _ _ (by omega)]; exact zwr_e) W7
  have S8 := S7.kept q3 (fun q a b => by omega)
  have F8 := F7.kept q3 (by omega)
  have bd1 : ∀ q : Int, (q = 0 ∨ q = 1) → qbd r 1 (r 134) q = r 134 := by
    intro q hq
    unfold qbd
    rw [if_neg (by omega), ite_self]
  have P8 : qPo g8 (s + 9) r (qflow r) (qbf r) (qfp r) (r 134).toNat (r 0 - 1) := by
    intro x q x0 x1 hq
    rw [q2.2 x q x0 x1 hq, bd1 q hq, qat_top x1 hbf]
  have U8 : qUo g8 (s + 8) r (fun j => if qdk r j = 0 then qL r j 1 else 0) (fun j => qL r j 0) (r 85).toNat (r 0 - 1) := by
    intro x x0 x1
    rw [q3.1 _ _ (by omega), p3.1 _ _ (by omega), f6.1 _ _ (by omega), e3.1 _ _ (by omega), d3.1 _ _ (by omega), c2.2.2 x x0 x1, qat_top x1 hbl]
  obtain ⟨g9, t1, t2, t3, t4⟩ := k_upCurrents_l hR hsc hbf hbl zfu g8 (r 0 - 1) (by omega) (by omega) (by unfold zfu; omega) S8 P8 U8
  refine ⟨g9, ?_, ?_, ?_⟩
  · unfold fX6_take
    rw [hS.1.1, a1, zbd_s, b1, zbd_s, c1, zbd_s, d1, zbd_s, e1, zbd_s, L0', zbd_s, L1', zbd_s, hz, zlet_e, p1, zbd_s, q1, zbd_s]
    unfold fX6_sumUpCurrents
    rw [S8.1.1, zlet_e, t1, zbd_s]
  · refine ⟨⟨F8.kept t4 (by omega), fun x x0 x1 => ?_⟩, ⟨?_, fun j j0 j1 => ?_⟩, ⟨?_, fun j j0 j1 => ?_⟩, fun x x0 x1 => ?_, fun x q x0 x1 hq => ?_, fun x q x0 x1 hq => ?_⟩
    · rw [t4.1 _ _ (by omega), q3.1 _ _ (by omega), p3.1 _ _ (by omega), f6.1 _ _ (by omega), e3.1 _ _ (by omega), d3.1 _ _ (by omega), c3.1 _ _ (by omega)]
      exact b3 x x0 x1
    · rw [t4.1 _ _ (by omega), q3.1 _ _ (by omega), p3.1 _ _ (by omega), zwr_n (Or.inr (by omega)), e3.1 _ _ (by omega), d3.1 _ _ (by omega)]
      exact c2.1
    · rw [t4.1 _ _ (by omega), q3.1 _ _ (by omega), p3.1 _ _ (by omega), f6.1 _ _ (by omega), e3.1 _ _ (by omega), d3.1 _ _ (by omega)]
      exact c2.2.1 j j0 j1
    · rw [t4.1 _ _ (by omega), q3.1 _ _ (by omega), p3.1 _ _ (by omega)]
      exact zwr_e
    · rw [t4.1 _ _ (by omega)]
      exact q2.1 j j0 (by rw [bd1 _ (qfp_r hR ⟨j0, j1⟩)]; exact j1) j1
    · rw [t3 x x0 x1, qat_0 x0]
      refine qsum_congr _ 0 (fun k a b => ?_)
      unfold qun
      by_cases z1 : qrs r x (qL r k 0) = x
      · rw [if_pos z1]
        by_cases z2 : qdk r k = 0
        · rw [if_pos z2, if_pos ⟨z2, z1⟩]
        · rw [if_neg z2, if_neg (fun z => z2 z.1)]
      · rw [if_neg z1, if_neg (fun z => z1 z.2)]
    · rw [t2 x q x0 x1 hq, qat_0 x0]
    · rw [t4.1 _ _ (by omega), q3.1 _ _ (by omega), p3.1 _ _ (by omega), f6.1 _ _ (by omega)]
      exact e2 x q x0 x1 hq
  · exact ((((((((a3.wk (fun q h => by omega)).tr (b4.wk (fun q h => by omega))).tr (c3.wk (fun q h => by omega))).tr (d3.wk (fun q h => by omega))).tr (e3.wk (fun q h => by omega))).tr (f6.wk (fun q h => by omega))).tr (p3.wk (fun q h => by omega))).tr (q3.wk (fun q h => by omega))).tr (t4.wk (fun q h => by omega))
end QCTAKE

