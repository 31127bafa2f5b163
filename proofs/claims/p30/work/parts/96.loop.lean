section PLOOP
variable {g g' g1 g2 : zSt} {i v x y a : Int} {r : Int → Int} {R : Nat → Int → Int} {n L : Nat} {xs : Nat → Int32} {K : zSt → Int → Option Unit}
theorem l_cell (hL : L ≤ 260) (ha : 0 ≤ a ∧ a < 1000) : ∃ v, fL_cell L xs a = some v := by
  unfold fL_cell
  rw [ilt (by omega) (by omega)]
  by_cases q : a < (L : Int)
  · exact ⟨_, by rw [if_pos q, zck_t ⟨ha.1, q⟩]⟩
  · exact ⟨_, by rw [if_neg q]⟩
theorem qMn.c10 (h : qMn g n R r i) (f : qfr (fun q => 410 ≤ q) g g') : qMn g' n R r i := ⟨h.1.fro (f.wk (fun q z => by omega)), h.2.1, h.2.2.1.kept f (by omega), h.2.2.2⟩
theorem l_143 (h : qMn g n R r i) (hi : 0 ≤ i ∧ i < 24) (hv : 0 ≤ v ∧ v < 16) (hK : ∀ g n R r, qMn g n R r (i + 1) → K g (i + 1) = some ()) : fL_p143 K g v i x y = some () := by
  obtain ⟨g1, n1, R1, r1, a1, a2⟩ := l_act (a1 := v) (a2 := x) (a3 := y) h (by omega) hv
  obtain ⟨g2, b1, b2⟩ := l_told a2.1 a2.2.1 a2.2.2.1
  have m2 := a2.c10 b2
  have h10 : ¬ i32 1 = i32 0 := by decide
  unfold fL_p143
  rw [a1, zbe_s, if_neg h10, b1, zbe_s, if_neg h10, (qdm5 (k := i) (by omega)).2, ieq (by omega) (by omega)]
  by_cases q : i % 5 = 4
  · obtain ⟨g3, c1, c2⟩ := l_ahead (x := zsr y 2) (y := zsr x 2) m2
    rw [if_pos q, c1, zbe_s, if_neg h10]
    exact hK _ _ _ _ c2
  · rw [if_neg q]
    exact hK _ _ _ _ m2
theorem l_77 (hL : L ≤ 260) : ∀ (fu : Nat) (g : zSt) (i : Int) (n : Nat) (R : Nat → Int → Int) (r : Int → Int), qMn g n R r i → 0 ≤ i → i ≤ 24 → (24 - i).toNat < fu → fL_p77 L xs fu g i = some () := by
  intro fu
  induction fu with
  | zero => intro g i n R r _ _ _ h; omega
  | succ fu ih =>
    intro g i n R r h i0 i1 hf
    rw [fL_p77, ilt (by omega) (by omega)]
    by_cases e : i < 24
    · obtain ⟨v1, e1⟩ := l_cell (xs := xs) hL (a := 2 * i) (by omega)
      obtain ⟨v2, e2⟩ := l_cell (xs := xs) hL (a := 2 * i + 1) (by omega)
      have hK : ∀ g n R r, qMn g n R r (i + 1) → fL_p77 L xs fu g (i + 1) = some () := fun g n R r h' => ih g (i + 1) n R r h' (by omega) (by omega) (by omega)
      rw [if_pos e, e1, zbd_s, zlet_e, e2, zbd_s, zlet_e, ilt (by omega) (by omega), ilt (by omega) (by omega)]
      by_cases q3 : i < 3
      · rw [if_pos q3]
        exact l_143 h ⟨i0, e⟩ (by omega) hK
      · rw [if_neg q3]
        by_cases q5 : i < 5
        · rw [if_pos q5]
          exact l_143 h ⟨i0, e⟩ (by omega) hK
        · obtain ⟨v, ev, w0, w1⟩ := l_at g (zsr (zan v1 2147483647) 13) (n := 16) (by omega)
          rw [if_neg q5, ev, zbd_s]
          exact l_143 h ⟨i0, e⟩ ⟨w0, w1⟩ hK
    · rw [if_neg e]
/-- the first row: the switchboard, ten spare fuses -/
def qr0 (j : Int) : Int := if j = 0 then 1 else if j = 162 then 10 else 0
theorem qr0_z {j : Int} (h : j ≠ 0) (h' : j ≠ 162) : qr0 j = 0 := (if_neg h).trans (if_neg h')
theorem qr0_row : qRow 8 qr0 := by
  have e0 : qr0 0 = 1 := rfl
  have e85 : qr0 85 = 0 := rfl
  have e134 : qr0 134 = 0 := rfl
  have e162 : qr0 162 = 10 := rfl
  have e164 : qr0 164 = 0 := rfl
  have e165 : qr0 165 = 0 := rfl
  have e166 : qr0 166 = 0 := rfl
  refine ⟨by omega, by omega, by omega, fun b b0 b1 => by omega, fun k k0 k1 => by omega, fun k k0 k1 => by omega, by omega, by omega, by omega, by omega⟩
theorem zs0_made (j : Nat) (hj : j < 3) : qMade zs0 (200 + 20 * j) := by
  rcases (show j = 0 ∨ j = 1 ∨ j = 2 by omega) with rfl | rfl | rfl <;> exact ⟨⟨rfl, rfl⟩, ⟨rfl, rfl⟩, rfl, rfl⟩
theorem zs0_cs : qCs zs0 0 (fun _ _ => 0) qr0 := by
  have h0 : qr0 0 = 1 := rfl
  have e85 : qr0 85 = 0 := rfl
  have e134 : qr0 134 = 0 := rfl
  have z85 : (qr0 85).toNat = 0 := rfl
  have z134 : (qr0 134).toNat = 0 := rfl
  have x0 : ∀ x : Int, 0 ≤ x → x < qr0 0 → x = 0 := fun x a b => by omega
  refine ⟨⟨?_, ?_⟩, ⟨zs0_made 1 (by omega), zs0_made 2 (by omega)⟩, ?_⟩
  · refine qShip.mk rfl ⟨rfl, Or.inl rfl, Or.inl rfl, Or.inl rfl, Or.inl rfl⟩ (fun b b0 b1 => by omega) (fun b t b0 b1 ht => by omega) rfl (fun j j0 j1 => by omega) rfl (fun j j0 j1 => by omega) ⟨rfl, rfl, rfl, rfl, rfl⟩
  · have hF := qFo_1 (r := qr0) (zs0_made 0 (by omega))
    have l0 : ∀ p, qlamp qr0 p = 0 := fun p => rfl
    refine ⟨⟨by rw [h0]; exact hF, fun x a b => ?_⟩, ⟨rfl, fun j j0 j1 => by omega⟩, ⟨?_, fun j j0 j1 => by omega⟩, fun x a b => ?_, fun x q a b hq => ?_, fun x q a b hq => ?_⟩
    · rw [x0 x a b]
      rfl
    · unfold qleak
      rw [l0, l0]
      rfl
    · rw [z85, x0 x a b]
      rfl
    · rw [z134, x0 x a b]
      rcases hq with rfl | rfl <;> rfl
    · rw [z134, x0 x a b]
      rcases hq with rfl | rfl <;> rfl
  · refine ⟨⟨by omega, rfl⟩, fun i hi => ⟨i, hi, rfl⟩, fun i j hi hj e => ?_, fun i hi => by omega⟩
    have e : 50 + 20 * i = 50 + 20 * j := e
    omega
/-- every script comes to its end -/
theorem q_all (hL : L ≤ 260) : fL_law L xs zs0 = some () := by
  let W := zwr (zwr zs0 403 (Int.toNat 0) 1) 403 (Int.toNat 3) 10
  have hC : qCs W 0 (fun _ _ => 0) qr0 := zs0_cs.fro (qfr.tr (P := fun q => 400 ≤ q) (qfr.wr (by decide)) (qfr.wr (by decide)))
  have e0 : qr0 0 = 1 := rfl
  have e85 : qr0 85 = 0 := rfl
  have e134 : qr0 134 = 0 := rfl
  have e164 : qr0 164 = 0 := rfl
  have hLw : qLw W 400 401 402 403 qr0 := by
    refine ⟨⟨rfl, rfl, rfl, rfl, rfl, rfl, rfl, rfl⟩, by omega, fun b w b0 b1 => by omega, fun b b0 b1 => ?_, fun k w k0 k1 => by omega, fun k w k0 k1 => by omega⟩
    have hb : b = 0 := by omega
    subst hb
    rw [qdep_0 (by omega)]
    rfl
  have h : qMn W 0 (fun _ _ => 0) qr0 0 := ⟨hC, qr0_row, hLw, by omega, by omega⟩
  obtain ⟨g1, a1, a2⟩ := l_told h.1 h.2.1 h.2.2.1
  have h10 : ¬ i32 1 = i32 0 := by decide
  unfold fL_law
  rw [zck_t (by omega), zlet_e, zck_t (by omega), zlet_e]
  show zbe (fL_told0 W) _ = _
  rw [a1, zbe_s, if_neg h10]
  exact l_77 hL 25 g1 0 _ _ _ (h.c10 a2) (by omega) (by omega) (by omega)
end PLOOP
