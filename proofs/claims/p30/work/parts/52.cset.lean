section QCSET
variable {g g' : zSt} {m b t x w k p u j a lo hi i v n M : Int} {r W bx W2 bx2 : Int → Int} {c s N N2 : Nat}
theorem qrs_qrt (hR : qRow M r) (hb : 0 ≤ b ∧ b < r 0) : qpol r b t = qpol r (qrs r x b) (qrt r x b t) := by
  have key : ∀ (N : Nat) (b t : Int), b.toNat ≤ N → 0 ≤ b → b < r 0 → qpol r b t = qpol r (qrs r x b) (qrt r x b t) := by
    intro N
    induction N with
    | zero => intro b t h h0 hn; rw [qrs, qrt, dif_neg (by omega), dif_neg (by omega)]
    | succ N ih =>
      intro b t h h0 hn
      by_cases e : x < b ∧ 0 < b
      · have hx1 := (hR.2.2.2.1 b (by omega) hn).1
        rw [qrs_s (x := x) (b := b) ⟨e.1, e.2, hx1.2⟩, qrt_s (x := x) (b := b) ⟨e.1, e.2, hx1.2⟩, qpol_s ⟨e.2, hx1.2⟩]
        exact ih _ _ (by omega) hx1.1 (by omega)
      · rw [qrs, qrt, dif_neg (by omega), dif_neg (by omega)]
  exact key b.toNat b t (Nat.le_refl _) hb.1 hb.2
theorem qpol_i (hR : qRow M r) (hb : 0 ≤ b ∧ b < r 0) (ht : t = 0 ∨ t = 1) (hu : u = 0 ∨ u = 1) : (qpol r b t = qpol r b u) = (t = u) := by
  have key : ∀ (N : Nat) (b t u : Int), b.toNat ≤ N → 0 ≤ b → b < r 0 → (t = 0 ∨ t = 1) → (u = 0 ∨ u = 1) → qpol r b t = qpol r b u → t = u := by
    intro N
    induction N with
    | zero => intro b t u h h0 hn _ _; rw [qpol_0 (by omega), qpol_0 (by omega)]; exact id
    | succ N ih =>
      intro b t u h h0 hn ht hu
      by_cases e : 0 < b
      · have hx1 := (hR.2.2.2.1 b (by omega) hn).1
        rw [qpol_s ⟨e, hx1.2⟩, qpol_s ⟨e, hx1.2⟩]
        intro hh
        have := ih _ _ _ (by omega) hx1.1 (by omega) (qab_r ht) (qab_r hu) hh
        unfold qab at this
        split at this <;> omega
      · rw [qpol_0 (by omega), qpol_0 (by omega)]; exact id
  exact propext ⟨key b.toNat b t u (Nat.le_refl _) hb.1 hb.2 ht hu, fun h => by rw [h]⟩
theorem qrt_r (ht : t = 0 ∨ t = 1) : qrt r x b t = 0 ∨ qrt r x b t = 1 := by
  have key : ∀ (n : Nat) (b t : Int), b.toNat ≤ n → (t = 0 ∨ t = 1) → (qrt r x b t = 0 ∨ qrt r x b t = 1) := by
    intro n
    induction n with
    | zero => intro b t h ht; rw [qrt, dif_neg (by omega)]; exact ht
    | succ n ih =>
      intro b t h ht
      by_cases hb : x < b ∧ 0 < b ∧ qB r b 0 < b
      · rw [qrt_s hb]; exact ih _ _ (by omega) (qab_r ht)
      · rw [qrt, dif_neg hb]; exact ht
  exact key b.toNat b t (Nat.le_refl _) ht
theorem k_cur (hR : qRow M r) (hV : qSv g s r) (hb : 0 ≤ b ∧ b < r 0) (ht : t = 0 ∨ t = 1) (hi : i = 2 * b + t) : fX6_current g s i = some (qcur r b t) := by
  have h1 := hR.1
  subst hi
  have hp := qpol_r (r := r) (b := b) ht
  have hu := hV.2.2.2.1 b hb.1 hb.2
  have hpo : g.1 (s + 5) (Int.toNat (2 * b + t)) = qpol r b t := ((hV.1.1 b hb.1 hb.2).2 t ht).2
  have hw := hV.2.2.2.2.1 b (qpol r b t) hb.1 hb.2 hp
  unfold fX6_current qcur
  rw [qsr1 (by omega), show (2 * b + t) / 2 = b by omega, zlet_e, k_alive hR hV.1.1 hb ht rfl, zbd_s, ib0, zck_t (by omega), zck_t (by omega), hpo, zck_t (by omega), hu, hw]
  have : qsum (fun j => if qrs r b (qbf r j) = b then (if qfp r j = qpol r b t then qflow r j else 0) else 0) 0 (r 134).toNat = qsum (qfl r b t) 0 (r 134).toNat := by
    refine qsum_congr _ 0 (fun k a0 a1 => ?_)
    have hx := hR.2.2.2.2.2.1 k a0 (by omega)
    unfold qfl qbf
    by_cases z1 : qrs r b (qF r k 0) = b
    · have e2 : (qfp r k = qpol r b t) = (qrt r b (qF r k 0) (qF r k 1) = t) := by
        unfold qfp
        rw [qrs_qrt (x := b) hR hx.1, z1]
        exact qpol_i hR hb (qrt_r hx.2.1) ht
      rw [if_pos z1]
      simp only [e2]
      by_cases z2 : qrt r b (qF r k 0) (qF r k 1) = t
      · rw [if_pos z2, if_pos ⟨z1, z2⟩]
      · rw [if_neg z2, if_neg (fun z => z2 z.2)]
    · rw [if_neg z1, if_neg (fun z => z1 z.1)]
  rw [this]
  by_cases e : qal r b t = true
  · rw [if_pos e, if_pos e]
  · rw [if_neg e, if_neg e]
theorem qdep_p (hR : qRow M r) (hb : 0 < b ∧ b < r 0) : 1 ≤ qdep r b := by
  have hx1 := (hR.2.2.2.1 b hb.1 hb.2).1
  have := qdep_r r (qB r b 0)
  rw [qdep_s ⟨hb.1, hx1.2⟩]
  omega
def qfd (r : Int → Int) (a : Int) : Int := if a = -1 then 0 else qdep r (a / 2)
theorem k_ftb_l (hR : qRow M r) (hS : qShip g c r) (hV : qSv g s r) : ∀ (fu : Nat) (k a : Int), 2 ≤ k → k ≤ 2 * r 0 → (2 * r 0 - k).toNat < fu → (a = -1 ∨ (2 ≤ a ∧ a < 2 * r 0)) → fX6_fuseToBlow_p7 g fu s (c + 1) a (qfd r a) k = some (qnx r (2 * r 0 - k).toNat k a) := by
  have h1 := hR.1
  intro fu
  induction fu with
  | zero => intro k a _ _ h; omega
  | succ fu ih =>
    intro k a h0 hk hf ha
    rw [fX6_fuseToBlow_p7, hS.1.1, ilt (by omega) (by omega)]
    by_cases e : k < 2 * r 0
    · have hd := qdep_r r (k / 2)
      have hd2 := qdep_p hR (b := k / 2) (by omega)
      have hfd : 0 ≤ qfd r a ∧ qfd r a < 100 := by
        unfold qfd
        have := qdep_r r (a / 2)
        split <;> omega
      have hdd : g.1 (s + 1) (Int.toNat (k / 2)) = qdep r (k / 2) := (hV.1.1 (k / 2) (by omega) (by omega)).1.1
      have hc := qcur_r (b := k / 2) (t := k % 2) hR
      have hx := hR.2.2.2.1 (k / 2) (by omega) (by omega)
      have hx3 := hx.2.2.2.1
      have hx4 := hx.2.2.2.2.1
      have hrr : 1 ≤ qB r (k / 2) (3 + k % 2) ∧ qB r (k / 2) (3 + k % 2) ≤ 60 := by
        rcases (show k % 2 = 0 ∨ k % 2 = 1 by omega) with q | q <;> rw [q]
        · exact hx3
        · exact hx4
      have hrt : g.1 (c + 1 + 4) (Int.toNat k) = qB r (k / 2) (3 + k % 2) := by
        have := (hS.2.2.1 (k / 2) (k % 2) (by omega) (by omega) (by omega)).1
        rw [show 2 * (k / 2) + k % 2 = k by omega] at this
        exact this
      rw [if_pos e, qsr1 (by omega), zck_t (by omega), hdd, zlet_e, ilt (by omega) (by omega), k_cur hR hV (b := k / 2) (t := k % 2) (by omega) (by omega) (by omega), zbd_s, zck_t (by omega), hrt, ilt (by omega) (by omega), show (2 * r 0 - k).toNat = (2 * r 0 - (k + 1)).toNat + 1 by omega, qnx]
      have ih2 : ∀ a, (a = -1 ∨ (2 ≤ a ∧ a < 2 * r 0)) → fX6_fuseToBlow_p7 g fu s (c + 1) a (qfd r a) (k + 1) = some (qnx r (2 * r 0 - (k + 1)).toNat (k + 1) a) := fun a h => ih (k + 1) a (by omega) (by omega) (by omega) h
      have ek : qdep r (k / 2) = qfd r k := by
        unfold qfd
        rw [if_neg (by omega)]
      unfold qst
      by_cases e1 : qB r (k / 2) (3 + k % 2) < qcur r (k / 2) (k % 2)
      · rw [if_pos e1, if_pos e1]
        by_cases e2 : a = -1
        · have : qfd r a = 0 := if_pos e2
          rw [if_pos e2, this, if_pos (by omega), ek]
          exact ih2 k (by omega)
        · have e4 : qfd r a = qdep r (a / 2) := if_neg e2
          rw [if_neg e2]
          by_cases e3 : qdep r (a / 2) < qdep r (k / 2)
          · rw [if_pos e3, if_pos (by omega), ek]
            exact ih2 k (by omega)
          · rw [if_neg e3, if_neg (by omega)]
            exact ih2 a ha
      · rw [if_neg e1, if_neg e1, ite_self]
        exact ih2 a ha
    · rw [if_neg e, show (2 * r 0 - k).toNat = 0 by omega]
      rfl
theorem k_ftb (hR : qRow M r) (hS : qShip g c r) (hV : qSv g s r) : fX6_fuseToBlow g s (c + 1) = some (qnext r) := by
  have h1 := hR.1
  exact k_ftb_l hR hS hV zfu 2 (-1) (by omega) (by omega) (by unfold zfu; omega) (Or.inl rfl)
end QCSET

