section QCSHARE
variable {g g' : zSt} {m b t x w k p u j a lo hi i v n M : Int} {r W bx W2 bx2 : Int → Int} {c s N N2 : Nat}
theorem qleft_s (hR : qRow M r) (hk : 0 ≤ k ∧ k < r 134) : qleft r p (k + 1) = if qfp r k = p then qleft r p k - qflow r k else qleft r p k := by
  have hkk : (k + 1).toNat = k.toNat + 1 := by omega
  have hk0 : (0 : Int) + (k.toNat : Nat) = k := by omega
  have hx := (hR.2.2.2.2.2.1 k hk.1 hk.2).2.2
  have hsn : qsum (qlw r p) 0 (k + 1).toNat = qsum (qlw r p) 0 k.toNat + qlw r p k := by rw [hkk, qsum_snoc, hk0]
  have hd : qleft r p (k + 1) = if qleak r - qsum (qlw r p) 0 (k + 1).toNat < 0 then 0 else qleak r - qsum (qlw r p) 0 (k + 1).toNat := rfl
  have hd0 : qleft r p k = if qleak r - qsum (qlw r p) 0 k.toNat < 0 then 0 else qleak r - qsum (qlw r p) 0 k.toNat := rfl
  rw [hsn] at hd
  generalize hz : qsum (qlw r p) 0 k.toNat = z at hd hd0
  by_cases q1 : qfp r k = p
  · rw [if_pos q1]
    by_cases q2 : qlv r k = true
    · have hw : qlw r p k = qF r k 2 := if_pos ⟨q2, q1⟩
      have hf : qflow r k = if qleft r p k < qF r k 2 then qleft r p k else qF r k 2 := by
        unfold qflow
        rw [if_pos q2, q1]
      rw [hd, hf, hw]
      clear hd hf hw hsn hz
      generalize qleft r p k = y at hd0 ⊢
      subst hd0
      repeat' split
      all_goals omega
    · have hw : qlw r p k = 0 := if_neg (fun q => q2 q.1)
      have hf : qflow r k = 0 := if_neg q2
      rw [hd, hf, hw, hd0]
      repeat' split
      all_goals omega
  · rw [if_neg q1]
    have hw : qlw r p k = 0 := if_neg (fun q => q1 q.2)
    rw [hd, hw, hd0]
    repeat' split
    all_goals omega
/-- how far the faults of each pole are done, while those of p go on at k -/
def qbd (r : Int → Int) (p k q : Int) : Int := if p = 0 then (if q = 0 then k else 0) else (if q = 0 then r 134 else k)
def qFw (g : zSt) (s : Nat) (r : Int → Int) (p k : Int) : Prop := (∀ j, 0 ≤ j → j < qbd r p k (qfp r j) → j < r 134 → g.1 (s + 7) (Int.toNat j) = qflow r j) ∧ (∀ x q, 0 ≤ x → x < r 0 → (q = 0 ∨ q = 1) → g.1 (s + 9) (Int.toNat (2 * x + q)) = qsum (fun j => if qbf r j = x then (if qfp r j = q then qflow r j else 0) else 0) 0 (qbd r p k q).toNat)
theorem qbd_p (hp : p = 0 ∨ p = 1) : qbd r p k p = k := by
  unfold qbd
  rcases hp with rfl | rfl <;> simp
theorem qbd_n {q : Int} (hp : p = 0 ∨ p = 1) (hq : q = 0 ∨ q = 1) (h : q ≠ p) : qbd r p k q = qbd r p a q := by
  unfold qbd
  rcases hp with rfl | rfl <;> rcases hq with rfl | rfl <;> simp at h ⊢
theorem k_share_l (hR : qRow M r) (hsc : c + 15 ≤ s) (hp : p = 0 ∨ p = 1) : ∀ (fu : Nat) (g : zSt) (k : Int), 0 ≤ k → k ≤ r 134 → (r 134 - k).toNat < fu → qShip g c r → qFo g s r (r 0) → qFw g s r p k → ∃ g', fX6_shareLeak_p8 fu g s (c + 11) p (qleft r p k) k = some g' ∧ qFw g' s r p (r 134) ∧ qfr (fun q => q = s + 7 ∨ q = s + 9) g g' := by
  have h1 := hR.1
  have h2 := hR.2.2.1
  intro fu
  induction fu with
  | zero => intro g k _ _ h; omega
  | succ fu ih =>
    intro g k h0 hk hf hS hF hI
    rw [fX6_shareLeak_p8, hS.2.2.2.2.1.1, ilt (by omega) (by omega)]
    by_cases e : k < r 134
    · have hx := hR.2.2.2.2.2.1 k h0 e
      have hx0 := hx.1
      have hx1 := hx.2.1
      have hx2 := hx.2.2
      have hl := hS.2.2.2.2.1.2 k h0 e
      have l0 : g.1 (c + 11 + 1) (Int.toNat k) = qF r k 0 := hl.1
      have l1 : g.1 (c + 11 + 2) (Int.toNat k) = qF r k 1 := hl.2.1
      have l2 : g.1 (c + 11 + 3) (Int.toNat k) = qF r k 2 := hl.2.2
      have hpo : g.1 (s + 5) (Int.toNat (2 * qF r k 0 + qF r k 1)) = qfp r k := ((hF _ hx0.1 hx0.2).2 _ hx1).2
      have hpr := qfp_r hR ⟨h0, e⟩
      have hlr := qleft_r (p := p) hR (k := k) ⟨h0, by omega⟩
      have hfl := qflow_r hR ⟨h0, e⟩
      have hal : fX6_isAlive g s (2 * qF r k 0 + qF r k 1) = some (qbi (qlv r k)) := k_alive hR hF hx0 hx1 rfl
      have hkk : (k + 1).toNat = k.toNat + 1 := by omega
      have hk0 : (0 : Int) + (k.toNat : Nat) = k := by omega
      have hst := qleft_s (p := p) hR ⟨h0, e⟩
      rw [if_pos e, zck_t (by omega), zck_t (by omega), l0, l1, zlet_e, zck_t (by omega), hpo, ieq (by omega) (by omega), hal, zbd_s, ib0]
      by_cases q : qfp r k = p
      · rw [if_pos q] at hst
        have body : ∀ y, y = qflow r k → ∃ g', fX6_shareLeak_p77 (fX6_shareLeak_p8 fu) g (s + 7) k y s (c + 11) p (qleft r p k) k = some g' ∧ qFw g' s r p (r 134) ∧ qfr (fun q => q = s + 7 ∨ q = s + 9) g g' := by
          intro y hy
          subst hy
          unfold fX6_shareLeak_p77
          rw [zck_t (by omega), zlet_e, zck_t (by omega), zwr_e, zlet_e, zck_t (by omega), zwr_n (c' := c + 11 + 1) (Or.inl (by omega)), l0, zlet_e, zck_t (by omega), zck_t (by omega), zck_t (by omega), zlet_e, ← hst, zwr_n (c' := s + 9) (Or.inl (by omega))]
          have f1 : qfr (fun q => q = s + 7 ∨ q = s + 9) g (zwr (zwr g (s + 7) (Int.toNat k) (qflow r k)) (s + 9) (Int.toNat (2 * qF r k 0 + p)) (g.1 (s + 9) (Int.toNat (2 * qF r k 0 + p)) + qflow r k)) := (qfr.wr (by omega)).tr (qfr.wr (by omega))
          have hI2 : qFw (zwr (zwr g (s + 7) (Int.toNat k) (qflow r k)) (s + 9) (Int.toNat (2 * qF r k 0 + p)) (g.1 (s + 9) (Int.toNat (2 * qF r k 0 + p)) + qflow r k)) s r p (k + 1) := by
            refine ⟨fun j j0 j1 j2 => ?_, fun x z x0 x1 hz => ?_⟩
            · rw [zwr_n (Or.inl (by omega))]
              by_cases ej : j = k
              · rw [ej, zwr_e]
              · rw [zwr_n (Or.inr (by omega))]
                refine hI.1 j j0 ?_ j2
                by_cases ep : qfp r j = p
                · rw [ep, qbd_p hp] at j1 ⊢; omega
                · rw [qbd_n (a := k + 1) hp (qfp_r hR ⟨j0, j2⟩) ep]; exact j1
            · by_cases ez : z = p
              · rw [ez, qbd_p hp, hkk, qsum_snoc, hk0]
                have hh := hI.2 x p x0 x1 hp
                rw [qbd_p hp] at hh
                rw [← hh]
                by_cases q1 : qF r k 0 = x
                · rw [if_pos (show qbf r k = x from q1), if_pos q, q1, zwr_e]
                · rw [if_neg (show ¬ qbf r k = x from q1), zwr_n (Or.inr (by omega)), zwr_n (Or.inl (by omega))]; omega
              · rw [zwr_n (Or.inr (by omega)), zwr_n (Or.inl (by omega)), hI.2 x z x0 x1 hz, qbd_n (a := k + 1) hp hz ez]
          obtain ⟨g', u1, u2, u3⟩ := ih _ (k + 1) (by omega) (by omega) (by omega) (hS.kept f1 (fun q a b => by omega)) (hF.kept f1 (by omega)) hI2
          exact ⟨g', u1, u2, f1.tr u3⟩
        rw [if_pos q]
        by_cases q2 : qlv r k = true
        · rw [if_pos q2, zck_t (by omega), l2]
          refine body _ ?_
          unfold zmn qflow
          rw [if_pos q2, ilt (by omega) (by omega), q]
        · rw [if_neg q2]
          refine body _ ?_
          unfold qflow
          rw [if_neg q2]
      · rw [if_neg q] at hst
        rw [if_neg q, ← hst]
        refine ih _ (k + 1) (by omega) (by omega) (by omega) hS hF ?_
        refine ⟨fun j j0 j1 j2 => ?_, fun x z x0 x1 hz => ?_⟩
        · refine hI.1 j j0 ?_ j2
          by_cases ep : qfp r j = p
          · have : j ≠ k := fun z => q (z ▸ ep)
            rw [ep, qbd_p hp] at j1 ⊢; omega
          · rw [qbd_n (a := k + 1) hp (qfp_r hR ⟨j0, j2⟩) ep]; exact j1
        · rw [hI.2 x z x0 x1 hz]
          by_cases ez : z = p
          · rw [ez, qbd_p hp, qbd_p hp, hkk, qsum_snoc, hk0, if_neg q, ite_self]; omega
          · rw [qbd_n (a := k + 1) hp hz ez]
    · have e : k = r 134 := by omega
      subst e
      rw [if_neg (by omega)]
      exact ⟨g, rfl, hI, qfr.rf⟩
theorem qleft_0 (hR : qRow M r) : qleft r p 0 = qleak r := by
  have := qleak_r hR
  unfold qleft
  show (if qleak r - 0 < 0 then (0 : Int) else qleak r - 0) = _
  rw [if_neg (by omega)]
  omega
theorem k_share (hR : qRow M r) (hsc : c + 15 ≤ s) (hp : p = 0 ∨ p = 1) (hS : qShip g c r) (hF : qFo g s r (r 0)) (hL : g.1 s 7 = qleak r) (hI : qFw g s r p 0) : ∃ g', fX6_shareLeak g s (c + 11) p = some g' ∧ qFw g' s r p (r 134) ∧ qfr (fun q => q = s + 7 ∨ q = s + 9) g g' := by
  have h2 := hR.2.2.1
  unfold fX6_shareLeak
  rw [hL, zlet_e, ← qleft_0 (p := p) hR]
  exact k_share_l hR hsc hp zfu g 0 (by omega) (by omega) (by unfold zfu; omega) hS hF hI
end QCSHARE

