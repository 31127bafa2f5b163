section PLFIND
variable {g g' : zSt} {m b t x w k p u n j a lo hi v : Int} {r : Int → Int} {c0 c1 c2 c3 c4 c5 c6 : Nat}
def qdi (c0 c1 c2 c3 c4 c5 c6 : Nat) : Prop := (c4 ≠ c0 ∧ c4 ≠ c1 ∧ c4 ≠ c2 ∧ c4 ≠ c3) ∧ (c5 ≠ c0 ∧ c5 ≠ c1 ∧ c5 ≠ c2 ∧ c5 ≠ c3 ∧ c5 ≠ c4) ∧ (c6 ≠ c0 ∧ c6 ≠ c1 ∧ c6 ≠ c2 ∧ c6 ≠ c3 ∧ c6 ≠ c4 ∧ c6 ≠ c5) ∧ (c0 ≠ c1 ∧ c0 ≠ c2 ∧ c0 ≠ c3 ∧ c3 ≠ c1 ∧ c3 ≠ c2)
theorem q01 (h : x = 0 ∨ x = 1) : 0 ≤ x ∧ x ≤ 1 := by omega
theorem qLw.k4 (hd : qdi c0 c1 c2 c3 c4 c5 c6) (h : qLw g c0 c1 c2 c3 r) (f : qfr (fun q => q = c4) g g') : qLw g' c0 c1 c2 c3 r := h.kept f ⟨fun q => hd.1.1 q.symm, fun q => hd.1.2.1 q.symm, fun q => hd.1.2.2.1 q.symm, fun q => hd.1.2.2.2 q.symm⟩
theorem qLw.k5 (hd : qdi c0 c1 c2 c3 c4 c5 c6) (h : qLw g c0 c1 c2 c3 r) (f : qfr (fun q => q = c5) g g') : qLw g' c0 c1 c2 c3 r := h.kept f ⟨fun q => hd.2.1.1 q.symm, fun q => hd.2.1.2.1 q.symm, fun q => hd.2.1.2.2.1 q.symm, fun q => hd.2.1.2.2.2.1 q.symm⟩
theorem qLw.k6 (hd : qdi c0 c1 c2 c3 c4 c5 c6) (h : qLw g c0 c1 c2 c3 r) (f : qfr (fun q => q = c6) g g') : qLw g' c0 c1 c2 c3 r := h.kept f ⟨fun q => hd.2.2.1.1 q.symm, fun q => hd.2.2.1.2.1 q.symm, fun q => hd.2.2.1.2.2.1 q.symm, fun q => hd.2.2.1.2.2.2.1 q.symm⟩
theorem qLw.k56 (hd : qdi c0 c1 c2 c3 c4 c5 c6) (h : qLw g c0 c1 c2 c3 r) (f : qfr (fun q => q = c5 ∨ q = c6) g g') : qLw g' c0 c1 c2 c3 r := h.kept f ⟨fun q => q.elim (fun q => hd.2.1.1 q.symm) (fun q => hd.2.2.1.1 q.symm), fun q => q.elim (fun q => hd.2.1.2.1 q.symm) (fun q => hd.2.2.1.2.1 q.symm), fun q => q.elim (fun q => hd.2.1.2.2.1 q.symm) (fun q => hd.2.2.1.2.2.1 q.symm), fun q => q.elim (fun q => hd.2.1.2.2.2.1 q.symm) (fun q => hd.2.2.1.2.2.2.1 q.symm)⟩
theorem qLi.k5 (hd : qdi c0 c1 c2 c3 c4 c5 c6) (h : qLi g c4 r n) (f : qfr (fun q => q = c5) g g') : qLi g' c4 r n := h.kept f (fun q => hd.2.1.2.2.2.2 q.symm)
theorem qLi.k6 (hd : qdi c0 c1 c2 c3 c4 c5 c6) (h : qLi g c4 r n) (f : qfr (fun q => q = c6) g g') : qLi g' c4 r n := h.kept f (fun q => hd.2.2.1.2.2.2.2.1 q.symm)
theorem qLi.k56 (hd : qdi c0 c1 c2 c3 c4 c5 c6) (h : qLi g c4 r n) (f : qfr (fun q => q = c5 ∨ q = c6) g g') : qLi g' c4 r n := h.kept f (fun q => q.elim (fun q => hd.2.1.2.2.2.2 q.symm) (fun q => hd.2.2.1.2.2.2.2.1 q.symm))
theorem qlt_s (hR : qRow m r) (hb : 0 < b ∧ b < r 0) (ht : t = 0 ∨ t = 1) : qlt r b t = qpol r (qB r b 0) (qab r b t) + (if 1 < qlt r (qB r b 0) (qab r b t) then (if qB r b 2 = 1 then (if qB r b (5 + t) = 0 then 2 else 0) else 0) else 0) := by
  have hx := hR.2.2.2.1 b hb.1 hb.2
  have hz := hx.1
  have e := qlt_2 (r := r) (b := qB r b 0) (t := qab r b t) (qab_r ht)
  have e1 : (1 < qlt r (qB r b 0) (qab r b t)) = (qal r (qB r b 0) (qab r b t) = true) := by
    have : (1 < qlt r (qB r b 0) (qab r b t)) = ¬ (qlt r (qB r b 0) (qab r b t) < 2) := by
      simp only [eq_iff_iff]; omega
    rw [this, e]
    simp
  simp only [e1]
  unfold qlt
  rw [qpol_s ⟨hb.1, hz.2⟩]
  unfold qal
  rw [qsw_s ⟨hb.1, hz.2⟩, qwh_s ⟨hb.1, hz.2⟩]
  by_cases q1 : qB r b 2 = 1 <;> by_cases q2 : qB r b (5 + t) = 0 <;> cases qsw r (qB r b 0) <;> cases qwh r (qB r b 0) (qab r b t) <;> simp [q1, q2]
theorem l_find46 (hd : qdi c0 c1 c2 c3 c4 c5 c6) (hR : qRow m r) (hL : qLw g c0 c1 c2 c3 r) (hI : qLi g c4 r b) (hb : 0 < b ∧ b < r 0) (ht : t = 0 ∨ t = 1) {k35 : zSt → Nat → Nat → Nat → Nat → Nat → Nat → Nat → Int → Option zSt} {fu : Nat} : fL_find_p46 k35 (fu + 1) g c0 c1 c2 c3 c4 c5 c6 b t = fL_find_p46 k35 fu (zwr g c4 (Int.toNat (2 * b + t)) (qlt r b t)) c0 c1 c2 c3 c4 c5 c6 b (t + 1) := by
  have h1 := hL.2.1
  have hx := hR.2.2.2.1 b hb.1 hb.2
  have hx0 := hx.1
  have hx1 := q01 hx.2.1
  have hx2 := q01 hx.2.2.1
  have hx5 : 0 ≤ qB r b (5 + t) ∧ qB r b (5 + t) ≤ 1 := by
    rcases ht with rfl | rfl
    · exact q01 hx.2.2.2.2.2.1
    · exact q01 hx.2.2.2.2.2.2
  have ht0 := q01 ht
  have hq0 := q01 (qab_r (r := r) (b := b) ht)
  have hl := qlt_r (r := r) (b := qB r b 0) (t := qab r b t) (qab_r ht)
  have hs := qlt_s hR hb ht
  have hm := qlt_m (r := r) (b := qB r b 0) (t := qab r b t) (qab_r ht)
  clear hx
  have key : ∀ y, y = qab r b t → fL_find_p85 k35 (fL_find_p46 k35 fu) g c4 (2 * qB r b 0) y c0 c1 c2 c3 c4 c5 c6 b t = fL_find_p46 k35 fu (zwr g c4 (Int.toNat (2 * b + t)) (qlt r b t)) c0 c1 c2 c3 c4 c5 c6 b (t + 1) := by
    intro y hy
    subst hy
    unfold fL_find_p85
    rw [zck_t (by omega), zlet_e, hI _ _ hx0.1 (by omega) (qab_r ht), ilt (by omega) (by omega), zck_t (by omega), hL.bw hb 2 (by omega), ieq (by omega) (by omega), zck_t (by omega), hL.bt hb 5 (by omega), ieq (by omega) (by omega)]
    have a1 : fL_find_p128 k35 (fL_find_p46 k35 fu) g 1 c0 c1 c2 c3 c4 c5 c6 b t (qlt r (qB r b 0) (qab r b t)) = fL_find_p46 k35 fu (zwr g c4 (Int.toNat (2 * b + t)) (qpol r (qB r b 0) (qab r b t) + 2)) c0 c1 c2 c3 c4 c5 c6 b (t + 1) := by
      unfold fL_find_p128
      rw [if_neg (show ¬ i32 1 = i32 0 by decide), zck_t (by omega), zlet_e, hm]
    have a0 : fL_find_p128 k35 (fL_find_p46 k35 fu) g 0 c0 c1 c2 c3 c4 c5 c6 b t (qlt r (qB r b 0) (qab r b t)) = fL_find_p46 k35 fu (zwr g c4 (Int.toNat (2 * b + t)) (qpol r (qB r b 0) (qab r b t) + 0)) c0 c1 c2 c3 c4 c5 c6 b (t + 1) := by
      unfold fL_find_p128
      rw [if_pos (show i32 0 = i32 0 from rfl), zck_t (by omega), zlet_e, hm]
    rw [a1, a0, hs]
    by_cases q1 : 1 < qlt r (qB r b 0) (qab r b t)
    · rw [if_pos q1, if_pos q1]
      by_cases q2 : qB r b 2 = 1
      · rw [if_pos q2, if_pos q2]
        by_cases q3 : qB r b (5 + t) = 0
        · rw [if_pos q3, if_pos q3]
        · rw [if_neg q3, if_neg q3]
      · rw [if_neg q2, if_neg q2]
    · rw [if_neg q1, if_neg q1]
  rw [fL_find_p46, ilt (by omega) (by omega), if_pos (by omega), zck_t (by omega), zck_t (by omega), hL.bw hb 1 (by omega), hL.b0 hb, ieq (by omega) (by omega)]
  by_cases e : qB r b 1 = 1
  · rw [if_pos e]
    exact key _ (by unfold qab; rw [if_pos e])
  · rw [if_neg e]
    exact key _ (by unfold qab; rw [if_neg e])
theorem l_find35 (hd : qdi c0 c1 c2 c3 c4 c5 c6) (hR : qRow m r) : ∀ (fu : Nat) (g : zSt) (b : Int), 1 ≤ b → b ≤ r 0 → (r 0 - b).toNat < fu → qLw g c0 c1 c2 c3 r → qLi g c4 r b → ∃ g', fL_find_p35 fu g c0 c1 c2 c3 c4 c5 c6 b = fL_find_p170 zfu g' c0 c1 c2 c3 c4 c5 c6 0 ∧ qLi g' c4 r (r 0) ∧ qfr (fun q => q = c4) g g' := by
  have h1 := hR.1
  intro fu
  induction fu with
  | zero => intro g b _ _ h; omega
  | succ fu ih =>
    intro g b h0 hn hf hL hI
    have h7 := hL.2.1
    rw [fL_find_p35, zck_t (by omega), hL.1.1, ilt (by omega) (by omega)]
    by_cases e : b < r 0
    · rw [if_pos e, show zfu = 1997 + 1 + 1 + 1 from rfl, l_find46 hd hR hL hI ⟨by omega, e⟩ (Or.inl rfl)]
      have f1 : qfr (fun q => q = c4) g (zwr g c4 (Int.toNat (2 * b + 0)) (qlt r b 0)) := qfr.wr rfl
      have r1 : ∀ i : Nat, (zwr g c4 (Int.toNat (2 * b + 0)) (qlt r b 0)).1 c4 i = if i = Int.toNat (2 * b + 0) then qlt r b 0 else g.1 c4 i := fun i => by simp only [zwr, true_and]
      generalize zwr g c4 (Int.toNat (2 * b + 0)) (qlt r b 0) = g1 at f1 r1 ⊢
      have hI1 : qLi g1 c4 r b := fun x t x0 x1 ht => by
        rw [r1, if_neg (by omega)]
        exact hI x t x0 x1 ht
      rw [l_find46 hd hR (hL.k4 hd f1) hI1 ⟨by omega, e⟩ (Or.inr (by omega)), fL_find_p46, ilt (by omega) (by omega), if_neg (by omega)]
      have f2 : qfr (fun q => q = c4) g1 (zwr g1 c4 (Int.toNat (2 * b + (0 + 1))) (qlt r b (0 + 1))) := qfr.wr rfl
      have r2 : ∀ i : Nat, (zwr g1 c4 (Int.toNat (2 * b + (0 + 1))) (qlt r b (0 + 1))).1 c4 i = if i = Int.toNat (2 * b + (0 + 1)) then qlt r b (0 + 1) else g1.1 c4 i := fun i => by simp only [zwr, true_and]
      generalize zwr g1 c4 (Int.toNat (2 * b + (0 + 1))) (qlt r b (0 + 1)) = g2 at f2 r2 ⊢
      have hI2 : qLi g2 c4 r (b + 1) := fun x t x0 x1 ht => by
        rw [r2]
        by_cases q : x = b
        · subst q
          rcases ht with rfl | rfl
          · rw [if_neg (by omega), r1, if_pos (by omega)]
          · rw [if_pos (by omega)]; rfl
        · rw [if_neg (by omega)]
          exact hI1 x t x0 (by omega) ht
      obtain ⟨g', t1, t2, t3⟩ := ih g2 (b + 1) (by omega) (by omega) (by omega) (hL.k4 hd (f1.tr f2)) hI2
      exact ⟨g', t1, t2, (f1.tr f2).tr t3⟩
    · rw [if_neg e]
      exact ⟨g, rfl, (show b = r 0 by omega) ▸ hI, qfr.rf⟩
/-- the lanterns' currents at their own boxes -/
def qla0 (r : Int → Int) (x k : Int) : Int := if qL r k 0 = x then (if qdk r k = 0 then qL r k 1 else 0) else 0
def qCa (g : zSt) (c5 : Nat) (r : Int → Int) (k : Int) : Prop := ∀ x t, 0 ≤ x → x < r 0 → (t = 0 ∨ t = 1) → g.1 c5 (Int.toNat (2 * x + t)) = qsum (qla0 r x) 0 k.toNat
theorem l_find170 (hd : qdi c0 c1 c2 c3 c4 c5 c6) (hR : qRow m r) : ∀ (fu : Nat) (g : zSt) (k : Int), 0 ≤ k → k ≤ r 85 → (r 85 - k).toNat < fu → qLw g c0 c1 c2 c3 r → qLi g c4 r (r 0) → qCa g c5 r k → ∃ g', fL_find_p170 fu g c0 c1 c2 c3 c4 c5 c6 k = fL_find_p296 zfu g' c0 c2 c3 c4 c5 c6 (qleak r) (qleak r) 0 ∧ qCa g' c5 r (r 85) ∧ qfr (fun q => q = c5) g g' := by
  have h1 := hR.2.1
  have h2 := hR.1
  intro fu
  induction fu with
  | zero => intro g b _ _ h; omega
  | succ fu ih =>
    intro g k h0 hn hf hL hI hC
    have h7 := hL.2.1
    have hs : ∀ x, qsum (qla0 r x) 0 (k + 1).toNat = qsum (qla0 r x) 0 k.toNat + qla0 r x k := fun x => by
      rw [show (k + 1).toNat = k.toNat + 1 by omega, qsum_snoc, show (0 : Int) + (k.toNat : Int) = k by omega]
    rw [fL_find_p170, zck_t (by omega), hL.1.2.1, ilt (by omega) (by omega)]
    by_cases e : k < r 85
    · have hd0 := qdk_r r k
      have hx := (hR.2.2.2.2.1 k h0 e).1
      have hu := (hR.2.2.2.2.1 k h0 e).2.1
      rw [if_pos e, l_dark hR hL hI ⟨h0, e⟩, zbd_s, ilt (by omega) (by omega)]
      by_cases q : 0 < qdk r k
      · rw [if_pos q]
        refine ih g (k + 1) (by omega) (by omega) (by omega) hL hI (fun x t x0 x1 ht => ?_)
        rw [hC x t x0 x1 ht, hs]
        unfold qla0
        rw [if_neg (show ¬ qdk r k = 0 by omega)]
        split <;> omega
      · rw [if_neg q, zck_t (by omega), hL.l0 ⟨h0, e⟩, zlet_e, zck_t (by omega), zck_t (by omega), hL.lw ⟨h0, e⟩ 1 (by omega), zck_t (by omega), zlet_e]
        have f1 : qfr (fun q => q = c5) g (zwr g c5 (Int.toNat (2 * qL r k 0)) (g.1 c5 (Int.toNat (2 * qL r k 0)) + qL r k 1)) := qfr.wr rfl
        have r1 : ∀ i : Nat, (zwr g c5 (Int.toNat (2 * qL r k 0)) (g.1 c5 (Int.toNat (2 * qL r k 0)) + qL r k 1)).1 c5 i = if i = Int.toNat (2 * qL r k 0) then g.1 c5 (Int.toNat (2 * qL r k 0)) + qL r k 1 else g.1 c5 i := fun i => by simp only [zwr, true_and]
        generalize zwr g c5 (Int.toNat (2 * qL r k 0)) (g.1 c5 (Int.toNat (2 * qL r k 0)) + qL r k 1) = g1 at f1 r1 ⊢
        have hL1 := hL.k5 hd f1
        rw [zck_t (by omega), hL1.l0 ⟨h0, e⟩, zlet_e, zck_t (by omega), zck_t (by omega), hL1.lw ⟨h0, e⟩ 1 (by omega), zck_t (by omega), zlet_e]
        have f2 : qfr (fun q => q = c5) g1 (zwr g1 c5 (Int.toNat (2 * qL r k 0 + 1)) (g1.1 c5 (Int.toNat (2 * qL r k 0 + 1)) + qL r k 1)) := qfr.wr rfl
        have r2 : ∀ i : Nat, (zwr g1 c5 (Int.toNat (2 * qL r k 0 + 1)) (g1.1 c5 (Int.toNat (2 * qL r k 0 + 1)) + qL r k 1)).1 c5 i = if i = Int.toNat (2 * qL r k 0 + 1) then g1.1 c5 (Int.toNat (2 * qL r k 0 + 1)) + qL r k 1 else g1.1 c5 i := fun i => by simp only [zwr, true_and]
        generalize zwr g1 c5 (Int.toNat (2 * qL r k 0 + 1)) (g1.1 c5 (Int.toNat (2 * qL r k 0 + 1)) + qL r k 1) = g2 at f2 r2 ⊢
        have q0 : qdk r k = 0 := by omega
        have hC2 : qCa g2 c5 r (k + 1) := fun x t x0 x1 ht => by
          have hv := hC x t x0 x1 ht
          rw [hs, show qla0 r x k = (if qL r k 0 = x then (if qdk r k = 0 then qL r k 1 else 0) else 0) from rfl, if_pos q0, ← hv, r2]
          by_cases z : qL r k 0 = x
          · rw [if_pos z]
            rcases ht with rfl | rfl
            · rw [if_neg (by omega), r1, if_pos (by omega), z, Int.add_zero]
            · rw [if_pos (by omega), r1, if_neg (by omega), z]
          · have ht0 := q01 ht
            rw [if_neg z, if_neg (by omega), r1, if_neg (by omega), Int.add_zero]
        obtain ⟨g', t1, t2, t3⟩ := ih g2 (k + 1) (by omega) (by omega) (by omega) (hL.k5 hd (f1.tr f2)) (hI.k5 hd (f1.tr f2)) hC2
        exact ⟨g', t1, t2, (f1.tr f2).tr t3⟩
    · have hk : k = r 85 := by omega
      subst hk
      have p0 := qlamp_r (p := 0) hR
      have p1 := qlamp_r (p := 1) hR
      rw [if_neg (by omega), l_lamp hR hL hI (Or.inl rfl), zbd_s, l_lamp hR hL hI (Or.inr rfl), zbd_s, ilt (by omega) (by omega), zbd_s, zbd_s]
      refine ⟨g, ?_, hC, qfr.rf⟩
      unfold qleak
      by_cases q : qlamp r 0 < qlamp r 1
      · rw [if_pos q, if_pos q]
      · rw [if_neg q, if_neg q]
end PLFIND
