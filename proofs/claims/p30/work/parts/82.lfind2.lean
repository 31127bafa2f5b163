section PLFIND2
variable {g g' : zSt} {m b t x w k p u n j a lo hi v : Int} {r : Int → Int} {c0 c1 c2 c3 c4 c5 c6 : Nat}
def qfa0 (r : Int → Int) (x t k : Int) : Int := if qF r k 0 = x ∧ qF r k 1 = t then qflow r k else 0
def qFa (g : zSt) (c6 : Nat) (r : Int → Int) (k : Int) : Prop := ∀ j, 0 ≤ j → j < k → g.1 c6 (Int.toNat j) = qflow r j
def qCb (g : zSt) (c5 : Nat) (r : Int → Int) (k : Int) : Prop := ∀ x t, 0 ≤ x → x < r 0 → (t = 0 ∨ t = 1) → g.1 c5 (Int.toNat (2 * x + t)) = qsum (qla0 r x) 0 (r 85).toNat + qsum (qfa0 r x t) 0 k.toNat
theorem l_find384 (hd : qdi c0 c1 c2 c3 c4 c5 c6) (hR : qRow m r) (hL : qLw g c0 c1 c2 c3 r) (hI : qLi g c4 r (r 0)) (hk : 0 ≤ k ∧ k < r 134) (hC : qCb g c5 r k) (hF : qFa g c6 r k) (hv : v = qflow r k) (hx9 : x = 2 * qF r k 0 + qF r k 1) {k296 : zSt → Nat → Nat → Nat → Nat → Nat → Nat → Int → Int → Int → Option zSt} : ∃ g', fL_find_p384 k296 g c6 k v c0 c2 c3 c4 c5 c6 (qleft r 0 k) (qleft r 1 k) k x = k296 g' c0 c2 c3 c4 c5 c6 (qleft r 0 (k + 1)) (qleft r 1 (k + 1)) (k + 1) ∧ qCb g' c5 r (k + 1) ∧ qFa g' c6 r (k + 1) ∧ qfr (fun q => q = c5 ∨ q = c6) g g' := by
  have h7 := hL.2.1
  have hx := hR.2.2.2.2.2.1 k hk.1 hk.2
  have hx0 := hx.1
  have ht := hx.2.1
  have ht0 := q01 ht
  have hq := qlt_r (r := r) (b := qF r k 0) (t := qF r k 1) ht
  have z2 := qlt_p (r := r) (b := qF r k 0) (t := qF r k 1) (p := 0) ht (Or.inl rfl)
  have z3 := qlt_p (r := r) (b := qF r k 0) (t := qF r k 1) (p := 1) ht (Or.inr rfl)
  have s0 := qleft_s (p := 0) hR hk
  have s1 := qleft_s (p := 1) hR hk
  have hpp := qfp_r hR hk
  have hdead : qal r (qF r k 0) (qF r k 1) = false → qflow r k = 0 := fun h => by
    unfold qflow qlv
    rw [h]
    rfl
  have hfp : qfp r k = qpol r (qF r k 0) (qF r k 1) := rfl
  have e0 : (if qlt r (qF r k 0) (qF r k 1) = 2 then qleft r 0 k - qflow r k else qleft r 0 k) = qleft r 0 (k + 1) := by
    rw [s0, hfp]
    rw [show (2 : Int) = 2 + 0 from rfl]
    simp only [z2]
    cases hal : qal r (qF r k 0) (qF r k 1)
    · rw [hdead hal]; simp
    · simp
  have e1 : (if qlt r (qF r k 0) (qF r k 1) = 3 then qleft r 1 k - qflow r k else qleft r 1 k) = qleft r 1 (k + 1) := by
    rw [s1, hfp]
    rw [show (3 : Int) = 2 + 1 from rfl]
    simp only [z3]
    cases hal : qal r (qF r k 0) (qF r k 1)
    · rw [hdead hal]; simp
    · simp
  clear s0 s1 z2 z3 hpp
  have d65 : c6 ≠ c5 := hd.2.2.1.2.2.2.2.2
  subst hv hx9
  unfold fL_find_p384
  rw [zck_t (by omega), zlet_e]
  have f1 : qfr (fun q => q = c6) g (zwr g c6 (Int.toNat k) (qflow r k)) := qfr.wr rfl
  have r1 : ∀ i : Nat, (zwr g c6 (Int.toNat k) (qflow r k)).1 c6 i = if i = Int.toNat k then qflow r k else g.1 c6 i := fun i => by simp only [zwr, true_and]
  generalize zwr g c6 (Int.toNat k) (qflow r k) = g1 at f1 r1 ⊢
  have hI1 := hI.k6 hd f1
  have l1 := hI1 _ _ hx0.1 hx0.2 ht
  have v1 : g1.1 c6 (Int.toNat k) = qflow r k := by rw [r1, if_pos rfl]
  have fin : ∀ a8 a9, a8 = qleft r 0 (k + 1) → a9 = qleft r 1 (k + 1) → ∃ g', fL_find_p423 k296 g1 c0 c2 c3 c4 c5 c6 a8 a9 k (2 * qF r k 0 + qF r k 1) = k296 g' c0 c2 c3 c4 c5 c6 (qleft r 0 (k + 1)) (qleft r 1 (k + 1)) (k + 1) ∧ qCb g' c5 r (k + 1) ∧ qFa g' c6 r (k + 1) ∧ qfr (fun q => q = c5 ∨ q = c6) g g' := by
    intro a8 a9 w8 w9
    subst w8 w9
    unfold fL_find_p423
    rw [zck_t (by omega), zck_t (by omega), zck_t (by omega), zlet_e, v1]
    have f2 : qfr (fun q => q = c5) g1 (zwr g1 c5 (Int.toNat (2 * qF r k 0 + qF r k 1)) (g1.1 c5 (Int.toNat (2 * qF r k 0 + qF r k 1)) + qflow r k)) := qfr.wr rfl
    have r2 : ∀ i : Nat, (zwr g1 c5 (Int.toNat (2 * qF r k 0 + qF r k 1)) (g1.1 c5 (Int.toNat (2 * qF r k 0 + qF r k 1)) + qflow r k)).1 c5 i = if i = Int.toNat (2 * qF r k 0 + qF r k 1) then g1.1 c5 (Int.toNat (2 * qF r k 0 + qF r k 1)) + qflow r k else g1.1 c5 i := fun i => by simp only [zwr, true_and]
    generalize zwr g1 c5 (Int.toNat (2 * qF r k 0 + qF r k 1)) (g1.1 c5 (Int.toNat (2 * qF r k 0 + qF r k 1)) + qflow r k) = g2 at f2 r2 ⊢
    refine ⟨g2, rfl, ?_, ?_, (f1.wk (fun q h => Or.inr h)).tr (f2.wk (fun q h => Or.inl h))⟩
    · intro x t x0 x1 hxt
      have hxt0 := q01 hxt
      have hcc := hC x t x0 x1 hxt
      rw [show (k + 1).toNat = k.toNat + 1 by omega, qsum_snoc, show (0 : Int) + (k.toNat : Int) = k by omega, ← Int.add_assoc, ← hcc, r2, show qfa0 r x t k = (if qF r k 0 = x ∧ qF r k 1 = t then qflow r k else 0) from rfl]
      have o : ∀ i : Nat, g1.1 c5 i = g.1 c5 i := fun i => f1.1 _ _ (fun q => d65 q.symm)
      rw [o, o]
      by_cases z : qF r k 0 = x ∧ qF r k 1 = t
      · rw [if_pos z, if_pos (by omega), z.1, z.2]
      · rw [if_neg z, if_neg (by omega), Int.add_zero]
    · intro j j0 j1
      rw [f2.1 _ _ d65, r1]
      by_cases z : j = k
      · rw [if_pos (by omega), z]
      · rw [if_neg (by omega)]
        exact hF j j0 (by omega)
  rw [zck_t (by omega), l1, ieq (by omega) (by omega), zck_t (by omega), v1, zlet_e]
  unfold fL_find_p404
  rw [zck_t (by omega), l1, ieq (by omega) (by omega), zck_t (by omega), v1, zlet_e, zck_t (by omega), ieq (by omega) (by omega), zck_t (by omega), zlet_e]
  by_cases q2 : qlt r (qF r k 0) (qF r k 1) = 2
  · rw [if_pos q2, if_neg (by omega)]
    rw [if_pos q2] at e0
    rw [if_neg (by omega)] at e1
    exact fin _ _ e0 e1
  · rw [if_neg q2]
    rw [if_neg q2] at e0
    by_cases q3 : qlt r (qF r k 0) (qF r k 1) = 3
    · rw [if_pos q3]
      rw [if_pos q3] at e1
      exact fin _ _ e0 e1
    · rw [if_neg q3]
      rw [if_neg q3] at e1
      exact fin _ _ e0 e1
theorem l_find296 (hd : qdi c0 c1 c2 c3 c4 c5 c6) (hR : qRow m r) : ∀ (fu : Nat) (g : zSt) (k : Int), 0 ≤ k → k ≤ r 134 → (r 134 - k).toNat < fu → qLw g c0 c1 c2 c3 r → qLi g c4 r (r 0) → qCb g c5 r k → qFa g c6 r k → ∃ g', fL_find_p296 fu g c0 c2 c3 c4 c5 c6 (qleft r 0 k) (qleft r 1 k) k = fL_find_p449 zfu g' c0 c5 (r 0 - 1) ∧ qCb g' c5 r (r 134) ∧ qFa g' c6 r (r 134) ∧ qfr (fun q => q = c5 ∨ q = c6) g g' := by
  have h1 := hR.2.2.1
  have h2 := hR.1
  intro fu
  induction fu with
  | zero => intro g b _ _ h; omega
  | succ fu ih =>
    intro g k h0 hn hf hL hI hC hF
    have h7 := hL.2.1
    rw [fL_find_p296, zck_t (by omega), hL.1.2.2.1, ilt (by omega) (by omega)]
    by_cases e : k < r 134
    · have hx := hR.2.2.2.2.2.1 k h0 e
      have hx0 := hx.1
      have ht := hx.2.1
      have ht0 := q01 ht
      have hsr := hx.2.2
      have hq := qlt_r (r := r) (b := qF r k 0) (t := qF r k 1) ht
      have z2 := qlt_p (r := r) (b := qF r k 0) (t := qF r k 1) (p := 0) ht (Or.inl rfl)
      have z3 := qlt_p (r := r) (b := qF r k 0) (t := qF r k 1) (p := 1) ht (Or.inr rfl)
      have w0 := qleft_r (p := 0) hR (k := k) ⟨h0, hn⟩
      have w1 := qleft_r (p := 1) hR (k := k) ⟨h0, hn⟩
      have hpp := qpol_r (r := r) (b := qF r k 0) ht
      have fl : ∀ y, y = (if qlt r (qF r k 0) (qF r k 1) = 2 then qleft r 0 k else if qlt r (qF r k 0) (qF r k 1) = 3 then qleft r 1 k else 0) → (if qF r k 2 < y then qF r k 2 else y) = qflow r k := by
        intro y hy
        have hfl : qflow r k = if qal r (qF r k 0) (qF r k 1) = true then (if qleft r (qpol r (qF r k 0) (qF r k 1)) k < qF r k 2 then qleft r (qpol r (qF r k 0) (qF r k 1)) k else qF r k 2) else 0 := rfl
        rw [show (2 : Int) = 2 + 0 from rfl, show (3 : Int) = 2 + 1 from rfl] at hy
        simp only [z2, z3] at hy
        rw [hfl]
        cases hal : qal r (qF r k 0) (qF r k 1)
        · rw [hal] at hy
          simp at hy
          subst hy
          rw [if_neg (by omega)]
          rfl
        · rw [hal] at hy
          simp only [true_and, if_true] at hy ⊢
          rcases hpp with q | q
          · rw [q] at hy ⊢
            rw [if_pos rfl] at hy
            subst hy
            by_cases z : qF r k 2 < qleft r 0 k
            · rw [if_pos z, if_neg (by omega)]
            · rw [if_neg z]
              by_cases z' : qleft r 0 k < qF r k 2
              · rw [if_pos z']
              · rw [if_neg z']; omega
          · rw [q] at hy ⊢
            rw [if_neg (by decide), if_pos rfl] at hy
            subst hy
            by_cases z : qF r k 2 < qleft r 1 k
            · rw [if_pos z, if_neg (by omega)]
            · rw [if_neg z]
              by_cases z' : qleft r 1 k < qF r k 2
              · rw [if_pos z']
              · rw [if_neg z']; omega
      clear z2 z3 hpp hx
      have key : ∀ y, y = (if qlt r (qF r k 0) (qF r k 1) = 2 then qleft r 0 k else if qlt r (qF r k 0) (qF r k 1) = 3 then qleft r 1 k else 0) → ∃ g', fL_find_p352 (fL_find_p296 fu) g y c0 c2 c3 c4 c5 c6 (qleft r 0 k) (qleft r 1 k) k (2 * qF r k 0 + qF r k 1) = fL_find_p449 zfu g' c0 c5 (r 0 - 1) ∧ qCb g' c5 r (r 134) ∧ qFa g' c6 r (r 134) ∧ qfr (fun q => q = c5 ∨ q = c6) g g' := by
        intro y hy
        have hf2 := fl y hy
        have hyr : 0 ≤ y ∧ y ≤ 270 := by
          subst hy
          split
          · exact w0
          · split
            · exact w1
            · omega
        have step : fL_find_p352 (fL_find_p296 fu) g y c0 c2 c3 c4 c5 c6 (qleft r 0 k) (qleft r 1 k) k (2 * qF r k 0 + qF r k 1) = fL_find_p384 (fL_find_p296 fu) g c6 k (qflow r k) c0 c2 c3 c4 c5 c6 (qleft r 0 k) (qleft r 1 k) k (2 * qF r k 0 + qF r k 1) := by
          rw [← hf2]
          unfold fL_find_p352
          rw [zck_t (by omega), hL.fw ⟨h0, e⟩ 2 (by omega), ilt (by omega) (by omega), zck_t (by omega)]
          by_cases z : qF r k 2 < y
          · rw [if_pos z, if_pos z]
          · rw [if_neg z, if_neg z]
        obtain ⟨g1, t1, t2, t3, t4⟩ := l_find384 (v := qflow r k) (x := 2 * qF r k 0 + qF r k 1) (k296 := fL_find_p296 fu) hd hR hL hI ⟨h0, e⟩ hC hF rfl rfl
        obtain ⟨g', u1, u2, u3, u4⟩ := ih g1 (k + 1) (by omega) (by omega) (by omega) (hL.k56 hd t4) (hI.k56 hd t4) t2 t3
        exact ⟨g', step.trans (t1.trans u1), u2, u3, t4.tr u4⟩
      rw [if_pos e, zck_t (by omega), zck_t (by omega), hL.f0 ⟨h0, e⟩, hL.fw ⟨h0, e⟩ 1 (by omega), zlet_e, zck_t (by omega), hI _ _ hx0.1 hx0.2 ht, ieq (by omega) (by omega), zck_t (by omega), ieq (by omega) (by omega)]
      by_cases q2 : qlt r (qF r k 0) (qF r k 1) = 2
      · rw [if_pos q2]
        exact key _ (by rw [if_pos q2])
      · rw [if_neg q2]
        by_cases q3 : qlt r (qF r k 0) (qF r k 1) = 3
        · rw [if_pos q3]
          exact key _ (by rw [if_neg q2, if_pos q3])
        · rw [if_neg q3]
          exact key _ (by rw [if_neg q2, if_neg q3])
    · have hk : k = r 134 := by omega
      subst hk
      rw [if_neg (by omega), zck_t (by omega), hL.1.1, zlet_e]
      exact ⟨g, rfl, hC, hF, qfr.rf⟩
end PLFIND2
