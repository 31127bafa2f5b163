section QLOC
variable {g g' g1 g2 g3 g4 : zSt} {m b t x w k p u j a lo hi v M p1 p2 p3 p4 y a1 a2 a3 a4 i z0 : Int} {r r' re : Int → Int} {R : Nat → Int → Int} {c s d e N L n : Nat}
/-- rows that differ in nothing but switches -/
def qswd (r r' : Int → Int) : Prop := (∀ b w, 0 ≤ b → b < 12 → 0 ≤ w → w < 7 → w ≠ 2 → qB r' b w = qB r b w) ∧ (r' 0 = r 0 ∧ ∀ j, 85 ≤ j → j < 162 → r' j = r j)
theorem qab_sw (h : qswd r r') (hb : 0 ≤ b ∧ b < 12) : qab r' b t = qab r b t := by
  unfold qab
  rw [h.1 b 1 hb.1 hb.2 (by omega) (by omega) (by omega)]
theorem qpol_sw (h : qswd r r') : ∀ (N : Nat) (b t : Int), b.toNat ≤ N → b < 12 → qpol r' b t = qpol r b t := by
  intro N
  induction N with
  | zero =>
    intro b t h0 _ 
    rw [qpol, dif_neg (by omega)]
    rw [qpol, dif_neg (by omega)]
  | succ N ih =>
    intro b t h0 hb 
    by_cases e0 : 0 < b
    · have e1 : qB r' b 0 = qB r b 0 := h.1 b 0 (by omega) hb (by omega) (by omega) (by omega)
      by_cases e : 0 < b ∧ qB r b 0 < b
      · have e' : 0 < b ∧ qB r' b 0 < b := by rw [e1]; exact e
        have i1 := ih (qB r b 0) (qab r b t) (by omega) (by omega)
        rw [qpol_s (r := r') e', qpol_s (r := r) e, e1, qab_sw h (by omega), i1]
      · have e' : ¬ (0 < b ∧ qB r' b 0 < b) := by rw [e1]; exact e
        have z1 : qpol r' b t = t := by rw [qpol, dif_neg e']
        have z2 : qpol r b t = t := by rw [qpol, dif_neg e]
        rw [z1, z2]
    · have z1 : qpol r' b t = t := by rw [qpol, dif_neg (by omega)]
      have z2 : qpol r b t = t := by rw [qpol, dif_neg (by omega)]
      rw [z1, z2]
theorem qwh_sw (h : qswd r r') : ∀ (N : Nat) (b t : Int), b.toNat ≤ N → b < 12 → (t = 0 ∨ t = 1) → qwh r' b t = qwh r b t := by
  intro N
  induction N with
  | zero =>
    intro b t h0 _ ht
    rw [qwh, dif_neg (by omega)]
    rw [qwh, dif_neg (by omega)]
  | succ N ih =>
    intro b t h0 hb ht
    by_cases e0 : 0 < b
    · have e1 : qB r' b 0 = qB r b 0 := h.1 b 0 (by omega) hb (by omega) (by omega) (by omega)
      by_cases e : 0 < b ∧ qB r b 0 < b
      · have e' : 0 < b ∧ qB r' b 0 < b := by rw [e1]; exact e
        have i1 := ih (qB r b 0) (qab r b t) (by omega) (by omega) (qab_r ht)
        rw [qwh_s (r := r') e', qwh_s (r := r) e, e1, qab_sw h (by omega), h.1 b (5 + t) (by omega) hb (by omega) (by omega) (by omega), i1]
      · have e' : ¬ (0 < b ∧ qB r' b 0 < b) := by rw [e1]; exact e
        have z1 : qwh r' b t = true := by rw [qwh, dif_neg e']
        have z2 : qwh r b t = true := by rw [qwh, dif_neg e]
        rw [z1, z2]
    · have z1 : qwh r' b t = true := by rw [qwh, dif_neg (by omega)]
      have z2 : qwh r b t = true := by rw [qwh, dif_neg (by omega)]
      rw [z1, z2]
/-- a row with one switch opened -/
def qop (r : Int → Int) (k : Int) : Int → Int := qput r (1 + 7 * k + 2) 0
theorem qop_sw (hk : 0 < k ∧ k < 12) : qswd r (qop r k) := ⟨fun b w b0 b1 w0 w1 w2 => qput_n (by omega), qput_n (by omega), fun j j0 j1 => qput_n (by omega)⟩
theorem qop_2 (hk : 0 < k ∧ k < 12) (hb : 0 ≤ b ∧ b < 12) : qB (qop r k) b 2 = if b = k then 0 else qB r b 2 := by
  unfold qop qB
  by_cases q : b = k
  · rw [if_pos q, qput_e (by omega)]
  · rw [if_neg q, qput_n (by omega)]
theorem qop_row (hR : qRow M r) (hk : 0 < k ∧ k < r 0) : qRow M (qop r k) := by
  have h1 := hR.1
  have h := qop_sw (r := r) (k := k) ⟨hk.1, by omega⟩
  have hx := hR.2.2.2.1 k hk.1 hk.2
  refine hR.edB hk (fun j j0 j1 _ => qput_n (by omega)) ?_ (by rw [show qop r k 162 = r 162 from qput_n (by omega)]; exact hR.2.2.2.2.2.2.1)
  unfold qBx at hx ⊢
  rw [h.1 k 0 (by omega) (by omega) (by omega) (by omega) (by omega), h.1 k 1 (by omega) (by omega) (by omega) (by omega) (by omega), qop_2 ⟨hk.1, by omega⟩ ⟨by omega, by omega⟩, if_pos rfl, h.1 k 3 (by omega) (by omega) (by omega) (by omega) (by omega), h.1 k 4 (by omega) (by omega) (by omega) (by omega) (by omega), h.1 k 5 (by omega) (by omega) (by omega) (by omega) (by omega), h.1 k 6 (by omega) (by omega) (by omega) (by omega) (by omega)]
  exact ⟨hx.1, hx.2.1, Or.inl rfl, hx.2.2.2⟩
theorem qsw_op (hR : qRow M r) (hk : 0 < k ∧ k < r 0) : ∀ (N : Nat) (b : Int), b.toNat ≤ N → 0 ≤ b → b < r 0 → qsw (qop r k) b = if qrs r k b = k then false else qsw r b := by
  have h1 := hR.1
  intro N
  induction N with
  | zero =>
    intro b h0 b0 b1
    rw [qsw_0 (by omega), qsw_0 (by omega), qrs_0 (by omega), if_neg (by omega)]
  | succ N ih =>
    intro b h0 b0 b1
    by_cases e : 0 < b
    · have hx := (hR.2.2.2.1 b e b1).1
      have h := qop_sw (r := r) (k := k) ⟨hk.1, by omega⟩
      have e1 : qB (qop r k) b 0 = qB r b 0 := h.1 b 0 (by omega) (by omega) (by omega) (by omega) (by omega)
      have i1 := ih (qB r b 0) (by omega) hx.1 (by omega)
      rw [qsw_s (r := qop r k) ⟨e, by rw [e1]; exact hx.2⟩, qsw_s (r := r) ⟨e, hx.2⟩, e1, qop_2 ⟨hk.1, by omega⟩ ⟨by omega, by omega⟩, i1]
      by_cases q1 : b = k
      · have z1 : qrs r k b = k := (qrs_0 (by omega)).trans q1
        rw [if_pos q1, if_pos z1]
        rfl
      · rw [if_neg q1]
        by_cases q2 : k < b
        · rw [qrs_s (x := k) (b := b) ⟨q2, e, hx.2⟩]
          by_cases q3 : qrs r k (qB r b 0) = k
          · rw [if_pos q3, if_pos q3]; simp
          · rw [if_neg q3, if_neg q3]
        · rw [qrs_0 (x := k) (b := b) (by omega), if_neg q1, qrs_0 (x := k) (b := qB r b 0) (by omega), if_neg (by omega)]
    · rw [qsw_0 (by omega), qsw_0 (by omega), qrs_0 (by omega), if_neg (by omega)]
def qS (r : Int → Int) (x p : Int) : Int := qsum (fun j => if qrs r x (qbf r j) = x then (if qfp r j = p then qlW r j else 0) else 0) 0 (r 134).toNat
theorem qlamp_op (hR : qRow M r) (hk : 0 < k ∧ k < r 0) : qlamp (qop r k) p = qlamp r p - qS r k p := by
  have h1 := hR.1
  have h3 := hR.2.2.1
  have h := qop_sw (r := r) (k := k) ⟨hk.1, by omega⟩
  have e134 : qop r k 134 = r 134 := h.2.2 134 (by omega) (by omega)
  have key : qlamp r p = qlamp (qop r k) p + qS r k p := by
    unfold qlamp qS
    rw [e134, ← qsum_add]
    refine qsum_congr _ _ (fun j j0 j1 => ?_)
    have hx := hR.2.2.2.2.2.1 j j0 (by omega)
    have hx0 := hx.1
    have f0 : qF (qop r k) j 0 = qF r j 0 := h.2.2 _ (by omega) (by omega)
    have f1 : qF (qop r k) j 1 = qF r j 1 := h.2.2 _ (by omega) (by omega)
    have f2 : qF (qop r k) j 2 = qF r j 2 := h.2.2 _ (by omega) (by omega)
    have ep : qfp (qop r k) j = qfp r j := by
      unfold qfp
      rw [f0, f1, qpol_sw h _ _ _ (Nat.le_refl _) (by omega)]
    have el : qlv (qop r k) j = if qrs r k (qF r j 0) = k then false else qlv r j := by
      unfold qlv qal
      rw [f0, f1, qsw_op hR hk _ _ (Nat.le_refl _) hx0.1 hx0.2, qwh_sw h _ _ _ (Nat.le_refl _) (by omega) hx.2.1]
      split <;> simp
    show qlw r p j = qlw (qop r k) p j + (if qrs r k (qF r j 0) = k then (if qfp r j = p then qlW r j else 0) else 0)
    unfold qlw qlW
    rw [el, ep, f2]
    by_cases q1 : qrs r k (qF r j 0) = k
    · rw [if_pos q1, if_pos q1, if_neg (show ¬ (false = true ∧ qfp r j = p) by simp)]
      by_cases q2 : qlv r j = true
      · by_cases q3 : qfp r j = p
        · rw [if_pos ⟨q2, q3⟩, if_pos q3, if_pos q2]; omega
        · rw [if_neg (fun z => q3 z.2), if_neg q3]; omega
      · rw [if_neg (fun z => q2 z.1), if_neg q2, ite_self]; omega
    · rw [if_neg q1, if_neg q1]; omega
  omega
theorem qS_r (hR : qRow M r) : 0 ≤ qS r x p ∧ qS r x p ≤ 270 := by
  have h3 := hR.2.2.1
  have := qsum_le (f := fun j => if qrs r x (qbf r j) = x then (if qfp r j = p then qlW r j else 0) else 0) (b := 30) (r 134).toNat 0 (fun j a b => by
    have hx := (hR.2.2.2.2.2.1 j a (by omega)).2.2
    show 0 ≤ (if qrs r x (qbf r j) = x then (if qfp r j = p then qlW r j else 0) else 0) ∧ (if qrs r x (qbf r j) = x then (if qfp r j = p then qlW r j else 0) else 0) ≤ 30
    unfold qlW
    repeat' split
    all_goals omega)
  unfold qS
  omega
/-- the boxes that change a lamp, as bits -/
def qmz (r : Int → Int) (p k a : Int) : Int := if qB r k 2 = 1 ∧ 0 < qS r k p then zor a (zsl 1 k) else a
def qmsk (r : Int → Int) (p : Int) : Nat → Int → Int → Int
  | 0, _, a => a
  | m + 1, k, a => qmsk r p m (k + 1) (qmz r p k a)
def qloc (r : Int → Int) (p : Int) : Int := qmsk r p (r 0 - 1).toNat 1 0
theorem k_loc (hS : qShip g 10 r) (hV : qSv g 200 r) (hR : qRow M r) (hp : p = 0 ∨ p = 1) : fX7_boxesChangingLamp g p = some (qloc r p) := by
  have h1 := hR.1
  have e0 : g.1 11 0 = r 0 := hS.1.1
  have key : ∀ (fu : Nat) (k a : Int), 1 ≤ k → k ≤ r 0 → (r 0 - k).toNat < fu → fX7_boxesChangingLamp_p4 g fu p a k = some (qmsk r p (r 0 - k).toNat k a) := by
    intro fu
    induction fu with
    | zero => intro k a _ _ h; omega
    | succ fu ih =>
      intro k a h0 hk hf
      rw [fX7_boxesChangingLamp_p4, e0, ilt (by omega) (by omega)]
      by_cases e : k < r 0
      · have hx := (hR.2.2.2.1 k (by omega) e).2.2.1
        have z := (hS.2.1 k (by omega) e).2.2
        have z2 : g.1 14 (Int.toNat k) = qB r k 2 := z
        have zs : g.1 210 (Int.toNat (2 * k + p)) = qS r k p := hV.2.2.2.2.2 k p (by omega) e hp
        have hs := qS_r (x := k) (p := p) hR
        rw [if_pos e, zck_t (by omega), z2, ieq (by omega) (by omega), zck_t (by omega), zs, ilt (by omega) (by omega), show (r 0 - k).toNat = (r 0 - (k + 1)).toNat + 1 by omega, qmsk, zlet_e, ih _ _ (by omega) (by omega) (by omega), ih _ _ (by omega) (by omega) (by omega)]
        unfold qmz
        by_cases q1 : qB r k 2 = 0
        · rw [if_pos q1, if_neg (by omega)]
        · rw [if_neg q1]
          by_cases q2 : 0 < qS r k p
          · rw [if_pos q2, if_pos ⟨by omega, q2⟩]
          · rw [if_neg q2, if_neg (fun z => q2 z.2)]
      · rw [if_neg e, show (r 0 - k).toNat = 0 by omega]
        rfl
  unfold fX7_boxesChangingLamp qloc
  exact key zfu 1 0 (by omega) (by omega) (by unfold zfu; omega)
theorem zor_0 (z : Int32) : zor z.toInt 0 = z.toInt := by
  unfold zor
  rw [i32_of]
  congr 1
  show z ||| 0 = z
  simp
end QLOC

