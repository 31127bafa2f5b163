section QSUMS
variable {g : zSt} {m b t x w k : Int}
/-- a loop that adds up -/
theorem q_loop {L : Nat → Int → Int → Option Int} {n : Int} {f : Int → Int} (hs : ∀ fu a k, 0 ≤ k → k < n → L (fu + 1) a k = L fu (a + f k) (k + 1)) (he : ∀ fu a, L (fu + 1) a n = some a) : ∀ (fu : Nat) (k a : Int), 0 ≤ k → k ≤ n → (n - k).toNat < fu → L fu a k = some (a + qsum f k (n - k).toNat) := by
  intro fu
  induction fu with
  | zero => intro k a _ _ h; omega
  | succ fu ih =>
    intro k a h0 hn h
    by_cases hk : k = n
    · subst hk
      rw [he, show (k - k).toNat = 0 by omega]
      simp [qsum]
    · rw [hs fu a k h0 (by omega), ih (k + 1) (a + f k) (by omega) (by omega) (by omega), show (n - k).toNat = (n - (k + 1)).toNat + 1 by omega, qsum]
      congr 1
      omega
theorem q_loop0 {L : Nat → Int → Int → Option Int} {n : Int} {f : Int → Int} (hn : 0 ≤ n ∧ n < 1999) (hs : ∀ fu a k, 0 ≤ k → k < n → L (fu + 1) a k = L fu (a + f k) (k + 1)) (he : ∀ fu a, L (fu + 1) a n = some a) : L zfu 0 0 = some (qsum f 0 n.toNat) := by
  have := q_loop hs he zfu 0 0 (by omega) (by omega) (by unfold zfu; omega)
  rw [this]
  simp
def qdk (r : Int → Int) (k : Int) : Int := if qsw r (qL r k 0) = true then (if qwh r (qL r k 0) 0 = true then (if qwh r (qL r k 0) 1 = true then (if qL r k 2 = 1 ∧ qpol r (qL r k 0) 0 = 1 then 4 else 0) else 3) else 2) else 1
def qlv (r : Int → Int) (k : Int) : Bool := qal r (qF r k 0) (qF r k 1)
def qfp (r : Int → Int) (k : Int) : Int := qpol r (qF r k 0) (qF r k 1)
def qburn (r : Int → Int) : Int := qsum (fun k => if qdk r k = 0 then 1 else 0) 0 (r 85).toNat
def qdrawn (r : Int → Int) : Int := qsum (fun k => if qdk r k = 0 then qL r k 1 else 0) 0 (r 85).toNat
def qlw (r : Int → Int) (p k : Int) : Int := if qlv r k = true ∧ qfp r k = p then qF r k 2 else 0
def qlamp (r : Int → Int) (p : Int) : Int := qsum (qlw r p) 0 (r 134).toNat
def qleak (r : Int → Int) : Int := if qlamp r 0 < qlamp r 1 then qlamp r 0 else qlamp r 1
def qleft (r : Int → Int) (p k : Int) : Int := if qleak r - qsum (qlw r p) 0 k.toNat < 0 then 0 else qleak r - qsum (qlw r p) 0 k.toNat
def qflow (r : Int → Int) (k : Int) : Int := if qlv r k = true then (if qleft r (qfp r k) k < qF r k 2 then qleft r (qfp r k) k else qF r k 2) else 0
def qun (r : Int → Int) (b k : Int) : Int := if qdk r k = 0 ∧ qrs r b (qL r k 0) = b then qL r k 1 else 0
def qfl (r : Int → Int) (b t k : Int) : Int := if qrs r b (qF r k 0) = b ∧ qrt r b (qF r k 0) (qF r k 1) = t then qflow r k else 0
def qcur (r : Int → Int) (b t : Int) : Int := if qal r b t = true then qsum (qun r b) 0 (r 85).toNat + qsum (qfl r b t) 0 (r 134).toNat else 0
theorem qpol_r {r : Int → Int} (ht : t = 0 ∨ t = 1) : qpol r b t = 0 ∨ qpol r b t = 1 := by
  have key : ∀ (n : Nat) (b t : Int), b.toNat ≤ n → (t = 0 ∨ t = 1) → (qpol r b t = 0 ∨ qpol r b t = 1) := by
    intro n
    induction n with
    | zero => intro b t h ht; rw [qpol_0 (by omega)]; exact ht
    | succ n ih =>
      intro b t h ht
      by_cases hb : 0 < b ∧ qB r b 0 < b
      · rw [qpol_s hb]; exact ih _ _ (by omega) (qab_r ht)
      · rw [qpol, dif_neg hb]; exact ht
  exact key b.toNat b t (Nat.le_refl _) ht
theorem qdk_r (r : Int → Int) (k : Int) : 0 ≤ qdk r k ∧ qdk r k ≤ 4 := by
  unfold qdk
  repeat' split
  all_goals omega
theorem m_dark (hR : qRow m (qr g)) (hk : 0 ≤ k ∧ k < qr g 85) : fX8_dark g k = some (qdk (qr g) k) := by
  have h1 := hR.2.1
  have hx := hR.2.2.2.2.1 k hk.1 hk.2
  have hx0 := hx.1
  have hx2 := hx.2.2
  have hp := qpol_r (r := qr g) (b := qL (qr g) k 0) (t := 0) (Or.inl rfl)
  unfold fX8_dark
  rw [m_ofLantern (by omega), zbd_s, m_isSwitched hR hx0, zbd_s, ib0, m_isWhole hR hx0 (Or.inl rfl), zbd_s, ib0, m_isWhole hR hx0 (Or.inr rfl), zbd_s, ib0, m_ofLantern (by omega), zbd_s, ieq (by omega) (by omega), m_pole hR hx0, zbd_s, ieq (by omega) (by omega)]
  unfold qdk
  by_cases e1 : qsw (qr g) (qL (qr g) k 0) = true
  · rw [if_pos e1, if_pos e1]
    by_cases e2 : qwh (qr g) (qL (qr g) k 0) 0 = true
    · rw [if_pos e2, if_pos e2]
      by_cases e3 : qwh (qr g) (qL (qr g) k 0) 1 = true
      · rw [if_pos e3, if_pos e3]
        by_cases e4 : qL (qr g) k 2 = 1
        · by_cases e5 : qpol (qr g) (qL (qr g) k 0) 0 = 1
          · rw [if_pos e4, if_pos e5, if_pos ⟨e4, e5⟩]
          · rw [if_pos e4, if_neg e5, if_neg (fun q => e5 q.2)]
        · rw [if_neg e4, if_neg (fun q => e4 q.1)]
      · rw [if_neg e3, if_neg e3]
    · rw [if_neg e2, if_neg e2]
  · rw [if_neg e1, if_neg e1]
theorem m_burning (hR : qRow m (qr g)) : fX8_burning g = some (qburn (qr g)) := by
  have h1 := hR.2.1
  unfold fX8_burning
  refine q_loop0 (L := fX8_burning_p4 g) (n := qr g 85) (by omega) (fun fu a k h0 hk => ?_) (fun fu a => ?_)
  · have hd := qdk_r (qr g) k
    rw [fX8_burning_p4, zck_t (by omega), qr_f, ilt (by omega) (by omega), if_pos hk, m_dark hR ⟨h0, hk⟩, zbd_s, ieq (by omega) (by omega)]
    simp only [zlet_e]
    split <;> rfl
  · rw [fX8_burning_p4, zck_t (by omega), qr_f, ilt (by omega) (by omega), if_neg (by omega)]
theorem m_drawn (hR : qRow m (qr g)) : fX8_drawn g = some (qdrawn (qr g)) := by
  have h1 := hR.2.1
  unfold fX8_drawn
  refine q_loop0 (L := fX8_drawn_p4 g) (n := qr g 85) (by omega) (fun fu a k h0 hk => ?_) (fun fu a => ?_)
  · have hd := qdk_r (qr g) k
    rw [fX8_drawn_p4, zck_t (by omega), qr_f, ilt (by omega) (by omega), if_pos hk, m_dark hR ⟨h0, hk⟩, zbd_s, ieq (by omega) (by omega), m_ofLantern (by omega), zbd_s]
    simp only [zlet_e]
    split <;> rfl
  · rw [fX8_drawn_p4, zck_t (by omega), qr_f, ilt (by omega) (by omega), if_neg (by omega)]
theorem m_isLive (hR : qRow m (qr g)) (hk : 0 ≤ k ∧ k < qr g 134) : fX8_isLive g k = some (qbi (qlv (qr g) k)) := by
  have h1 := hR.2.2.1
  have hx := hR.2.2.2.2.2.1 k hk.1 hk.2
  unfold fX8_isLive
  rw [m_ofFault (by omega), zbd_s, m_ofFault (by omega), zbd_s, m_isAlive hR hx.1 hx.2.1, zbd_s, qck_b]
  rfl
theorem m_faultPole (hR : qRow m (qr g)) (hk : 0 ≤ k ∧ k < qr g 134) : fX8_faultPole g k = some (qfp (qr g) k) := by
  have h1 := hR.2.2.1
  have hx := hR.2.2.2.2.2.1 k hk.1 hk.2
  unfold fX8_faultPole
  rw [m_ofFault (by omega), zbd_s, m_ofFault (by omega), zbd_s, m_pole hR hx.1, zbd_s]
  rfl
theorem qfp_r {r : Int → Int} (hR : qRow m r) (hk : 0 ≤ k ∧ k < r 134) : qfp r k = 0 ∨ qfp r k = 1 := qpol_r (hR.2.2.2.2.2.1 k hk.1 hk.2).2.1
theorem qlw_r {r : Int → Int} {p : Int} (hR : qRow m r) (hk : 0 ≤ k ∧ k < r 134) : 0 ≤ qlw r p k ∧ qlw r p k ≤ 30 := by
  have hx := (hR.2.2.2.2.2.1 k hk.1 hk.2).2.2
  unfold qlw
  split <;> omega
theorem qlws_r {r : Int → Int} {p : Int} (hR : qRow m r) {j : Nat} (hj : (j : Int) ≤ r 134) : 0 ≤ qsum (qlw r p) 0 j ∧ qsum (qlw r p) 0 j ≤ 270 := by
  have h1 := hR.2.2.1
  have := qsum_le (f := qlw r p) (b := 30) j 0 (fun k a b => qlw_r hR ⟨a, by omega⟩)
  omega
theorem qlamp_r {r : Int → Int} {p : Int} (hR : qRow m r) : 0 ≤ qlamp r p ∧ qlamp r p ≤ 270 := by
  have h1 := hR.2.2.1
  exact qlws_r hR (by omega)
theorem qleak_r {r : Int → Int} (hR : qRow m r) : 0 ≤ qleak r ∧ qleak r ≤ 270 := by
  have h0 := qlamp_r (p := 0) hR
  have h1 := qlamp_r (p := 1) hR
  unfold qleak
  split <;> omega
theorem qleft_r {r : Int → Int} {p : Int} (hR : qRow m r) (hk : 0 ≤ k ∧ k ≤ r 134) : 0 ≤ qleft r p k ∧ qleft r p k ≤ 270 := by
  have h0 := qleak_r hR
  have h1 := qlws_r (p := p) hR (j := k.toNat) (by omega)
  unfold qleft
  split <;> omega
theorem qflow_r {r : Int → Int} (hR : qRow m r) (hk : 0 ≤ k ∧ k < r 134) : 0 ≤ qflow r k ∧ qflow r k ≤ 30 := by
  have hx := (hR.2.2.2.2.2.1 k hk.1 hk.2).2.2
  have := qleft_r (p := qfp r k) hR (k := k) ⟨hk.1, by omega⟩
  unfold qflow
  repeat' split
  all_goals omega
theorem m_lampOf (hR : qRow m (qr g)) {p : Int} (hp : p = 0 ∨ p = 1) : fX8_lampOf g p = some (qlamp (qr g) p) := by
  have h1 := hR.2.2.1
  unfold fX8_lampOf
  refine q_loop0 (L := fun fu a k => fX8_lampOf_p4 g fu p a k) (n := qr g 134) (f := qlw (qr g) p) (by omega) (fun fu a k h0 hk => ?_) (fun fu a => ?_)
  · have hd := qfp_r hR ⟨h0, hk⟩
    show fX8_lampOf_p4 g (fu + 1) p a k = _
    rw [fX8_lampOf_p4, zck_t (by omega), qr_f, ilt (by omega) (by omega), if_pos hk, m_isLive hR ⟨h0, hk⟩, zbd_s, ib0, m_faultPole hR ⟨h0, hk⟩, zbd_s, ieq (by omega) (by omega), m_ofFault (by omega), zbd_s]
    simp only [zlet_e]
    unfold qlw
    by_cases e1 : qlv (qr g) k = true
    · rw [if_pos e1]
      by_cases e2 : qfp (qr g) k = p
      · rw [if_pos e2, if_pos ⟨e1, e2⟩]
      · rw [if_neg e2, if_neg (fun q => e2 q.2)]
    · rw [if_neg e1, if_neg (fun q => e1 q.1)]
  · show fX8_lampOf_p4 g (fu + 1) p a _ = _
    rw [fX8_lampOf_p4, zck_t (by omega), qr_f, ilt (by omega) (by omega), if_neg (by omega)]
theorem m_leak (hR : qRow m (qr g)) : fX8_leak g = some (qleak (qr g)) := by
  have h0 := qlamp_r (p := 0) hR
  have h1 := qlamp_r (p := 1) hR
  unfold fX8_leak qleak
  rw [m_lampOf hR (Or.inl rfl), zbd_s, m_lampOf hR (Or.inr rfl), zbd_s, ilt (by omega) (by omega)]
  simp only [zbd_s]
  split <;> rfl
end QSUMS
