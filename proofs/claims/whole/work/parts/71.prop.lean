section QPROP
variable {g g' g1 g2 g3 g4 : zSt} {m b t x w k p u j a lo hi v M p1 p2 p3 p4 y a1 a2 a3 a4 i n : Int} {r r' re : Int → Int} {R : Nat → Int → Int} {c s d e N L : Nat}
def qla (r : Int → Int) (b k : Int) : Int := if qL r k 0 = b then (if qdk r k = 0 then 1 else 0) else 0
def qlu (r : Int → Int) (b k : Int) : Int := if qL r k 0 = b then qL r k 1 else 0
def qfa (r : Int → Int) (b t k : Int) : Int := if qF r k 0 = b then (if qF r k 1 = t then qF r k 2 else 0) else 0
def qbw (r : Int → Int) (k : Int) : Int := qB r (k / 2) (5 + k % 2)
/-- the properties of a box, a terminal, a lantern, a fault, and the counts -/
def qbp (r : Int → Int) (b w : Int) : Int := if w = 3 then qdep r b else if w = 4 then qbh r b else if w = 5 then qsum (qla r b) 0 (r 85).toNat else if w = 6 then qsum (qlu r b) 0 (r 85).toNat else if b = 0 then -1 else qB r b w
def qtp (r : Int → Int) (b t w : Int) : Int := if w = 0 then qpol r b t else if w = 1 then qbi (qal r b t) else if w = 2 then qcur r b t else if w = 3 then (if b = 0 then -1 else qB r b (3 + t)) else if w = 4 then (if b = 0 then -1 else qB r b (5 + t)) else qsum (qfa r b t) 0 (r 134).toNat
def qlp (r : Int → Int) (k w : Int) : Int := if w = 3 then qdk r k else qL r k w
def qfq (r : Int → Int) (k w : Int) : Int := if w < 3 then qF r k w else if w = 3 then qfp r k else qflow r k
def qco (r : Int → Int) (n : Int) (w : Int) : Int := if w = 0 then r 0 else if w = 1 then r 85 else if w = 2 then qburn r else if w = 3 then r 134 else if w = 4 then qleak r else if w = 5 then qsum (qbw r) 2 (2 * r 0 - 2).toNat else if w = 6 then r 162 else if w = 7 then r 163 else if w = 8 then r 164 else if w = 9 then r 165 else if w = 10 then r 166 else n
theorem q_loopN {L : Nat → Int → Int → Option Int} {f : Int → Int} (hn : lo ≤ n ∧ n - lo < 1999 ∧ 0 ≤ lo) (hs : ∀ fu a k, 0 ≤ k → lo ≤ k → k < n → L (fu + 1) a k = L fu (a + f k) (k + 1)) (he : ∀ fu a, L (fu + 1) a n = some a) : L zfu 0 lo = some (qsum f lo (n - lo).toNat) := by
  have key : ∀ (fu : Nat) (k a : Int), lo ≤ k → k ≤ n → (n - k).toNat < fu → L fu a k = some (a + qsum f k (n - k).toNat) := by
    intro fu
    induction fu with
    | zero => intro k a _ _ h; omega
    | succ fu ih =>
      intro k a h0 hn h
      by_cases hk : k = n
      · subst hk
        rw [he, show (k - k).toNat = 0 by omega]
        simp [qsum]
      · rw [hs fu a k (by omega) h0 (by omega), ih (k + 1) (a + f k) (by omega) (by omega) (by omega), show (n - k).toNat = (n - (k + 1)).toNat + 1 by omega, qsum]
        congr 1
        omega
  have := key zfu lo 0 (by omega) (by omega) (by unfold zfu; omega)
  rw [this]
  simp
theorem m_behind (hR : qRow M (qr g)) (hb : 0 ≤ b ∧ b < qr g 0) : fX8_behind g b = some (qbh (qr g) b) := by
  have h1 := hR.1
  unfold fX8_behind qbh
  rw [zlet_e, show (qr g 0 - 1 - b).toNat = (qr g 0 - (b + 1)).toNat by omega]
  refine q_loopN (L := fun fu a k => fX8_behind_p6 g fu b a k) (n := qr g 0) (lo := b + 1) (by omega) (fun fu a k k0 k1 k2 => ?_) (fun fu a => ?_)
  · show fX8_behind_p6 g (fu + 1) b a k = _
    rw [fX8_behind_p6, zck_t (by omega), qr_f, ilt (by omega) (by omega), if_pos k2, m_isBehind hR hb ⟨k0, k2⟩, zbd_s, ib0]
    simp only [zlet_e, decide_eq_true_eq]
    split <;> rfl
  · show fX8_behind_p6 g (fu + 1) b a _ = _
    rw [fX8_behind_p6, zck_t (by omega), qr_f, ilt (by omega) (by omega), if_neg (by omega)]
theorem m_lanAt0 (hR : qRow M (qr g)) (hb : 0 ≤ b ∧ b < qr g 0) : fX8_lanternsAt g b 0 = some (qsum (qla (qr g) b) 0 (qr g 85).toNat) := by
  have h1 := hR.1
  have h2 := hR.2.1
  unfold fX8_lanternsAt
  refine q_loop0 (L := fun fu a k => fX8_lanternsAt_p5 g fu b 0 a k) (n := qr g 85) (by omega) (fun fu a k h0 hk => ?_) (fun fu a => ?_)
  · have hx := (hR.2.2.2.2.1 k h0 hk).1
    have hd := qdk_r (qr g) k
    have p : ∀ y, fX8_lanternsAt_p45 g (fX8_lanternsAt_p5 g fu) y b 0 a k = fX8_lanternsAt_p5 g fu b 0 (a + if qL (qr g) k 0 = b then y else 0) (k + 1) := by
      intro y
      unfold fX8_lanternsAt_p45
      rw [m_ofLantern (by omega), zbd_s, ieq (by omega) (by omega), zlet_e, zlet_e]
      split <;> rfl
    show fX8_lanternsAt_p5 g (fu + 1) b 0 a k = _
    rw [fX8_lanternsAt_p5, zck_t (by omega), qr_f, ilt (by omega) (by omega), if_pos hk, if_pos rfl, m_dark hR ⟨h0, hk⟩, zbd_s, ieq (by omega) (by omega), p, p]
    unfold qla
    split <;> rfl
  · show fX8_lanternsAt_p5 g (fu + 1) b 0 a _ = _
    rw [fX8_lanternsAt_p5, zck_t (by omega), qr_f, ilt (by omega) (by omega), if_neg (by omega)]
theorem m_lanAt1 (hR : qRow M (qr g)) (hb : 0 ≤ b ∧ b < qr g 0) : fX8_lanternsAt g b 1 = some (qsum (qlu (qr g) b) 0 (qr g 85).toNat) := by
  have h1 := hR.1
  have h2 := hR.2.1
  unfold fX8_lanternsAt
  refine q_loop0 (L := fun fu a k => fX8_lanternsAt_p5 g fu b 1 a k) (n := qr g 85) (by omega) (fun fu a k h0 hk => ?_) (fun fu a => ?_)
  · have hx := (hR.2.2.2.2.1 k h0 hk).1
    show fX8_lanternsAt_p5 g (fu + 1) b 1 a k = _
    rw [fX8_lanternsAt_p5, zck_t (by omega), qr_f, ilt (by omega) (by omega), if_pos hk, ieq (by omega) (by omega), if_neg (by omega), m_ofLantern (by omega), zbd_s]
    unfold fX8_lanternsAt_p45 qlu
    rw [m_ofLantern (by omega), zbd_s, ieq (by omega) (by omega), zlet_e, zlet_e]
    split <;> rfl
  · show fX8_lanternsAt_p5 g (fu + 1) b 1 a _ = _
    rw [fX8_lanternsAt_p5, zck_t (by omega), qr_f, ilt (by omega) (by omega), if_neg (by omega)]
theorem m_boxNow (hR : qRow M (qr g)) (hb : 0 ≤ b ∧ b < qr g 0) (hw : 0 ≤ w ∧ w ≤ 6) : fX8_boxNow g b w = some (qbp (qr g) b w) := by
  have h1 := hR.1
  unfold fX8_boxNow qbp
  rw [ieq (by omega) (by omega), ieq (by omega) (by omega), ieq (by omega) (by omega), ieq (by omega) (by omega), ieq (by omega) (by omega), m_depth hR hb, zbd_s, m_behind hR hb, zbd_s, m_lanAt0 hR hb, zbd_s, m_lanAt1 hR hb, zbd_s, m_ofBox (by omega), zbd_s]
  simp only [som_if]
theorem m_fauAt (hR : qRow M (qr g)) (hb : 0 ≤ b ∧ b < qr g 0) (ht : t = 0 ∨ t = 1) : fX8_faultsAt g b t = some (qsum (qfa (qr g) b t) 0 (qr g 134).toNat) := by
  have h1 := hR.1
  have h2 := hR.2.2.1
  unfold fX8_faultsAt
  refine q_loop0 (L := fun fu a k => fX8_faultsAt_p5 g fu b t a k) (n := qr g 134) (by omega) (fun fu a k h0 hk => ?_) (fun fu a => ?_)
  · have hx := hR.2.2.2.2.2.1 k h0 hk
    have hx0 := hx.1
    have hx1 := hx.2.1
    show fX8_faultsAt_p5 g (fu + 1) b t a k = _
    rw [fX8_faultsAt_p5, zck_t (by omega), qr_f, ilt (by omega) (by omega), if_pos hk, m_ofFault (by omega), zbd_s, ieq (by omega) (by omega), m_ofFault (by omega), zbd_s, ieq (by omega) (by omega), m_ofFault (by omega), zbd_s]
    simp only [zlet_e]
    unfold qfa
    split
    · split <;> rfl
    · rfl
  · show fX8_faultsAt_p5 g (fu + 1) b t a _ = _
    rw [fX8_faultsAt_p5, zck_t (by omega), qr_f, ilt (by omega) (by omega), if_neg (by omega)]
theorem m_terNow (hR : qRow M (qr g)) (hb : 0 ≤ b ∧ b < qr g 0) (ht : t = 0 ∨ t = 1) (hw : 0 ≤ w ∧ w ≤ 5) : fX8_terminalNow g b t w = some (qtp (qr g) b t w) := by
  have h1 := hR.1
  have ha : (if qal (qr g) b t = true then some (1 : Int) else some 0) = some (qbi (qal (qr g) b t)) := by
    unfold qbi
    split <;> rfl
  unfold fX8_terminalNow qtp
  rw [ieq (by omega) (by omega), ieq (by omega) (by omega), ieq (by omega) (by omega), ieq (by omega) (by omega), ieq (by omega) (by omega), ieq (by omega) (by omega), ieq (by omega) (by omega), m_pole hR hb, zbd_s, m_isAlive hR hb ht, zbd_s, ib0, ha, m_current hR hb ht, zbd_s, m_ofBox (by omega), zbd_s, m_ofBox (by omega), zbd_s, m_fauAt hR hb ht, zbd_s]
  simp only [som_if]
theorem m_lanNow (hR : qRow M (qr g)) (hk : 0 ≤ k ∧ k < qr g 85) (hw : 0 ≤ w ∧ w ≤ 3) : fX8_lanternNow g k w = some (qlp (qr g) k w) := by
  have h2 := hR.2.1
  unfold fX8_lanternNow qlp
  rw [ieq (by omega) (by omega), m_dark hR hk, zbd_s, m_ofLantern (by omega), zbd_s]
  simp only [som_if]
theorem m_fauNow (hR : qRow M (qr g)) (hk : 0 ≤ k ∧ k < qr g 134) (hw : 0 ≤ w ∧ w ≤ 4) : fX8_faultNow g k w = some (qfq (qr g) k w) := by
  have h2 := hR.2.2.1
  unfold fX8_faultNow qfq
  rw [ilt (by omega) (by omega), ieq (by omega) (by omega), m_ofFault (by omega), zbd_s, m_faultPole hR hk, zbd_s, m_flow hR hk, zbd_s]
  simp only [som_if]
theorem m_blownNow (hR : qRow M (qr g)) : fX8_blownNow g = some (qsum (qbw (qr g)) 2 (2 * qr g 0 - 2).toNat) := by
  have h1 := hR.1
  unfold fX8_blownNow
  refine q_loopN (L := fX8_blownNow_p4 g) (n := 2 * qr g 0) (lo := 2) (by omega) (fun fu a k k0 k1 k2 => ?_) (fun fu a => ?_)
  · rw [fX8_blownNow_p4, zck_t (by omega), qr_f, ilt (by omega) (by omega), if_pos k2, (qdm2 (by omega)).1, (qdm2 (by omega)).2, m_ofBox (by omega), zbd_s, zlet_e]
    rfl
  · rw [fX8_blownNow_p4, zck_t (by omega), qr_f, ilt (by omega) (by omega), if_neg (by omega)]
theorem m_counted (hR : qRow M (qr g)) (hw : 0 ≤ w ∧ w ≤ 11) (hn : g.1 400 2 = n) : fX8_counted g w = some (qco (qr g) n w) := by
  unfold fX8_counted qco
  rw [ieq (by omega) (by omega), ieq (by omega) (by omega), ieq (by omega) (by omega), ieq (by omega) (by omega), ieq (by omega) (by omega), ieq (by omega) (by omega), ieq (by omega) (by omega), ieq (by omega) (by omega), ieq (by omega) (by omega), ieq (by omega) (by omega), ieq (by omega) (by omega), m_burning hR, zbd_s, m_leak hR, zbd_s, m_blownNow hR, zbd_s, hn]
  rw [zck_t (c := (0 : Int) ≤ 0 ∧ 0 < 168) (by omega), zck_t (c := (0 : Int) ≤ 85 ∧ 85 < 168) (by omega), zck_t (c := (0 : Int) ≤ 134 ∧ 134 < 168) (by omega), zck_t (c := (0 : Int) ≤ 162 ∧ 162 < 168) (by omega), zck_t (c := (0 : Int) ≤ 163 ∧ 163 < 168) (by omega), zck_t (c := (0 : Int) ≤ 164 ∧ 164 < 168) (by omega), zck_t (c := (0 : Int) ≤ 165 ∧ 165 < 168) (by omega), zck_t (c := (0 : Int) ≤ 166 ∧ 166 < 168) (by omega)]
  simp only [som_if, qr_f]
end QPROP
