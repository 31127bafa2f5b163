section PTOLD
variable {g g' g1 g2 : zSt} {b t x w k p u j lo hi v M y up a8 a9 a10 a11 a12 a13 a14 : Int} {r r' : Int → Int} {R : Nat → Int → Int} {n : Nat} {k38 k582 k658 : zSt → Int → Int → Option (Int × zSt)} {k293 : zSt → Int → Int → Int → Option (Int × zSt)} {k62 : zSt → Int → Int → Int → Int → Int → Int → Option (Int × zSt)}
theorem q_loopG {β : Type} {L : Nat → Int → Int → β} {n : Int} {f : Int → Int} {E : Int → β} (lo : Int) (hs : ∀ fu a k, lo ≤ k → k < n → L (fu + 1) a k = L fu (a + f k) (k + 1)) (he : ∀ fu a, L (fu + 1) a n = E a) : ∀ (fu : Nat) (k a : Int), lo ≤ k → k ≤ n → (n - k).toNat < fu → L fu a k = E (a + qsum f k (n - k).toNat) := by
  intro fu
  induction fu with
  | zero => intro k a _ _ h; omega
  | succ fu ih =>
    intro k a h0 hn h
    by_cases hk : k = n
    · subst hk
      rw [he, show (k - k).toNat = 0 by omega]
      simp [qsum]
    · rw [hs fu a k h0 (by omega), ih (k + 1) (a + f k) (by omega) (by omega) (by omega), show (n - k).toNat = (n - (k + 1)).toNat + 1 by omega, qsum]
      congr 1
      omega
/-- the class and the law's own ship hold one row, and the law's answers of it stand -/
def qTo (g : zSt) (n : Nat) (R : Nat → Int → Int) (r : Int → Int) : Prop := qCs g n R r ∧ qRow 8 r ∧ qLw g 400 401 402 403 r ∧ qLi g 410 r (r 0) ∧ qCu g 411 r ∧ qFa g 412 r (r 134)
theorem t_75 (h : qTo g n R r) (hb : 0 ≤ b ∧ b < r 0) : ∀ (fu : Nat) (up : Int), up.toNat < fu → 0 ≤ up → up < r 0 → fL_told_p75 k38 k62 fu g a8 b a10 a11 a12 a13 up = k62 g a8 b (a10 + (if qrs r b up = b then 1 else 0)) a11 a12 (a13 + 1) := by
  have hR := h.2.1
  have hL := h.2.2.1
  have h7 := hL.2.1
  have hbb := hb.1
  intro fu
  induction fu with
  | zero => intro up hu; omega
  | succ fu ih =>
    intro up hu h0 hn
    rw [fL_told_p75, ilt (by omega) (by omega)]
    by_cases e : b < up
    · have hx := (hR.2.2.2.1 up (by omega) hn).1
      rw [if_pos e, zck_t (by omega), zlet_e, hL.b0 ⟨by omega, hn⟩, ih _ (by omega) hx.1 (by omega), qrs_s ⟨e, by omega, hx.2⟩]
    · rw [if_neg e, qrs_0 (by omega), ieq (by omega) (by omega), zlet_e, zlet_e]
      by_cases q : up = b
      · rw [if_pos q, if_pos q]
      · rw [if_neg q, if_neg q]
theorem t_62 (h : qTo g n R r) (hb : 0 ≤ b ∧ b < r 0) : fL_told_p62 k38 zfu g a8 b 0 0 0 (b + 1) = fL_told_p120 k38 zfu g a8 b (qbh r b) 0 0 0 := by
  have hR := h.2.1
  have hL := h.2.2.1
  have h7 := hL.2.1
  have := q_loopG (L := fun fu a k => fL_told_p62 k38 fu g a8 b a 0 0 k) (n := r 0) (f := fun j => if qrs r b j = b then 1 else 0) (E := fun a => fL_told_p120 k38 zfu g a8 b a 0 0 0) (b + 1) (fun fu a k k0 k1 => by
      show fL_told_p62 k38 (fu + 1) g a8 b a 0 0 k = _
      rw [fL_told_p62, zck_t (by omega), hL.1.1, ilt (by omega) (by omega), if_pos k1, t_75 h hb zfu k (by unfold zfu; omega) (by omega) k1])
    (fun fu a => by
      show fL_told_p62 k38 (fu + 1) g a8 b a 0 0 (r 0) = _
      rw [fL_told_p62, zck_t (by omega), hL.1.1, ilt (by omega) (by omega), if_neg (by omega)]) zfu (b + 1) 0 (by omega) (by omega) (by unfold zfu; omega)
  refine this.trans ?_
  rw [Int.zero_add, show (r 0 - (b + 1)).toNat = (r 0 - 1 - b).toNat by omega]
  rfl
theorem t_120 (h : qTo g n R r) (hb : 0 ≤ b ∧ b < r 0) : ∀ (fu : Nat) (k a11 a12 : Int), 0 ≤ k → k ≤ r 85 → (r 85 - k).toNat < fu → fL_told_p120 k38 fu g a8 b a10 a11 a12 k = fL_told_p187 k38 zfu g a8 b a10 (a11 + qsum (qla r b) k (r 85 - k).toNat) (a12 + qsum (qlu r b) k (r 85 - k).toNat) 0 := by
  have hR := h.2.1
  have hL := h.2.2.1
  have h7 := hL.2.1
  have h1 := hR.2.1
  have h0 := hR.1
  intro fu
  induction fu with
  | zero => intro k a11 a12 _ _ hf; omega
  | succ fu ih =>
    intro k a11 a12 k0 kn hf
    rw [fL_told_p120, zck_t (by omega), hL.1.2.1, ilt (by omega) (by omega)]
    by_cases e : k < r 85
    · have hx := (hR.2.2.2.2.1 k k0 e).1
      have hd := qdk_r r k
      have hs : ∀ f : Int → Int, qsum f k (r 85 - k).toNat = f k + qsum f (k + 1) (r 85 - (k + 1)).toNat := fun f => by
        rw [show (r 85 - k).toNat = (r 85 - (k + 1)).toNat + 1 by omega, qsum]
      have ela : qla r b k = (if qL r k 0 = b then (if qdk r k = 0 then 1 else 0) else 0) := rfl
      have elu : qlu r b k = (if qL r k 0 = b then qL r k 1 else 0) := rfl
      rw [if_pos e, zck_t (by omega), hL.l0 ⟨k0, e⟩, ieq (by omega) (by omega), hs, hs, ela, elu]
      by_cases q : qL r k 0 = b
      · rw [if_pos q, if_pos q, if_pos q, zck_t (by omega), hL.lw ⟨k0, e⟩ 1 (by omega), zlet_e, l_dark hR hL h.2.2.2.1 ⟨k0, e⟩, zbd_s, ieq (by omega) (by omega), zlet_e, zlet_e]
        by_cases q2 : qdk r k = 0
        · rw [if_pos q2, if_pos q2, ih _ _ _ (by omega) (by omega) (by omega), Int.add_assoc, Int.add_assoc]
        · rw [if_neg q2, if_neg q2, ih _ _ _ (by omega) (by omega) (by omega), Int.add_assoc, Int.add_assoc]
      · rw [if_neg q, if_neg q, if_neg q, ih _ _ _ (by omega) (by omega) (by omega), Int.zero_add, Int.zero_add]
    · rw [if_neg e, show (r 85 - k).toNat = 0 by omega]
      simp [qsum]
theorem t_187 (h : qTo g n R r) (hb : 0 ≤ b ∧ b < r 0) : fL_told_p187 k38 zfu g a8 b (qbh r b) (qsum (qla r b) 0 (r 85).toNat) (qsum (qlu r b) 0 (r 85).toNat) 0 = fL_told_p293 k38 zfu g a8 b 0 := by
  have hR := h.2.1
  have hL := h.2.2.1
  have h7 := hL.2.1
  have h0 := hR.1
  have step : ∀ (fu : Nat) (w : Int), 0 ≤ w → w < 3 → fL_told_p187 k38 (fu + 1) g a8 b (qbh r b) (qsum (qla r b) 0 (r 85).toNat) (qsum (qlu r b) 0 (r 85).toNat) w = fL_told_p187 k38 fu g a8 b (qbh r b) (qsum (qla r b) 0 (r 85).toNat) (qsum (qlu r b) 0 (r 85).toNat) (w + 1) := by
    intro fu w w0 w1
    have e1 : qbp r b w = if b = 0 then -1 else qB r b w := by
      unfold qbp
      rw [if_neg (by omega), if_neg (by omega), if_neg (by omega), if_neg (by omega)]
    rw [fL_told_p187, ilt (by omega) (by omega), if_pos w1, kq_box h.1 hR hb (by omega), zbd_s, ieq (a := b) (by omega) (by omega), e1]
    by_cases q : b = 0
    · rw [if_pos q, if_pos q, if_pos rfl]
    · rw [if_neg q, if_neg q, zck_t (by omega), hL.bw ⟨by omega, hb.2⟩ w (by omega), if_pos rfl]
  rw [show zfu = 1996 + 1 + 1 + 1 + 1 from rfl, step _ 0 (by omega) (by omega), step _ _ (by omega) (by omega), step _ _ (by omega) (by omega), fL_told_p187, ilt (by omega) (by omega), if_neg (by omega), kq_box h.1 hR hb (by omega), zbd_s, zck_t (by omega), hL.b7 hb, show qbp r b 3 = qdep r b from rfl, if_pos rfl, kq_box h.1 hR hb (by omega), zbd_s, show qbp r b 4 = qbh r b from rfl, if_pos rfl, kq_box h.1 hR hb (by omega), zbd_s, show qbp r b 5 = qsum (qla r b) 0 (r 85).toNat from rfl, if_pos rfl, kq_box h.1 hR hb (by omega), zbd_s, show qbp r b 6 = qsum (qlu r b) 0 (r 85).toNat from rfl, if_pos rfl]
  rfl
/-- what the law counts of blown fuses at a terminal -/
def qbt (r : Int → Int) (b t : Int) : Int := if 0 < b then qB r b (5 + t) else 0
theorem t_405 (h : qTo g n R r) (hb : 0 ≤ b ∧ b < r 0) (ht : t = 0 ∨ t = 1) : fL_told_p405 k38 k293 g a8 (qbt r b t) b t (qsum (qfa r b t) 0 (r 134).toNat) (if 1 < qlt r b t then 1 else 0) = k293 g (a8 + qbt r b t) b (t + 1) := by
  have hR := h.2.1
  have hL := h.2.2.1
  have h7 := hL.2.1
  have h0 := hR.1
  have ht0 := q01 ht
  have hl := qlt_r (r := r) (b := b) ht
  have hli := h.2.2.2.1 b t hb.1 hb.2 ht
  have hm := qlt_m (r := r) (b := b) ht
  have h2 := qlt_2 (r := r) (b := b) ht
  have p5 : ∀ z, fL_told_p548 k38 k293 g z z (a8 + qbt r b t) b t (qsum (qfa r b t) 0 (r 134).toNat) = k293 g (a8 + qbt r b t) b (t + 1) := fun z => by
    unfold fL_told_p548
    rw [if_pos rfl, kq_ter h.1 hR hb ht (by omega), zbd_s, show qtp r b t 5 = qsum (qfa r b t) 0 (r 134).toNat from rfl, if_pos rfl]
  have p4 : ∀ z, fL_told_p515 k38 k293 g z z (a8 + qbt r b t) b t (qsum (qfa r b t) 0 (r 134).toNat) = k293 g (a8 + qbt r b t) b (t + 1) := fun z => by
    unfold fL_told_p515
    rw [if_pos rfl, kq_ter h.1 hR hb ht (by omega), zbd_s, show qtp r b t 4 = (if b = 0 then -1 else qB r b (5 + t)) from rfl, ieq (a := b) (by omega) (by omega)]
    by_cases q : b = 0
    · rw [if_pos q, if_pos q, p5]
    · rw [if_neg q, if_neg q, zck_t (by omega), hL.bt ⟨by omega, hb.2⟩ 5 (by omega), p5]
  have p3 : ∀ z, fL_told_p482 k38 k293 g z z (a8 + qbt r b t) b t (qsum (qfa r b t) 0 (r 134).toNat) = k293 g (a8 + qbt r b t) b (t + 1) := fun z => by
    unfold fL_told_p482
    rw [if_pos rfl, kq_ter h.1 hR hb ht (by omega), zbd_s, show qtp r b t 3 = (if b = 0 then -1 else qB r b (3 + t)) from rfl, ieq (a := b) (by omega) (by omega)]
    by_cases q : b = 0
    · rw [if_pos q, if_pos q, p4]
    · rw [if_neg q, if_neg q, zck_t (by omega), hL.bt ⟨by omega, hb.2⟩ 3 (by omega), p4]
  unfold fL_told_p405
  rw [zlet_e, kq_ter h.1 hR hb ht (by omega), zbd_s, zck_t (by omega), hli, hm, show qtp r b t 0 = qpol r b t from rfl, if_pos rfl, kq_ter h.1 hR hb ht (by omega), zbd_s, show qtp r b t 1 = qbi (qal r b t) from rfl]
  cases hal : qal r b t
  · rw [hal] at h2
    have h2' : qlt r b t < 2 := by rw [h2]
    rw [if_neg (show ¬ 1 < qlt r b t by omega), if_pos (show i32 0 = i32 0 from rfl), qbi_f]
    unfold fL_told_p451
    rw [if_pos rfl, kq_ter h.1 hR hb ht (by omega), zbd_s, if_pos rfl, show qtp r b t 2 = qcur r b t from rfl, show qcur r b t = 0 from by unfold qcur; rw [hal]; rfl]
    exact p3 0
  · rw [hal] at h2
    have h2' : ¬ qlt r b t < 2 := by rw [h2]; simp
    rw [if_pos (show 1 < qlt r b t by omega), if_neg (show ¬ i32 1 = i32 0 by decide), qbi_t]
    unfold fL_told_p451
    rw [if_pos rfl, kq_ter h.1 hR hb ht (by omega), zbd_s, if_neg (show ¬ i32 1 = i32 0 by decide), zck_t (by omega), h.2.2.2.2.1.al hb ht hal, show qtp r b t 2 = qcur r b t from rfl]
    exact p3 _
theorem t_305 (h : qTo g n R r) (hb : 0 ≤ b ∧ b < r 0) (ht : t = 0 ∨ t = 1) : fL_told_p305 k38 k293 zfu g a8 b t 0 0 = k293 g (a8 + qbt r b t) b (t + 1) := by
  have hR := h.2.1
  have hL := h.2.2.1
  have h7 := hL.2.1
  have h0 := hR.1
  have h2 := hR.2.2.1
  have ht0 := q01 ht
  have hl := qlt_r (r := r) (b := b) ht
  have hli := h.2.2.2.1 b t hb.1 hb.2 ht
  have := q_loopG (L := fun fu a k => fL_told_p305 k38 k293 fu g a8 b t a k) (n := r 134) (f := qfa r b t) (E := fun a => if 1 < qlt r b t then fL_told_p380 k38 k293 g 1 a8 b t a else fL_told_p380 k38 k293 g 0 a8 b t a) 0 (fun fu a k k0 k1 => by
      have hx := hR.2.2.2.2.2.1 k k0 k1
      have hx0 := hx.1
      have hx1 := q01 hx.2.1
      clear hx
      show fL_told_p305 k38 k293 (fu + 1) g a8 b t a k = fL_told_p305 k38 k293 fu g a8 b t (a + qfa r b t k) (k + 1)
      rw [fL_told_p305, zck_t (by omega), hL.1.2.2.1, ilt (by omega) (by omega), if_pos k1, zck_t (by omega), hL.f0 ⟨k0, k1⟩, ieq (by omega) (by omega), zck_t (by omega), hL.fw ⟨k0, k1⟩ 1 (by omega), ieq (by omega) (by omega), zck_t (by omega), hL.fw ⟨k0, k1⟩ 2 (by omega)]
      simp only [zlet_e]
      unfold qfa
      by_cases q : qF r k 0 = b
      · rw [if_pos q, if_pos q]
        by_cases q2 : qF r k 1 = t
        · rw [if_pos q2, if_pos q2]
        · rw [if_neg q2, if_neg q2]
      · rw [if_neg q, if_neg q])
    (fun fu a => by
      show fL_told_p305 k38 k293 (fu + 1) g a8 b t a (r 134) = _
      rw [fL_told_p305, zck_t (by omega), hL.1.2.2.1, ilt (by omega) (by omega), if_neg (by omega), zck_t (by omega), hli, ilt (by omega) (by omega)]) zfu 0 0 (by omega) (by omega) (by unfold zfu; omega)
  refine this.trans ?_
  rw [Int.zero_add, show (r 134 - 0).toNat = (r 134).toNat by omega]
  have p380 : ∀ z, z = (if 1 < qlt r b t then 1 else 0) → fL_told_p380 k38 k293 g z a8 b t (qsum (qfa r b t) 0 (r 134).toNat) = k293 g (a8 + qbt r b t) b (t + 1) := by
    intro z hz
    subst hz
    refine Eq.trans ?_ (t_405 (k38 := k38) (k293 := k293) (a8 := a8) h hb ht)
    unfold fL_told_p380
    rw [ilt (by omega) (by omega)]
    unfold qbt
    by_cases q : 0 < b
    · rw [if_pos q, if_pos q, zck_t (by omega), hL.bt ⟨q, hb.2⟩ 5 (by omega)]
    · rw [if_neg q, if_neg q]
  show (if 1 < qlt r b t then fL_told_p380 k38 k293 g 1 a8 b t _ else fL_told_p380 k38 k293 g 0 a8 b t _) = _
  by_cases q : 1 < qlt r b t
  · rw [if_pos q, p380 1 (by rw [if_pos q])]
  · rw [if_neg q, p380 0 (by rw [if_neg q])]
theorem t_293 (h : qTo g n R r) (hb : 0 ≤ b ∧ b < r 0) : fL_told_p293 k38 zfu g a8 b 0 = k38 g (a8 + (qbt r b 0 + qbt r b 1)) (b + 1) := by
  have e : fL_told_p293 k38 zfu g a8 b 0 = fL_told_p293 k38 (1997 + 1 + 1 + 1) g a8 b 0 := rfl
  rw [e, fL_told_p293, ilt (by omega) (by omega), if_pos (by omega), t_305 h hb (Or.inl rfl), fL_told_p293, ilt (by omega) (by omega), if_pos (by omega), t_305 h hb (Or.inr (by omega)), fL_told_p293, ilt (by omega) (by omega), if_neg (by omega), Int.add_assoc]
  rfl
theorem t_38 (h : qTo g n R r) (hb : 0 ≤ b ∧ b < r 0) {fu : Nat} : fL_told_p38 (fu + 1) g a8 b = fL_told_p38 fu g (a8 + (qbt r b 0 + qbt r b 1)) (b + 1) := by
  have hR := h.2.1
  have hL := h.2.2.1
  have h7 := hL.2.1
  have h1 := hR.2.1
  rw [fL_told_p38, zck_t (by omega), hL.1.1, ilt (by omega) (by omega), if_pos hb.2, zlet_e, t_62 h hb, t_120 h hb zfu 0 0 0 (by omega) h1.1 (by unfold zfu; omega), Int.zero_add, Int.zero_add, show (r 85 - 0).toNat = (r 85).toNat by omega, t_187 h hb, t_293 h hb]
theorem qsum_two (f : Int → Int) : ∀ (m : Nat) (lo : Int), qsum f (2 * lo) (2 * m) = qsum (fun b => f (2 * b) + f (2 * b + 1)) lo m := by
  intro m
  induction m with
  | zero => intro lo; rfl
  | succ m ih =>
    intro lo
    rw [show 2 * (m + 1) = 2 * m + 1 + 1 by omega, qsum, qsum, qsum, show 2 * lo + 1 + 1 = 2 * (lo + 1) by omega, ih]
    omega
theorem t_38all (h : qTo g n R r) : fL_told_p38 zfu g 0 0 = fL_told_p582 zfu g (qsum (qbw r) 2 (2 * r 0 - 2).toNat) 0 := by
  have hR := h.2.1
  have hL := h.2.2.1
  have h7 := hL.2.1
  have h0 := hR.1
  have := q_loopG (L := fun fu a k => fL_told_p38 fu g a k) (n := r 0) (f := fun b => qbt r b 0 + qbt r b 1) (E := fun a => fL_told_p582 zfu g a 0) 0 (fun fu a k k0 k1 => t_38 h ⟨k0, k1⟩) (fun fu a => by
      show fL_told_p38 (fu + 1) g a (r 0) = _
      rw [fL_told_p38, zck_t (by omega), hL.1.1, ilt (by omega) (by omega), if_neg (by omega)]) zfu 0 0 (by omega) (by omega) (by unfold zfu; omega)
  refine this.trans ?_
  have e : (r 0 - 0).toNat = (r 0 - 1).toNat + 1 := by omega
  rw [Int.zero_add, e, qsum]
  have e1 : qsum (qbw r) 2 (2 * r 0 - 2).toNat = qsum (fun b => qbw r (2 * b) + qbw r (2 * b + 1)) 1 (r 0 - 1).toNat := by
    rw [← qsum_two]
    congr 1
    omega
  rw [e1]
  have e2 : qsum (fun b => qbt r b 0 + qbt r b 1) (0 + 1) (r 0 - 1).toNat = qsum (fun b => qbw r (2 * b) + qbw r (2 * b + 1)) 1 (r 0 - 1).toNat := by
    refine qsum_congr _ _ (fun k k0 k1 => ?_)
    unfold qbt qbw
    rw [if_pos (by omega), if_pos (by omega), show 2 * k / 2 = k by omega, show 2 * k % 2 = 0 by omega, show (2 * k + 1) / 2 = k by omega, show (2 * k + 1) % 2 = 1 by omega]
  rw [e2]
  show fL_told_p582 zfu g (qbt r 0 0 + qbt r 0 1 + _) 0 = _
  have e3 : qbt r 0 0 + qbt r 0 1 = 0 := rfl
  rw [e3, Int.zero_add]
end PTOLD
