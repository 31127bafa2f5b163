section QSETTLE
variable {g : zSt} {m b t x w k p u n j a c lo hi : Int} {r : Int → Int}
theorem q_loopE {L : Nat → Int → Int → Option Int} {n : Int} {f : Int → Int} {E : Int → Option Int} (hs : ∀ fu a k, 0 ≤ k → k < n → L (fu + 1) a k = L fu (a + f k) (k + 1)) (he : ∀ fu a, L (fu + 1) a n = E a) : ∀ (fu : Nat) (k a : Int), 0 ≤ k → k ≤ n → (n - k).toNat < fu → L fu a k = E (a + qsum f k (n - k).toNat) := by
  intro fu
  induction fu with
  | zero => intro k a _ _ h; omega
  | succ fu ih =>
    intro k a h0 hn h
    by_cases hk : k = n
    · subst hk
      rw [he, show (k - k).toNat = 0 by omega]
      simp [qsum]
    · rw [hs fu a k h0 (by omega), ih (k + 1) (a + f k) (by omega) (by omega) (by omega), show (n - k).toNat = (n - (k + 1)).toNat + 1 by omega, qsum]
      congr 1
      omega
theorem qsum_neg (f : Int → Int) (m : Nat) : ∀ lo : Int, qsum (fun k => - f k) lo m = - qsum f lo m := by
  induction m with
  | zero => intro lo; rfl
  | succ m ih => intro lo; simp only [qsum, ih]; omega
theorem m_flow71 (h1 : -2147483648 ≤ a ∧ a < 2147483648) (hR : qRow m (qr g)) (hk : 0 ≤ k ∧ k < qr g 134) : fX8_flow_p71 g a k = some (if a < qF (qr g) k 2 then a else qF (qr g) k 2) := by
  have h2 := hR.2.2.1
  have hx := (hR.2.2.2.2.2.1 k hk.1 hk.2).2.2
  unfold fX8_flow_p71
  rw [m_ofFault (by omega), zbd_s, ilt (by omega) (by omega), zbd_s]
  split <;> rfl
theorem m_flow (hR : qRow m (qr g)) (hk : 0 ≤ k ∧ k < qr g 134) : fX8_flow g k = some (qflow (qr g) k) := by
  have h2 := hR.2.2.1
  have hlk := qleak_r hR
  have hw := qlws_r (p := qfp (qr g) k) hR (j := k.toNat) (by omega)
  have hp := qfp_r hR hk
  unfold fX8_flow qflow
  rw [m_isLive hR hk, zbd_s, ib0, m_leak hR, zbd_s]
  have key : fX8_flow_p17 g zfu k (qleak (qr g)) 0 = (fun a => if i32 a < i32 0 then fX8_flow_p71 g 0 k else fX8_flow_p71 g a k) (qleak (qr g) + qsum (fun j => - qlw (qr g) (qfp (qr g) k) j) 0 (k - 0).toNat) := by
    refine q_loopE (L := fun fu a j => fX8_flow_p17 g fu k a j) (n := k) (f := fun j => - qlw (qr g) (qfp (qr g) k) j) (E := fun a => if i32 a < i32 0 then fX8_flow_p71 g 0 k else fX8_flow_p71 g a k) (fun fu a j h0 hj => ?_) (fun fu a => ?_) zfu 0 (qleak (qr g)) (by omega) hk.1 (by unfold zfu; omega)
    · have hd := qfp_r hR (k := j) ⟨h0, by omega⟩
      show fX8_flow_p17 g (fu + 1) k a j = _
      rw [fX8_flow_p17, ilt (by omega) (by omega), if_pos hj, m_isLive hR ⟨h0, by omega⟩, zbd_s, ib0, m_faultPole hR ⟨h0, by omega⟩, zbd_s, m_faultPole hR hk, zbd_s, ieq (by omega) (by omega), m_ofFault (by omega), zbd_s]
      simp only [zlet_e]
      unfold qlw
      by_cases e1 : qlv (qr g) j = true
      · rw [if_pos e1]
        by_cases e2 : qfp (qr g) j = qfp (qr g) k
        · rw [if_pos e2, if_pos ⟨e1, e2⟩]; rfl
        · rw [if_neg e2, if_neg (fun q => e2 q.2)]; rfl
      · rw [if_neg e1, if_neg (fun q => e1 q.1)]; rfl
    · show fX8_flow_p17 g (fu + 1) k a k = _
      rw [fX8_flow_p17, ilt (by omega) (by omega), if_neg (by omega)]
  rw [key]
  by_cases e1 : qlv (qr g) k = true
  · rw [if_pos e1, if_pos e1]
    show (if i32 _ < i32 0 then _ else _) = _
    rw [qsum_neg, show (k - 0).toNat = k.toNat by omega, ilt (by omega) (by omega), m_flow71 (by omega) hR hk, m_flow71 (by omega) hR hk]
    unfold qleft
    rw [show qleak (qr g) + -qsum (qlw (qr g) (qfp (qr g) k)) 0 k.toNat = qleak (qr g) - qsum (qlw (qr g) (qfp (qr g) k)) 0 k.toNat by omega]
    by_cases e2 : qleak (qr g) - qsum (qlw (qr g) (qfp (qr g) k)) 0 k.toNat < 0
    · rw [if_pos e2, if_pos e2]
    · rw [if_neg e2, if_neg e2]
  · rw [if_neg e1, if_neg e1]
theorem m_current (hR : qRow m (qr g)) (hb : 0 ≤ b ∧ b < qr g 0) (ht : t = 0 ∨ t = 1) : fX8_current g b t = some (qcur (qr g) b t) := by
  have h1 := hR.2.1
  have h2 := hR.2.2.1
  have h3 := hR.1
  unfold fX8_current qcur
  rw [m_isAlive hR hb ht, zbd_s, ib0]
  have k2 : ∀ a, fX8_current_p75 g zfu b t a 0 = some (a + qsum (qfl (qr g) b t) 0 (qr g 134 - 0).toNat) := by
    intro a
    refine q_loop (L := fun fu a j => fX8_current_p75 g fu b t a j) (n := qr g 134) (fun fu a j h0 hj => ?_) (fun fu a => ?_) zfu 0 a (by omega) (by omega) (by unfold zfu; omega)
    · have hx := hR.2.2.2.2.2.1 j h0 hj
      show fX8_current_p75 g (fu + 1) b t a j = _
      rw [fX8_current_p75, zck_t (by omega), qr_f, ilt (by omega) (by omega), if_pos hj, m_ofFault (by omega), zbd_s, m_ofFault (by omega), zbd_s, m_comesBy hR hb ht hx.1 hx.2.1, zbd_s, ib0, m_flow hR ⟨h0, hj⟩, zbd_s]
      simp only [zlet_e, decide_eq_true_eq]
      unfold qfl
      split <;> rfl
    · show fX8_current_p75 g (fu + 1) b t a _ = _
      rw [fX8_current_p75, zck_t (by omega), qr_f, ilt (by omega) (by omega), if_neg (by omega)]
  have k1 : fX8_current_p16 g zfu b t 0 0 = (fun a => fX8_current_p75 g zfu b t a 0) (0 + qsum (qun (qr g) b) 0 (qr g 85 - 0).toNat) := by
    refine q_loopE (L := fun fu a j => fX8_current_p16 g fu b t a j) (n := qr g 85) (f := qun (qr g) b) (E := fun a => fX8_current_p75 g zfu b t a 0) (fun fu a j h0 hj => ?_) (fun fu a => ?_) zfu 0 0 (by omega) (by omega) (by unfold zfu; omega)
    · have hx := hR.2.2.2.2.1 j h0 hj
      have hd := qdk_r (qr g) j
      show fX8_current_p16 g (fu + 1) b t a j = _
      rw [fX8_current_p16, zck_t (by omega), qr_f, ilt (by omega) (by omega), if_pos hj, m_dark hR ⟨h0, hj⟩, zbd_s, ieq (by omega) (by omega), m_ofLantern (by omega), zbd_s, m_isBehind hR hb hx.1, zbd_s, ib0, m_ofLantern (by omega), zbd_s]
      simp only [zlet_e, decide_eq_true_eq]
      unfold qun
      by_cases e1 : qdk (qr g) j = 0
      · rw [if_pos e1]
        by_cases e2 : qrs (qr g) b (qL (qr g) j 0) = b
        · rw [if_pos e2, if_pos ⟨e1, e2⟩]
        · rw [if_neg e2, if_neg (fun q => e2 q.2)]
      · rw [if_neg e1, if_neg (fun q => e1 q.1)]
    · show fX8_current_p16 g (fu + 1) b t a _ = _
      rw [fX8_current_p16, zck_t (by omega), qr_f, ilt (by omega) (by omega), if_neg (by omega)]
  rw [k1]
  show (if _ then fX8_current_p75 g zfu b t _ 0 else _) = _
  rw [k2, show (qr g 134 - 0).toNat = (qr g 134).toNat by omega, show (qr g 85 - 0).toNat = (qr g 85).toNat by omega]
  split
  · congr 1
    omega
  · rfl
end QSETTLE
