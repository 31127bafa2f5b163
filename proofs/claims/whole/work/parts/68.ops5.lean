section QOPS5
variable {g g' g1 g2 g3 g4 : zSt} {m b t x w k p u j a lo hi v M p1 p2 p3 p4 y a1 a2 a3 a4 : Int} {r r' re : Int → Int} {R : Nat → Int → Int} {c s d e N n L : Nat}
theorem qset_row : ∀ (f : Nat) (r : Int → Int) (a : Int), qRow M r → qRow M (qset f r a).1 := by
  intro f
  induction f with
  | zero => intro r a h; exact h
  | succ f ih =>
    intro r a hR
    rw [qset]
    by_cases e : qnext r = -1
    · rw [if_pos e]; exact hR
    · rw [if_neg e]
      exact ih _ _ (qmark_row hR ((qnext_r hR).resolve_left e).1)
def qrp (r : Int → Int) (b t v : Int) : Int → Int := qput (qput (qput r 162 (r 162 - 1)) (1 + 7 * b + 3 + t) v) (1 + 7 * b + 5 + t) 0
theorem qrp_B (hb : 0 < b ∧ b < 12) (ht : t = 0 ∨ t = 1) (hw : 0 ≤ w ∧ w < 7) : qB (qrp r b t v) b w = if w = 5 + t then 0 else if w = 3 + t then v else qB r b w := by
  unfold qrp qB
  by_cases q : w = 5 + t
  · rw [if_pos q, qput_e (by omega)]
  · rw [if_neg q, qput_n (by omega)]
    by_cases q2 : w = 3 + t
    · rw [if_pos q2, qput_e (by omega)]
    · rw [if_neg q2, qput_n (by omega), qput_n (by omega)]
theorem qrp_A (hb : 0 < b) (ht : t = 0 ∨ t = 1) : ∀ j, 0 ≤ j → (j < 1 + 7 * b ∨ 8 + 7 * b ≤ j) → j ≠ 162 → qrp r b t v j = r j := fun j j0 j1 j2 => (qput_n (by omega)).trans ((qput_n (by omega)).trans (qput_n (by omega)))
theorem qrp_162 (hb : 0 < b ∧ b < 12) (ht : t = 0 ∨ t = 1) : qrp r b t v 162 = r 162 - 1 := (qput_n (by omega)).trans ((qput_n (by omega)).trans (qput_e rfl))
theorem qrp_row (hR : qRow M r) (hb : 0 < b ∧ b < r 0) (ht : t = 0 ∨ t = 1) (hv : 1 ≤ v ∧ v ≤ 60) (h0 : 0 < r 162) : qRow M (qrp r b t v) := by
  have h1 := hR.1
  have h6 := hR.2.2.2.2.2.2.1
  have hx := hR.2.2.2.1 b hb.1 hb.2
  have hb2 : 0 < b ∧ b < 12 := by omega
  refine hR.edB hb (qrp_A hb.1 ht) ?_ (by rw [qrp_162 hb2 ht]; omega)
  unfold qBx at hx ⊢
  rw [qrp_B hb2 ht (w := 0) (by omega), qrp_B hb2 ht (w := 1) (by omega), qrp_B hb2 ht (w := 2) (by omega), qrp_B hb2 ht (w := 3) (by omega), qrp_B hb2 ht (w := 4) (by omega), qrp_B hb2 ht (w := 5) (by omega), qrp_B hb2 ht (w := 6) (by omega)]
  rw [if_neg (show ¬ (0 : Int) = 5 + t by omega), if_neg (show ¬ (0 : Int) = 3 + t by omega), if_neg (show ¬ (1 : Int) = 5 + t by omega), if_neg (show ¬ (1 : Int) = 3 + t by omega), if_neg (show ¬ (2 : Int) = 5 + t by omega), if_neg (show ¬ (2 : Int) = 3 + t by omega), if_neg (show ¬ (3 : Int) = 5 + t by omega), if_neg (show ¬ (4 : Int) = 5 + t by omega), if_neg (show ¬ (5 : Int) = 3 + t by omega), if_neg (show ¬ (6 : Int) = 3 + t by omega)]
  refine ⟨hx.1, hx.2.1, hx.2.2.1, ?_, ?_, ?_, ?_⟩
  · have := hx.2.2.2.1
    split <;> omega
  · have := hx.2.2.2.2.1
    split <;> omega
  · have := hx.2.2.2.2.2.1
    split <;> omega
  · have := hx.2.2.2.2.2.2
    split <;> omega
theorem qrp_end (hb : 0 < b ∧ b < 12) (ht : t = 0 ∨ t = 1) (hE : qend r) : qend (qrp r b t v) := qput_end (qput_end (qput_end hE (by decide)) (by omega)) (by omega)
theorem k_repl (hR : qRow M r) (hS : qShip g 10 r) (hb : 0 < b ∧ b < r 0) (ht : t = 0 ∨ t = 1) : qShip (zwr (zwr (zwr g 10 3 (r 162 - 1)) 15 (Int.toNat (2 * b + t)) v) 16 (Int.toNat (2 * b + t)) 0) 10 (qrp r b t v) ∧ qfr (fun q => q = 10 ∨ q = 15 ∨ q = 16) g (zwr (zwr (zwr g 10 3 (r 162 - 1)) 15 (Int.toNat (2 * b + t)) v) 16 (Int.toNat (2 * b + t)) 0) := by
  have h1 := hR.1
  have hb2 : 0 < b ∧ b < 12 := by omega
  have z := hS.2.1 b hb.1 hb.2
  have f : qfr (fun q => q = 10 ∨ q = 15 ∨ q = 16) g (zwr (zwr (zwr g 10 3 (r 162 - 1)) 15 (Int.toNat (2 * b + t)) v) 16 (Int.toNat (2 * b + t)) 0) := ((qfr.wr (by omega)).tr (qfr.wr (by omega))).tr (qfr.wr (by omega))
  have B : ∀ w, 0 ≤ w ∧ w < 7 → qB (qrp r b t v) b w = if w = 5 + t then 0 else if w = 3 + t then v else qB r b w := fun w hw => qrp_B hb2 ht hw
  refine ⟨hS.edB hR hb (qrp_A hb.1 ht) (f.wk (fun q z => by omega)) (by rw [B 0 (by omega), if_neg (by omega), if_neg (by omega)]) (fun k hk => ⟨f.1 _ _ (by omega), f.1 _ _ (by omega)⟩) (fun k hk hk2 => ⟨?_, ?_⟩) ⟨?_, ?_⟩ (fun t2 ht2 => ?_) ?_ (fun k hk => ?_), f⟩
  · exact (zwr_n (Or.inl (by decide))).trans ((zwr_n (Or.inr (by omega))).trans (zwr_n (Or.inl (by decide))))
  · exact (zwr_n (Or.inr (by omega))).trans ((zwr_n (Or.inl (by decide))).trans (zwr_n (Or.inl (by decide))))
  · rw [f.1 _ _ (by omega), B 1 (by omega), if_neg (by omega), if_neg (by omega)]; exact z.2.1
  · rw [f.1 _ _ (by omega), B 2 (by omega), if_neg (by omega), if_neg (by omega)]; exact z.2.2
  · have zz := hS.2.2.1 b t2 hb.1 hb.2 ht2
    rw [B (3 + t2) (by omega), B (5 + t2) (by omega), if_neg (show ¬ 3 + t2 = 5 + t by omega)]
    by_cases q : t2 = t
    · subst q
      rw [if_pos rfl, if_pos rfl]
      exact ⟨(zwr_n (Or.inl (by decide))).trans zwr_e, zwr_e⟩
    · rw [if_neg (by omega), if_neg (by omega), if_neg (by omega)]
      refine ⟨?_, ?_⟩
      · exact ((zwr_n (Or.inl (by decide))).trans ((zwr_n (Or.inr (by omega))).trans (zwr_n (Or.inl (by decide))))).trans zz.1
      · exact ((zwr_n (Or.inr (by omega))).trans ((zwr_n (Or.inl (by decide))).trans (zwr_n (Or.inl (by decide))))).trans zz.2
  · rw [qrp_162 hb2 ht]
    exact (zwr_n (Or.inl (by decide))).trans ((zwr_n (Or.inl (by decide))).trans zwr_e)
  · exact (zwr_n (Or.inl (by decide))).trans ((zwr_n (Or.inl (by decide))).trans (zwr_n (Or.inr hk)))
theorem op_replace (h : qRel g n R) (h1 : qi a1) (h2 : qi a2) (h3 : qi a3) : qOk (fL_replace g a1 a2 a3) (fun g => fX8_replace g a1 a2 a3) := by
  have hR := h.2.1.2.1.1
  have hr := hR.1
  have hr6 := hR.2.2.2.2.2.2.1
  have hS := h.1.1.1
  have e6 : g.1 10 3 = qr g 162 := hS.2.2.2.2.2.1
  have ck : fX7_replace g a1 a2 a3 = if 0 < a1 ∧ a1 < qr g 0 then (if 0 ≤ a2 ∧ a2 ≤ 1 then (if 1 ≤ a3 ∧ a3 ≤ 60 then (if 0 < qr g 162 then (zbd (fX2_save g 10) (fun g4 => zlet ((2 * a1) + a2) (fun x5 => zlet (zwr g4 10 3 ((g4.1 10 3) - 1)) (fun g6 => zck ((0 : Int) ≤ x5 ∧ x5 < 24) (zlet (zwr g6 15 (Int.toNat x5) a3) (fun g7 => zck ((0 : Int) ≤ x5 ∧ x5 < 24) (zck ((0 : Int) = 0 ∨ (0 : Int) = 1) (zlet (zwr g7 16 (Int.toNat x5) 0) (fun g8 => zbe (fX7_settle g8 10 200) (fun v9 g10 => zck ((0 : Int) ≤ x5 ∧ x5 < 24) ((if i32 (g10.1 16 (Int.toNat x5)) = i32 0 then zbd (fX7_oneIf g10 1) (fun v12 => some (v12, 0, g10)) else zbd (fX7_oneIf g10 0) (fun v11 => some (v11, 0, g10)))))))))))))) else some (0, 3, g)) else some (0, 2, g)) else some (0, 1, g)) else some (0, 1, g) := by
    unfold fX7_replace
    rw [zbq (k_isFed hS hR h1), zbq (k_isTer h2), zbq (k_isRat h3), e6, ilt (by omega) (by omega)]
  have mk : ∀ g', qRow 8 (qr g') → fX8_replace g' a1 a2 a3 = if 0 < a1 ∧ a1 < qr g' 0 then (if 0 ≤ a2 ∧ a2 ≤ 1 then (if 1 ≤ a3 ∧ a3 ≤ 60 then (if qr g' 162 = 0 then fX8_replace_p59 g' 3 a1 a2 a3 else fX8_replace_p59 g' 0 a1 a2 a3) else fX8_replace_p59 g' 2 a1 a2 a3) else fX8_replace_p59 g' 1 a1 a2 a3) else fX8_replace_p59 g' 1 a1 a2 a3 := by
    intro g' hR'
    have := hR'.2.2.2.2.2.2.1
    have pa : fX8_replace_p20 g' 0 a1 a2 a3 = fX8_replace_p59 g' 1 a1 a2 a3 := by
      unfold fX8_replace_p20
      rw [if_pos rfl]
    have pb : fX8_replace_p20 g' 1 a1 a2 a3 = if 1 ≤ a3 ∧ a3 ≤ 60 then (if qr g' 162 = 0 then fX8_replace_p59 g' 3 a1 a2 a3 else fX8_replace_p59 g' 0 a1 a2 a3) else fX8_replace_p59 g' 2 a1 a2 a3 := by
      unfold fX8_replace_p20
      rw [ieq (by omega) (by omega), if_neg (by omega), zbq (m_isRat h3), zck_t (by omega), qr_f, ieq (by omega) (by omega)]
    unfold fX8_replace
    rw [pa, pb, zbq (m_isFed hR' h1), zbq (m_isTerminal h2)]
  have pk : ∀ (g : zSt) (E : Int), 1 ≤ E ∧ E ≤ 3 → fX8_replace_p59 g E a1 a2 a3 = some (0, zwr g 400 0 E) := by
    intro g E hE
    unfold fX8_replace_p59
    rw [zlet_e, zwr_e, ilt (by omega) (by omega), if_pos (by omega)]
  have mk0 := mk g hR
  by_cases q1 : 0 < a1 ∧ a1 < qr g 0
  · rw [if_pos q1] at ck mk0
    by_cases q2 : 0 ≤ a2 ∧ a2 ≤ 1
    · rw [if_pos q2] at ck mk0
      by_cases q3 : 1 ≤ a3 ∧ a3 ≤ 60
      · rw [if_pos q3] at ck mk0
        by_cases q4 : 0 < qr g 162
        · rw [if_pos q4] at ck
          have q2' : a2 = 0 ∨ a2 = 1 := by omega
          have hb2 : 0 < a1 ∧ a1 < 12 := by omega
          obtain ⟨s1, b1, b2, b3⟩ := k_saved hR h.1
          have e1 : s1.1 10 3 = qr g 162 := b2.1.1.2.2.2.2.2.1
          obtain ⟨k1, k2⟩ := k_repl (v := a3) hR b2.1.1 q1 q2'
          have hRe := qrp_row hR q1 q2' q3 q4
          obtain ⟨s3, c1, c2, c3⟩ := k_mut b2 hr.1 k2 (fun q z => by omega) k1 hRe
          have hRs := qset_row 24 _ 0 hRe
          have e00 : (qset 24 (qrp (qr g) a1 a2 a3) 0).1 0 = qr g 0 := (qset_o (Or.inl rfl) 24 _ 0 hRe).trans (qrp_A hb2.1 q2' 0 (by omega) (by omega) (by omega))
          have hxs := hRs.2.2.2.1 a1 q1.1 (by omega)
          have hbl : qB (qset 24 (qrp (qr g) a1 a2 a3) 0).1 a1 (5 + a2) = 0 ∨ qB (qset 24 (qrp (qr g) a1 a2 a3) 0).1 a1 (5 + a2) = 1 := by
            rcases (show 5 + a2 = 5 ∨ 5 + a2 = 6 by omega) with q | q
            · rw [q]; exact hxs.2.2.2.2.2.1
            · rw [q]; exact hxs.2.2.2.2.2.2
          have h16 : s3.1 16 (Int.toNat (2 * a1 + a2)) = qB (qset 24 (qrp (qr g) a1 a2 a3) 0).1 a1 (5 + a2) := (c2.1.1.2.2.1 a1 a2 q1.1 (by omega) q2').2
          have ck2 : fX7_replace g a1 a2 a3 = some (1 - qB (qset 24 (qrp (qr g) a1 a2 a3) 0).1 a1 (5 + a2), 0, s3) := by
            rw [ck, b1, zbd_s, zlet_e, e1, zlet_e, zck_t (by omega), zlet_e, zck_t (by omega), qck_0, zlet_e, c1, zbe_s, zck_t (by omega), h16, ieq (by omega) (by omega)]
            unfold fX7_oneIf
            rcases hbl with q | q
            · rw [if_pos q, q, ieq (by omega) (by omega), if_neg (by omega), zbd_s]; rfl
            · rw [if_neg (by omega), q, if_pos rfl, zbd_s]; rfl
          refine h.ans (v := 1 - qB (qset 24 (qrp (qr g) a1 a2 a3) 0).1 a1 (5 + a2)) (by unfold fL_replace; rw [zbx_some ck2]; rfl) c2 (b3.tr c3) (fun g3 hm => ?_)
          obtain ⟨t1, d1, d2, d3, d4⟩ := m_saved (hm.wz (v := 0) (z := 0) (by decide))
          let y1 := zwr t1 401 (Int.toNat 162) (qr g 162 - 1)
          let y2 := zwr y1 401 (Int.toNat (1 + 7 * a1 + 3 + a2)) a3
          let y3 := zwr y2 401 (Int.toNat (1 + 7 * a1 + 5 + a2)) 0
          have x1 : qr y1 = qput (qr g) 162 (qr g 162 - 1) := by
            have z : qr y1 = qput (qr t1) 162 _ := qr_put
            rw [d2.1] at z
            exact z
          have x2 : qr y2 = qput (qr y1) (1 + 7 * a1 + 3 + a2) a3 := qr_put
          have x3 : qr y3 = qput (qr y2) (1 + 7 * a1 + 5 + a2) 0 := qr_put
          have xe : qr y3 = qrp (qr g) a1 a2 a3 := by
            unfold qrp
            rw [x3, x2, x1]
          obtain ⟨t2, f1, f2, f3, f4, f5, f6⟩ := m_mut d2 ((f401.tr f401).tr f401 : qfr (fun q => q = 401) t1 y3) xe hRe (qrp_end hb2 q2' h.2.1.2.1.2)
          refine ⟨t2, ?_, f2, ((qfm.wz (by decide)).tr d3).tr f3, f6.trans (d4.trans zwr_e)⟩
          show fX8_replace g3 a1 a2 a3 = _
          rw [mk g3 (by rw [hm.1]; exact hR), hm.1, if_pos q1, if_pos q2, if_pos q3, if_neg (by omega)]
          have ev : t1.1 401 (Int.toNat 162) = qr g 162 := congrFun d2.1 162
          unfold fX8_replace_p59
          rw [zlet_e, zwr_e, ilt (by omega) (by omega), if_neg (by omega), d1, zbd_s, zck_t (by omega), zck_t (by omega), ev, zlet_e, zck_t (by omega), zlet_e, zck_t (by omega), zlet_e]
          show zbd (fX8_settle y3) _ = _
          rw [f1, zbd_s, m_ofBox (by omega), zbd_s, f2.1]
        · rw [if_neg q4] at ck
          rw [if_pos (by omega)] at mk0
          exact h.ref (E := 3) (by omega) (by unfold fL_replace; rw [zbx_some ck]; rfl) (by rw [mk0]; exact pk g 3 (by omega))
      · rw [if_neg q3] at ck mk0
        exact h.ref (E := 2) (by omega) (by unfold fL_replace; rw [zbx_some ck]; rfl) (by rw [mk0]; exact pk g 2 (by omega))
    · rw [if_neg q2] at ck mk0
      exact h.ref (E := 1) (by omega) (by unfold fL_replace; rw [zbx_some ck]; rfl) (by rw [mk0]; exact pk g 1 (by omega))
  · rw [if_neg q1] at ck mk0
    exact h.ref (E := 1) (by omega) (by unfold fL_replace; rw [zbx_some ck]; rfl) (by rw [mk0]; exact pk g 1 (by omega))
end QOPS5
