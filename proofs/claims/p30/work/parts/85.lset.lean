section PLSET
variable {g g' : zSt} {m b t x w k p u n j a lo hi v M best : Int} {r r' : Int → Int} {c0 c1 c2 c3 c4 c5 c6 N N2 : Nat}
theorem qdep_g {n : Int} (h : ∀ b, 0 < b → b < n → qB r' b 0 = qB r b 0) : ∀ (N : Nat) (b : Int), b.toNat ≤ N → b < n → qdep r' b = qdep r b := by
  intro N
  induction N with
  | zero => intro b hb _; rw [qdep_0 (by omega), qdep_0 (by omega)]
  | succ N ih =>
    intro b hb hn
    by_cases e : 0 < b
    · have e0 := h b e hn
      by_cases q : qB r b 0 < b
      · rw [qdep_s ⟨e, by rw [e0]; exact q⟩, qdep_s ⟨e, q⟩, e0, ih _ (by omega) (by omega)]
      · rw [qdep, dif_neg (by rw [e0]; omega), qdep, dif_neg (by omega)]
    · rw [qdep_0 (by omega), qdep_0 (by omega)]
/-- the fuse that blows next, of those from lo on -/
def qbs (r : Int → Int) (lo hi a : Int) : Prop := (a = -1 ∧ ∀ k, lo ≤ k → k < hi → ¬ qbad r k) ∨ ((lo ≤ a ∧ a < hi) ∧ qbad r a ∧ ∀ k, lo ≤ k → k < hi → qbad r k → qdep r (k / 2) < qdep r (a / 2) ∨ (qdep r (k / 2) = qdep r (a / 2) ∧ a ≤ k))
theorem qbs_u (h : qbs r lo hi a) (h' : qbs r lo hi b) : a = b := by
  rcases h with ⟨h1, h2⟩ | ⟨h1, h2, h3⟩
  · rcases h' with ⟨k1, k2⟩ | ⟨k1, k2, k3⟩
    · omega
    · exact absurd k2 (h2 b k1.1 k1.2)
  · rcases h' with ⟨k1, k2⟩ | ⟨k1, k2, k3⟩
    · exact absurd h2 (k2 a h1.1 h1.2)
    · have q1 := h3 b k1.1 k1.2 k2
      have q2 := k3 a h1.1 h1.2 h2
      omega
theorem qbs_up (h : qbs r lo k a) (hk : lo ≤ k) (h2 : 2 ≤ lo) : qbs r lo (k + 1) (qst r k a) := by
  unfold qst
  by_cases e : qB r (k / 2) (3 + k % 2) < qcur r (k / 2) (k % 2)
  · rw [if_pos e]
    have eb : qbad r k := e
    rcases h with ⟨h1, h3⟩ | ⟨h1, h3, h4⟩
    · rw [if_pos h1]
      refine Or.inr ⟨by omega, eb, fun j j0 j1 jb => ?_⟩
      by_cases q : j = k
      · subst q; omega
      · exact absurd jb (h3 j j0 (by omega))
    · rw [if_neg (by omega)]
      by_cases q : qdep r (a / 2) < qdep r (k / 2)
      · rw [if_pos q]
        refine Or.inr ⟨by omega, eb, fun j j0 j1 jb => ?_⟩
        by_cases z : j = k
        · subst z; omega
        · have := h4 j j0 (by omega) jb
          omega
      · rw [if_neg q]
        refine Or.inr ⟨by omega, h3, fun j j0 j1 jb => ?_⟩
        by_cases z : j = k
        · subst z; omega
        · exact h4 j j0 (by omega) jb
  · rw [if_neg e]
    have eb : ¬ qbad r k := e
    rcases h with ⟨h1, h3⟩ | ⟨h1, h3, h4⟩
    · refine Or.inl ⟨h1, fun j j0 j1 => ?_⟩
      by_cases z : j = k
      · rw [z]; exact eb
      · exact h3 j j0 (by omega)
    · refine Or.inr ⟨by omega, h3, fun j j0 j1 jb => ?_⟩
      by_cases z : j = k
      · rw [z] at jb; exact absurd jb eb
      · exact h4 j j0 (by omega) jb
theorem qbs_nx : ∀ (M : Nat) (k a : Int), 2 ≤ k → qbs r 2 k a → qbs r 2 (k + M) (qnx r M k a) := by
  intro M
  induction M with
  | zero => intro k a _ h; rw [show k + ((0 : Nat) : Int) = k by omega]; exact h
  | succ M ih =>
    intro k a hk h
    rw [show k + ((M + 1 : Nat) : Int) = (k + 1) + (M : Int) by omega]
    exact ih (k + 1) _ (by omega) (qbs_up h hk (by omega))
theorem qbs_next (h : 1 ≤ r 0) : qbs r 2 (2 * r 0) (qnext r) := by
  have := qbs_nx (r := r) (2 * r 0 - 2).toNat 2 (-1) (by omega) (Or.inl ⟨rfl, fun k k0 k1 => by omega⟩)
  rw [show (2 : Int) + ((2 * r 0 - 2).toNat : Int) = 2 * r 0 by omega] at this
  exact this
theorem qbs_dn1 (h : qbs r (k + 1) hi a) (e : ¬ qbad r k) (hk : k < hi) : qbs r k hi a := by
  rcases h with ⟨h1, h3⟩ | ⟨h1, h3, h4⟩
  · refine Or.inl ⟨h1, fun j j0 j1 => ?_⟩
    by_cases z : j = k
    · rw [z]; exact e
    · exact h3 j (by omega) j1
  · refine Or.inr ⟨by omega, h3, fun j j0 j1 jb => ?_⟩
    by_cases z : j = k
    · rw [z] at jb; exact absurd jb e
    · exact h4 j (by omega) j1 jb
theorem qbs_dn2 (h : qbs r (k + 1) hi a) (e : qbad r k) (hk : k < hi) (h2 : 2 ≤ k) : qbs r k hi (if a < 0 then k else if qdep r (k / 2) < qdep r (a / 2) then a else k) := by
  rcases h with ⟨h1, h3⟩ | ⟨h1, h3, h4⟩
  · rw [if_pos (by omega)]
    refine Or.inr ⟨by omega, e, fun j j0 j1 jb => ?_⟩
    by_cases z : j = k
    · subst z; omega
    · exact absurd jb (h3 j (by omega) j1)
  · rw [if_neg (by omega)]
    by_cases q : qdep r (k / 2) < qdep r (a / 2)
    · rw [if_pos q]
      refine Or.inr ⟨by omega, h3, fun j j0 j1 jb => ?_⟩
      by_cases z : j = k
      · subst z; omega
      · exact h4 j (by omega) j1 jb
    · rw [if_neg q]
      refine Or.inr ⟨by omega, e, fun j j0 j1 jb => ?_⟩
      by_cases z : j = k
      · subst z; omega
      · have := h4 j (by omega) j1 jb
        omega
theorem l_set33 (hd : qdi c0 c1 c2 c3 c4 c5 c6) (hR : qRow m r) (hL : qLw g c0 c1 c2 c3 r) (hI : qLi g c4 r (r 0)) (hC : qCu g c5 r) {k8 : zSt → Nat → Nat → Nat → Nat → Nat → Nat → Nat → Int → Option (Int × zSt)} {many : Int} : ∀ (fu : Nat) (k a : Int), 1 ≤ k → k < 2 * r 0 → k.toNat < fu → qbs r (k + 1) (2 * r 0) a → fL_settle_p33 k8 fu g c0 c1 c2 c3 c4 c5 c6 many a k = fL_settle_p33 k8 (0 + 1) g c0 c1 c2 c3 c4 c5 c6 many (qnext r) 1 := by
  have h0 := hR.1
  have h7 := hL.2.1
  intro fu
  induction fu with
  | zero => intro k a _ _ h; omega
  | succ fu ih =>
    intro k a hk hn hf hb
    by_cases e : 1 < k
    · have hq := qdm2 (k := k) (by omega)
      have ht : k % 2 = 0 ∨ k % 2 = 1 := by omega
      have hbx : 0 < k / 2 ∧ k / 2 < r 0 := by omega
      have hx := hR.2.2.2.1 (k / 2) hbx.1 hbx.2
      have hx3 := hx.2.2.2.1
      have hx4 := hx.2.2.2.2.1
      have hrt : 1 ≤ qB r (k / 2) (3 + k % 2) ∧ qB r (k / 2) (3 + k % 2) ≤ 60 := by
        rcases ht with q | q
        · rw [q]; exact hx3
        · rw [q]; exact hx4
      have hl := qlt_r (r := r) (b := k / 2) (t := k % 2) ht
      have hli := hI (k / 2) (k % 2) (by omega) hbx.2 ht
      have hcr := qcur_r (r := r) (b := k / 2) (t := k % 2) hR
      have h2 := qlt_2 (r := r) (b := k / 2) (t := k % 2) ht
      have hdk := qdep_r r (k / 2)
      have hda := qdep_r r (a / 2)
      rw [show 2 * (k / 2) + k % 2 = k by omega] at hli
      clear hx hx3 hx4
      have hbr := hb.imp (fun z => z.1) (fun z => z.1)
      rw [fL_settle_p33, ilt (by omega) (by omega), if_pos e, zck_t (by omega), hli, ilt (by omega) (by omega)]
      cases hal : qal r (k / 2) (k % 2)
      · rw [hal] at h2
        have h2' : qlt r (k / 2) (k % 2) < 2 := by rw [h2]
        have hnb : ¬ qbad r k := by
          unfold qbad qcur
          rw [hal, if_neg (by decide)]
          omega
        rw [if_neg (by omega)]
        exact ih (k + (-1)) a (by omega) (by omega) (by omega) (by rw [show k + -1 + 1 = k by omega]; exact qbs_dn1 hb hnb hn)
      · rw [hal] at h2
        have h2' : ¬ qlt r (k / 2) (k % 2) < 2 := by rw [h2]; simp
        have hcu := hC.al (b := k / 2) (t := k % 2) (by omega) ht hal
        rw [show 2 * (k / 2) + k % 2 = k by omega] at hcu
        rw [if_pos (by omega), zck_t (by omega), hq.1, hq.2, zck_t (by omega), hL.bt hbx 3 (by omega), hcu, ilt (by omega) (by omega)]
        by_cases eb : qB r (k / 2) (3 + k % 2) < qcur r (k / 2) (k % 2)
        · have hstep := qbs_dn2 (r := r) (k := k) (hi := 2 * r 0) hb eb hn (by omega)
          have hih := fun a' (h' : qbs r k (2 * r 0) a') => ih (k + (-1)) a' (by omega) (by omega) (by omega) (by rw [show k + -1 + 1 = k by omega]; exact h')
          rw [if_pos eb, ilt (by omega) (by omega)]
          by_cases q : a < 0
          · rw [if_pos q]
            rw [if_pos q] at hstep
            exact hih _ hstep
          · have ha : 2 ≤ a ∧ a < 2 * r 0 := by omega
            have hqa := qdm2 (k := a) (by omega)
            rw [if_neg q, zck_t (by omega), hqa.1, zck_t (by omega), hL.b7 (b := k / 2) (by omega), hL.b7 (b := a / 2) (by omega), ilt (by omega) (by omega)]
            rw [if_neg q] at hstep
            by_cases q2 : qdep r (k / 2) < qdep r (a / 2)
            · rw [if_pos q2]
              rw [if_pos q2] at hstep
              exact hih _ hstep
            · rw [if_neg q2]
              rw [if_neg q2] at hstep
              exact hih _ hstep
        · rw [if_neg eb]
          exact ih (k + (-1)) a (by omega) (by omega) (by omega) (by rw [show k + -1 + 1 = k by omega]; exact qbs_dn1 hb eb hn)
    · have hk1 : k = 1 := by omega
      subst hk1
      have ha : a = qnext r := qbs_u hb (qbs_next h0.1)
      subst ha
      have hh : ¬ i32 1 < i32 1 := by decide
      rw [fL_settle_p33, if_neg hh, fL_settle_p33, if_neg hh]
theorem qLw.mk (hd : qdi c0 c1 c2 c3 c4 c5 c6) (hR : qRow m r) (hL : qLw g c0 c1 c2 c3 r) (hk : 2 ≤ k ∧ k < 2 * r 0) (f : qfr (fun q => q = c0 ∨ q = c3) g g') (e0 : ∀ i : Nat, g'.1 c0 i = if i = Int.toNat (8 * (k / 2) + 5 + k % 2) then 1 else g.1 c0 i) (e3 : ∀ i : Nat, i < 8 → g'.1 c3 i = if i = 4 then g.1 c3 4 + 1 else g.1 c3 i) : qLw g' c0 c1 c2 c3 (qmark r k) := by
  have h0 := hR.1
  have h7 := hL.2.1
  have h2 := hR.2.1
  have h3 := hR.2.2.1
  have hk2 : 2 ≤ k ∧ k < 24 := by omega
  have o : ∀ j, 0 ≤ j ∧ j ≠ 163 → (j = 0 ∨ 85 ≤ j) → qmark r k j = r j := fun j a b => qmark_o hk2 a b
  have d1 : g'.1 c1 = g.1 c1 := by funext i; exact f.1 _ _ (fun q => q.elim (fun q => hd.2.2.2.1 q.symm) (fun q => hd.2.2.2.2.2.2.1 q.symm))
  have d2 : g'.1 c2 = g.1 c2 := by funext i; exact f.1 _ _ (fun q => q.elim (fun q => hd.2.2.2.2.1 q.symm) (fun q => hd.2.2.2.2.2.2.2 q.symm))
  refine ⟨⟨?_, ?_, ?_, ?_, ?_, ?_, ?_, ?_⟩, ?_, ?_, ?_, ?_, ?_⟩
  · rw [o 0 (by omega) (by omega), ← hL.1.1]; exact (e3 _ (by decide)).trans (if_neg (by decide))
  · rw [o 85 (by omega) (by omega), ← hL.1.2.1]; exact (e3 _ (by decide)).trans (if_neg (by decide))
  · rw [o 134 (by omega) (by omega), ← hL.1.2.2.1]; exact (e3 _ (by decide)).trans (if_neg (by decide))
  · rw [o 162 (by omega) (by omega), ← hL.1.2.2.2.1]; exact (e3 _ (by decide)).trans (if_neg (by decide))
  · rw [qmark_163, ← hL.1.2.2.2.2.1]; exact (e3 _ (by decide)).trans (if_pos (by decide))
  · rw [o 164 (by omega) (by omega), ← hL.1.2.2.2.2.2.1]; exact (e3 _ (by decide)).trans (if_neg (by decide))
  · rw [o 165 (by omega) (by omega), ← hL.1.2.2.2.2.2.2.1]; exact (e3 _ (by decide)).trans (if_neg (by decide))
  · rw [o 166 (by omega) (by omega), ← hL.1.2.2.2.2.2.2.2]; exact (e3 _ (by decide)).trans (if_neg (by decide))
  · rw [o 0 (by omega) (by omega), o 85 (by omega) (by omega), o 134 (by omega) (by omega)]; exact h7
  · intro b w b0 b1 w0 w1
    rw [o 0 (by omega) (by omega)] at b1
    rw [qmark_B hk2 (by omega) ⟨w0, w1⟩, e0]
    by_cases q : b = k / 2 ∧ w = 5 + k % 2
    · rw [if_pos q, if_pos (by omega)]
    · rw [if_neg q, if_neg (by omega)]
      exact hL.2.2.1 b w b0 b1 w0 w1
  · intro b b0 b1
    rw [o 0 (by omega) (by omega)] at b1
    rw [e0, if_neg (by omega), hL.b7 ⟨b0, b1⟩]
    exact (qdep_g (n := r 0) (fun b x0 x1 => by rw [qmark_B hk2 (by omega) (by omega), if_neg (by omega)]) b.toNat b (Nat.le_refl _) b1).symm
  · intro j w j0 j1 w0 w1
    rw [o 85 (by omega) (by omega)] at j1
    rw [d1, qmark_L hk2 j0 ⟨w0, w1⟩ (by omega)]
    exact hL.2.2.2.2.1 j w j0 j1 w0 w1
  · intro j w j0 j1 w0 w1
    rw [o 134 (by omega) (by omega)] at j1
    rw [d2, qmark_F hk2 j0 ⟨w0, w1⟩ (by omega)]
    exact hL.2.2.2.2.2 j w j0 j1 w0 w1
theorem l_settle_l (hd : qdi c0 c1 c2 c3 c4 c5 c6) : ∀ (fu : Nat) (g : zSt) (r : Int → Int) (a : Int), qRow m r → (qms r).toNat < fu → 0 ≤ a → a ≤ 22 - qms r → qLw g c0 c1 c2 c3 r → ∃ g', fL_settle_p8 fu g c0 c1 c2 c3 c4 c5 c6 a = some ((qset fu r a).2, g') ∧ qLw g' c0 c1 c2 c3 (qset fu r a).1 ∧ qLi g' c4 (qset fu r a).1 (r 0) ∧ g'.1 c3 8 = (if a = 0 then (if qnext r = -1 then g.1 c3 8 else qnext r) else g.1 c3 8) ∧ qfr (fun q => q = c0 ∨ q = c3 ∨ q = c4 ∨ q = c5 ∨ q = c6) g g' := by
  intro fu
  induction fu with
  | zero => intro g r a _ h; omega
  | succ fu ih =>
    intro g r a hR hf h0 ha hL
    have h1 := hR.1
    have h7 := hL.2.1
    have hnr := qnext_r hR
    have hms := qms_r hR
    obtain ⟨g1, a1, a2, a3, a4, a5⟩ := l_find hd hR hL
    have hL1 : qLw g1 c0 c1 c2 c3 r := hL.kept a5 ⟨fun q => q.elim (fun q => hd.1.1 q.symm) (fun q => q.elim (fun q => hd.2.1.1 q.symm) (fun q => hd.2.2.1.1 q.symm)), fun q => q.elim (fun q => hd.1.2.1 q.symm) (fun q => q.elim (fun q => hd.2.1.2.1 q.symm) (fun q => hd.2.2.1.2.1 q.symm)), fun q => q.elim (fun q => hd.1.2.2.1 q.symm) (fun q => q.elim (fun q => hd.2.1.2.2.1 q.symm) (fun q => hd.2.2.1.2.2.1 q.symm)), fun q => q.elim (fun q => hd.1.2.2.2 q.symm) (fun q => q.elim (fun q => hd.2.1.2.2.2.1 q.symm) (fun q => hd.2.2.1.2.2.2.1 q.symm))⟩
    have e38 : g1.1 c3 8 = g.1 c3 8 := a5.1 _ _ (fun q => q.elim (fun q => hd.1.2.2.2 q.symm) (fun q => q.elim (fun q => hd.2.1.2.2.2.1 q.symm) (fun q => hd.2.2.1.2.2.2.1 q.symm)))
    have a5' : qfr (fun q => q = c0 ∨ q = c3 ∨ q = c4 ∨ q = c5 ∨ q = c6) g g1 := a5.wk (fun q h => Or.inr (Or.inr h))
    have hs : fL_settle_p8 (fu + 1) g c0 c1 c2 c3 c4 c5 c6 a = fL_settle_p33 (fL_settle_p8 fu) (0 + 1) g1 c0 c1 c2 c3 c4 c5 c6 a (qnext r) 1 := by
      rw [fL_settle_p8, a1, zbd_s, zck_t (by omega), hL1.1.1, zlet_e]
      exact l_set33 hd hR hL1 a2 a3 zfu _ (-1) (by omega) (by omega) (by unfold zfu; omega) (Or.inl ⟨rfl, fun j j0 j1 => by omega⟩)
    have hh : ¬ i32 1 < i32 1 := by decide
    rw [hs, fL_settle_p33, if_neg hh, ilt (by omega) (by omega), qset]
    by_cases e : qnext r = -1
    · rw [if_pos (by omega), if_pos e]
      refine ⟨g1, rfl, hL1, a2, ?_, a5'⟩
      rw [e38]
      by_cases q : a = 0
      · rw [if_pos q, if_pos e]
      · rw [if_neg q]
    · rw [if_neg e]
      have hk := hnr.resolve_left e
      have hms2 := qms_mark hR hk.1 hk.2
      have hR2 := qmark_row hR hk.1
      have hms3 := qms_r hR2
      have hq := qdm2 (k := qnext r) (by omega)
      have e0 : qmark r (qnext r) 0 = r 0 := qmark_o (by omega) (by omega) (by omega)
      have d03 : c3 ≠ c0 := fun q => hd.2.2.2.2.2.1 q.symm
      have d30 : c0 ≠ c3 := hd.2.2.2.2.2.1
      rw [if_neg (by omega), hq.1, hq.2, zck_t (by omega), zlet_e, ieq (by omega) (by omega)]
      have fin : ∀ (g2 : zSt) (z : Int), qfr (fun q => q = c0 ∨ q = c3) g1 g2 → (∀ i : Nat, g2.1 c0 i = if i = Int.toNat (8 * (qnext r / 2) + 5 + qnext r % 2) then 1 else g1.1 c0 i) → (∀ i : Nat, i < 8 → g2.1 c3 i = if i = 4 then g1.1 c3 4 + 1 else g1.1 c3 i) → g2.1 c3 8 = (if a = 0 then qnext r else g1.1 c3 8) → ∃ g', fL_settle_p8 fu g2 c0 c1 c2 c3 c4 c5 c6 (a + 1) = some ((qset fu (qmark r (qnext r)) (a + 1)).2, g') ∧ qLw g' c0 c1 c2 c3 (qset fu (qmark r (qnext r)) (a + 1)).1 ∧ qLi g' c4 (qset fu (qmark r (qnext r)) (a + 1)).1 (r 0) ∧ g'.1 c3 8 = (if a = 0 then (if qnext r = -1 then g.1 c3 8 else qnext r) else g.1 c3 8) ∧ qfr (fun q => q = c0 ∨ q = c3 ∨ q = c4 ∨ q = c5 ∨ q = c6) g g' := by
        intro g2 z f2 b0 b3 b8
        obtain ⟨g', u1, u2, u3, u4, u5⟩ := ih g2 _ (a + 1) hR2 (by omega) (by omega) (by omega) (qLw.mk hd hR hL1 hk.1 f2 b0 b3)
        rw [e0] at u3
        refine ⟨g', u1, u2, u3, ?_, (a5'.tr (f2.wk (fun q h => h.imp id (fun h => Or.inl h)))).tr u5⟩
        rw [u4, if_neg (by omega), b8, e38, if_neg e]
      by_cases q : a = 0
      · rw [if_pos q]
        simp only [zck_t (show (0 : Int) ≤ 8 ∧ (8 : Int) < 9 by omega), zck_t (show (0 : Int) ≤ 4 ∧ (4 : Int) < 9 by omega), zlet_e]
        refine fin _ 0 (qfr.tr (P := fun q => q = c0 ∨ q = c3) (qfr.tr (P := fun q => q = c0 ∨ q = c3) (qfr.wr (Or.inl rfl)) (qfr.wr (Or.inr rfl))) (qfr.wr (Or.inr rfl))) (fun i => ?_) (fun i hi => ?_) ?_
        · rw [zwr_n (Or.inl d30), zwr_n (Or.inl d30)]
          simp only [zwr, true_and]
        · by_cases z : i = 4
          · subst z
            rw [if_pos rfl]
            exact zwr_e.trans (by rw [zwr_n (Or.inr (by decide)), zwr_n (Or.inl d03)]; rfl)
          · rw [if_neg z, zwr_n (Or.inr (by exact z)), zwr_n (Or.inr (by omega)), zwr_n (Or.inl d03)]
        · rw [if_pos q, zwr_n (Or.inr (by decide))]
          exact zwr_e
      · rw [if_neg q]
        simp only [zck_t (show (0 : Int) ≤ 8 ∧ (8 : Int) < 9 by omega), zck_t (show (0 : Int) ≤ 4 ∧ (4 : Int) < 9 by omega), zlet_e]
        refine fin _ 0 (qfr.tr (P := fun q => q = c0 ∨ q = c3) (qfr.tr (P := fun q => q = c0 ∨ q = c3) (qfr.wr (Or.inl rfl)) (qfr.wr (Or.inr rfl))) (qfr.wr (Or.inr rfl))) (fun i => ?_) (fun i hi => ?_) ?_
        · rw [zwr_n (Or.inl d30), zwr_n (Or.inl d30)]
          simp only [zwr, true_and]
        · by_cases z : i = 4
          · subst z
            rw [if_pos rfl]
            exact zwr_e.trans (by rw [zwr_n (Or.inr (by decide)), zwr_n (Or.inl d03)]; rfl)
          · rw [if_neg z, zwr_n (Or.inr (by exact z)), zwr_n (Or.inr (by omega)), zwr_n (Or.inl d03)]
        · rw [if_neg q, zwr_n (Or.inr (by decide))]
          exact zwr_e.trans (zwr_n (Or.inl d03))
theorem l_settle (hd : qdi c0 c1 c2 c3 c4 c5 c6) (hR : qRow m r) (hL : qLw g c0 c1 c2 c3 r) : ∃ g', fL_settle g c0 c1 c2 c3 c4 c5 c6 = some ((qset 24 r 0).2, g') ∧ qLw g' c0 c1 c2 c3 (qset 24 r 0).1 ∧ qLi g' c4 (qset 24 r 0).1 (r 0) ∧ g'.1 c3 8 = qnext r ∧ qfr (fun q => q = c0 ∨ q = c3 ∨ q = c4 ∨ q = c5 ∨ q = c6) g g' := by
  have hms := qms_r hR
  have d03 : c3 ≠ c0 := fun q => hd.2.2.2.2.2.1 q.symm
  unfold fL_settle
  rw [zck_t (by omega), zlet_e]
  have f1 : qfr (fun q => q = c3) g (zwr g c3 (Int.toNat 8) (-1)) := qfr.wr rfl
  have hL1 : qLw (zwr g c3 (Int.toNat 8) (-1)) c0 c1 c2 c3 r := by
    unfold qLw
    have e : ∀ c k : Nat, (c ≠ c3 ∨ k ≠ 8) → (zwr g c3 (Int.toNat 8) (-1)).1 c k = g.1 c k := fun c k h => zwr_n h
    have n0 : c0 ≠ c3 := hd.2.2.2.2.2.1
    have n1 : c1 ≠ c3 := fun q => hd.2.2.2.2.2.2.1 q.symm
    have n2 : c2 ≠ c3 := fun q => hd.2.2.2.2.2.2.2 q.symm
    simp only [e c0 _ (Or.inl n0), e c1 _ (Or.inl n1), e c2 _ (Or.inl n2), e c3 (Int.toNat 0) (Or.inr (by decide)), e c3 (Int.toNat 1) (Or.inr (by decide)), e c3 (Int.toNat 2) (Or.inr (by decide)), e c3 (Int.toNat 3) (Or.inr (by decide)), e c3 (Int.toNat 4) (Or.inr (by decide)), e c3 (Int.toNat 5) (Or.inr (by decide)), e c3 (Int.toNat 6) (Or.inr (by decide)), e c3 (Int.toNat 7) (Or.inr (by decide))]
    exact hL
  obtain ⟨g', u1, u2, u3, u4, u5⟩ := l_settle_l hd zfu _ r 0 hR (by unfold zfu; omega) (by omega) (by omega) hL1
  rw [qset_fu zfu 24 r 0 hR (by unfold zfu; omega) (by omega)] at u1 u2 u3
  refine ⟨g', u1, u2, u3, ?_, (f1.wk (fun q h => Or.inr (Or.inl h))).tr u5⟩
  rw [u4, if_pos rfl]
  by_cases e : qnext r = -1
  · rw [if_pos e, e]
    exact zwr_e
  · rw [if_neg e]
end PLSET
