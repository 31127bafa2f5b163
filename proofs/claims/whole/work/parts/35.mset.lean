section QSET
variable {g g' : zSt} {m b t x w k p u n j a c lo hi i v : Int} {r : Int → Int}
def qput (r : Int → Int) (i v : Int) : Int → Int := fun j => if j.toNat = i.toNat then v else r j
theorem qput_e (h : j.toNat = i.toNat) : qput r i v j = v := if_pos h
theorem qput_n (h : j.toNat ≠ i.toNat) : qput r i v j = r j := if_neg h
theorem qr_put : qr (zwr g 401 (Int.toNat i) v) = qput (qr g) i v := by
  funext j
  simp only [qr, qput, zwr, true_and]
theorem qr_oth {c k : Nat} (h : c ≠ 401) : qr (zwr g c k v) = qr g := by
  funext j
  have : ¬ (401 = c ∧ j.toNat = k) := fun q => h q.1.symm
  simp only [qr, zwr, if_neg this]
theorem zwr_e {g : zSt} {c k : Nat} {v : Int} : (zwr g c k v).1 c k = v := by simp [zwr]
theorem zwr_n {g : zSt} {c k c' k' : Nat} {v : Int} (h : c' ≠ c ∨ k' ≠ k) : (zwr g c k v).1 c' k' = g.1 c' k' := by
  have : ¬ (c' = c ∧ k' = k) := fun q => h.elim (fun a => a q.1) (fun a => a q.2)
  simp only [zwr, if_neg this]
theorem zwr_2 {g : zSt} {c k : Nat} {v : Int} : (zwr g c k v).2 = g.2 := rfl
def qmark (r : Int → Int) (k : Int) : Int → Int := qput (qput r (1 + 7 * (k / 2) + 5 + k % 2) 1) 163 (r 163 + 1)
/-- the fuses that have not blown -/
def qwl (r : Int → Int) (k : Int) : Int := if qB r (k / 2) (5 + k % 2) = 0 then 1 else 0
def qms (r : Int → Int) : Int := qsum (qwl r) 2 (2 * r 0 - 2).toNat
theorem qmark_B (hk : 2 ≤ k ∧ k < 24) (hb : 0 ≤ b ∧ b < 12) (hw : 0 ≤ w ∧ w < 7) : qB (qmark r k) b w = if b = k / 2 ∧ w = 5 + k % 2 then 1 else qB r b w := by
  unfold qB qmark
  rw [qput_n (by omega)]
  by_cases e : b = k / 2 ∧ w = 5 + k % 2
  · rw [if_pos e, qput_e (by omega)]
  · rw [if_neg e, qput_n (by omega)]
theorem qmark_o (hk : 2 ≤ k ∧ k < 24) (hj : 0 ≤ j ∧ j ≠ 163) (h : j = 0 ∨ 85 ≤ j) : qmark r k j = r j := by
  unfold qmark
  rw [qput_n (by omega), qput_n (by omega)]
theorem qmark_163 : qmark r k 163 = r 163 + 1 := qput_e rfl
theorem qmark_row (hR : qRow m r) (hk : 2 ≤ k ∧ k < 2 * r 0) : qRow m (qmark r k) := by
  have hk2 : 2 ≤ k ∧ k < 24 := by have := hR.1; omega
  obtain ⟨h1, h2, h3, h4, h5, h6, h7, h8, h9, h10⟩ := hR
  have o : ∀ j, (0 ≤ j ∧ j ≠ 163) → (j = 0 ∨ 85 ≤ j) → qmark r k j = r j := fun j h h' => qmark_o hk2 h h'
  refine ⟨by rw [o 0 (by omega) (by omega)]; exact h1, by rw [o 85 (by omega) (by omega)]; exact h2, by rw [o 134 (by omega) (by omega)]; exact h3, ?_, ?_, ?_, by rw [o 162 (by omega) (by omega)]; exact h7, by rw [o 164 (by omega) (by omega)]; exact h8, by rw [o 165 (by omega) (by omega), o 164 (by omega) (by omega)]; exact h9, by rw [o 166 (by omega) (by omega), o 164 (by omega) (by omega)]; exact h10⟩
  · intro b b0 b1
    rw [o 0 (by omega) (by omega)] at b1
    obtain ⟨x1, x2, x3, x4, x5, x6, x7⟩ := h4 b b0 b1
    have e : ∀ w, (0 ≤ w ∧ w < 5) → qB (qmark r k) b w = qB r b w := fun w hw => by rw [qmark_B hk2 (by omega) (by omega), if_neg (by omega)]
    refine ⟨by rw [e 0 (by omega)]; exact x1, by rw [e 1 (by omega)]; exact x2, by rw [e 2 (by omega)]; exact x3, by rw [e 3 (by omega)]; exact x4, by rw [e 4 (by omega)]; exact x5, ?_, ?_⟩
    · rw [qmark_B hk2 (by omega) (by omega)]
      split
      · exact Or.inr rfl
      · exact x6
    · rw [qmark_B hk2 (by omega) (by omega)]
      split
      · exact Or.inr rfl
      · exact x7
  · intro j j0 j1
    rw [o 85 (by omega) (by omega)] at j1
    have e : ∀ w, (0 ≤ w ∧ w < 3) → qL (qmark r k) j w = qL r j w := fun w hw => o _ (by omega) (by omega)
    have := h5 j j0 j1
    unfold qLn at this ⊢
    rw [e 0 (by omega), e 1 (by omega), e 2 (by omega), o 0 (by omega) (by omega)]
    exact this
  · intro j j0 j1
    rw [o 134 (by omega) (by omega)] at j1
    have e : ∀ w, (0 ≤ w ∧ w < 3) → qF (qmark r k) j w = qF r j w := fun w hw => o _ (by omega) (by omega)
    have := h6 j j0 j1
    unfold qFt at this ⊢
    rw [e 0 (by omega), e 1 (by omega), e 2 (by omega), o 0 (by omega) (by omega)]
    exact this
theorem qsum_upd {f h : Int → Int} (k : Int) (M : Nat) : ∀ lo : Int, lo ≤ k → k < lo + M → (∀ j, lo ≤ j → j < lo + M → j ≠ k → h j = f j) → qsum h lo M = qsum f lo M - f k + h k := by
  induction M with
  | zero => intro lo h1 h2; omega
  | succ M ih =>
    intro lo h1 h2 e
    rw [qsum, qsum]
    by_cases hk : lo = k
    · subst hk
      rw [qsum_congr (f := h) (h := f) M (lo + 1) (fun j a b => e j (by omega) (by omega) (by omega))]
      omega
    · rw [e lo (by omega) (by omega) hk, ih (lo + 1) (by omega) (by omega) (fun j a b c => e j (by omega) (by omega) c)]
      omega
theorem qwh_1 (h : qwh r b t = true) (hb : 0 < b ∧ qB r b 0 < b) : qB r b (5 + t) = 0 := by
  rw [qwh_s hb] at h
  simp at h
  exact h.1
theorem qms_mark (hR : qRow m r) (hk : 2 ≤ k ∧ k < 2 * r 0) (hbd : qbad r k) : qms (qmark r k) = qms r - 1 := by
  have h1 := hR.1
  have hk2 : 2 ≤ k ∧ k < 24 := by omega
  have hx := (hR.2.2.2.1 (k / 2) (by omega) (by omega)).1
  have ha := qbad_al hR hk hbd
  unfold qal at ha
  have hw := qwh_1 (Bool.and_eq_true_iff.mp ha).2 ⟨by omega, hx.2⟩
  unfold qms
  rw [qmark_o hk2 (by omega) (by omega), qsum_upd (f := qwl r) (h := qwl (qmark r k)) k _ 2 (by omega) (by omega) (fun j a b c => ?_)]
  · have e1 : qwl r k = 1 := if_pos hw
    have e2b : qB (qmark r k) (k / 2) (5 + k % 2) = 1 := by rw [qmark_B hk2 (by omega) (by omega), if_pos ⟨rfl, rfl⟩]
    have e2 : qwl (qmark r k) k = 0 := by
      unfold qwl
      rw [e2b]
      rfl
    rw [e1, e2]
    omega
  · have e3 : qB (qmark r k) (j / 2) (5 + j % 2) = qB r (j / 2) (5 + j % 2) := by rw [qmark_B hk2 (by omega) (by omega), if_neg (by omega)]
    unfold qwl
    rw [e3]
theorem qms_r (hR : qRow m r) : 0 ≤ qms r ∧ qms r ≤ 22 := by
  have h1 := hR.1
  have := qsum_le (f := qwl r) (b := 1) (2 * r 0 - 2).toNat 2 (fun k _ _ => by unfold qwl; split <;> omega)
  unfold qms
  omega
/-- a row when the last fuse has blown, and how many have -/
def qset : Nat → (Int → Int) → Int → (Int → Int) × Int
  | 0, r, c => (r, c)
  | f + 1, r, c => if qnext r = -1 then (r, c) else qset f (qmark r (qnext r)) (c + 1)
/-- what the reference's settling leaves as it was -/
def qkeep (g g' : zSt) : Prop := (∀ c k : Nat, c ≠ 401 → (c = 400 → k ≠ 6 ∧ k ≠ 7) → g'.1 c k = g.1 c k) ∧ g'.2 = g.2
theorem qkeep.rf : qkeep g g := ⟨fun _ _ _ _ => rfl, rfl⟩
theorem qkeep.tr {g1 g2 g3 : zSt} (h : qkeep g1 g2) (h' : qkeep g2 g3) : qkeep g1 g3 := ⟨fun c k a b => (h'.1 c k a b).trans (h.1 c k a b), h'.2.trans h.2⟩
theorem m_settle_l : ∀ (fu : Nat) (g : zSt), qRow m (qr g) → (qms (qr g)).toNat < fu → 0 ≤ g.1 400 6 → g.1 400 6 ≤ 22 - qms (qr g) → ∃ g', fX8_settle_p15 fu g (qnext (qr g)) = some g' ∧ qr g' = (qset fu (qr g) (g.1 400 6)).1 ∧ g'.1 400 6 = (qset fu (qr g) (g.1 400 6)).2 ∧ g'.1 400 7 = (if g.1 400 6 = 0 then (if qnext (qr g) = -1 then g.1 400 7 else qnext (qr g)) else g.1 400 7) ∧ qRow m (qr g') ∧ qkeep g g' := by
  intro fu
  induction fu with
  | zero => intro g _ h; omega
  | succ fu ih =>
    intro g hR hf hc0 hc1
    have h1 := hR.1
    have hnr := qnext_r hR
    have hms := qms_r hR
    rw [fX8_settle_p15, ieq (by omega) (by omega), ieq (by omega) (by omega), qset]
    by_cases e : qnext (qr g) = -1
    · rw [if_pos e, if_pos e, e]
      refine ⟨g, rfl, rfl, rfl, ?_, hR, qkeep.rf⟩
      simp
    · rw [if_neg e, if_neg e]
      have hk := hnr.resolve_left e
      have hk2 : 2 ≤ qnext (qr g) ∧ qnext (qr g) < 24 := by omega
      have hms2 := qms_mark hR hk.1 hk.2
      have hR2 := qmark_row hR hk.1
      have hms3 := qms_r hR2
      have st : ∀ v : Int, ∃ g4 : zSt, fX8_settle_p36 (fX8_settle_p15 fu) g v (qnext (qr g)) = fX8_settle_p15 fu g4 (qnext (qr g4)) ∧ qr g4 = qmark (qr g) (qnext (qr g)) ∧ g4.1 400 6 = g.1 400 6 + 1 ∧ g4.1 400 7 = v ∧ qkeep g g4 := by
        intro v
        unfold fX8_settle_p36
        have hd := qdm2 (k := qnext (qr g)) (by omega)
        rw [hd.1, hd.2]
        simp only [zlet_e]
        rw [zck_t (by omega), zck_t (by omega), zck_t (by omega)]
        let g1 := zwr g 400 7 v
        let g2 := zwr g1 401 (Int.toNat (1 + 7 * (qnext (qr g) / 2) + 5 + qnext (qr g) % 2)) 1
        let g3 := zwr g2 401 (Int.toNat 163) (g2.1 401 (Int.toNat 163) + 1)
        let g4 := zwr g3 400 6 (g3.1 400 6 + 1)
        have e1 : qr g1 = qr g := qr_oth (by decide)
        have e2 : qr g2 = qput (qr g) (1 + 7 * (qnext (qr g) / 2) + 5 + qnext (qr g) % 2) 1 := by rw [← e1]; exact qr_put
        have e3 : qr g3 = qmark (qr g) (qnext (qr g)) := by
          unfold qmark
          rw [show qr g3 = qput (qr g2) 163 (qr g2 163 + 1) from qr_put, e2, qput_n (by omega)]
        have e4 : qr g4 = qmark (qr g) (qnext (qr g)) := (qr_oth (by decide)).trans e3
        have hR4 : qRow m (qr g4) := by rw [e4]; exact hR2
        refine ⟨g4, ?_, e4, ?_, ?_, ?_, rfl⟩
        · show zbd (fX8_nextToBlow g4) _ = _
          rw [m_next hR4, zbd_s]
        · show (zwr g3 400 6 (g3.1 400 6 + 1)).1 400 6 = _
          rw [zwr_e, show g3.1 400 6 = g2.1 400 6 from zwr_n (Or.inl (by decide)), show g2.1 400 6 = g1.1 400 6 from zwr_n (Or.inl (by decide)), show g1.1 400 6 = g.1 400 6 from zwr_n (Or.inr (by decide))]
        · show (zwr g3 400 6 (g3.1 400 6 + 1)).1 400 7 = _
          rw [zwr_n (Or.inr (by decide)), show g3.1 400 7 = g2.1 400 7 from zwr_n (Or.inl (by decide)), show g2.1 400 7 = g1.1 400 7 from zwr_n (Or.inl (by decide)), show g1.1 400 7 = v from zwr_e]
        · intro c k hc hk9
          have q : c ≠ 400 ∨ (k ≠ 6 ∧ k ≠ 7) := (Decidable.em (c = 400)).elim (fun h => Or.inr (hk9 h)) Or.inl
          rw [show g4.1 c k = g3.1 c k from zwr_n (q.imp id (fun z => z.1)), show g3.1 c k = g2.1 c k from zwr_n (Or.inl hc), show g2.1 c k = g1.1 c k from zwr_n (Or.inl hc), show g1.1 c k = g.1 c k from zwr_n (q.imp id (fun z => z.2))]
      have fin : ∀ v : Int, ∃ g', fX8_settle_p36 (fX8_settle_p15 fu) g v (qnext (qr g)) = some g' ∧ qr g' = (qset fu (qmark (qr g) (qnext (qr g))) (g.1 400 6 + 1)).1 ∧ g'.1 400 6 = (qset fu (qmark (qr g) (qnext (qr g))) (g.1 400 6 + 1)).2 ∧ g'.1 400 7 = v ∧ qRow m (qr g') ∧ qkeep g g' := by
        intro v
        obtain ⟨g4, s1, s2, s3, s4, s5⟩ := st v
        obtain ⟨g', t1, t2, t3, t4, t5, t6⟩ := ih g4 (by rw [s2]; exact hR2) (by rw [s2, hms2]; omega) (by omega) (by rw [s2, hms2]; omega)
        rw [s2, s3] at t2 t3
        refine ⟨g', s1.trans t1, t2, t3, ?_, t5, s5.tr t6⟩
        rw [t4, if_neg (by omega), s4]
      by_cases e0 : g.1 400 6 = 0
      · rw [if_pos e0, if_pos e0, if_neg e]
        exact fin _
      · rw [if_neg e0, if_neg e0]
        exact fin _
theorem qset_fu : ∀ (f f' : Nat) (r : Int → Int) (c : Int), qRow m r → (qms r).toNat < f → (qms r).toNat < f' → qset f r c = qset f' r c := by
  intro f
  induction f with
  | zero => intro f' r c _ h; omega
  | succ f ih =>
    intro f' r c hR h h'
    obtain ⟨f2, rfl⟩ : ∃ f2, f' = f2 + 1 := ⟨f' - 1, by omega⟩
    rw [qset, qset]
    by_cases e : qnext r = -1
    · rw [if_pos e, if_pos e]
    · rw [if_neg e, if_neg e]
      have hk := (qnext_r hR).resolve_left e
      have hms := qms_r hR
      have hms2 := qms_mark hR hk.1 hk.2
      have hms3 := qms_r (qmark_row hR hk.1)
      exact ih f2 _ _ (qmark_row hR hk.1) (by omega) (by omega)
theorem m_settle (hR : qRow m (qr g)) : ∃ g', fX8_settle g = some g' ∧ qr g' = (qset 24 (qr g) 0).1 ∧ g'.1 400 6 = (qset 24 (qr g) 0).2 ∧ g'.1 400 7 = qnext (qr g) ∧ qRow m (qr g') ∧ qkeep g g' := by
  let g1 := zwr g 400 6 0
  let g2 := zwr g1 400 7 (-1)
  have e2 : qr g2 = qr g := (qr_oth (by decide)).trans (qr_oth (by decide))
  have hR2 : qRow m (qr g2) := by rw [e2]; exact hR
  have hms := qms_r hR2
  have e6 : g2.1 400 6 = 0 := (zwr_n (Or.inr (by decide))).trans zwr_e
  have e7 : g2.1 400 7 = -1 := zwr_e
  have k2 : qkeep g g2 := ⟨fun c k hc hk9 => by
    have q : c ≠ 400 ∨ (k ≠ 6 ∧ k ≠ 7) := (Decidable.em (c = 400)).elim (fun h => Or.inr (hk9 h)) Or.inl
    exact (zwr_n (q.imp id (fun z => z.2))).trans (zwr_n (q.imp id (fun z => z.1))), rfl⟩
  obtain ⟨g', t1, t2, t3, t4, t5, t6⟩ := m_settle_l zfu g2 hR2 (by unfold zfu; omega) (by omega) (by omega)
  rw [qset_fu zfu 24 _ _ hR2 (by unfold zfu; omega) (by omega), e6, e2] at t2 t3
  refine ⟨g', ?_, t2, t3, ?_, t5, k2.tr t6⟩
  · unfold fX8_settle
    simp only [zlet_e]
    show zbd (fX8_nextToBlow g2) _ = _
    rw [m_next hR2, zbd_s]
    exact t1
  · rw [t4, if_pos e6, e7, e2]
    split
    · rename_i h; exact h.symm
    · rfl
end QSET
