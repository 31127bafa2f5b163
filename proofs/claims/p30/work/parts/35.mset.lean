section QSET
variable {g g' : zSt} {m b t x w k p u n j a c lo hi i v : Int} {r : Int → Int}
def qput (r : Int → Int) (i v : Int) : Int → Int := fun j => if j.toNat = i.toNat then v else r j
theorem qput_e (h : j.toNat = i.toNat) : qput r i v j = v := if_pos h
theorem qput_n (h : j.toNat ≠ i.toNat) : qput r i v j = r j := if_neg h
theorem qr_put : qr (zwr g 401 (Int.toNat i) v) = qput (qr g) i v := by
  funext j
  simp only [qr, qput, zwr, true_and]
theorem qr_oth {c k : Nat} (h : c ≠ 401) : qr (zwr g c k v) = qr g := by
  funext j
  have : ¬ (401 = c ∧ j.toNat = k) := fun q => h q.1.symm
  simp only [qr, zwr, if_neg this]
theorem zwr_e {g : zSt} {c k : Nat} {v : Int} : (zwr g c k v).1 c k = v := by simp [zwr]
theorem zwr_n {g : zSt} {c k c' k' : Nat} {v : Int} (h : c' ≠ c ∨ k' ≠ k) : (zwr g c k v).1 c' k' = g.1 c' k' := by
  have : ¬ (c' = c ∧ k' = k) := fun q => h.elim (fun a => a q.1) (fun a => a q.2)
  simp only [zwr, if_neg this]
theorem zwr_2 {g : zSt} {c k : Nat} {v : Int} : (zwr g c k v).2 = g.2 := rfl
def qmark (r : Int → Int) (k : Int) : Int → Int := qput (qput r (1 + 7 * (k / 2) + 5 + k % 2) 1) 163 (r 163 + 1)
/-- the fuses that have not blown -/
def qwl (r : Int → Int) (k : Int) : Int := if qB r (k / 2) (5 + k % 2) = 0 then 1 else 0
def qms (r : Int → Int) : Int := qsum (qwl r) 2 (2 * r 0 - 2).toNat
theorem qmark_B (hk : 2 ≤ k ∧ k < 24) (hb : 0 ≤ b ∧ b < 12) (hw : 0 ≤ w ∧ w < 7) : qB (qmark r k) b w = if b = k / 2 ∧ w = 5 + k % 2 then 1 else qB r b w := by
  unfold qB qmark
  rw [qput_n (by omega)]
  by_cases e : b = k / 2 ∧ w = 5 + k % 2
  · rw [if_pos e, qput_e (by omega)]
  · rw [if_neg e, qput_n (by omega)]
theorem qmark_o (hk : 2 ≤ k ∧ k < 24) (hj : 0 ≤ j ∧ j ≠ 163) (h : j = 0 ∨ 85 ≤ j) : qmark r k j = r j := by
  unfold qmark
  rw [qput_n (by omega), qput_n (by omega)]
theorem qmark_163 : qmark r k 163 = r 163 + 1 := qput_e rfl
theorem qmark_row (hR : qRow m r) (hk : 2 ≤ k ∧ k < 2 * r 0) : qRow m (qmark r k) := by
  have hk2 : 2 ≤ k ∧ k < 24 := by have := hR.1; omega
  obtain ⟨h1, h2, h3, h4, h5, h6, h7, h8, h9, h10⟩ := hR
  have o : ∀ j, (0 ≤ j ∧ j ≠ 163) → (j = 0 ∨ 85 ≤ j) → qmark r k j = r j := fun j h h' => qmark_o hk2 h h'
  refine ⟨by rw [o 0 (by omega) (by omega)]; exact h1, by rw [o 85 (by omega) (by omega)]; exact h2, by rw [o 134 (by omega) (by omega)]; exact h3, ?_, ?_, ?_, by rw [o 162 (by omega) (by omega)]; exact h7, by rw [o 164 (by omega) (by omega)]; exact h8, by rw [o 165 (by omega) (by omega), o 164 (by omega) (by omega)]; exact h9, by rw [o 166 (by omega) (by omega), o 164 (by omega) (by omega)]; exact h10⟩
  · intro b b0 b1
    rw [o 0 (by omega) (by omega)] at b1
    obtain ⟨x1, x2, x3, x4, x5, x6, x7⟩ := h4 b b0 b1
    have e : ∀ w, (0 ≤ w ∧ w < 5) → qB (qmark r k) b w = qB r b w := fun w hw => by rw [qmark_B hk2 (by omega) (by omega), if_neg (by omega)]
    refine ⟨by rw [e 0 (by omega)]; exact x1, by rw [e 1 (by omega)]; exact x2, by rw [e 2 (by omega)]; exact x3, by rw [e 3 (by omega)]; exact x4, by rw [e 4 (by omega)]; exact x5, ?_, ?_⟩
    · rw [qmark_B hk2 (by omega) (by omega)]
      split
      · exact Or.inr rfl
      · exact x6
    · rw [qmark_B hk2 (by omega) (by omega)]
      split
      · exact Or.inr rfl
      · exact x7
  · intro j j0 j1
    rw [o 85 (by omega) (by omega)] at j1
    have e : ∀ w, (0 ≤ w ∧ w < 3) → qL (qmark r k) j w = qL r j w := fun w hw => o _ (by omega) (by omega)
    have := h5 j j0 j1
    unfold qLn at this ⊢
    rw [e 0 (by omega), e 1 (by omega), e 2 (by omega), o 0 (by omega) (by omega)]
    exact this
  · intro j j0 j1
    rw [o 134 (by omega) (by omega)] at j1
    have e : ∀ w, (0 ≤ w ∧ w < 3) → qF (qmark r k) j w = qF r j w := fun w hw => o _ (by omega) (by omega)
    have := h6 j j0 j1
    unfold qFt at this ⊢
    rw [e 0 (by omega), e 1 (by omega), e 2 (by omega), o 0 (by omega) (by omega)]
    exact this
theorem qsum_upd {f h : Int → Int} (k : Int) (M : Nat) : ∀ lo : Int, lo ≤ k → k < lo + M → (∀ j, lo ≤ j → j < lo + M → j ≠ k → h j = f j) → qsum h lo M = qsum f lo M - f k + h k := by
  induction M with
  | zero => intro lo h1 h2; omega
  | succ M ih =>
    intro lo h1 h2 e
    rw [qsum, qsum]
    by_cases hk : lo = k
    · subst hk
      rw [qsum_congr (f := h) (h := f) M (lo + 1) (fun j a b => e j (by omega) (by omega) (by omega))]
      omega
    · rw [e lo (by omega) (by omega) hk, ih (lo + 1) (by omega) (by omega) (fun j a b c => e j (by omega) (by omega) c)]
      omega
theorem qwh_1 (h : qwh r b t = true) (hb : 0 < b ∧ qB r b 0 < b) : qB r b (5 + t) = 0 := by
  rw [qwh_s hb] at h
  simp at h
  exact h.1
theorem qms_mark (hR : qRow m r) (hk : 2 ≤ k ∧ k < 2 * r 0) (hbd : qbad r k) : qms (qmark r k) = qms r - 1 := by
  have h1 := hR.1
  have hk2 : 2 ≤ k ∧ k < 24 := by omega
  have hx := (hR.2.2.2.1 (k / 2) (by omega) (by omega)).1
  have ha := qbad_al hR hk hbd
  unfold qal at ha
  have hw := qwh_1 (Bool.and_eq_true_iff.mp ha).2 ⟨by omega, hx.2⟩
  unfold qms
  rw [qmark_o hk2 (by omega) (by omega), qsum_upd (f := qwl r) (h := qwl (qmark r k)) k _ 2 (by omega) (by omega) (fun j a b c => ?_)]
  · have e1 : qwl r k = 1 := if_pos hw
    have e2b : qB (qmark r k) (k / 2) (5 + k % 2) = 1 := by rw [qmark_B hk2 (by omega) (by omega), if_pos ⟨rfl, rfl⟩]
    have e2 : qwl (qmark r k) k = 0 := by
      unfold qwl
      rw [e2b]
      rfl
    rw [e1, e2]
    omega
  · have e3 : qB (qmark r k) (j / 2) (5 + j % 2) = qB r (j / 2) (5 + j % 2) := by rw [qmark_B hk2 (by omega) (by omega), if_neg (by omega)]
    unfold qwl
    rw [e3]
theorem qms_r (hR : qRow m r) : 0 ≤ qms r ∧ qms r ≤ 22 := by
  have h1 := hR.1
  have := qsum_le (f := qwl r) (b := 1) (2 * r 0 - 2).toNat 2 (fun k _ _ => by unfold qwl; split <;> omega)
  unfold qms
  omega
/-- a row when the last fuse has blown, and how many have -/
def qset : Nat → (Int → Int) → Int → (Int → Int) × Int
  | 0, r, c => (r, c)
  | f + 1, r, c => if qnext r = -1 then (r, c) else qset f (qmark r (qnext r)) (c + 1)
theorem qset_fu : ∀ (f f' : Nat) (r : Int → Int) (c : Int), qRow m r → (qms r).toNat < f → (qms r).toNat < f' → qset f r c = qset f' r c := by
  intro f
  induction f with
  | zero => intro f' r c _ h; omega
  | succ f ih =>
    intro f' r c hR h h'
    obtain ⟨f2, rfl⟩ : ∃ f2, f' = f2 + 1 := ⟨f' - 1, by omega⟩
    rw [qset, qset]
    by_cases e : qnext r = -1
    · rw [if_pos e, if_pos e]
    · rw [if_neg e, if_neg e]
      have hk := (qnext_r hR).resolve_left e
      have hms := qms_r hR
      have hms2 := qms_mark hR hk.1 hk.2
      have hms3 := qms_r (qmark_row hR hk.1)
      exact ih f2 _ _ (qmark_row hR hk.1) (by omega) (by omega)
end QSET

