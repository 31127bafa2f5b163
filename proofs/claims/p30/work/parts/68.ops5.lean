section QOPS5
variable {g g' g1 g2 g3 g4 : zSt} {m b t x w k p u j a lo hi v M p1 p2 p3 p4 y a1 a2 a3 a4 : Int} {r r' re : Int → Int} {R : Nat → Int → Int} {c s d e N n L : Nat}
theorem qset_row : ∀ (f : Nat) (r : Int → Int) (a : Int), qRow M r → qRow M (qset f r a).1 := by
  intro f
  induction f with
  | zero => intro r a h; exact h
  | succ f ih =>
    intro r a hR
    rw [qset]
    by_cases e : qnext r = -1
    · rw [if_pos e]; exact hR
    · rw [if_neg e]
      exact ih _ _ (qmark_row hR ((qnext_r hR).resolve_left e).1)
def qrp (r : Int → Int) (b t v : Int) : Int → Int := qput (qput (qput r 162 (r 162 - 1)) (1 + 7 * b + 3 + t) v) (1 + 7 * b + 5 + t) 0
theorem qrp_B (hb : 0 < b ∧ b < 12) (ht : t = 0 ∨ t = 1) (hw : 0 ≤ w ∧ w < 7) : qB (qrp r b t v) b w = if w = 5 + t then 0 else if w = 3 + t then v else qB r b w := by
  unfold qrp qB
  by_cases q : w = 5 + t
  · rw [if_pos q, qput_e (by omega)]
  · rw [if_neg q, qput_n (by omega)]
    by_cases q2 : w = 3 + t
    · rw [if_pos q2, qput_e (by omega)]
    · rw [if_neg q2, qput_n (by omega), qput_n (by omega)]
theorem qrp_A (hb : 0 < b) (ht : t = 0 ∨ t = 1) : ∀ j, 0 ≤ j → (j < 1 + 7 * b ∨ 8 + 7 * b ≤ j) → j ≠ 162 → qrp r b t v j = r j := fun j j0 j1 j2 => (qput_n (by omega)).trans ((qput_n (by omega)).trans (qput_n (by omega)))
theorem qrp_162 (hb : 0 < b ∧ b < 12) (ht : t = 0 ∨ t = 1) : qrp r b t v 162 = r 162 - 1 := (qput_n (by omega)).trans ((qput_n (by omega)).trans (qput_e rfl))
theorem qrp_row (hR : qRow M r) (hb : 0 < b ∧ b < r 0) (ht : t = 0 ∨ t = 1) (hv : 1 ≤ v ∧ v ≤ 60) (h0 : 0 < r 162) : qRow M (qrp r b t v) := by
  have h1 := hR.1
  have h6 := hR.2.2.2.2.2.2.1
  have hx := hR.2.2.2.1 b hb.1 hb.2
  have hb2 : 0 < b ∧ b < 12 := by omega
  refine hR.edB hb (qrp_A hb.1 ht) ?_ (by rw [qrp_162 hb2 ht]; omega)
  unfold qBx at hx ⊢
  rw [qrp_B hb2 ht (w := 0) (by omega), qrp_B hb2 ht (w := 1) (by omega), qrp_B hb2 ht (w := 2) (by omega), qrp_B hb2 ht (w := 3) (by omega), qrp_B hb2 ht (w := 4) (by omega), qrp_B hb2 ht (w := 5) (by omega), qrp_B hb2 ht (w := 6) (by omega)]
  rw [if_neg (show ¬ (0 : Int) = 5 + t by omega), if_neg (show ¬ (0 : Int) = 3 + t by omega), if_neg (show ¬ (1 : Int) = 5 + t by omega), if_neg (show ¬ (1 : Int) = 3 + t by omega), if_neg (show ¬ (2 : Int) = 5 + t by omega), if_neg (show ¬ (2 : Int) = 3 + t by omega), if_neg (show ¬ (3 : Int) = 5 + t by omega), if_neg (show ¬ (4 : Int) = 5 + t by omega), if_neg (show ¬ (5 : Int) = 3 + t by omega), if_neg (show ¬ (6 : Int) = 3 + t by omega)]
  refine ⟨hx.1, hx.2.1, hx.2.2.1, ?_, ?_, ?_, ?_⟩
  · have := hx.2.2.2.1
    split <;> omega
  · have := hx.2.2.2.2.1
    split <;> omega
  · have := hx.2.2.2.2.2.1
    split <;> omega
  · have := hx.2.2.2.2.2.2
    split <;> omega
theorem qrp_end (hb : 0 < b ∧ b < 12) (ht : t = 0 ∨ t = 1) (hE : qend r) : qend (qrp r b t v) := qput_end (qput_end (qput_end hE (by decide)) (by omega)) (by omega)
theorem k_repl (hR : qRow M r) (hS : qShip g 10 r) (hb : 0 < b ∧ b < r 0) (ht : t = 0 ∨ t = 1) : qShip (zwr (zwr (zwr g 10 3 (r 162 - 1)) 15 (Int.toNat (2 * b + t)) v) 16 (Int.toNat (2 * b + t)) 0) 10 (qrp r b t v) ∧ qfr (fun q => q = 10 ∨ q = 15 ∨ q = 16) g (zwr (zwr (zwr g 10 3 (r 162 - 1)) 15 (Int.toNat (2 * b + t)) v) 16 (Int.toNat (2 * b + t)) 0) := by
  have h1 := hR.1
  have hb2 : 0 < b ∧ b < 12 := by omega
  have z := hS.2.1 b hb.1 hb.2
  have f : qfr (fun q => q = 10 ∨ q = 15 ∨ q = 16) g (zwr (zwr (zwr g 10 3 (r 162 - 1)) 15 (Int.toNat (2 * b + t)) v) 16 (Int.toNat (2 * b + t)) 0) := ((qfr.wr (by omega)).tr (qfr.wr (by omega))).tr (qfr.wr (by omega))
  have B : ∀ w, 0 ≤ w ∧ w < 7 → qB (qrp r b t v) b w = if w = 5 + t then 0 else if w = 3 + t then v else qB r b w := fun w hw => qrp_B hb2 ht hw
  refine ⟨hS.edB hR hb (qrp_A hb.1 ht) (f.wk (fun q z => by omega)) (by rw [B 0 (by omega), if_neg (by omega), if_neg (by omega)]) (fun k hk => ⟨f.1 _ _ (by omega), f.1 _ _ (by omega)⟩) (fun k hk hk2 => ⟨?_, ?_⟩) ⟨?_, ?_⟩ (fun t2 ht2 => ?_) ?_ (fun k hk => ?_), f⟩
  · exact (zwr_n (Or.inl (by decide))).trans ((zwr_n (Or.inr (by omega))).trans (zwr_n (Or.inl (by decide))))
  · exact (zwr_n (Or.inr (by omega))).trans ((zwr_n (Or.inl (by decide))).trans (zwr_n (Or.inl (by decide))))
  · rw [f.1 _ _ (by omega), B 1 (by omega), if_neg (by omega), if_neg (by omega)]; exact z.2.1
  · rw [f.1 _ _ (by omega), B 2 (by omega), if_neg (by omega), if_neg (by omega)]; exact z.2.2
  · have zz := hS.2.2.1 b t2 hb.1 hb.2 ht2
    rw [B (3 + t2) (by omega), B (5 + t2) (by omega), if_neg (show ¬ 3 + t2 = 5 + t by omega)]
    by_cases q : t2 = t
    · subst q
      rw [if_pos rfl, if_pos rfl]
      exact ⟨(zwr_n (Or.inl (by decide))).trans zwr_e, zwr_e⟩
    · rw [if_neg (by omega), if_neg (by omega), if_neg (by omega)]
      refine ⟨?_, ?_⟩
      · exact ((zwr_n (Or.inl (by decide))).trans ((zwr_n (Or.inr (by omega))).trans (zwr_n (Or.inl (by decide))))).trans zz.1
      · exact ((zwr_n (Or.inr (by omega))).trans ((zwr_n (Or.inl (by decide))).trans (zwr_n (Or.inl (by decide))))).trans zz.2
  · rw [qrp_162 hb2 ht]
    exact (zwr_n (Or.inl (by decide))).trans ((zwr_n (Or.inl (by decide))).trans zwr_e)
  · exact (zwr_n (Or.inl (by decide))).trans ((zwr_n (Or.inl (by decide))).trans (zwr_n (Or.inr hk)))
end QOPS5

