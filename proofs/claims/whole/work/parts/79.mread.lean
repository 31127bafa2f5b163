section QREAD3
variable {g g' g1 g2 g3 g4 : zSt} {b t x w k p u j a lo hi v M y a1 a2 a3 a4 i q P : Int} {r r' re ρ ρ' T : Int → Int} {R : Nat → Int → Int} {c : Int} {s d e N L n m : Nat}
def qMr (g : zSt) (ρ : Int → Int) (P i : Int) : Prop := (g.1 400 9 = ρ 0 ∧ g.1 400 10 = ρ 1 ∧ g.1 400 12 = P) ∧ (0 ≤ g.1 400 11 ∧ g.1 400 11 ≤ i) ∧ (g.1 400 11 = 0 ↔ ρ (2 + ρ 1) = -1) ∧ (∀ k, 0 ≤ k → k < ρ 1 → g.1 405 (Int.toNat (4 * P + 1 + k)) = ρ (2 + k)) ∧ (g.1 400 11 ≠ 0 → g.1 405 (Int.toNat (4 * P + 1 + ρ 1)) = ρ (2 + ρ 1)) ∧ 0 ≤ P ∧ 4 * P + 2 * ρ 1 + (if g.1 400 11 = 0 then 0 else 1) ≤ i
/-- what reading changes in the reference -/
def qrf (g g' : zSt) : Prop := (∀ c k : Nat, c ≠ 405 → (c = 400 → k ≠ 9 ∧ k ≠ 10 ∧ k ≠ 11 ∧ k ≠ 12) → g'.1 c k = g.1 c k) ∧ g'.2 = g.2
theorem qrf.rf : qrf g g := ⟨fun _ _ _ _ => rfl, rfl⟩
theorem qrf.tr (h : qrf g1 g2) (h' : qrf g2 g3) : qrf g1 g3 := ⟨fun c k a b => (h'.1 c k a b).trans (h.1 c k a b), h'.2.trans h.2⟩
theorem qrf.w5 {z : Nat} : qrf g (zwr g 405 z v) := ⟨fun c k a b => zwr_n (Or.inl a), rfl⟩
theorem qrf.w4 {z : Nat} (hz : z = 9 ∨ z = 10 ∨ z = 11 ∨ z = 12) : qrf g (zwr g 400 z v) := ⟨fun c k a b => zwr_n ((Decidable.em (c = 400)).elim (fun h => Or.inr (by have := b h; omega)) Or.inl), rfl⟩
theorem m_les (hM : qMr g ρ P i) (hV : qVS ρ) : fX8_least g = some (qles (ρ 0) (ρ 1)) := by
  have h0 := qVS_0 hV
  unfold fX8_least qles
  rw [hM.1.1, hM.1.2.1, ieq (by omega) (by omega), ieq (by omega) (by omega), ieq (by omega) (by omega)]
  by_cases q1 : ρ 1 = 0
  · rw [if_pos q1, if_pos q1]
  · rw [if_neg q1, if_neg q1]
    by_cases q2 : ρ 0 = 35
    · rw [if_pos q2]
      by_cases q3 : ρ 1 = 1
      · rw [if_pos q3, if_pos q3, if_pos q2]
      · rw [if_neg q3, if_neg q3]
    · rw [if_neg q2]
      by_cases q3 : ρ 1 = 1
      · rw [if_pos q3, if_neg q2]
      · rw [if_neg q3]
theorem m_mos (hM : qMr g ρ P i) (hV : qVS ρ) : fX8_greatest g = some (qmos (ρ 0) (ρ 1)) := by
  have h0 := qVS_0 hV
  unfold fX8_greatest qmos
  rw [hM.1.1, hM.1.2.1, ieq (by omega) (by omega), ieq (by omega) (by omega), ieq (by omega) (by omega), ieq (by omega) (by omega), ieq (by omega) (by omega)]
  by_cases q1 : ρ 1 = 0
  · rw [if_pos q1, if_pos q1]
  · rw [if_neg q1, if_neg q1]
    by_cases q2 : ρ 0 = 42
    · rw [if_pos q2, if_neg (by omega), if_pos (Or.inl q2)]
    · rw [if_neg q2]
      by_cases q3 : ρ 0 = 33
      · rw [if_pos q3, if_neg (by omega), if_pos (Or.inr q3)]
      · rw [if_neg q3]
        by_cases q4 : ρ 0 = 35
        · rw [if_pos q4, if_pos q4]
          by_cases q5 : ρ 1 = 1
          · rw [if_pos q5, if_pos q5]
          · rw [if_neg q5, if_neg q5]
        · rw [if_neg q4, if_neg q4, if_neg (by omega)]
theorem m_over (hM : qMr g ρ P i) (hV : qVS ρ) (hi : i ≤ 60) : fX8_isPartOver g = some (qbi (decide (g.1 400 11 ≠ 0 ∧ ρ 1 = qlp2 (ρ 0)))) := by
  have h0 := qVS_0 hV
  have hd := hM.2.1
  unfold fX8_isPartOver qlp2
  rw [hM.1.1, hM.1.2.1, ilt (by omega) (by omega), ieq (by omega) (by omega), ieq (by omega) (by omega), ieq (by omega) (by omega), ieq (by omega) (by omega), qck_0, qck_1]
  by_cases q1 : 0 < g.1 400 11
  · rw [if_pos q1]
    by_cases q2 : ρ 0 = 42
    · rw [if_pos q2, if_pos (Or.inl q2)]
      by_cases q3 : ρ 1 = 1
      · rw [if_pos q3, decide_eq_true (by omega)]; rfl
      · rw [if_neg q3, decide_eq_false (by omega)]; rfl
    · rw [if_neg q2]
      by_cases q4 : ρ 0 = 33
      · rw [if_pos q4, if_pos (Or.inr q4)]
        by_cases q3 : ρ 1 = 1
        · rw [if_pos q3, decide_eq_true (by omega)]; rfl
        · rw [if_neg q3, decide_eq_false (by omega)]; rfl
      · rw [if_neg q4, if_neg (show ¬ (ρ 0 = 42 ∨ ρ 0 = 33) by omega)]
        by_cases q3 : ρ 1 = 2
        · rw [if_pos q3, decide_eq_true (by omega)]; rfl
        · rw [if_neg q3, decide_eq_false (by omega)]; rfl
  · rw [if_neg q1, decide_eq_false (by omega)]; rfl
/-- the end of a part -/
theorem m_endP (hk : g.1 400 12 = P) (hP : 0 ≤ P ∧ P < 20) : ∃ g', fX8_endPart g = some g' ∧ (g'.1 400 9 = 0 ∧ g'.1 400 10 = 0 ∧ g'.1 400 12 = P + 1 ∧ g'.1 400 11 = 0) ∧ (∀ j : Nat, g'.1 405 j = if j = Int.toNat (4 * P) then g.1 400 9 else g.1 405 j) ∧ qrf g g' := by
  let w1 := zwr g 405 (Int.toNat (4 * P)) (g.1 400 9)
  let w2 := zwr w1 400 12 (P + 1)
  let w3 := zwr w2 400 9 0
  let w4 := zwr w3 400 10 0
  let w5 := zwr w4 400 11 0
  have e1 : w1.1 400 12 = P := (zwr_n (Or.inl (by decide))).trans hk
  refine ⟨w5, ?_, ⟨?_, ?_, ?_, zwr_e⟩, fun j => ?_, (((qrf.w5.tr (qrf.w4 (by omega))).tr (qrf.w4 (by omega))).tr (qrf.w4 (by omega))).tr (qrf.w4 (by omega))⟩
  · unfold fX8_endPart
    rw [hk, zck_t (by omega), zlet_e]
    show zlet (zwr w1 400 12 (w1.1 400 12 + 1)) _ = _
    rw [e1, zlet_e, zlet_e, zlet_e, zlet_e]
  · exact (zwr_n (Or.inr (by decide))).trans ((zwr_n (Or.inr (by decide))).trans zwr_e)
  · exact (zwr_n (Or.inr (by decide))).trans zwr_e
  · exact (zwr_n (Or.inr (by decide))).trans ((zwr_n (Or.inr (by decide))).trans ((zwr_n (Or.inr (by decide))).trans zwr_e))
  · have z : w5.1 405 j = w1.1 405 j := (zwr_n (Or.inl (by decide))).trans ((zwr_n (Or.inl (by decide))).trans ((zwr_n (Or.inl (by decide))).trans (zwr_n (Or.inl (by decide)))))
    rw [z]
    by_cases q : j = Int.toNat (4 * P)
    · rw [if_pos q, q]; exact zwr_e
    · rw [if_neg q]; exact zwr_n (Or.inr q)
theorem m_dig (hM : qMr g ρ P i) (hV : qVS ρ) (hc : 48 ≤ c ∧ c ≤ 57) (hi : i ≤ 60) : (qdl ρ c = none → ∃ g', fX8_takesDigit g (c - 48) = some (0, g') ∧ qrf g g') ∧ (∀ ρ', qdl ρ c = some ρ' → ∃ g', fX8_takesDigit g (c - 48) = some (1, g') ∧ qMr g' ρ' P (i + 1) ∧ (∀ j : Nat, (j : Int) < 4 * P → g'.1 405 j = g.1 405 j) ∧ qrf g g') := by
  have hp := qVS_p hV
  have h0 := qVS_0 hV
  have l1 := qles_r (ρ 0) (ρ 1)
  have m1 := qmos_r (ρ 0) (ρ 1)
  have hd := hM.2.1
  have hb := hM.2.2.2.2.2
  have hb1 : 4 * P + 2 * ρ 1 ≤ i := by
    have := hb.2
    split at this <;> omega
  have hy : 0 ≤ qval ρ c ∧ qval ρ c ≤ 1000 := by
    unfold qval
    split <;> omega
  have p90 : ∀ y, fX8_takesDigit_p90 g 0 (4 * P + 1 + ρ 1) y = some (0, zwr (zwr g 405 (Int.toNat (4 * P + 1 + ρ 1)) (g.1 405 (Int.toNat (4 * P + 1 + ρ 1)))) 400 11 (g.1 400 11 + 0)) := by
    intro y
    unfold fX8_takesDigit_p90 fX8_takesDigit_p112
    rw [if_pos rfl, zck_t (by omega), zck_t (by omega), zlet_e, if_pos rfl, zwr_n (Or.inl (by decide)), zlet_e, qck_0]
  have p91 : ∀ y, fX8_takesDigit_p90 g 1 (4 * P + 1 + ρ 1) y = some (1, zwr (zwr g 405 (Int.toNat (4 * P + 1 + ρ 1)) y) 400 11 (g.1 400 11 + 1)) := by
    intro y
    unfold fX8_takesDigit_p90 fX8_takesDigit_p112
    rw [ieq (by omega) (by omega), if_neg (by omega), zck_t (by omega), zlet_e, ieq (by omega) (by omega), if_neg (by omega), zwr_n (Or.inl (by decide)), zlet_e, qck_1]
  have hT : fX8_takesDigit g (c - 48) = if ρ (2 + ρ 1) = 0 ∨ qval ρ c < qles (ρ 0) (ρ 1) ∨ qmos (ρ 0) (ρ 1) < qval ρ c then fX8_takesDigit_p90 g 0 (4 * P + 1 + ρ 1) (qval ρ c) else fX8_takesDigit_p90 g 1 (4 * P + 1 + ρ 1) (qval ρ c) := by
    unfold fX8_takesDigit
    rw [hM.1.2.2, hM.1.2.1, zlet_e, ieq (by omega) (by omega), zck_t (by omega)]
    by_cases q1 : g.1 400 11 = 0
    · have ev : qval ρ c = c - 48 := if_pos (hM.2.2.1.mp q1)
      have e1 := hM.2.2.1.mp q1
      rw [if_pos q1]
      unfold fX8_takesDigit_p36
      rw [ieq (by omega) (by omega), if_pos q1, m_les hM hV, zbd_s, m_mos hM hV, zbd_s, ilt (by omega) (by omega), ilt (by omega) (by omega), ← ev, e1]
      by_cases q2 : qval ρ c < qles (ρ 0) (ρ 1)
      · rw [if_pos q2, if_pos (Or.inr (Or.inl q2))]
      · rw [if_neg q2]
        by_cases q3 : qmos (ρ 0) (ρ 1) < qval ρ c
        · rw [if_pos q3, if_pos (Or.inr (Or.inr q3))]
        · rw [if_neg q3, if_neg (by omega)]
    · have n1 : ¬ ρ (2 + ρ 1) = -1 := fun z => q1 (hM.2.2.1.mpr z)
      have ev : qval ρ c = 10 * ρ (2 + ρ 1) + (c - 48) := if_neg n1
      have e5 := hM.2.2.2.2.1 q1
      rw [if_neg q1]
      unfold fX8_takesDigit_p36
      rw [ieq (by omega) (by omega), if_neg q1, zck_t (by omega), m_mos hM hV, zbd_s, e5, ← ev, ilt (by omega) (by omega), ilt (by omega) (by omega)]
      by_cases q2 : 0 < ρ (2 + ρ 1)
      · rw [if_pos q2]
        by_cases q3 : qmos (ρ 0) (ρ 1) < qval ρ c
        · rw [if_pos q3, if_pos (Or.inr (Or.inr q3))]
        · rw [if_neg q3, if_neg (by omega)]
      · rw [if_neg q2, if_pos (by omega)]
  rw [hT]
  unfold qdl
  rw [if_pos hc]
  by_cases q2 : ρ (2 + ρ 1) = 0 ∨ qval ρ c < qles (ρ 0) (ρ 1) ∨ qmos (ρ 0) (ρ 1) < qval ρ c
  · rw [if_pos q2, if_pos q2, p90]
    exact ⟨fun _ => ⟨_, rfl, qrf.w5.tr (qrf.w4 (by omega))⟩, fun ρ' e => (by cases e)⟩
  · rw [if_neg q2, if_neg q2, p91]
    refine ⟨fun e => (by cases e), fun ρ' e => ?_⟩
    have e := (Option.some.inj e).symm
    subst e
    let w1 := zwr g 405 (Int.toNat (4 * P + 1 + ρ 1)) (qval ρ c)
    let w2 := zwr w1 400 11 (g.1 400 11 + 1)
    have c5 : ∀ j, w2.1 405 j = w1.1 405 j := fun j => zwr_n (Or.inl (by decide))
    have u0 : qput ρ (2 + ρ 1) (qval ρ c) 0 = ρ 0 := qput_n (by omega)
    have u1 : qput ρ (2 + ρ 1) (qval ρ c) 1 = ρ 1 := qput_n (by omega)
    have uv : qput ρ (2 + ρ 1) (qval ρ c) (2 + ρ 1) = qval ρ c := qput_e rfl
    have d2 : w2.1 400 11 = g.1 400 11 + 1 := zwr_e
    refine ⟨w2, rfl, ⟨⟨?_, ?_, ?_⟩, ?_, ?_, fun k k0 k1 => ?_, fun _ => ?_, hb.1, ?_⟩, fun j hj => ?_, qrf.w5.tr (qrf.w4 (by omega))⟩
    · rw [u0]; exact ((zwr_n (Or.inr (by decide))).trans (zwr_n (Or.inl (by decide)))).trans hM.1.1
    · rw [u1]; exact ((zwr_n (Or.inr (by decide))).trans (zwr_n (Or.inl (by decide)))).trans hM.1.2.1
    · exact ((zwr_n (Or.inr (by decide))).trans (zwr_n (Or.inl (by decide)))).trans hM.1.2.2
    · rw [d2]; omega
    · rw [d2, u1, uv]; omega
    · rw [u1] at k1
      rw [c5, qput_n (by omega)]
      exact (zwr_n (Or.inr (by omega))).trans (hM.2.2.2.1 k k0 k1)
    · rw [u1, c5, uv]; exact zwr_e
    · rw [d2, u1, if_neg (by omega)]; omega
    · rw [c5]; exact zwr_n (Or.inr (by omega))
end QREAD3
