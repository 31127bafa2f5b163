section QREAD2
variable {g g' g1 g2 g3 g4 : zSt} {b t x w k p u j a lo hi v M y a1 a2 a3 a4 i q : Int} {r r' re ρ ρ' T : Int → Int} {R : Nat → Int → Int} {c : Int} {s d e N L n m : Nat}
theorem qVS_0 (h : qVS ρ) : (0 ≤ ρ 0 ∧ ρ 0 ≤ 62) ∧ (0 ≤ ρ 1 ∧ ρ 1 ≤ 2) := by
  unfold qVS qK at h
  omega
theorem k_val (hC : qCr g ρ) (hV : qVS ρ) : g.1 311 (Int.toNat (ρ 1)) = ρ (2 + ρ 1) := by
  rcases (qVS_p hV).1 with q | q | q
  · rw [q]; exact hC.2.2.1
  · rw [q]; exact hC.2.2.2.1
  · rw [q]; exact hC.2.2.2.2
theorem k_hL (hC : qCr g ρ) (hV : qVS ρ) : fX4_holdsLantern g = some (qbi (decide (ρ 0 = 42 ∨ ρ 0 = 33))) := by
  have h0 := qVS_0 hV
  unfold fX4_holdsLantern
  rw [hC.1, ieq (by omega) (by omega), ieq (by omega) (by omega), qck_0, qck_1]
  by_cases q1 : ρ 0 = 42
  · rw [if_pos q1, decide_eq_true (Or.inl q1)]; rfl
  · rw [if_neg q1]
    by_cases q2 : ρ 0 = 33
    · rw [if_pos q2, decide_eq_true (Or.inr q2)]; rfl
    · rw [if_neg q2, decide_eq_false (by omega)]; rfl
theorem k_last (hC : qCr g ρ) (hV : qVS ρ) : fX4_lastPlace g = some (qlp2 (ρ 0)) := by
  unfold fX4_lastPlace qlp2
  rw [zbq (k_hL hC hV)]
  simp only [som_if]
theorem k_les (hC : qCr g ρ) (hV : qVS ρ) : fX4_leastValue g = some (qles (ρ 0) (ρ 1)) := by
  have h0 := qVS_0 hV
  unfold fX4_leastValue qles
  rw [hC.1, hC.2.1, ieq (by omega) (by omega), ieq (by omega) (by omega), ieq (by omega) (by omega)]
  simp only [som_if]
theorem k_mos (hC : qCr g ρ) (hV : qVS ρ) : fX4_mostValue g = some (qmos (ρ 0) (ρ 1)) := by
  have h0 := qVS_0 hV
  unfold fX4_mostValue qmos
  rw [zbq (k_hL hC hV), hC.1, hC.2.1, ieq (by omega) (by omega), ieq (by omega) (by omega), ieq (by omega) (by omega)]
  simp only [som_if]
theorem k_restart : ∃ g', fX4_restart g = some g' ∧ qCr g' qz0 ∧ qfr (fun q => q = 310 ∨ q = 311) g g' := by
  let w1 := zwr g 310 1 0
  let w2 := zwr w1 310 2 0
  let w3 := zwr w2 311 (Int.toNat 0) (-1)
  let w4 := zwr w3 311 (Int.toNat (0 + 1)) (-1)
  let w5 := zwr w4 311 (Int.toNat (0 + 1 + 1)) (-1)
  refine ⟨w5, ?_, ⟨?_, ?_, ?_, ?_, ?_⟩, ((((qfr.wr (Or.inl rfl)).tr (qfr.wr (Or.inl rfl))).tr (qfr.wr (Or.inr rfl))).tr (qfr.wr (Or.inr rfl))).tr (qfr.wr (Or.inr rfl))⟩
  · unfold fX4_restart
    rw [zlet_e, zlet_e, show zfu = 1996 + 1 + 1 + 1 + 1 from rfl, fX4_restart_p12, ilt (by omega) (by omega), if_pos (by omega), zck_t (by omega), zlet_e, fX4_restart_p12, ilt (by omega) (by omega), if_pos (by omega), zck_t (by omega), zlet_e, fX4_restart_p12, ilt (by omega) (by omega), if_pos (by omega), zck_t (by omega), zlet_e, fX4_restart_p12, ilt (by omega) (by omega), if_neg (by omega)]
  · exact (zwr_n (Or.inl (by decide))).trans ((zwr_n (Or.inl (by decide))).trans ((zwr_n (Or.inl (by decide))).trans ((zwr_n (Or.inr (by decide))).trans zwr_e)))
  · exact (zwr_n (Or.inl (by decide))).trans ((zwr_n (Or.inl (by decide))).trans ((zwr_n (Or.inl (by decide))).trans zwr_e))
  · exact (zwr_n (Or.inr (by decide))).trans ((zwr_n (Or.inr (by decide))).trans zwr_e)
  · exact (zwr_n (Or.inr (by decide))).trans zwr_e
  · exact zwr_e
theorem k_takes (hC : qCr g ρ) (hV : qVS ρ) (hc : 33 ≤ c ∧ c ≤ 126) : (qdl ρ c = none → fX4_takes g c = some (0, g)) ∧ (∀ ρ', qdl ρ c = some ρ' → ∃ g', fX4_takes g c = some (1, g') ∧ qCr g' ρ' ∧ qfr (fun q => q = 310 ∨ q = 311) g g') := by
  have hp := qVS_p hV
  have h0 := qVS_0 hV
  have hv := k_val hC hV
  have l1 := qles_r (ρ 0) (ρ 1)
  have m1 := qmos_r (ρ 0) (ρ 1)
  unfold qdl fX4_takes
  rw [ilt (by omega) (by omega), ilt (by omega) (by omega)]
  by_cases q1 : 48 ≤ c ∧ c ≤ 57
  · rw [if_pos q1, if_neg (show ¬ c < 48 by omega), if_neg (show ¬ 57 < c by omega)]
    have hy : 0 ≤ qval ρ c ∧ qval ρ c ≤ 1000 := by
      unfold qval
      split <;> omega
    have hd : fX4_takesDigit g (c - 48) = fX4_takesDigit_p25 g (qval ρ c) (ρ (2 + ρ 1)) := by
      unfold fX4_takesDigit qval
      rw [hC.2.1, zck_t (by omega), hv, zlet_e, ieq (by omega) (by omega)]
      split <;> rfl
    rw [hd]
    unfold fX4_takesDigit_p25
    rw [ieq (by omega) (by omega), k_les hC hV, zbd_s, ilt (by omega) (by omega), k_mos hC hV, zbd_s, ilt (by omega) (by omega), hC.2.1, qck_0]
    by_cases q2 : ρ (2 + ρ 1) = 0 ∨ qval ρ c < qles (ρ 0) (ρ 1) ∨ qmos (ρ 0) (ρ 1) < qval ρ c
    · rw [if_pos q2]
      refine ⟨fun _ => ?_, fun ρ' e => by cases e⟩
      by_cases z1 : ρ (2 + ρ 1) = 0
      · rw [if_pos z1, zbe_s, qck_0]
      · rw [if_neg z1]
        by_cases z2 : qval ρ c < qles (ρ 0) (ρ 1)
        · rw [if_pos z2, zbe_s, qck_0]
        · rw [if_neg z2, if_pos (by omega), zbe_s, qck_0]
    · rw [if_neg q2]
      refine ⟨fun e => (by cases e), fun ρ' e => ?_⟩
      have e := (Option.some.inj e).symm
      subst e
      refine ⟨zwr g 311 (Int.toNat (ρ 1)) (qval ρ c), ?_, ?_, qfr.wr (Or.inr rfl)⟩
      · rw [if_neg (by omega), if_neg (by omega), if_neg (by omega), zck_t (by omega), zlet_e, qck_1, zbe_s, qck_1]
      · unfold qCr
        rw [zwr_n (Or.inl (by decide)), zwr_n (Or.inl (by decide)), qput_n (by omega), qput_n (by omega)]
        refine ⟨hC.1, hC.2.1, ?_, ?_, ?_⟩
        · by_cases z : ρ 1 = 0
          · rw [z, qput_e (by decide)]; exact zwr_e
          · rw [zwr_n (Or.inr (by omega)), qput_n (by omega)]; exact hC.2.2.1
        · by_cases z : ρ 1 = 1
          · rw [z, qput_e (by decide)]; exact zwr_e
          · rw [zwr_n (Or.inr (by omega)), qput_n (by omega)]; exact hC.2.2.2.1
        · by_cases z : ρ 1 = 2
          · rw [z, qput_e (by decide)]; exact zwr_e
          · rw [zwr_n (Or.inr (by omega)), qput_n (by omega)]; exact hC.2.2.2.2
  · rw [if_neg q1]
    have p21 : ∀ o : Option (Int × zSt), (if c < 48 then fX4_takes_p21 g c else (if 57 < c then fX4_takes_p21 g c else o)) = fX4_takes_p21 g c := by
      intro o
      by_cases z : c < 48
      · rw [if_pos z]
      · rw [if_neg z, if_pos (by omega)]
    rw [p21]
    unfold fX4_takes_p21
    rw [hC.2.1, zck_t (by omega), hv, ieq (by omega) (by omega), hC.1, ieq (by omega) (by omega), qck_0]
    by_cases q2 : ρ (2 + ρ 1) = -1
    · rw [if_pos q2, if_pos q2]
      exact ⟨fun _ => rfl, fun ρ' e => by cases e⟩
    · rw [if_neg q2, if_neg q2]
      by_cases q3 : ρ 0 = 0
      · rw [if_pos q3, if_pos q3]
        unfold fX4_takesKind
        rw [ieq (by omega) (by omega), ieq (by omega) (by omega), ieq (by omega) (by omega), ieq (by omega) (by omega), ieq (by omega) (by omega), qck_0]
        have fin : ∀ ρ', some (qput (qput ρ 0 c) 1 1) = some ρ' → ∃ g', zbe (zlet (zwr g 310 1 c) (fun g1 => zlet (zwr g1 310 2 1) (fun g2 => zck ((1 : Int) = 0 ∨ (1 : Int) = 1) (some ((1 : Int), g2))))) (fun v3 g4 => zck ((v3 : Int) = 0 ∨ (v3 : Int) = 1) (some (v3, g4))) = some (1, g') ∧ qCr g' ρ' ∧ qfr (fun q => q = 310 ∨ q = 311) g g' := by
          intro ρ' e
          have e := (Option.some.inj e).symm
          subst e
          refine ⟨zwr (zwr g 310 1 c) 310 2 1, ?_, ⟨?_, ?_, ?_, ?_, ?_⟩, (qfr.wr (Or.inl rfl)).tr (qfr.wr (Or.inl rfl))⟩
          · rw [zlet_e, zlet_e, qck_1, zbe_s, qck_1]
          · rw [zwr_n (Or.inr (by decide)), zwr_e, qput_n (by decide), qput_e rfl]
          · rw [zwr_e, qput_e rfl]
          · rw [zwr_n (Or.inl (by decide)), zwr_n (Or.inl (by decide)), qput_n (by decide), qput_n (by decide)]; exact hC.2.2.1
          · rw [zwr_n (Or.inl (by decide)), zwr_n (Or.inl (by decide)), qput_n (by decide), qput_n (by decide)]; exact hC.2.2.2.1
          · rw [zwr_n (Or.inl (by decide)), zwr_n (Or.inl (by decide)), qput_n (by decide), qput_n (by decide)]; exact hC.2.2.2.2
        by_cases q4 : c = 62 ∨ c = 37 ∨ c = 42 ∨ c = 33 ∨ c = 35
        · rw [if_pos q4]
          refine ⟨fun e => (by cases e), fun ρ' e => ?_⟩
          rcases q4 with z | z | z | z | z
          · rw [if_pos z]; exact fin ρ' e
          · rw [if_neg (by omega), if_pos z]; exact fin ρ' e
          · rw [if_neg (by omega), if_neg (by omega), if_pos z]; exact fin ρ' e
          · rw [if_neg (by omega), if_neg (by omega), if_neg (by omega), if_pos z]; exact fin ρ' e
          · rw [if_neg (by omega), if_neg (by omega), if_neg (by omega), if_neg (by omega), if_pos z]; exact fin ρ' e
        · rw [if_neg q4, if_neg (by omega), if_neg (by omega), if_neg (by omega), if_neg (by omega), if_neg (by omega), zbe_s, qck_0]
          exact ⟨fun _ => rfl, fun ρ' e => by cases e⟩
      · rw [if_neg q3, if_neg q3]
        have hlp : 1 ≤ qlp2 (ρ 0) ∧ qlp2 (ρ 0) ≤ 2 := by
          unfold qlp2
          split <;> omega
        unfold fX4_takesSeparator
        rw [k_last hC hV, zbd_s, hC.2.1, ieq (by omega) (by omega), ieq (by omega) (by omega), if_neg (show ¬ (1 : Int) = 0 by omega), if_pos (show i32 0 = i32 0 from rfl)]
        unfold fX4_takesSeparator_p29
        rw [ieq (by omega) (by omega), ieq (by omega) (by omega), ieq (by omega) (by omega), if_neg (show ¬ (1 : Int) = 0 by omega), if_pos (show i32 0 = i32 0 from rfl), qck_0]
        by_cases q4 : ρ 1 = qlp2 (ρ 0)
        · rw [if_pos q4, if_pos q4]
          by_cases q5 : c = 59
          · rw [if_pos q5, if_pos q5]
            refine ⟨fun e => (by cases e), fun ρ' e => ?_⟩
            have e := (Option.some.inj e).symm
            subst e
            obtain ⟨g', b1, b2, b3⟩ := k_restart (g := g)
            refine ⟨g', ?_, b2, b3⟩
            rw [b1, zbd_s, qck_1, zbe_s, qck_1]
          · rw [if_neg q5, if_neg q5, zbe_s, qck_0]
            exact ⟨fun _ => rfl, fun ρ' e => by cases e⟩
        · rw [if_neg q4, if_neg q4]
          by_cases q5 : c = 44
          · rw [if_pos q5, if_pos q5]
            refine ⟨fun e => (by cases e), fun ρ' e => ?_⟩
            have e := (Option.some.inj e).symm
            subst e
            refine ⟨zwr g 310 2 (ρ 1 + 1), ?_, ⟨?_, ?_, ?_, ?_, ?_⟩, qfr.wr (Or.inl rfl)⟩
            · rw [hC.2.1, zlet_e, qck_1, zbe_s, qck_1]
            · rw [zwr_n (Or.inr (by decide)), qput_n (by decide)]; exact hC.1
            · rw [zwr_e, qput_e rfl]
            · rw [zwr_n (Or.inl (by decide)), qput_n (by decide)]; exact hC.2.2.1
            · rw [zwr_n (Or.inl (by decide)), qput_n (by decide)]; exact hC.2.2.2.1
            · rw [zwr_n (Or.inl (by decide)), qput_n (by decide)]; exact hC.2.2.2.2
          · rw [if_neg q5, if_neg q5, zbe_s, qck_0]
            exact ⟨fun _ => rfl, fun ρ' e => by cases e⟩
end QREAD2
