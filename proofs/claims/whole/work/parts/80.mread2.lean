section QREAD4
variable {g g' g1 g2 g3 g4 : zSt} {b t x w k p u j a lo hi v M y a1 a2 a3 a4 i q P n : Int} {r r' re ρ ρ' T : Int → Int} {R : Nat → Int → Int} {c : Int} {s d e N L m : Nat}
theorem m_isSign (hc : 33 ≤ c ∧ c ≤ 126) : fX8_isSign g c = some (qbi (decide (c = 62 ∨ c = 37 ∨ c = 42 ∨ c = 33 ∨ c = 35))) := by
  unfold fX8_isSign
  rw [ieq (by omega) (by omega), ieq (by omega) (by omega), ieq (by omega) (by omega), ieq (by omega) (by omega), ieq (by omega) (by omega), qck_0, qck_1]
  by_cases z1 : c = 62
  · rw [if_pos z1, decide_eq_true (by omega)]; rfl
  · rw [if_neg z1]
    by_cases z2 : c = 37
    · rw [if_pos z2, decide_eq_true (by omega)]; rfl
    · rw [if_neg z2]
      by_cases z3 : c = 42
      · rw [if_pos z3, decide_eq_true (by omega)]; rfl
      · rw [if_neg z3]
        by_cases z4 : c = 33
        · rw [if_pos z4, decide_eq_true (by omega)]; rfl
        · rw [if_neg z4]
          by_cases z5 : c = 35
          · rw [if_pos z5, decide_eq_true (by omega)]; rfl
          · rw [if_neg z5, decide_eq_false (by omega)]; rfl
theorem m_takes (hM : qMr g ρ P i) (hV : qVS ρ) (hc : 33 ≤ c ∧ c ≤ 126) (hi : i ≤ 60) : (qdl ρ c = none → ∃ g', fX8_takes g c = some (0, g') ∧ qrf g g') ∧ (∀ ρ', qdl ρ c = some ρ' → ∃ g', fX8_takes g c = some (1, g') ∧ qMr g' ρ' (if c = 59 then P + 1 else P) (i + 1) ∧ (∀ j : Nat, (j : Int) < 4 * P → g'.1 405 j = g.1 405 j) ∧ (c = 59 → g'.1 405 (Int.toNat (4 * P)) = ρ 0 ∧ ∀ k, 0 ≤ k → k ≤ ρ 1 → g'.1 405 (Int.toNat (4 * P + 1 + k)) = ρ (2 + k)) ∧ qrf g g') := by
  have hp := qVS_p hV
  have h0 := qVS_0 hV
  have hd := hM.2.1
  have hb := hM.2.2.2.2.2
  have hb1 : 4 * P + 2 * ρ 1 ≤ i := by
    have := hb.2
    split at this <;> omega
  unfold fX8_takes
  rw [zbq (m_within (by omega))]
  by_cases q1 : 48 ≤ c ∧ c ≤ 57
  · rw [if_pos q1]
    have z := m_dig hM hV q1 hi
    refine ⟨fun e => ?_, fun ρ' e => ?_⟩
    · obtain ⟨g', x1, x2⟩ := z.1 e
      exact ⟨g', by rw [x1, zbe_s, qck_0], x2⟩
    · obtain ⟨g', x1, x2, x3, x4⟩ := z.2 ρ' e
      exact ⟨g', by rw [x1, zbe_s, qck_1], by rw [if_neg (by omega)]; exact x2, x3, fun z => by omega, x4⟩
  · rw [if_neg q1]
    have hs : (qK (ρ 0) → ρ 0 = 62 ∨ ρ 0 = 37 ∨ ρ 0 = 42 ∨ ρ 0 = 33 ∨ ρ 0 = 35) := fun z => z
    -- the end of a part, or a refusal
    have p129 : fX8_takes_p129 g c = if c = 59 ∧ g.1 400 11 ≠ 0 ∧ ρ 1 = qlp2 (ρ 0) then zbd (fX8_endPart g) (fun g2 => some (1, g2)) else some (0, g) := by
      unfold fX8_takes_p129
      rw [ieq (by omega) (by omega), zbq (m_over hM hV hi), qck_0]
      rw [show (fun g2 : zSt => zck ((1 : Int) = 0 ∨ (1 : Int) = 1) (some ((1 : Int), g2))) = fun g2 => some ((1 : Int), g2) from funext (fun g2 => qck_1)]
      by_cases z1 : c = 59
      · rw [if_pos z1]
        by_cases z2 : g.1 400 11 ≠ 0 ∧ ρ 1 = qlp2 (ρ 0)
        · rw [if_pos z2, if_pos ⟨z1, z2⟩]
        · rw [if_neg z2, if_neg (fun z => z2 z.2)]
      · rw [if_neg z1, if_neg (fun z => z1 z.1)]
    have p91 : ∀ y, (y = 0 ∨ y = 1) → fX8_takes_p91 g y c = if g.1 400 11 ≠ 0 ∧ ρ 1 = 1 ∧ y = 1 ∧ c = 44 then some (1, zwr (zwr g 400 10 2) 400 11 0) else fX8_takes_p129 g c := by
      intro y hy
      unfold fX8_takes_p91
      rw [ilt (by omega) (by omega), hM.1.2.1, ieq (by omega) (by omega), ieq (by omega) (by omega), ieq (by omega) (by omega), zlet_e, zlet_e, qck_1]
      by_cases z1 : 0 < g.1 400 11
      · rw [if_pos z1]
        by_cases z2 : ρ 1 = 1
        · rw [if_pos z2]
          by_cases z3 : y = 0
          · rw [if_pos z3, if_neg (by omega)]
          · rw [if_neg z3]
            by_cases z4 : c = 44
            · rw [if_pos z4, if_pos (by omega)]
            · rw [if_neg z4, if_neg (by omega)]
        · rw [if_neg z2, if_neg (by omega)]
      · rw [if_neg z1, if_neg (by omega)]
    have p59 : fX8_takes_p59 g c = if g.1 400 11 ≠ 0 ∧ ρ 1 = 1 ∧ (ρ 0 = 62 ∨ ρ 0 = 37 ∨ ρ 0 = 35) ∧ c = 44 then some (1, zwr (zwr g 400 10 2) 400 11 0) else fX8_takes_p129 g c := by
      unfold fX8_takes_p59
      rw [p91 1 (Or.inr rfl), p91 0 (Or.inl rfl), hM.1.1, ieq (by omega) (by omega), ieq (by omega) (by omega), ieq (by omega) (by omega)]
      rw [if_neg (show ¬ (g.1 400 11 ≠ 0 ∧ ρ 1 = 1 ∧ (0 : Int) = 1 ∧ c = 44) by omega)]
      by_cases z : g.1 400 11 ≠ 0 ∧ ρ 1 = 1 ∧ (1 : Int) = 1 ∧ c = 44
      · rw [if_pos z]
        by_cases z1 : ρ 0 = 62
        · rw [if_pos z1, if_pos (by omega)]
        · rw [if_neg z1]
          by_cases z2 : ρ 0 = 37
          · rw [if_pos z2, if_pos (by omega)]
          · rw [if_neg z2]
            by_cases z3 : ρ 0 = 35
            · rw [if_pos z3, if_pos (by omega)]
            · rw [if_neg z3, if_neg (by omega)]
      · rw [if_neg z, ite_self, ite_self, ite_self, if_neg (by omega)]
    unfold qdl
    rw [if_neg q1, ilt (by omega) (by omega), hM.1.2.1, ieq (by omega) (by omega), zbq (m_isSign hc)]
    by_cases q2 : ρ (2 + ρ 1) = -1
    · have d0 := hM.2.2.1.mpr q2
      rw [if_pos q2, if_neg (by omega)]
      refine ⟨fun _ => ⟨g, ?_, qrf.rf⟩, fun ρ' e => (by cases e)⟩
      rw [p59, if_neg (by omega), p129, if_neg (by omega)]
    · have d0 : g.1 400 11 ≠ 0 := fun z => q2 (hM.2.2.1.mp z)
      have hb2 : 4 * P + 2 * ρ 1 + 1 ≤ i := by
        have := hb.2
        rw [if_neg d0] at this
        exact this
      rw [if_neg q2, if_pos (show 0 < g.1 400 11 by omega)]
      by_cases q3 : ρ 0 = 0
      · have r1 : ρ 1 = 0 := hp.2.2.2.mp q3
        rw [if_pos q3, if_pos r1]
        by_cases q4 : c = 62 ∨ c = 37 ∨ c = 42 ∨ c = 33 ∨ c = 35
        · rw [if_pos q4, if_pos q4]
          refine ⟨fun e => (by cases e), fun ρ' e => ?_⟩
          have e := (Option.some.inj e).symm
          subst e
          let w1 := zwr g 400 9 c
          let w2 := zwr w1 400 10 1
          let w3 := zwr w2 400 11 0
          have u0 : qput (qput ρ 0 c) 1 1 0 = c := (qput_n (by decide)).trans (qput_e rfl)
          have u1 : qput (qput ρ 0 c) 1 1 1 = 1 := qput_e rfl
          have u2 : qput (qput ρ 0 c) 1 1 2 = ρ 2 := (qput_n (by decide)).trans (qput_n (by decide))
          have u3 : qput (qput ρ 0 c) 1 1 3 = ρ 3 := (qput_n (by decide)).trans (qput_n (by decide))
          have r3 : ρ 3 = -1 := by
            have z := hV
            unfold qVS qK at z
            omega
          have c5 : ∀ j, w3.1 405 j = g.1 405 j := fun j => (zwr_n (Or.inl (by decide))).trans ((zwr_n (Or.inl (by decide))).trans (zwr_n (Or.inl (by decide))))
          have dz : w3.1 400 11 = 0 := zwr_e
          have e5 := hM.2.2.2.2.1 d0
          rw [r1] at e5
          refine ⟨w3, ?_, ⟨⟨?_, ?_, ?_⟩, ?_, ?_, fun k k0 k1 => ?_, fun z => absurd dz z, ?_, ?_⟩, fun j hj => c5 j, fun z => by omega, ((qrf.w4 (by omega)).tr (qrf.w4 (by omega))).tr (qrf.w4 (by omega))⟩
          · rw [zlet_e, zlet_e, zlet_e, qck_1]
          · rw [u0]; exact (zwr_n (Or.inr (by decide))).trans ((zwr_n (Or.inr (by decide))).trans zwr_e)
          · rw [u1]; exact (zwr_n (Or.inr (by decide))).trans zwr_e
          · rw [if_neg (by omega)]; exact ((zwr_n (Or.inr (by decide))).trans ((zwr_n (Or.inr (by decide))).trans (zwr_n (Or.inr (by decide))))).trans hM.1.2.2
          · rw [dz]; omega
          · rw [dz, u1, show (2 : Int) + 1 = 3 from rfl, u3, r3]; omega
          · rw [u1] at k1
            have k2 : k = 0 := by omega
            rw [if_neg (by omega), k2, c5, show (2 : Int) + 0 = 2 from rfl, u2]
            exact e5
          · rw [if_neg (by omega)]; exact hb.1
          · rw [if_neg (by omega), dz, u1]
            simp only [if_true]
            omega
        · rw [if_neg q4, if_neg q4]
          refine ⟨fun _ => ⟨g, ?_, qrf.rf⟩, fun ρ' e => (by cases e)⟩
          rw [p59, if_neg (by omega), p129, if_neg]
          intro z
          have := z.2.2
          unfold qlp2 at this
          rw [if_neg (by omega)] at this
          omega
      · have r1 : ρ 1 ≠ 0 := fun z => q3 (hp.2.2.2.mpr z)
        have hk : ρ 0 = 62 ∨ ρ 0 = 37 ∨ ρ 0 = 42 ∨ ρ 0 = 33 ∨ ρ 0 = 35 := hp.2.2.1.resolve_left q3
        rw [if_neg q3, if_neg r1]
        by_cases q4 : ρ 1 = qlp2 (ρ 0)
        · rw [if_pos q4]
          have n44 : ¬ (g.1 400 11 ≠ 0 ∧ ρ 1 = 1 ∧ (ρ 0 = 62 ∨ ρ 0 = 37 ∨ ρ 0 = 35) ∧ c = 44) := by
            intro z
            unfold qlp2 at q4
            rw [if_neg (by omega)] at q4
            omega
          rw [p59, if_neg n44, p129]
          by_cases q5 : c = 59
          · rw [if_pos q5, if_pos ⟨q5, d0, q4⟩]
            refine ⟨fun e => (by cases e), fun ρ' e => ?_⟩
            have e := (Option.some.inj e).symm
            subst e
            obtain ⟨g', x1, x2, x3, x4⟩ := m_endP hM.1.2.2 (P := P) (by omega)
            refine ⟨g', by rw [x1, zbd_s], ?_, fun j hj => ?_, fun _ => ⟨?_, fun k k0 k1 => ?_⟩, x4⟩
            · rw [if_pos q5]
              refine ⟨⟨x2.1, x2.2.1, x2.2.2.1⟩, by rw [x2.2.2.2]; omega, ?_, fun k k0 k1 => ?_, fun z => absurd x2.2.2.2 z, by omega, ?_⟩
              · rw [x2.2.2.2]
                exact ⟨fun _ => rfl, fun _ => rfl⟩
              · have : qz0 1 = 0 := rfl
                omega
              · rw [x2.2.2.2]
                have : qz0 1 = 0 := rfl
                simp only [if_true]
                omega
            · rw [x3, if_neg (by omega)]
            · rw [x3, if_pos rfl]; exact hM.1.1
            · rw [x3, if_neg (by omega)]
              by_cases z : k = ρ 1
              · rw [z]; exact hM.2.2.2.2.1 d0
              · exact hM.2.2.2.1 k k0 (by omega)
          · rw [if_neg q5, if_neg (fun z => q5 z.1)]
            exact ⟨fun _ => ⟨g, rfl, qrf.rf⟩, fun ρ' e => (by cases e)⟩
        · rw [if_neg q4]
          have n129 : ¬ (c = 59 ∧ g.1 400 11 ≠ 0 ∧ ρ 1 = qlp2 (ρ 0)) := fun z => q4 z.2.2
          have r11 : ρ 1 = 1 ∧ (ρ 0 = 62 ∨ ρ 0 = 37 ∨ ρ 0 = 35) := by
            by_cases z : ρ 0 = 42 ∨ ρ 0 = 33
            · exfalso
              unfold qlp2 at q4
              rw [if_pos z] at q4
              have zz := hV
              unfold qVS at zz
              omega
            · unfold qlp2 at q4
              rw [if_neg z] at q4
              omega
          rw [p59, p129, if_neg n129]
          by_cases q5 : c = 44
          · rw [if_pos q5, if_pos ⟨d0, r11.1, r11.2, q5⟩]
            refine ⟨fun e => (by cases e), fun ρ' e => ?_⟩
            have e := (Option.some.inj e).symm
            subst e
            let w1 := zwr g 400 10 2
            let w2 := zwr w1 400 11 0
            have u0 : qput ρ 1 (ρ 1 + 1) 0 = ρ 0 := qput_n (by decide)
            have u1 : qput ρ 1 (ρ 1 + 1) 1 = 2 := (qput_e rfl).trans (by omega)
            have u4 : qput ρ 1 (ρ 1 + 1) 4 = ρ 4 := qput_n (by decide)
            have r4 : ρ 4 = -1 := by
              have z := hV
              unfold qVS qK at z
              omega
            have c5 : ∀ j, w2.1 405 j = g.1 405 j := fun j => (zwr_n (Or.inl (by decide))).trans (zwr_n (Or.inl (by decide)))
            have dz : w2.1 400 11 = 0 := zwr_e
            refine ⟨w2, rfl, ⟨⟨?_, ?_, ?_⟩, ?_, ?_, fun k k0 k1 => ?_, fun z => absurd dz z, ?_, ?_⟩, fun j hj => c5 j, fun z => by omega, (qrf.w4 (by omega)).tr (qrf.w4 (by omega))⟩
            · rw [u0]; exact ((zwr_n (Or.inr (by decide))).trans (zwr_n (Or.inr (by decide)))).trans hM.1.1
            · rw [u1]; exact (zwr_n (Or.inr (by decide))).trans zwr_e
            · rw [if_neg (by omega)]; exact ((zwr_n (Or.inr (by decide))).trans (zwr_n (Or.inr (by decide)))).trans hM.1.2.2
            · rw [dz]; omega
            · rw [dz, u1, show (2 : Int) + 2 = 4 from rfl, u4, r4]; omega
            · rw [u1] at k1
              rw [if_neg (by omega), c5, qput_n (by omega)]
              by_cases z : k = ρ 1
              · rw [z]; exact hM.2.2.2.2.1 d0
              · exact hM.2.2.2.1 k k0 (by omega)
            · rw [if_neg (by omega)]; exact hb.1
            · rw [if_neg (by omega), dz, u1]
              simp only [if_true]
              omega
          · rw [if_neg q5, if_neg (fun z => q5 z.2.2.2)]
            exact ⟨fun _ => ⟨g, rfl, qrf.rf⟩, fun ρ' e => (by cases e)⟩
end QREAD4
