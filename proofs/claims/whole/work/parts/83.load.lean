section QLOAD
variable {g g' g1 g2 g3 g4 : zSt} {b t x w k p u j a lo hi v M y a1 a2 a3 a4 i q P : Int} {r r' re ρ ρ' T : Int → Int} {R : Nat → Int → Int} {c : Int} {s d e N L m n : Nat} {len : Int}
/-- a part that has come to its end -/
def qFull (ρ : Int → Int) : Prop := qVS ρ ∧ ρ (2 + ρ 1) ≠ -1 ∧ ρ 0 ≠ 0 ∧ ρ 1 = qlp2 (ρ 0)
theorem qFull_v (h : qFull ρ) : (0 ≤ ρ 2 ∧ ρ 2 ≤ 11) ∧ qK (ρ 0) ∧ (ρ 0 = 42 ∨ ρ 0 = 33 → 1 ≤ ρ 3 ∧ ρ 3 ≤ 9) ∧ (ρ 0 = 35 → (0 ≤ ρ 3 ∧ ρ 3 ≤ 1) ∧ 1 ≤ ρ 4 ∧ ρ 4 ≤ 30) ∧ (ρ 0 = 62 ∨ ρ 0 = 37 → (1 ≤ ρ 3 ∧ ρ 3 ≤ 60) ∧ 1 ≤ ρ 4 ∧ ρ 4 ≤ 60) := by
  obtain ⟨hV, h1, h2, h3⟩ := h
  have hp := qVS_p hV
  have hk := hp.2.2.1.resolve_left h2
  have e1 : qlp2 (ρ 0) = if ρ 0 = 42 ∨ ρ 0 = 33 then 1 else 2 := rfl
  have l1 : qles (ρ 0) 1 = if ρ 0 = 35 then 0 else 1 := rfl
  have m1 : qmos (ρ 0) 1 = if ρ 0 = 35 then 1 else if ρ 0 = 42 ∨ ρ 0 = 33 then 9 else 60 := rfl
  have m2 : qmos (ρ 0) 2 = if ρ 0 = 35 then 30 else if ρ 0 = 42 ∨ ρ 0 = 33 then 9 else 60 := rfl
  rw [e1] at h3
  unfold qVS at hV
  rw [l1, m1, m2] at hV
  rcases hV with hV | ⟨_, hV2, hV⟩
  · exact absurd hV.1 h2
  · refine ⟨hV2, hk, fun z => ?_, fun z => ?_, fun z => ?_⟩
    · rw [if_pos z] at h3
      rw [if_neg (show ¬ ρ 0 = 35 by omega), if_neg (show ¬ ρ 0 = 35 by omega), if_pos z] at hV
      rw [h3, show (2 : Int) + 1 = 3 from rfl] at h1
      omega
    · rw [if_neg (show ¬ (ρ 0 = 42 ∨ ρ 0 = 33) by omega)] at h3
      rw [if_pos z, if_pos z, if_pos z] at hV
      rw [h3, show (2 : Int) + 2 = 4 from rfl] at h1
      omega
    · rw [if_neg (show ¬ (ρ 0 = 42 ∨ ρ 0 = 33) by omega)] at h3
      rw [if_neg (show ¬ ρ 0 = 35 by omega), if_neg (show ¬ ρ 0 = 35 by omega), if_neg (show ¬ ρ 0 = 35 by omega), if_neg (show ¬ (ρ 0 = 42 ∨ ρ 0 = 33) by omega)] at hV
      rw [h3, show (2 : Int) + 2 = 4 from rfl] at h1
      omega
theorem qdl_59 (hV : qVS ρ) (h : qdl ρ 59 = some ρ') : qFull ρ ∧ ρ' = qz0 := by
  unfold qdl at h
  rw [if_neg (by omega)] at h
  by_cases q2 : ρ (2 + ρ 1) = -1
  · rw [if_pos q2] at h; cases h
  · rw [if_neg q2] at h
    by_cases q3 : ρ 0 = 0
    · rw [if_pos q3, if_neg (by omega)] at h; cases h
    · rw [if_neg q3] at h
      by_cases q4 : ρ 1 = qlp2 (ρ 0)
      · rw [if_pos q4, if_pos rfl] at h
        exact ⟨⟨hV, q2, q3, q4⟩, (Option.some.inj h).symm⟩
      · rw [if_neg q4, if_neg (by omega)] at h; cases h
theorem qrest_full (hT : qTxt T len) : ∀ (m : Nat) (i : Int) (ρ : Int → Int), 0 ≤ i → i + m = len → qVS ρ → (qstop T m i ρ).1 = len → qFull (qstop T m i ρ).2 → ∀ σ ∈ qrest T m i ρ, qFull σ := by
  intro m
  induction m with
  | zero =>
    intro i ρ _ _ hV _ hF σ hσ
    rw [qrest, List.mem_singleton] at hσ
    rw [hσ]
    exact hF
  | succ m ih =>
    intro i ρ h0 h1 hV hS hF σ hσ
    rw [qrest] at hσ
    rw [qstop] at hS hF
    cases hq : qdl ρ (T i) with
    | none =>
      rw [hq] at hS
      have : i = len := hS
      omega
    | some ρ' =>
      rw [hq] at hS hF hσ
      have hV' := qdl_VS hV (hT i h0 (by omega)) hq
      have z := ih (i + 1) ρ' (by omega) (by omega) hV' hS hF
      by_cases q59 : T i = 59
      · have hσ2 : σ ∈ ρ :: qrest T m (i + 1) ρ' := by
          have : σ ∈ (if T i = 59 then ρ :: qrest T m (i + 1) ρ' else qrest T m (i + 1) ρ') := hσ
          rw [if_pos q59] at this
          exact this
        rcases List.mem_cons.mp hσ2 with q | q
        · rw [q]
          rw [q59] at hq
          exact (qdl_59 hV hq).1
        · exact z σ q
      · have : σ ∈ (if T i = 59 then ρ :: qrest T m (i + 1) ρ' else qrest T m (i + 1) ρ') := hσ
        rw [if_neg q59] at this
        exact z σ this
/-- a part added to a row, and parts one after the other -/
def qadd1 (r ρ : Int → Int) : Option (Int → Int) := if ρ 0 = 42 ∨ ρ 0 = 33 then (if qwyL r (ρ 2) (ρ 3) = 0 then some (qset 24 (qnL r (ρ 2) (ρ 3) (if ρ 0 = 33 then 1 else 0)) 0).1 else none) else if ρ 0 = 35 then (if qwyF r (ρ 2) (ρ 3) (ρ 4) = 0 then some (qset 24 (qnF r (ρ 2) (ρ 3) (ρ 4)) 0).1 else none) else (if qwyB r (ρ 2) (ρ 3) (ρ 4) = 0 then some (qset 24 (qnB r (ρ 2) (ρ 3) (ρ 4) (if ρ 0 = 37 then 1 else 0)) 0).1 else none)
def qfold : List (Int → Int) → (Int → Int) → Int → (Int → Int) × Int
  | [], r, a => (r, a)
  | ρ :: l, r, a => match qadd1 r ρ with
    | none => (r, a)
    | some r' => qfold l r' (a + 1)
theorem qwyL_0 (hR : qRow M r) : qwyL r a1 a2 = 0 ↔ (0 ≤ a1 ∧ a1 < r 0) ∧ (1 ≤ a2 ∧ a2 ≤ 9) ∧ r 85 < 16 := by
  have h2 := hR.2.1
  unfold qwyL
  repeat' split
  all_goals omega
theorem qwyF_0 (hR : qRow 8 r) : qwyF r a1 a2 a3 = 0 ↔ (0 ≤ a1 ∧ a1 < r 0) ∧ (0 ≤ a2 ∧ a2 ≤ 1) ∧ (1 ≤ a3 ∧ a3 ≤ 30) ∧ r 134 < 8 := by
  have h2 := hR.2.2.1
  unfold qwyF
  repeat' split
  all_goals omega
theorem qwyB_0 (hR : qRow M r) : qwyB r a1 a2 a3 = 0 ↔ (0 ≤ a1 ∧ a1 < r 0) ∧ (1 ≤ a2 ∧ a2 ≤ 60) ∧ (1 ≤ a3 ∧ a3 ≤ 60) ∧ r 0 < 12 := by
  have h2 := hR.1
  unfold qwyB
  repeat' split
  all_goals omega
theorem k_hB (hC : qCr g ρ) (hV : qVS ρ) : fX4_holdsBox g = some (qbi (decide (ρ 0 = 62 ∨ ρ 0 = 37))) := by
  have h0 := qVS_0 hV
  unfold fX4_holdsBox
  rw [hC.1, ieq (by omega) (by omega), ieq (by omega) (by omega), qck_0, qck_1]
  by_cases q1 : ρ 0 = 62
  · rw [if_pos q1, decide_eq_true (Or.inl q1)]; rfl
  · rw [if_neg q1]
    by_cases q2 : ρ 0 = 37
    · rw [if_pos q2, decide_eq_true (Or.inr q2)]; rfl
    · rw [if_neg q2, decide_eq_false (by omega)]; rfl
/-- the class adds a part -/
theorem k_part (h : qCs g n R r) (hR : qRow 8 r) (hC : qCr g ρ) (hF : qFull ρ) : (qadd1 r ρ = none → fX7_addPart g = some (0, g)) ∧ (∀ r', qadd1 r ρ = some r' → ∃ g', fX7_addPart g = some (1, g') ∧ qCs g' n R r' ∧ qRow 8 r' ∧ qfr (fun q => (10 ≤ q ∧ q < 25) ∨ (200 ≤ q ∧ q < 211)) g g') := by
  have hv := qFull_v hF
  have hV := hF.1
  have h1 := hR.1
  have h2 := hR.2.1
  have h3 := hR.2.2.1
  have h0 := qVS_0 hV
  have e21 : g.1 21 0 = r 134 := h.1.1.2.2.2.2.1.1
  have e17 : g.1 17 0 = r 85 := h.1.1.2.2.2.1.1
  have e11 : g.1 11 0 = r 0 := h.1.1.1.1
  have c0 : g.1 311 (Int.toNat 0) = ρ 2 := hC.2.2.1
  have c1 : g.1 311 (Int.toNat 1) = ρ 3 := hC.2.2.2.1
  have c2 : g.1 311 (Int.toNat 2) = ρ 4 := hC.2.2.2.2
  have hiB : qi (ρ 2) := by
    unfold qi
    omega
  have ck : fX7_addPart g = if 0 ≤ ρ 2 ∧ ρ 2 < r 0 then (if ρ 0 = 62 ∨ ρ 0 = 37 then (if r 0 < 12 then (if ρ 0 = 37 then zbd (fX0_add g 11 (ρ 2) (ρ 3) (ρ 4) 1) (fun g17 => zbe (fX7_settle g17 10 200) (fun v18 g19 => zck ((1 : Int) = 0 ∨ (1 : Int) = 1) (some (1, g19)))) else zbd (fX0_add g 11 (ρ 2) (ρ 3) (ρ 4) 0) (fun g14 => zbe (fX7_settle g14 10 200) (fun v15 g16 => zck ((1 : Int) = 0 ∨ (1 : Int) = 1) (some (1, g16))))) else some (0, g)) else (if ρ 0 = 42 ∨ ρ 0 = 33 then (if r 85 < 16 then (if ρ 0 = 33 then zbd (fX3_add g 17 (ρ 2) (ρ 3) 1) (fun g11 => zbe (fX7_settle g11 10 200) (fun v12 g13 => zck ((1 : Int) = 0 ∨ (1 : Int) = 1) (some (1, g13)))) else zbd (fX3_add g 17 (ρ 2) (ρ 3) 0) (fun g8 => zbe (fX7_settle g8 10 200) (fun v9 g10 => zck ((1 : Int) = 0 ∨ (1 : Int) = 1) (some (1, g10))))) else some (0, g)) else (if r 134 < 8 then zbd (fX1_add g 21 (ρ 2) (ρ 3) (ρ 4)) (fun g5 => zbe (fX7_settle g5 10 200) (fun v6 g7 => zck ((1 : Int) = 0 ∨ (1 : Int) = 1) (some (1, g7)))) else some (0, g)))) else some (0, g) := by
    unfold fX7_addPart
    rw [zck_t (by omega), c0, zlet_e, zbq (k_isBox h.1.1 hR hiB), zbq (k_hB hC hV), zbq (k_hL hC hV), e21, e17, e11, ilt (by omega) (by omega), ilt (by omega) (by omega), ilt (by omega) (by omega), c1, c2, hC.1, ieq (by omega) (by omega), ieq (by omega) (by omega), qck_0]
    rw [zck_t (c := (0 : Int) ≤ 1 ∧ 1 < 3) (by omega), zck_t (c := (0 : Int) ≤ 2 ∧ 2 < 3) (by omega), zck_t (c := (0 : Int) ≤ 1 ∧ 1 < 3) (by omega), zck_t (c := (0 : Int) ≤ 1 ∧ 1 < 3) (by omega), zck_t (c := (0 : Int) ≤ 2 ∧ 2 < 3) (by omega)]
  rw [ck]
  unfold qadd1
  by_cases k1 : ρ 0 = 42 ∨ ρ 0 = 33
  · have hvv := hv.2.2.1 k1
    rw [if_pos k1, if_neg (show ¬ (ρ 0 = 62 ∨ ρ 0 = 37) by omega), if_pos k1]
    by_cases q : qwyL r (ρ 2) (ρ 3) = 0
    · have z := (qwyL_0 hR).mp q
      rw [if_pos q, if_pos z.1, if_pos z.2.2]
      refine ⟨fun e => (by cases e), fun r' e => ?_⟩
      have e := (Option.some.inj e).symm
      subst e
      by_cases k3 : ρ 0 = 33
      · obtain ⟨w1, w3, x1, x2, x3, x4⟩ := c_addLK h hR z.2.2 z.1 z.2.1 (Or.inr rfl : (1 : Int) = 0 ∨ (1 : Int) = 1)
        rw [if_pos k3, if_pos k3, x1, zbd_s, x2, zbe_s, qck_1]
        exact ⟨w3, rfl, x3, qset_row 24 _ 0 (qnL_row hR z.2.2 z.1 z.2.1 (Or.inr rfl)), x4⟩
      · obtain ⟨w1, w3, x1, x2, x3, x4⟩ := c_addLK h hR z.2.2 z.1 z.2.1 (Or.inl rfl : (0 : Int) = 0 ∨ (0 : Int) = 1)
        rw [if_neg k3, if_neg k3, x1, zbd_s, x2, zbe_s, qck_1]
        exact ⟨w3, rfl, x3, qset_row 24 _ 0 (qnL_row hR z.2.2 z.1 z.2.1 (Or.inl rfl)), x4⟩
    · rw [if_neg q]
      refine ⟨fun _ => ?_, fun r' e => (by cases e)⟩
      rw [qwyL_0 hR] at q
      by_cases z1 : 0 ≤ ρ 2 ∧ ρ 2 < r 0
      · rw [if_pos z1, if_neg (by omega)]
      · rw [if_neg z1]
  · rw [if_neg k1]
    by_cases k2 : ρ 0 = 35
    · have hvv := hv.2.2.2.1 k2
      rw [if_pos k2, if_neg (show ¬ (ρ 0 = 62 ∨ ρ 0 = 37) by omega), if_neg k1]
      by_cases q : qwyF r (ρ 2) (ρ 3) (ρ 4) = 0
      · have z := (qwyF_0 hR).mp q
        rw [if_pos q, if_pos z.1, if_pos z.2.2.2]
        refine ⟨fun e => (by cases e), fun r' e => ?_⟩
        have e := (Option.some.inj e).symm
        subst e
        obtain ⟨w1, w3, x1, x2, x3, x4⟩ := c_addFK h hR z.2.2.2 z.1 (a2 := ρ 3) (by omega) z.2.2.1
        rw [x1, zbd_s, x2, zbe_s, qck_1]
        exact ⟨w3, rfl, x3, qset_row 24 _ 0 (qnF_row hR ⟨z.2.2.2, by omega⟩ z.1 (by omega) z.2.2.1), x4⟩
      · rw [if_neg q]
        refine ⟨fun _ => ?_, fun r' e => (by cases e)⟩
        rw [qwyF_0 hR] at q
        by_cases z1 : 0 ≤ ρ 2 ∧ ρ 2 < r 0
        · rw [if_pos z1, if_neg (by omega)]
        · rw [if_neg z1]
    · have hk := hv.2.1
      unfold qK at hk
      have k3 : ρ 0 = 62 ∨ ρ 0 = 37 := by omega
      have hvv := hv.2.2.2.2 k3
      rw [if_neg k2, if_pos k3]
      by_cases q : qwyB r (ρ 2) (ρ 3) (ρ 4) = 0
      · have z := (qwyB_0 hR).mp q
        rw [if_pos q, if_pos z.1, if_pos z.2.2.2]
        refine ⟨fun e => (by cases e), fun r' e => ?_⟩
        have e := (Option.some.inj e).symm
        subst e
        by_cases k4 : ρ 0 = 37
        · obtain ⟨w1, w3, x1, x2, x3, x4⟩ := c_addBK h hR z.2.2.2 z.1 z.2.1 z.2.2.1 (Or.inr rfl : (1 : Int) = 0 ∨ (1 : Int) = 1)
          rw [if_pos k4, if_pos k4, x1, zbd_s, x2, zbe_s, qck_1]
          exact ⟨w3, rfl, x3, qset_row 24 _ 0 (qnB_row hR z.2.2.2 z.1 z.2.1 z.2.2.1 (Or.inr rfl)), x4⟩
        · obtain ⟨w1, w3, x1, x2, x3, x4⟩ := c_addBK h hR z.2.2.2 z.1 z.2.1 z.2.2.1 (Or.inl rfl : (0 : Int) = 0 ∨ (0 : Int) = 1)
          rw [if_neg k4, if_neg k4, x1, zbd_s, x2, zbe_s, qck_1]
          exact ⟨w3, rfl, x3, qset_row 24 _ 0 (qnB_row hR z.2.2.2 z.1 z.2.1 z.2.2.1 (Or.inl rfl)), x4⟩
      · rw [if_neg q]
        refine ⟨fun _ => ?_, fun r' e => (by cases e)⟩
        rw [qwyB_0 hR] at q
        by_cases z1 : 0 ≤ ρ 2 ∧ ρ 2 < r 0
        · rw [if_pos z1, if_neg (by omega)]
        · rw [if_neg z1]
end QLOAD
