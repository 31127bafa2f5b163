section QLOAD2
variable {g g' g1 g2 g3 g4 : zSt} {b t x w k p u j a lo hi v M y a1 a2 a3 a4 i q P : Int} {r r' re ρ ρ' T : Int → Int} {R : Nat → Int → Int} {c : Int} {s d e N L m n : Nat} {len : Int}
theorem m_part (h : qMs g n R r) (hF : qFull ρ) (hP : 0 ≤ P ∧ P < 19) (h0 : g.1 405 (Int.toNat (4 * P)) = ρ 0) (hk : ∀ k, 0 ≤ k → k ≤ ρ 1 → g.1 405 (Int.toNat (4 * P + 1 + k)) = ρ (2 + k)) : (qadd1 r ρ = none → ∃ w, w ≠ 0 ∧ (0 ≤ w ∧ w ≤ 3) ∧ fX8_whyNoPart g P = some w) ∧ (∀ r', qadd1 r ρ = some r' → fX8_whyNoPart g P = some 0 ∧ ∃ g', fX8_bringPart g P = some g' ∧ qMs g' n R r' ∧ qkeep g g' ∧ g'.1 400 0 = g.1 400 0) := by
  have hR := h.2.1.1
  have hv := qFull_v hF
  have hz := qVS_0 hF.1
  have h3 := hF.2.2.2
  have hRg : qRow 8 (qr g) := by rw [h.1]; exact hR
  have l1 : 1 ≤ ρ 1 := by
    rw [h3]
    unfold qlp2
    split <;> omega
  have e1 : g.1 405 (Int.toNat (4 * P + 1)) = ρ 2 := by
    have := hk 0 (by omega) (by omega)
    rw [show 4 * P + 1 + 0 = 4 * P + 1 by omega, show (2 : Int) + 0 = 2 from rfl] at this
    exact this
  have e2 : g.1 405 (Int.toNat (4 * P + 2)) = ρ 3 := by
    have := hk 1 (by omega) (by omega)
    rw [show 4 * P + 1 + 1 = 4 * P + 2 by omega, show (2 : Int) + 1 = 3 from rfl] at this
    exact this
  have qi2 : qi (ρ 2) := by unfold qi; omega
  by_cases k1 : ρ 0 = 42 ∨ ρ 0 = 33
  · have hvv := hv.2.2.1 k1
    have qi3 : qi (ρ 3) := by unfold qi; omega
    have ew : fX8_whyNoPart g P = some (qwyL r (ρ 2) (ρ 3)) := by
      unfold fX8_whyNoPart
      rw [zlet_e, zck_t (by omega), h0, ieq (by omega) (by omega), ieq (by omega) (by omega), ieq (by omega) (by omega)]
      rcases k1 with z | z
      · rw [if_neg (by omega), if_neg (by omega), if_pos z, zck_t (by omega), zck_t (by omega), e1, e2, m_whyL hRg qi2 qi3, zbd_s, h.1]
      · rw [if_pos z, zck_t (by omega), zck_t (by omega), e1, e2, m_whyL hRg qi2 qi3, zbd_s, h.1]
    rw [ew]
    unfold qadd1
    rw [if_pos k1]
    by_cases q : qwyL r (ρ 2) (ρ 3) = 0
    · rw [if_pos q]
      refine ⟨fun e => (by cases e), fun r' e => ⟨by rw [q], ?_⟩⟩
      have e := (Option.some.inj e).symm
      subst e
      have z := (qwyL_0 hR).mp q
      by_cases k3 : ρ 0 = 33
      · obtain ⟨g', x1, x2, x3, x4⟩ := m_bringLK h z.2.2 z.1 z.2.1 (Or.inr rfl : (1 : Int) = 0 ∨ (1 : Int) = 1)
        rw [if_pos k3]
        refine ⟨g', ?_, x2, x3, x4⟩
        unfold fX8_bringPart
        rw [zlet_e, zck_t (by omega), h0, ieq (by omega) (by omega), if_pos k3, zck_t (by omega), zck_t (by omega), zck_t (by omega), ieq (by omega) (by omega), if_pos k3, e1, e2, x1, zbd_s]
      · obtain ⟨g', x1, x2, x3, x4⟩ := m_bringLK h z.2.2 z.1 z.2.1 (Or.inl rfl : (0 : Int) = 0 ∨ (0 : Int) = 1)
        rw [if_neg k3]
        refine ⟨g', ?_, x2, x3, x4⟩
        unfold fX8_bringPart
        rw [zlet_e, zck_t (by omega), h0, ieq (by omega) (by omega), if_neg k3, ieq (by omega) (by omega), if_neg (by omega), ieq (by omega) (by omega), if_pos (by omega), zck_t (by omega), zck_t (by omega), zck_t (by omega), ieq (by omega) (by omega), if_neg k3, e1, e2, x1, zbd_s]
    · rw [if_neg q]
      refine ⟨fun _ => ⟨_, q, ?_, rfl⟩, fun r' e => (by cases e)⟩
      unfold qwyL
      repeat' split
      all_goals omega
  · have r2 : ρ 1 = 2 := by
      rw [h3]
      unfold qlp2
      rw [if_neg k1]
    have e3 : g.1 405 (Int.toNat (4 * P + 3)) = ρ 4 := by
      have := hk 2 (by omega) (by omega)
      rw [show 4 * P + 1 + 2 = 4 * P + 3 by omega, show (2 : Int) + 2 = 4 from rfl] at this
      exact this
    by_cases k2 : ρ 0 = 35
    · have hvv := hv.2.2.2.1 k2
      have qi3 : qi (ρ 3) := by unfold qi; omega
      have qi4 : qi (ρ 4) := by unfold qi; omega
      have ew : fX8_whyNoPart g P = some (qwyF r (ρ 2) (ρ 3) (ρ 4)) := by
        unfold fX8_whyNoPart
        rw [zlet_e, zck_t (by omega), h0, ieq (by omega) (by omega), ieq (by omega) (by omega), ieq (by omega) (by omega), if_neg (by omega), if_pos k2, zck_t (by omega), zck_t (by omega), zck_t (by omega), e1, e2, e3, m_whyF hRg qi2 qi3 qi4, zbd_s, h.1]
      rw [ew]
      unfold qadd1
      rw [if_neg k1, if_pos k2]
      by_cases q : qwyF r (ρ 2) (ρ 3) (ρ 4) = 0
      · rw [if_pos q]
        refine ⟨fun e => (by cases e), fun r' e => ⟨by rw [q], ?_⟩⟩
        have e := (Option.some.inj e).symm
        subst e
        have z := (qwyF_0 hR).mp q
        obtain ⟨g', x1, x2, x3, x5, x4⟩ := m_bringFK h z.2.2.2 z.1 (a2 := ρ 3) (by omega) z.2.2.1
        refine ⟨g', ?_, x2, x3, x4⟩
        unfold fX8_bringPart
        rw [zlet_e, zck_t (by omega), h0, ieq (by omega) (by omega), if_neg (by omega), ieq (by omega) (by omega), if_pos k2, zck_t (by omega), zck_t (by omega), zck_t (by omega), e1, e2, e3, x1, zbd_s]
      · rw [if_neg q]
        refine ⟨fun _ => ⟨_, q, ?_, rfl⟩, fun r' e => (by cases e)⟩
        unfold qwyF
        repeat' split
        all_goals omega
    · have hkk := hv.2.1
      unfold qK at hkk
      have k3 : ρ 0 = 62 ∨ ρ 0 = 37 := by omega
      have hvv := hv.2.2.2.2 k3
      have qi3 : qi (ρ 3) := by unfold qi; omega
      have qi4 : qi (ρ 4) := by unfold qi; omega
      have ew : fX8_whyNoPart g P = some (qwyB r (ρ 2) (ρ 3) (ρ 4)) := by
        unfold fX8_whyNoPart
        rw [zlet_e, zck_t (by omega), h0, ieq (by omega) (by omega), ieq (by omega) (by omega), ieq (by omega) (by omega), if_neg (by omega), if_neg (by omega), if_neg (by omega), zck_t (by omega), zck_t (by omega), zck_t (by omega), e1, e2, e3, m_whyB hRg qi2 qi3 qi4, zbd_s, h.1]
      rw [ew]
      unfold qadd1
      rw [if_neg k1, if_neg k2]
      by_cases q : qwyB r (ρ 2) (ρ 3) (ρ 4) = 0
      · rw [if_pos q]
        refine ⟨fun e => (by cases e), fun r' e => ⟨by rw [q], ?_⟩⟩
        have e := (Option.some.inj e).symm
        subst e
        have z := (qwyB_0 hR).mp q
        by_cases k4 : ρ 0 = 37
        · obtain ⟨g', x1, x2, x3, x4⟩ := m_bringBK h z.2.2.2 z.1 z.2.1 z.2.2.1 (Or.inr rfl : (1 : Int) = 0 ∨ (1 : Int) = 1)
          rw [if_pos k4]
          refine ⟨g', ?_, x2, x3, x4⟩
          unfold fX8_bringPart
          rw [zlet_e, zck_t (by omega), h0, ieq (by omega) (by omega), if_neg (by omega), ieq (by omega) (by omega), if_neg (by omega), ieq (by omega) (by omega), if_neg (by omega), zck_t (by omega), zck_t (by omega), zck_t (by omega), zck_t (by omega), ieq (by omega) (by omega), if_pos k4, e1, e2, e3, x1, zbd_s]
        · obtain ⟨g', x1, x2, x3, x4⟩ := m_bringBK h z.2.2.2 z.1 z.2.1 z.2.2.1 (Or.inl rfl : (0 : Int) = 0 ∨ (0 : Int) = 1)
          rw [if_neg k4]
          refine ⟨g', ?_, x2, x3, x4⟩
          unfold fX8_bringPart
          rw [zlet_e, zck_t (by omega), h0, ieq (by omega) (by omega), if_neg (by omega), ieq (by omega) (by omega), if_neg (by omega), ieq (by omega) (by omega), if_neg (by omega), zck_t (by omega), zck_t (by omega), zck_t (by omega), zck_t (by omega), ieq (by omega) (by omega), if_neg k4, e1, e2, e3, x1, zbd_s]
      · rw [if_neg q]
        refine ⟨fun _ => ⟨_, q, ?_, rfl⟩, fun r' e => (by cases e)⟩
        unfold qwyB
        repeat' split
        all_goals omega
theorem qpl_cg {f f' : Nat → Int} (h : ∀ j, f' j = f j) : ∀ (l : List (Int → Int)) (P : Int), qpl f P l → qpl f' P l := by
  intro l
  induction l with
  | nil => intro P _; trivial
  | cons ρ l ih =>
    intro P hq
    refine ⟨⟨(h _).trans hq.1.1, fun k k0 k1 => (h _).trans (hq.1.2 k k0 k1)⟩, ih _ hq.2⟩
theorem m_load_l : ∀ (l : List (Int → Int)) (fu : Nat) (g : zSt) (P : Int) (r : Int → Int), (∀ σ ∈ l, qFull σ) → qpl (g.1 405) P l → g.1 400 12 = P + (l.length : Int) → 0 ≤ P → P + (l.length : Int) ≤ 19 → l.length < fu → qMs g n R r → ∃ g', fX8_load_p56 fu g P = some ((qfold l r P).2, g') ∧ qMs g' n R (qfold l r P).1 ∧ (∀ c k : Nat, c < 400 → g'.1 c k = g.1 c k) ∧ g'.2 = g.2 ∧ g'.1 400 4 = 0 ∧ g'.1 400 0 = g.1 400 0 := by
  intro l
  induction l with
  | nil =>
    intro fu g P r _ _ h12 h0 h1 hf hM
    obtain ⟨f2, rfl⟩ : ∃ f2, fu = f2 + 1 := ⟨fu - 1, by have : ([] : List (Int → Int)).length < fu := hf; omega⟩
    have hl : ((([] : List (Int → Int)).length : Nat) : Int) = 0 := rfl
    rw [hl] at h12 h1
    refine ⟨zwr g 400 4 0, ?_, hM.wz (by decide), fun c k hc => zwr_n (Or.inl (by omega)), rfl, zwr_e, zwr_n (Or.inr (by decide))⟩
    rw [fX8_load_p56, h12, ilt (by omega) (by omega), if_neg (by omega), zlet_e]
    rfl
  | cons ρ l ih =>
    intro fu g P r hF hq h12 h0 h1 hf hM
    rw [List.length_cons] at h12 h1 hf
    obtain ⟨f2, rfl⟩ : ∃ f2, fu = f2 + 1 := ⟨fu - 1, by omega⟩
    have z := m_part hM (hF ρ (List.mem_cons_self)) ⟨h0, by omega⟩ hq.1.1 hq.1.2
    rw [fX8_load_p56, h12, ilt (by omega) (by omega), if_pos (by omega), qfold]
    cases hqq : qadd1 r ρ with
    | none =>
      obtain ⟨w, w1, w2, w3⟩ := z.1 hqq
      refine ⟨zwr g 400 4 0, ?_, hM.wz (by decide), fun c k hc => zwr_n (Or.inl (by omega)), rfl, zwr_e, zwr_n (Or.inr (by decide))⟩
      rw [w3, zbd_s, ieq (by omega) (by omega), if_neg w1, zlet_e]
    | some r' =>
      obtain ⟨w3, g1, x1, x2, x3, x4⟩ := z.2 r' hqq
      obtain ⟨g', y1, y2, y3, y4, y5, y6⟩ := ih f2 g1 (P + 1) r' (fun σ hσ => hF σ (List.mem_cons_of_mem _ hσ)) (qpl_cg (fun j => x3.1 _ _ (by omega) (by omega)) l _ hq.2) (by rw [x3.1 _ _ (by omega) (by omega), h12]; omega) (by omega) (by omega) (by omega) x2
      refine ⟨g', ?_, y2, fun c k hc => (y3 c k hc).trans (x3.1 _ _ (by omega) (by omega)), y4.trans x3.2, y5, y6.trans x4⟩
      rw [w3, zbd_s, if_pos rfl, x1, zbd_s]
      exact y1
theorem k_adds_l (hn : 0 ≤ len ∧ len ≤ 60) (hT : qTxt T len) : ∀ (fu : Nat) (g : zSt) (i : Int) (ρ : Int → Int) (a : Int) (r : Int → Int), 0 ≤ i → i ≤ len → (len - i).toNat < fu → g.1 0 8 = len → (∀ j, 0 ≤ j → j < len → g.1 320 (Int.toNat j) = T j) → qCr g ρ → qVS ρ → (qstop T (len - i).toNat i ρ).1 = len → qFull (qstop T (len - i).toNat i ρ).2 → qCs g n R r → qRow 8 r → ∃ g', fX7_addParts_p11 fu g a i = some ((qfold (qrest T (len - i).toNat i ρ) r a).2, g') ∧ qCs g' n R (qfold (qrest T (len - i).toNat i ρ) r a).1 ∧ qRow 8 (qfold (qrest T (len - i).toNat i ρ) r a).1 ∧ qfr (fun q => (10 ≤ q ∧ q < 25) ∨ (200 ≤ q ∧ q < 211) ∨ q = 310 ∨ q = 311) g g' := by
  intro fu
  induction fu with
  | zero => intro g i ρ a r _ _ h; omega
  | succ fu ih =>
    intro g i ρ a r h0 h1 hf hl ht hC hV hS hF hK hR
    rw [fX7_addParts_p11, hl, ilt (by omega) (by omega)]
    by_cases e : i < len
    · have hc := hT i h0 e
      have hcc := hc
      have z := k_takes hC hV hc
      rw [show (len - i).toNat = (len - (i + 1)).toNat + 1 by omega] at hS hF ⊢
      rw [qstop] at hS hF
      rw [qrest, if_pos e, zck_t (by omega), ht i h0 e, ieq (by omega) (by omega)]
      cases hq : qdl ρ (T i) with
      | none =>
        rw [hq] at hS
        have : i = len := hS
        omega
      | some ρ' =>
        rw [hq] at hS hF
        obtain ⟨g1, x1, x2, x3⟩ := z.2 ρ' hq
        have hV' := qdl_VS hV hc hq
        show ∃ g', _ = some ((qfold (if T i = 59 then ρ :: qrest T (len - (i + 1)).toNat (i + 1) ρ' else qrest T (len - (i + 1)).toNat (i + 1) ρ') r a).2, g') ∧ qCs g' n R (qfold (if T i = 59 then ρ :: qrest T (len - (i + 1)).toNat (i + 1) ρ' else qrest T (len - (i + 1)).toNat (i + 1) ρ') r a).1 ∧ qRow 8 (qfold (if T i = 59 then ρ :: qrest T (len - (i + 1)).toNat (i + 1) ρ' else qrest T (len - (i + 1)).toNat (i + 1) ρ') r a).1 ∧ _
        by_cases q59 : T i = 59
        · rw [if_pos q59, if_pos q59, qfold]
          have hq2 := hq
          rw [q59] at hq2
          have hfu := (qdl_59 hV hq2).1
          have zp := k_part hK hR hC hfu
          cases hqq : qadd1 r ρ with
          | none =>
            rw [zp.1 hqq, zbe_s, if_pos rfl]
            exact ⟨g, rfl, hK, hR, qfr.rf⟩
          | some r' =>
            obtain ⟨g2, y1, y2, y3, y4⟩ := zp.2 r' hqq
            have hC2 : qCr g2 ρ := by
              unfold qCr
              rw [y4.1 _ _ (by omega), y4.1 _ _ (by omega), y4.1 _ _ (by omega), y4.1 _ _ (by omega), y4.1 _ _ (by omega)]
              exact hC
            obtain ⟨g3, v1, v2, v3⟩ := (k_takes hC2 hV hc).2 ρ' hq
            have K3 : qCs g3 n R r' := ⟨⟨y2.1.1.kept v3 (fun q a b => by omega), y2.1.2.kept v3 (fun q a b => by omega)⟩, ⟨y2.2.1.1.cg (fun q k a b => v3.1 _ _ (by omega)), y2.2.1.2.cg (fun q k a b => v3.1 _ _ (by omega))⟩, y2.2.2.kept v3 (fun q z => by omega)⟩
            obtain ⟨g', w1, w2, w3, w4⟩ := ih g3 (i + 1) ρ' (a + 1) r' (by omega) (by omega) (by omega) ((v3.1 _ _ (by omega)).trans ((y4.1 _ _ (by omega)).trans hl)) (fun j j0 j1 => (v3.1 _ _ (by omega)).trans ((y4.1 _ _ (by omega)).trans (ht j j0 j1))) v2 hV' hS hF K3 y3
            refine ⟨g', ?_, w2, w3, ((y4.wk (fun q z => by omega)).tr (v3.wk (fun q z => by omega))).tr w4⟩
            rw [y1, zbe_s, ieq (by omega) (by omega), if_neg (by omega), zck_t (by omega), y4.1 _ _ (by omega), ht i h0 e, v1, zbe_s]
            exact w1
        · rw [if_neg q59, if_neg q59]
          have K1 : qCs g1 n R r := ⟨⟨hK.1.1.kept x3 (fun q a b => by omega), hK.1.2.kept x3 (fun q a b => by omega)⟩, ⟨hK.2.1.1.cg (fun q k a b => x3.1 _ _ (by omega)), hK.2.1.2.cg (fun q k a b => x3.1 _ _ (by omega))⟩, hK.2.2.kept x3 (fun q z => by omega)⟩
          obtain ⟨g', w1, w2, w3, w4⟩ := ih g1 (i + 1) ρ' a r (by omega) (by omega) (by omega) ((x3.1 _ _ (by omega)).trans hl) (fun j j0 j1 => (x3.1 _ _ (by omega)).trans (ht j j0 j1)) x2 hV' hS hF K1 hR
          refine ⟨g', ?_, w2, w3, (x3.wk (fun q z => by omega)).tr w4⟩
          rw [zck_t (by omega), x1, zbe_s]
          exact w1
    · rw [show (len - i).toNat = 0 by omega] at hS hF ⊢
      have hF2 : qFull ρ := hF
      have zp := k_part hK hR hC hF2
      rw [if_neg e, qrest, qfold]
      cases hqq : qadd1 r ρ with
      | none =>
        rw [zp.1 hqq, zbe_s, if_pos rfl]
        exact ⟨g, rfl, hK, hR, qfr.rf⟩
      | some r' =>
        obtain ⟨g2, y1, y2, y3, y4⟩ := zp.2 r' hqq
        rw [y1, zbe_s, ieq (by omega) (by omega), if_neg (by omega)]
        exact ⟨g2, rfl, y2, y3, y4.wk (fun q z => by omega)⟩
end QLOAD2
