section QRUN
variable {g g' g1 g2 g3 g4 : zSt} {b t x w k p u j a lo hi v M y a1 a2 a3 a4 i q P n : Int} {r r' re ρ ρ' T : Int → Int} {R : Nat → Int → Int} {c : Int} {s d e N L m : Nat}
/-- how far a text is read, and the reader there -/
def qstop (T : Int → Int) : Nat → Int → (Int → Int) → Int × (Int → Int)
  | 0, i, ρ => (i, ρ)
  | m + 1, i, ρ => match qdl ρ (T i) with
    | none => (i, ρ)
    | some ρ' => qstop T m (i + 1) ρ'
/-- the parts that a text brings from a sign on: the reader at the end of each -/
def qrest (T : Int → Int) : Nat → Int → (Int → Int) → List (Int → Int)
  | 0, _, ρ => [ρ]
  | m + 1, i, ρ => match qdl ρ (T i) with
    | none => []
    | some ρ' => if T i = 59 then ρ :: qrest T m (i + 1) ρ' else qrest T m (i + 1) ρ'
theorem qstop_le : ∀ (m : Nat) (i : Int) (ρ : Int → Int), i ≤ (qstop T m i ρ).1 ∧ (qstop T m i ρ).1 ≤ i + m := by
  intro m
  induction m with
  | zero => intro i ρ; simp [qstop]
  | succ m ih =>
    intro i ρ
    rw [qstop]
    split
    · constructor
      · exact Int.le_refl _
      · show i ≤ _
        omega
    · rename_i ρ' _
      have := ih (i + 1) ρ'
      omega
def qTxt (T : Int → Int) (n : Int) : Prop := ∀ j, 0 ≤ j → j < n → 33 ≤ T j ∧ T j ≤ 126
theorem k_read_l (hn : 0 ≤ n ∧ n ≤ 60) (hT : qTxt T n) : ∀ (fu : Nat) (g : zSt) (i : Int) (ρ : Int → Int), 0 ≤ i → i ≤ n → (n - i).toNat < fu → g.1 0 8 = n → (∀ j, 0 ≤ j → j < n → g.1 320 (Int.toNat j) = T j) → qCr g ρ → qVS ρ → ∃ g', fX7_readSigns_p9 fu g i = some ((qstop T (n - i).toNat i ρ).1, g') ∧ qCr g' (qstop T (n - i).toNat i ρ).2 ∧ qVS (qstop T (n - i).toNat i ρ).2 ∧ qfr (fun q => q = 310 ∨ q = 311) g g' := by
  intro fu
  induction fu with
  | zero => intro g i ρ _ _ h; omega
  | succ fu ih =>
    intro g i ρ h0 h1 hf hl ht hC hV
    rw [fX7_readSigns_p9, hl, ilt (by omega) (by omega)]
    by_cases e : i < n
    · have hc := hT i h0 e
      have z := k_takes hC hV hc
      rw [if_pos e, zck_t (by omega), ht i h0 e, show (n - i).toNat = (n - (i + 1)).toNat + 1 by omega, qstop]
      cases hq : qdl ρ (T i) with
      | none =>
        rw [z.1 hq, zbe_s, if_pos rfl]
        exact ⟨g, rfl, hC, hV, qfr.rf⟩
      | some ρ' =>
        obtain ⟨g1, x1, x2, x3⟩ := z.2 ρ' hq
        obtain ⟨g', y1, y2, y3, y4⟩ := ih g1 (i + 1) ρ' (by omega) (by omega) (by omega) ((x3.1 _ _ (by omega)).trans hl) (fun j j0 j1 => (x3.1 _ _ (by omega)).trans (ht j j0 j1)) x2 (qdl_VS hV hc hq)
        rw [x1, zbe_s, ieq (by omega) (by omega), if_neg (by omega)]
        exact ⟨g', y1, y2, y3, x3.tr y4⟩
    · rw [if_neg e, show (n - i).toNat = 0 by omega, show n = i by omega]
      exact ⟨g, rfl, hC, hV, qfr.rf⟩
theorem k_readS (hn : 0 ≤ n ∧ n ≤ 60) (hT : qTxt T n) (hl : g.1 0 8 = n) (ht : ∀ j, 0 ≤ j → j < n → g.1 320 (Int.toNat j) = T j) : ∃ g', fX7_readSigns g = some ((qstop T n.toNat 0 qz0).1, g') ∧ qCr g' (qstop T n.toNat 0 qz0).2 ∧ qVS (qstop T n.toNat 0 qz0).2 ∧ qfr (fun q => q = 310 ∨ q = 311) g g' := by
  obtain ⟨g1, a1, a2, a3⟩ := k_restart (g := g)
  obtain ⟨g', b1, b2, b3, b4⟩ := k_read_l hn hT zfu g1 0 qz0 (by omega) (by omega) (by unfold zfu; omega) ((a3.1 _ _ (by omega)).trans hl) (fun j j0 j1 => (a3.1 _ _ (by omega)).trans (ht j j0 j1)) a2 qz0_VS
  rw [show (n - 0).toNat = n.toNat by omega] at b1 b2 b3
  refine ⟨g', ?_, b2, b3, a3.tr b4⟩
  unfold fX7_readSigns
  rw [a1, zbd_s]
  exact b1
/-- parts as they lie in the reference's list -/
def qpl (f : Nat → Int) : Int → List (Int → Int) → Prop
  | _, [] => True
  | P, ρ :: l => (f (Int.toNat (4 * P)) = ρ 0 ∧ ∀ k, 0 ≤ k → k ≤ ρ 1 → f (Int.toNat (4 * P + 1 + k)) = ρ (2 + k)) ∧ qpl f (P + 1) l
def qfe (g : zSt) : Nat → Int := fun j => if j = Int.toNat (4 * g.1 400 12) then g.1 400 9 else g.1 405 j
theorem m_read_l (hn : 0 ≤ n ∧ n ≤ 60) (hT : qTxt T n) : ∀ (fu : Nat) (g : zSt) (i : Int) (ρ : Int → Int) (P : Int), 0 ≤ i → i ≤ n → (n - i).toNat < fu → g.1 400 4 = n → (∀ j, 0 ≤ j → j < n → g.1 403 (Int.toNat j) = T j) → qMr g ρ P i → qVS ρ → ∃ g', fX8_readText_p22 fu g i = some ((qstop T (n - i).toNat i ρ).1, g') ∧ qrf g g' ∧ ((qstop T (n - i).toNat i ρ).1 = n → ∃ P', qMr g' (qstop T (n - i).toNat i ρ).2 P' n ∧ qVS (qstop T (n - i).toNat i ρ).2 ∧ P' + 1 = P + ((qrest T (n - i).toNat i ρ).length : Int) ∧ P ≤ P' ∧ (∀ j : Nat, (j : Int) < 4 * P → g'.1 405 j = g.1 405 j) ∧ ((qstop T (n - i).toNat i ρ).2 (2 + (qstop T (n - i).toNat i ρ).2 1) ≠ -1 → qpl (qfe g') P (qrest T (n - i).toNat i ρ))) := by
  intro fu
  induction fu with
  | zero => intro g i ρ P _ _ h; omega
  | succ fu ih =>
    intro g i ρ P h0 h1 hf hl ht hM hV
    rw [fX8_readText_p22, hl, ilt (by omega) (by omega)]
    by_cases e : i < n
    · have hc := hT i h0 e
      have z := m_takes hM hV hc (by omega)
      rw [if_pos e, zck_t (by omega), ht i h0 e, show (n - i).toNat = (n - (i + 1)).toNat + 1 by omega, qstop, qrest]
      cases hq : qdl ρ (T i) with
      | none =>
        obtain ⟨g1, x1, x2⟩ := z.1 hq
        rw [x1, zbe_s, if_pos rfl]
        refine ⟨g1, rfl, x2, fun q => ?_⟩
        have q : i = n := q
        omega
      | some ρ' =>
        obtain ⟨g1, x1, x2, x3, x4, x5⟩ := z.2 ρ' hq
        obtain ⟨g', y1, y2, y3⟩ := ih g1 (i + 1) ρ' _ (by omega) (by omega) (by omega) ((x5.1 _ _ (by omega) (by omega)).trans hl) (fun j j0 j1 => (x5.1 _ _ (by omega) (by omega)).trans (ht j j0 j1)) x2 (qdl_VS hV hc hq)
        rw [x1, zbe_s, ieq (by omega) (by omega), if_neg (by omega)]
        refine ⟨g', y1, x5.tr y2, fun q => ?_⟩
        obtain ⟨P', w1, w2, w3, w4, w5, w6⟩ := y3 q
        show ∃ P', qMr g' (qstop T (n - (i + 1)).toNat (i + 1) ρ').2 P' n ∧ qVS (qstop T (n - (i + 1)).toNat (i + 1) ρ').2 ∧ P' + 1 = P + (((if T i = 59 then ρ :: qrest T (n - (i + 1)).toNat (i + 1) ρ' else qrest T (n - (i + 1)).toNat (i + 1) ρ').length : Nat) : Int) ∧ P ≤ P' ∧ (∀ j : Nat, (j : Int) < 4 * P → g'.1 405 j = g.1 405 j) ∧ ((qstop T (n - (i + 1)).toNat (i + 1) ρ').2 (2 + (qstop T (n - (i + 1)).toNat (i + 1) ρ').2 1) ≠ -1 → qpl (qfe g') P (if T i = 59 then ρ :: qrest T (n - (i + 1)).toNat (i + 1) ρ' else qrest T (n - (i + 1)).toNat (i + 1) ρ'))
        by_cases q59 : T i = 59
        · rw [if_pos q59] at w3 w4 w5 w6 ⊢
          have hP := hM.2.2.2.2.2.1
          have hr := (qVS_0 hV).2
          refine ⟨P', w1, w2, ?_, by omega, fun j hj => (w5 j (by omega)).trans (x3 j hj), fun q => ⟨⟨?_, fun k k0 k1 => ?_⟩, w6 q⟩⟩
          · rw [List.length_cons]
            omega
          · unfold qfe
            rw [w1.1.2.2, if_neg (by omega), w5 _ (by omega)]
            exact (x4 q59).1
          · unfold qfe
            rw [w1.1.2.2, if_neg (by omega), w5 _ (by omega)]
            exact (x4 q59).2 k k0 k1
        · rw [if_neg q59] at w3 w4 w5 w6 ⊢
          exact ⟨P', w1, w2, w3, w4, fun j hj => (w5 j hj).trans (x3 j hj), w6⟩
    · rw [if_neg e, show (n - i).toNat = 0 by omega]
      have ei : i = n := by omega
      subst ei
      refine ⟨g, rfl, qrf.rf, fun _ => ⟨P, hM, hV, ?_, Int.le_refl _, fun j _ => rfl, fun q => ⟨⟨?_, fun k k0 k1 => ?_⟩, trivial⟩⟩⟩
      · rfl
      · unfold qfe
        rw [hM.1.2.2, if_pos rfl]
        exact hM.1.1
      · have hP := hM.2.2.2.2.2.1
        unfold qfe
        rw [hM.1.2.2, if_neg (by omega)]
        by_cases z : k = ρ 1
        · rw [z]
          exact hM.2.2.2.2.1 (fun zz => q (hM.2.2.1.mp zz))
        · exact hM.2.2.2.1 k k0 (by omega)
theorem m_readT (hn : 0 ≤ n ∧ n ≤ 60) (hT : qTxt T n) (hl : g.1 400 4 = n) (ht : ∀ j, 0 ≤ j → j < n → g.1 403 (Int.toNat j) = T j) : ∃ g', fX8_readText g = some ((qstop T n.toNat 0 qz0).1, g') ∧ qrf g g' ∧ ((qstop T n.toNat 0 qz0).1 = n → ∃ P', qMr g' (qstop T n.toNat 0 qz0).2 P' n ∧ qVS (qstop T n.toNat 0 qz0).2 ∧ P' + 1 = ((qrest T n.toNat 0 qz0).length : Int) ∧ 0 ≤ P' ∧ ((qstop T n.toNat 0 qz0).2 (2 + (qstop T n.toNat 0 qz0).2 1) ≠ -1 → qpl (qfe g') 0 (qrest T n.toNat 0 qz0))) := by
  let w1 := zwr g 400 12 0
  let w2 := zwr w1 400 9 0
  let w3 := zwr w2 400 10 0
  let w4 := zwr w3 400 11 0
  have fz : qrf g w4 := (((qrf.w4 (by omega)).tr (qrf.w4 (by omega))).tr (qrf.w4 (by omega))).tr (qrf.w4 (by omega))
  have d0 : w4.1 400 11 = 0 := zwr_e
  have z0 : qz0 0 = 0 := rfl
  have z1 : qz0 1 = 0 := rfl
  have hM : qMr w4 qz0 0 0 := by
    refine ⟨⟨?_, ?_, ?_⟩, by rw [d0]; omega, by rw [d0]; exact ⟨fun _ => rfl, fun _ => rfl⟩, fun k k0 k1 => by omega, fun z => absurd d0 z, by omega, ?_⟩
    · exact (zwr_n (Or.inr (by decide))).trans ((zwr_n (Or.inr (by decide))).trans zwr_e)
    · exact (zwr_n (Or.inr (by decide))).trans zwr_e
    · exact (zwr_n (Or.inr (by decide))).trans ((zwr_n (Or.inr (by decide))).trans ((zwr_n (Or.inr (by decide))).trans zwr_e))
    · rw [d0, z1]
      simp
  obtain ⟨g', b1, b2, b3⟩ := m_read_l hn hT zfu w4 0 qz0 0 (by omega) (by omega) (by unfold zfu; omega) ((fz.1 _ _ (by omega) (by omega)).trans hl) (fun j j0 j1 => (fz.1 _ _ (by omega) (by omega)).trans (ht j j0 j1)) hM qz0_VS
  rw [show (n - 0).toNat = n.toNat by omega] at b1 b3
  refine ⟨g', ?_, fz.tr b2, fun q => ?_⟩
  · unfold fX8_readText
    rw [zlet_e, zlet_e, zlet_e, zlet_e]
    exact b1
  · obtain ⟨P', c1, c2, c3, c4, c5, c6⟩ := b3 q
    exact ⟨P', c1, c2, by omega, c4, c6⟩
theorem qfm.rd (h : qrf g g') : qfm g g' := ⟨fun c k a => h.1 c k (by omega) (by omega), fun k => h.1 _ k (by omega) (by omega), h.1 _ _ (by omega) (by omega), h.2⟩
theorem qMs.rd {n : Nat} {R : Nat → Int → Int} (h : qMs g n R r) (f : qrf g g') : qMs g' n R r := ⟨by rw [← h.1]; funext j; exact f.1 _ _ (by omega) (by omega), h.2.1, h.2.2.cg (f.1 _ _ (by omega) (by omega)) (fun k => f.1 _ _ (by omega) (by omega))⟩
theorem op_first {n : Nat} {R : Nat → Int → Int} (h : qRel g n R) : ∃ (v : Int) (g2 g4 : zSt), fX7_firstError g = some (v, g2) ∧ fX8_firstError g2 = some (v, g4) ∧ qRel g4 n R := by
  have hT := h.2.2
  have hTx : qTxt (fun j => g.1 320 (Int.toNat j)) (g.1 0 8) := fun j j0 j1 => by
    have := hT.2 j j0 j1
    show 33 ≤ g.1 320 (Int.toNat j) ∧ g.1 320 (Int.toNat j) ≤ 126
    rw [this.1]
    exact this.2
  obtain ⟨g2, a1, a2, a3, a4⟩ := k_readS (g := g) (T := fun j => g.1 320 (Int.toNat j)) ⟨hT.1.1, hT.1.2.1⟩ hTx rfl (fun j j0 j1 => rfl)
  have f1 : qfc g g2 := qfc.of a4 (fun q z => by omega)
  have hC : qCs g2 n R (qr g) := ⟨⟨h.1.1.1.kept a4 (fun q a b => by omega), h.1.1.2.kept a4 (fun q a b => by omega)⟩, ⟨h.1.2.1.1.cg (fun q k a b => a4.1 _ _ (by omega)), h.1.2.1.2.cg (fun q k a b => a4.1 _ _ (by omega))⟩, h.1.2.2.kept a4 (fun q z => by omega)⟩
  let w := zwr g2 400 0 0
  have hMw : qMs w n R (qr g) := (h.2.1.cf (fun c k q => f1.1 c k (Or.inl q))).wz (by decide)
  have fw : qfm g2 w := qfm.wz (by decide)
  obtain ⟨g4, b1, b2, b3⟩ := m_readT (g := w) (T := fun j => g.1 320 (Int.toNat j)) ⟨hT.1.1, hT.1.2.1⟩ hTx (fw.2.2.1.trans ((f1.1 _ _ (Or.inl (by omega))).trans hT.1.2.2)) (fun j j0 j1 => ((fw.2.1 _).trans (f1.1 _ _ (Or.inl (by omega)))).trans (hT.2 j j0 j1).1.symm)
  refine ⟨(qstop (fun j => g.1 320 (Int.toNat j)) (g.1 0 8).toNat 0 qz0).1, g2, g4, ?_, ?_, ?_⟩
  · unfold fX7_firstError
    rw [a1, zbe_s]
  · unfold fX8_firstError
    rw [zlet_e]
    show zbe (fX8_readText w) _ = _
    rw [b1, zbe_s]
  · have hm := hMw.rd b2
    have ff := fw.tr (qfm.rd b2)
    have e := hm.1
    refine ⟨?_, ?_, ?_⟩
    · rw [e]; exact hC.mf (fun c k q => ff.1 c k q) (by rw [ff.2.2.2])
    · rw [e]; exact hm
    · exact hT.cg ((ff.1 _ _ (by omega)).trans (f1.1 _ _ (by omega))) (ff.2.2.1.trans (f1.1 _ _ (by omega))) (fun k => (ff.1 _ _ (by omega)).trans (f1.1 _ _ (by omega))) (fun k => (ff.2.1 k).trans (f1.1 _ _ (by omega)))
end QRUN
