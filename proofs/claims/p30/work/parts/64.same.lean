section QSAME
variable {g g' g1 g2 g3 g4 : zSt} {m b t x w k p u j a lo hi v M p1 p2 p3 p4 y a1 a2 a3 a4 : Int} {r r' re : Int → Int} {R : Nat → Int → Int} {c s d e N n L : Nat}
/-- rows with the same ship, apart from the counts -/
def qsame (r r' : Int → Int) : Prop := ∀ j, 0 ≤ j → j < 162 → r' j = r j
theorem qsame.Bx (h : qsame r r') (hb : 0 ≤ b ∧ b < 12) (hw : 0 ≤ w ∧ w < 7) : qB r' b w = qB r b w := h _ (by omega) (by omega)
theorem qsame.Lx (h : qsame r r') (hb : 0 ≤ k ∧ k < 16) (hw : 0 ≤ w ∧ w < 3) : qL r' k w = qL r k w := h _ (by omega) (by omega)
theorem qsame.Fx (h : qsame r r') (hb : 0 ≤ k ∧ k < 9) (hw : 0 ≤ w ∧ w < 3) : qF r' k w = qF r k w := h _ (by omega) (by omega)
theorem qab_cg (h : qsame r r') (hb : 0 ≤ b ∧ b < 12) : qab r' b t = qab r b t := by
  unfold qab
  rw [h.Bx hb (by omega)]
theorem qdep_cg (h : qsame r r') : ∀ (N : Nat) (b : Int), b.toNat ≤ N → b < 12 → qdep r' b = qdep r b := by
  intro N
  induction N with
  | zero =>
    intro b h0 _ 
    rw [qdep, dif_neg (by omega)]
    rw [qdep, dif_neg (by omega)]
  | succ N ih =>
    intro b h0 hb 
    by_cases e0 : 0 < b
    · have e1 : qB r' b 0 = qB r b 0 := h.Bx (by omega) (by omega)
      by_cases e : 0 < b ∧ qB r b 0 < b
      · have e' : 0 < b ∧ qB r' b 0 < b := by rw [e1]; exact e
        have i1 := ih (qB r b 0) (by omega) (by omega)
        rw [qdep_s (r := r') e', qdep_s (r := r) e, e1, i1]
      · have e' : ¬ (0 < b ∧ qB r' b 0 < b) := by rw [e1]; exact e
        have z1 : qdep r' b = 0 := by rw [qdep, dif_neg e']
        have z2 : qdep r b = 0 := by rw [qdep, dif_neg e]
        rw [z1, z2]
    · have z1 : qdep r' b = 0 := by rw [qdep, dif_neg (by omega)]
      have z2 : qdep r b = 0 := by rw [qdep, dif_neg (by omega)]
      rw [z1, z2]
theorem qsw_cg (h : qsame r r') : ∀ (N : Nat) (b : Int), b.toNat ≤ N → b < 12 → qsw r' b = qsw r b := by
  intro N
  induction N with
  | zero =>
    intro b h0 _ 
    rw [qsw, dif_neg (by omega)]
    rw [qsw, dif_neg (by omega)]
  | succ N ih =>
    intro b h0 hb 
    by_cases e0 : 0 < b
    · have e1 : qB r' b 0 = qB r b 0 := h.Bx (by omega) (by omega)
      by_cases e : 0 < b ∧ qB r b 0 < b
      · have e' : 0 < b ∧ qB r' b 0 < b := by rw [e1]; exact e
        have i1 := ih (qB r b 0) (by omega) (by omega)
        rw [qsw_s (r := r') e', qsw_s (r := r) e, e1, h.Bx (w := 2) (by omega) (by omega), i1]
      · have e' : ¬ (0 < b ∧ qB r' b 0 < b) := by rw [e1]; exact e
        have z1 : qsw r' b = true := by rw [qsw, dif_neg e']
        have z2 : qsw r b = true := by rw [qsw, dif_neg e]
        rw [z1, z2]
    · have z1 : qsw r' b = true := by rw [qsw, dif_neg (by omega)]
      have z2 : qsw r b = true := by rw [qsw, dif_neg (by omega)]
      rw [z1, z2]
theorem qpol_cg (h : qsame r r') : ∀ (N : Nat) (b t : Int), b.toNat ≤ N → b < 12 → qpol r' b t = qpol r b t := by
  intro N
  induction N with
  | zero =>
    intro b t h0 _ 
    rw [qpol, dif_neg (by omega)]
    rw [qpol, dif_neg (by omega)]
  | succ N ih =>
    intro b t h0 hb 
    by_cases e0 : 0 < b
    · have e1 : qB r' b 0 = qB r b 0 := h.Bx (by omega) (by omega)
      by_cases e : 0 < b ∧ qB r b 0 < b
      · have e' : 0 < b ∧ qB r' b 0 < b := by rw [e1]; exact e
        have i1 := ih (qB r b 0) (qab r b t) (by omega) (by omega)
        rw [qpol_s (r := r') e', qpol_s (r := r) e, e1, qab_cg h (by omega), i1]
      · have e' : ¬ (0 < b ∧ qB r' b 0 < b) := by rw [e1]; exact e
        have z1 : qpol r' b t = t := by rw [qpol, dif_neg e']
        have z2 : qpol r b t = t := by rw [qpol, dif_neg e]
        rw [z1, z2]
    · have z1 : qpol r' b t = t := by rw [qpol, dif_neg (by omega)]
      have z2 : qpol r b t = t := by rw [qpol, dif_neg (by omega)]
      rw [z1, z2]
theorem qwh_cg (h : qsame r r') : ∀ (N : Nat) (b t : Int), b.toNat ≤ N → b < 12 → (t = 0 ∨ t = 1) → qwh r' b t = qwh r b t := by
  intro N
  induction N with
  | zero =>
    intro b t h0 _ ht
    rw [qwh, dif_neg (by omega)]
    rw [qwh, dif_neg (by omega)]
  | succ N ih =>
    intro b t h0 hb ht
    by_cases e0 : 0 < b
    · have e1 : qB r' b 0 = qB r b 0 := h.Bx (by omega) (by omega)
      by_cases e : 0 < b ∧ qB r b 0 < b
      · have e' : 0 < b ∧ qB r' b 0 < b := by rw [e1]; exact e
        have i1 := ih (qB r b 0) (qab r b t) (by omega) (by omega) (qab_r ht)
        rw [qwh_s (r := r') e', qwh_s (r := r) e, e1, qab_cg h (by omega), h.Bx (w := 5 + t) (by omega) (by omega), i1]
      · have e' : ¬ (0 < b ∧ qB r' b 0 < b) := by rw [e1]; exact e
        have z1 : qwh r' b t = true := by rw [qwh, dif_neg e']
        have z2 : qwh r b t = true := by rw [qwh, dif_neg e]
        rw [z1, z2]
    · have z1 : qwh r' b t = true := by rw [qwh, dif_neg (by omega)]
      have z2 : qwh r b t = true := by rw [qwh, dif_neg (by omega)]
      rw [z1, z2]
theorem qrs_cg (h : qsame r r') : ∀ (N : Nat) (b : Int), b.toNat ≤ N → b < 12 → qrs r' x b = qrs r x b := by
  intro N
  induction N with
  | zero =>
    intro b h0 _ 
    rw [qrs, dif_neg (by omega)]
    rw [qrs, dif_neg (by omega)]
  | succ N ih =>
    intro b h0 hb 
    by_cases e0 : 0 < b
    · have e1 : qB r' b 0 = qB r b 0 := h.Bx (by omega) (by omega)
      by_cases e : x < b ∧ 0 < b ∧ qB r b 0 < b
      · have e' : x < b ∧ 0 < b ∧ qB r' b 0 < b := by rw [e1]; exact e
        have i1 := ih (qB r b 0) (by omega) (by omega)
        rw [qrs_s (r := r') e', qrs_s (r := r) e, e1, i1]
      · have e' : ¬ (x < b ∧ 0 < b ∧ qB r' b 0 < b) := by rw [e1]; exact e
        have z1 : qrs r' x b = b := by rw [qrs, dif_neg e']
        have z2 : qrs r x b = b := by rw [qrs, dif_neg e]
        rw [z1, z2]
    · have z1 : qrs r' x b = b := by rw [qrs, dif_neg (by omega)]
      have z2 : qrs r x b = b := by rw [qrs, dif_neg (by omega)]
      rw [z1, z2]
theorem qrt_cg (h : qsame r r') : ∀ (N : Nat) (b t : Int), b.toNat ≤ N → b < 12 → qrt r' x b t = qrt r x b t := by
  intro N
  induction N with
  | zero =>
    intro b t h0 _ 
    rw [qrt, dif_neg (by omega)]
    rw [qrt, dif_neg (by omega)]
  | succ N ih =>
    intro b t h0 hb 
    by_cases e0 : 0 < b
    · have e1 : qB r' b 0 = qB r b 0 := h.Bx (by omega) (by omega)
      by_cases e : x < b ∧ 0 < b ∧ qB r b 0 < b
      · have e' : x < b ∧ 0 < b ∧ qB r' b 0 < b := by rw [e1]; exact e
        have i1 := ih (qB r b 0) (qab r b t) (by omega) (by omega)
        rw [qrt_s (r := r') e', qrt_s (r := r) e, e1, qab_cg h (by omega), i1]
      · have e' : ¬ (x < b ∧ 0 < b ∧ qB r' b 0 < b) := by rw [e1]; exact e
        have z1 : qrt r' x b t = t := by rw [qrt, dif_neg e']
        have z2 : qrt r x b t = t := by rw [qrt, dif_neg e]
        rw [z1, z2]
    · have z1 : qrt r' x b t = t := by rw [qrt, dif_neg (by omega)]
      have z2 : qrt r x b t = t := by rw [qrt, dif_neg (by omega)]
      rw [z1, z2]
theorem qal_cg (h : qsame r r') (hb : b < 12) (ht : t = 0 ∨ t = 1) : qal r' b t = qal r b t := by
  unfold qal
  rw [qsw_cg h _ b (Nat.le_refl _) hb, qwh_cg h _ b t (Nat.le_refl _) hb ht]
theorem qdk_cg (h : qsame r r') (hR : qRow M r) (hk : 0 ≤ k ∧ k < r 85) : qdk r' k = qdk r k := by
  have h2 := hR.2.1
  have h1 := hR.1
  have hx := (hR.2.2.2.2.1 k hk.1 hk.2).1
  unfold qdk
  rw [h.Lx (w := 0) (by omega) (by omega), h.Lx (w := 2) (by omega) (by omega), qsw_cg h _ _ (Nat.le_refl _) (by omega), qwh_cg h _ _ 0 (Nat.le_refl _) (by omega) (Or.inl rfl), qwh_cg h _ _ 1 (Nat.le_refl _) (by omega) (Or.inr rfl), qpol_cg h _ _ _ (Nat.le_refl _) (by omega)]
theorem qlv_cg (h : qsame r r') (hR : qRow M r) (hk : 0 ≤ k ∧ k < r 134) : qlv r' k = qlv r k := by
  have h2 := hR.2.2.1
  have h1 := hR.1
  have hx := hR.2.2.2.2.2.1 k hk.1 hk.2
  have hx1 := hx.1
  unfold qlv
  rw [h.Fx (w := 0) (by omega) (by omega), h.Fx (w := 1) (by omega) (by omega), qal_cg h (by omega) hx.2.1]
theorem qfp_cg (h : qsame r r') (hR : qRow M r) (hk : 0 ≤ k ∧ k < r 134) : qfp r' k = qfp r k := by
  have h2 := hR.2.2.1
  have h1 := hR.1
  have hx := hR.2.2.2.2.2.1 k hk.1 hk.2
  have hx1 := hx.1
  unfold qfp
  rw [h.Fx (w := 0) (by omega) (by omega), h.Fx (w := 1) (by omega) (by omega), qpol_cg h _ _ _ (Nat.le_refl _) (by omega)]
theorem qlw_cg (h : qsame r r') (hR : qRow M r) (hk : 0 ≤ k ∧ k < r 134) : qlw r' p k = qlw r p k := by
  have h2 := hR.2.2.1
  unfold qlw
  rw [qlv_cg h hR hk, qfp_cg h hR hk, h.Fx (w := 2) (by omega) (by omega)]
theorem qlws_cg (h : qsame r r') (hR : qRow M r) {N : Nat} (hN : (N : Int) ≤ r 134) : qsum (qlw r' p) 0 N = qsum (qlw r p) 0 N := qsum_congr N 0 (fun k a b => qlw_cg h hR ⟨a, by omega⟩)
theorem qlamp_cg (h : qsame r r') (hR : qRow M r) : qlamp r' p = qlamp r p := by
  have h2 := hR.2.2.1
  unfold qlamp
  rw [h 134 (by omega) (by omega)]
  exact qlws_cg h hR (by omega)
theorem qleak_cg (h : qsame r r') (hR : qRow M r) : qleak r' = qleak r := by
  unfold qleak
  rw [qlamp_cg h hR, qlamp_cg h hR]
theorem qflow_cg (h : qsame r r') (hR : qRow M r) (hk : 0 ≤ k ∧ k < r 134) : qflow r' k = qflow r k := by
  have h2 := hR.2.2.1
  unfold qflow qleft
  rw [qlv_cg h hR hk, qfp_cg h hR hk, qleak_cg h hR, qlws_cg h hR (by omega), h.Fx (w := 2) (by omega) (by omega)]
theorem qSv.same (hV : qSv g s r) (hR : qRow M r) (h : qsame r r') : qSv g s r' := by
  have h1 := hR.1
  have h2 := hR.2.1
  have h3 := hR.2.2.1
  have e0 := h 0 (by omega) (by omega)
  have e85 := h 85 (by omega) (by omega)
  have e134 := h 134 (by omega) (by omega)
  have hbf : ∀ k, 0 ≤ k → k < r 134 → 0 ≤ qF r k 0 ∧ qF r k 0 < r 0 := fun k a b => (hR.2.2.2.2.2.1 k a b).1
  have hbl : ∀ k, 0 ≤ k → k < r 85 → 0 ≤ qL r k 0 ∧ qL r k 0 < r 0 := fun k a b => (hR.2.2.2.2.1 k a b).1
  unfold qSv
  rw [e0, e85, e134]
  refine ⟨⟨fun b b0 b1 => ?_, fun x x0 x1 => ?_⟩, ⟨?_, fun j j0 j1 => ?_⟩, ⟨?_, fun j j0 j1 => ?_⟩, fun x x0 x1 => ?_, fun x q x0 x1 hq => ?_, fun x q x0 x1 hq => ?_⟩
  · have hb := hV.1.1 b b0 b1
    rw [qdep_cg h _ b (Nat.le_refl _) (by omega), qsw_cg h _ b (Nat.le_refl _) (by omega)]
    refine ⟨hb.1, fun t ht => ?_⟩
    rw [qwh_cg h _ b t (Nat.le_refl _) (by omega) ht, qpol_cg h _ b t (Nat.le_refl _) (by omega)]
    exact hb.2 t ht
  · rw [hV.1.2 x x0 x1]
    unfold qbh
    rw [e0]
    refine qsum_congr _ _ (fun k a b => ?_)
    show (if qrs r x k = x then (1 : Int) else 0) = if qrs r' x k = x then 1 else 0
    rw [qrs_cg h _ k (Nat.le_refl _) (by omega)]
  · rw [hV.2.1.1]
    unfold qburn
    rw [e85]
    refine qsum_congr _ _ (fun k a b => ?_)
    show (if qdk r k = 0 then (1 : Int) else 0) = if qdk r' k = 0 then 1 else 0
    rw [qdk_cg h hR ⟨a, by omega⟩]
  · rw [qdk_cg h hR ⟨j0, j1⟩]
    exact hV.2.1.2 j j0 j1
  · rw [qleak_cg h hR]
    exact hV.2.2.1.1
  · rw [qflow_cg h hR ⟨j0, j1⟩]
    exact hV.2.2.1.2 j j0 j1
  · rw [hV.2.2.2.1 x x0 x1]
    refine qsum_congr _ _ (fun k a b => ?_)
    have := hbl k a (by omega)
    unfold qun
    rw [qdk_cg h hR ⟨a, by omega⟩, h.Lx (w := 0) (by omega) (by omega), h.Lx (w := 1) (by omega) (by omega), qrs_cg h _ _ (Nat.le_refl _) (by omega)]
  · rw [hV.2.2.2.2.1 x q x0 x1 hq]
    refine qsum_congr _ _ (fun k a b => ?_)
    have := hbf k a (by omega)
    show (if qrs r x (qF r k 0) = x then (if qfp r k = q then qflow r k else 0) else 0) = if qrs r' x (qF r' k 0) = x then (if qfp r' k = q then qflow r' k else 0) else 0
    rw [qfp_cg h hR ⟨a, by omega⟩, qflow_cg h hR ⟨a, by omega⟩, h.Fx (w := 0) (by omega) (by omega), qrs_cg h _ _ (Nat.le_refl _) (by omega)]
  · rw [hV.2.2.2.2.2 x q x0 x1 hq]
    refine qsum_congr _ _ (fun k a b => ?_)
    have := hbf k a (by omega)
    show (if qrs r x (qF r k 0) = x then (if qfp r k = q then (if qlv r k = true then qF r k 2 else 0) else 0) else 0) = if qrs r' x (qF r' k 0) = x then (if qfp r' k = q then (if qlv r' k = true then qF r' k 2 else 0) else 0) else 0
    rw [qfp_cg h hR ⟨a, by omega⟩, qlv_cg h hR ⟨a, by omega⟩, h.Fx (w := 0) (by omega) (by omega), h.Fx (w := 2) (by omega) (by omega), qrs_cg h _ _ (Nat.le_refl _) (by omega)]
/-- a change of counts alone -/
theorem qRow.cnt (hR : qRow M r) (h : qsame r r') (h2 : 0 ≤ r' 162 ∧ r' 162 ≤ 50) (h4 : 0 ≤ r' 164 ∧ r' 164 ≤ 100000) (h5 : 0 ≤ r' 165 ∧ r' 165 ≤ 144 * r' 164) (h6 : 0 ≤ r' 166 ∧ r' 166 ≤ 270 * r' 164) : qRow M r' := by
  have h1 := hR.1
  have h8 := hR.2.1
  have h3 := hR.2.2.1
  have e0 := h 0 (by omega) (by omega)
  have e85 := h 85 (by omega) (by omega)
  have e134 := h 134 (by omega) (by omega)
  refine ⟨by rw [e0]; exact h1, by rw [e85]; exact h8, by rw [e134]; exact h3, fun b b0 b1 => ?_, fun k k0 k1 => ?_, fun k k0 k1 => ?_, h2, h4, h5, h6⟩
  · rw [e0] at b1
    exact (hR.2.2.2.1 b b0 b1).cg (fun w w0 w1 => h _ (by omega) (by omega))
  · rw [e85] at k1
    have := hR.2.2.2.2.1 k k0 k1
    unfold qLn at this ⊢
    rw [h.Lx (by omega) (by omega), h.Lx (by omega) (by omega), h.Lx (by omega) (by omega), e0]
    exact this
  · rw [e134] at k1
    have := hR.2.2.2.2.2.1 k k0 k1
    unfold qFt at this ⊢
    rw [h.Fx (by omega) (by omega), h.Fx (by omega) (by omega), h.Fx (by omega) (by omega), e0]
    exact this
theorem qShip.cnt (hR : qRow M r) (hS : qShip g c r) (h : qsame r r') (f : qfr (fun q => q = c) g g') (hi : g'.1 c 3 = r' 162 ∧ g'.1 c 4 = r' 163 ∧ g'.1 c 5 = r' 164 ∧ g'.1 c 6 = r' 165 ∧ g'.1 c 7 = r' 166) : qShip g' c r' := by
  have h1 := hR.1
  have h8 := hR.2.1
  have h3 := hR.2.2.1
  have e0 := h 0 (by omega) (by omega)
  have e85 := h 85 (by omega) (by omega)
  have e134 := h 134 (by omega) (by omega)
  refine qShip.mk ?_ ⟨?_, ?_, ?_, ?_, ?_⟩ (fun b b0 b1 => ?_) (fun b t b0 b1 ht => ?_) ?_ (fun j j0 j1 => ?_) ?_ (fun j j0 j1 => ?_) hi
  · rw [f.1 _ _ (by omega), e0]; exact hS.1.1
  · rw [f.1 _ _ (by omega)]; exact hS.1.2.1
  · rw [f.1 _ _ (by omega)]; exact hS.1.2.2.1
  · rw [f.1 _ _ (by omega)]; exact hS.1.2.2.2.1
  · rw [f.1 _ _ (by omega)]; exact hS.1.2.2.2.2.1
  · rw [f.1 _ _ (by omega)]; exact hS.1.2.2.2.2.2
  · rw [e0] at b1
    rw [f.1 _ _ (by omega), f.1 (c + 3) _ (by omega), f.1 (c + 4) _ (by omega), h.Bx (by omega) (by omega), h.Bx (by omega) (by omega), h.Bx (by omega) (by omega)]
    exact hS.2.1 b b0 b1
  · rw [e0] at b1
    rw [f.1 _ _ (by omega), f.1 (c + 6) _ (by omega), h.Bx (by omega) (by omega), h.Bx (by omega) (by omega)]
    exact hS.2.2.1 b t b0 b1 ht
  · rw [f.1 _ _ (by omega), e85]; exact hS.2.2.2.1.1
  · rw [e85] at j1
    rw [f.1 _ _ (by omega), f.1 (c + 9) _ (by omega), f.1 (c + 10) _ (by omega), h.Lx (by omega) (by omega), h.Lx (by omega) (by omega), h.Lx (by omega) (by omega)]
    exact hS.2.2.2.1.2 j j0 j1
  · rw [f.1 _ _ (by omega), e134]; exact hS.2.2.2.2.1.1
  · rw [e134] at j1
    rw [f.1 _ _ (by omega), f.1 (c + 13) _ (by omega), f.1 (c + 14) _ (by omega), h.Fx (by omega) (by omega), h.Fx (by omega) (by omega), h.Fx (by omega) (by omega)]
    exact hS.2.2.2.2.1.2 j j0 j1
end QSAME

