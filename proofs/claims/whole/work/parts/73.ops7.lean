section QOPS7
variable {g g' g1 g2 g3 g4 : zSt} {m b t x w k p u j a lo hi v M p1 p2 p3 p4 y a1 a2 a3 a4 i : Int} {r r' re : Int → Int} {R : Nat → Int → Int} {c s d e N L n : Nat}
/-- both answer and change nothing -/
theorem qRel.qry {o1 : Option (Int × zSt)} {o2 : zSt → Option (Int × zSt)} (h : qRel g n R) (h1 : o1 = some (0, zwl g 1 (i32 v).toInt64)) (h2 : ∀ g3, qMs g3 n R (qr g) → o2 g3 = some (v, zwr g3 400 0 0)) : qOk o1 o2 :=
  h.ans h1 h.1 qfc.rf (fun g3 hm => ⟨_, h2 g3 hm, hm.wz (by decide), qfm.wz (by decide), zwr_e⟩)
theorem op_box (h : qRel g n R) (h1 : qi a1) (h2 : qi a2) : qOk (fL_box g a1 a2) (fun g => fX8_box g a1 a2) := by
  have hR := h.2.1.2.1.1
  have hS := h.1.1.1
  have h2' := h2
  unfold qi at h2'
  have ck : fX7_box g a1 a2 = if 0 ≤ a1 ∧ a1 < qr g 0 then (if a2 < 0 then some (0, 2, g) else (if a2 < 7 then zbd (fX7_boxProperty g a1 a2) (fun v2 => some (v2, 0, g)) else some (0, 2, g))) else some (0, 1, g) := by
    unfold fX7_box
    rw [zbq (k_isBox hS hR h1), ilt (by omega) (by omega), ilt (by omega) (by omega)]
  have mk : ∀ g', qRow 8 (qr g') → fX8_box g' a1 a2 = if 0 ≤ a1 ∧ a1 < qr g' 0 then (if 0 ≤ a2 ∧ a2 ≤ 6 then fX8_box_p28 g' 0 a1 a2 else fX8_box_p28 g' 2 a1 a2) else fX8_box_p28 g' 1 a1 a2 := by
    intro g' hR'
    unfold fX8_box
    rw [zbq (m_isBox hR' h1), zbq (m_within (by omega))]
  have pk : ∀ (g : zSt) (E : Int), 1 ≤ E ∧ E ≤ 3 → fX8_box_p28 g E a1 a2 = some (0, zwr g 400 0 E) := by
    intro g E hE
    unfold fX8_box_p28
    rw [zlet_e, zwr_e, ilt (by omega) (by omega), if_pos (by omega)]
  have mk0 := mk g hR
  by_cases q1 : 0 ≤ a1 ∧ a1 < qr g 0
  · rw [if_pos q1] at ck mk0
    by_cases q2 : 0 ≤ a2 ∧ a2 ≤ 6
    · rw [if_neg (by omega), if_pos (by omega), k_boxP hS h.1.1.2 hR q1 q2, zbd_s] at ck
      refine h.qry (v := qbp (qr g) a1 a2) (by unfold fL_box; rw [zbx_some ck]; rfl) (fun g3 hm => ?_)
      have e1 : qr (zwr g3 400 0 0) = qr g := (qr_oth (by decide)).trans hm.1
      show fX8_box g3 a1 a2 = _
      rw [mk g3 (by rw [hm.1]; exact hR), hm.1, if_pos q1, if_pos q2]
      unfold fX8_box_p28
      rw [zlet_e, zwr_e, ilt (by omega) (by omega), if_neg (by omega), m_boxNow (M := 8) (by rw [e1]; exact hR) (by rw [e1]; exact q1) q2, zbd_s, e1]
    · rw [if_neg q2] at mk0
      have ck2 : fX7_box g a1 a2 = some (0, 2, g) := by
        rw [ck]
        by_cases q : a2 < 0
        · rw [if_pos q]
        · rw [if_neg q, if_neg (by omega)]
      exact h.ref (E := 2) (by omega) (by unfold fL_box; rw [zbx_some ck2]; rfl) (by rw [mk0]; exact pk g 2 (by omega))
  · rw [if_neg q1] at ck mk0
    exact h.ref (E := 1) (by omega) (by unfold fL_box; rw [zbx_some ck]; rfl) (by rw [mk0]; exact pk g 1 (by omega))
theorem op_terminal (h : qRel g n R) (h1 : qi a1) (h2 : qi a2) (h3 : qi a3) : qOk (fL_terminal g a1 a2 a3) (fun g => fX8_terminal g a1 a2 a3) := by
  have hR := h.2.1.2.1.1
  have hS := h.1.1.1
  have h3' := h3
  unfold qi at h3'
  have ck : fX7_terminal g a1 a2 a3 = if 0 ≤ a1 ∧ a1 < qr g 0 then (if 0 ≤ a2 ∧ a2 ≤ 1 then (if a3 < 0 then some (0, 2, g) else (if a3 < 6 then zbd (fX7_terminalProperty g a1 a2 a3) (fun v3 => some (v3, 0, g)) else some (0, 2, g))) else some (0, 1, g)) else some (0, 1, g) := by
    unfold fX7_terminal
    rw [zbq (k_isBox hS hR h1), zbq (k_isTer h2), ilt (by omega) (by omega), ilt (by omega) (by omega)]
  have mk : ∀ g', qRow 8 (qr g') → fX8_terminal g' a1 a2 a3 = if 0 ≤ a1 ∧ a1 < qr g' 0 then (if 0 ≤ a2 ∧ a2 ≤ 1 then (if 0 ≤ a3 ∧ a3 ≤ 5 then fX8_terminal_p46 g' 0 a1 a2 a3 else fX8_terminal_p46 g' 2 a1 a2 a3) else fX8_terminal_p46 g' 1 a1 a2 a3) else fX8_terminal_p46 g' 1 a1 a2 a3 := by
    intro g' hR'
    have pa : fX8_terminal_p20 g' 0 a1 a2 a3 = fX8_terminal_p46 g' 1 a1 a2 a3 := by
      unfold fX8_terminal_p20
      rw [if_pos rfl]
    have pb : fX8_terminal_p20 g' 1 a1 a2 a3 = if 0 ≤ a3 ∧ a3 ≤ 5 then fX8_terminal_p46 g' 0 a1 a2 a3 else fX8_terminal_p46 g' 2 a1 a2 a3 := by
      unfold fX8_terminal_p20
      rw [ieq (by omega) (by omega), if_neg (by omega), zbq (m_within (by omega))]
    unfold fX8_terminal
    rw [pa, pb, zbq (m_isBox hR' h1), zbq (m_isTerminal h2)]
  have pk : ∀ (g : zSt) (E : Int), 1 ≤ E ∧ E ≤ 3 → fX8_terminal_p46 g E a1 a2 a3 = some (0, zwr g 400 0 E) := by
    intro g E hE
    unfold fX8_terminal_p46
    rw [zlet_e, zwr_e, ilt (by omega) (by omega), if_pos (by omega)]
  have mk0 := mk g hR
  by_cases q1 : 0 ≤ a1 ∧ a1 < qr g 0
  · rw [if_pos q1] at ck mk0
    by_cases q2 : 0 ≤ a2 ∧ a2 ≤ 1
    · rw [if_pos q2] at ck mk0
      by_cases q3 : 0 ≤ a3 ∧ a3 ≤ 5
      · rw [if_neg (by omega), if_pos (by omega), k_terP hS h.1.1.2 hR q1 (by omega) q3, zbd_s] at ck
        refine h.qry (v := qtp (qr g) a1 a2 a3) (by unfold fL_terminal; rw [zbx_some ck]; rfl) (fun g3 hm => ?_)
        have e1 : qr (zwr g3 400 0 0) = qr g := (qr_oth (by decide)).trans hm.1
        show fX8_terminal g3 a1 a2 a3 = _
        rw [mk g3 (by rw [hm.1]; exact hR), hm.1, if_pos q1, if_pos q2, if_pos q3]
        unfold fX8_terminal_p46
        rw [zlet_e, zwr_e, ilt (by omega) (by omega), if_neg (by omega), m_terNow (M := 8) (by rw [e1]; exact hR) (by rw [e1]; exact q1) (by omega) q3, zbd_s, e1]
      · rw [if_neg q3] at mk0
        have ck2 : fX7_terminal g a1 a2 a3 = some (0, 2, g) := by
          rw [ck]
          by_cases q : a3 < 0
          · rw [if_pos q]
          · rw [if_neg q, if_neg (by omega)]
        exact h.ref (E := 2) (by omega) (by unfold fL_terminal; rw [zbx_some ck2]; rfl) (by rw [mk0]; exact pk g 2 (by omega))
    · rw [if_neg q2] at ck mk0
      exact h.ref (E := 1) (by omega) (by unfold fL_terminal; rw [zbx_some ck]; rfl) (by rw [mk0]; exact pk g 1 (by omega))
  · rw [if_neg q1] at ck mk0
    exact h.ref (E := 1) (by omega) (by unfold fL_terminal; rw [zbx_some ck]; rfl) (by rw [mk0]; exact pk g 1 (by omega))
theorem op_lantern (h : qRel g n R) (h1 : qi a1) (h2 : qi a2) : qOk (fL_lantern g a1 a2) (fun g => fX8_lantern g a1 a2) := by
  have hR := h.2.1.2.1.1
  have hS := h.1.1.1
  have h2' := h2
  unfold qi at h2'
  have ck : fX7_lantern g a1 a2 = if 0 ≤ a1 ∧ a1 < qr g 85 then (if a2 < 0 then some (0, 2, g) else (if a2 < 4 then zbd (fX7_lanternProperty g a1 a2) (fun v2 => some (v2, 0, g)) else some (0, 2, g))) else some (0, 1, g) := by
    unfold fX7_lantern
    rw [zbq (k_isLan hS hR h1), ilt (by omega) (by omega), ilt (by omega) (by omega)]
  have mk : ∀ g', qRow 8 (qr g') → fX8_lantern g' a1 a2 = if 0 ≤ a1 ∧ a1 < qr g' 85 then (if 0 ≤ a2 ∧ a2 ≤ 3 then fX8_lantern_p27 g' 0 a1 a2 else fX8_lantern_p27 g' 2 a1 a2) else fX8_lantern_p27 g' 1 a1 a2 := by
    intro g' hR'
    unfold fX8_lantern
    rw [zbq (m_isLan hR' h1), zbq (m_within (by omega))]
  have pk : ∀ (g : zSt) (E : Int), 1 ≤ E ∧ E ≤ 3 → fX8_lantern_p27 g E a1 a2 = some (0, zwr g 400 0 E) := by
    intro g E hE
    unfold fX8_lantern_p27
    rw [zlet_e, zwr_e, ilt (by omega) (by omega), if_pos (by omega)]
  have mk0 := mk g hR
  by_cases q1 : 0 ≤ a1 ∧ a1 < qr g 85
  · rw [if_pos q1] at ck mk0
    by_cases q2 : 0 ≤ a2 ∧ a2 ≤ 3
    · rw [if_neg (by omega), if_pos (by omega), k_lanP hS h.1.1.2 hR q1 q2, zbd_s] at ck
      refine h.qry (v := qlp (qr g) a1 a2) (by unfold fL_lantern; rw [zbx_some ck]; rfl) (fun g3 hm => ?_)
      have e1 : qr (zwr g3 400 0 0) = qr g := (qr_oth (by decide)).trans hm.1
      show fX8_lantern g3 a1 a2 = _
      rw [mk g3 (by rw [hm.1]; exact hR), hm.1, if_pos q1, if_pos q2]
      unfold fX8_lantern_p27
      rw [zlet_e, zwr_e, ilt (by omega) (by omega), if_neg (by omega), m_lanNow (M := 8) (by rw [e1]; exact hR) (by rw [e1]; exact q1) q2, zbd_s, e1]
    · rw [if_neg q2] at mk0
      have ck2 : fX7_lantern g a1 a2 = some (0, 2, g) := by
        rw [ck]
        by_cases q : a2 < 0
        · rw [if_pos q]
        · rw [if_neg q, if_neg (by omega)]
      exact h.ref (E := 2) (by omega) (by unfold fL_lantern; rw [zbx_some ck2]; rfl) (by rw [mk0]; exact pk g 2 (by omega))
  · rw [if_neg q1] at ck mk0
    exact h.ref (E := 1) (by omega) (by unfold fL_lantern; rw [zbx_some ck]; rfl) (by rw [mk0]; exact pk g 1 (by omega))
theorem op_faultAt (h : qRel g n R) (h1 : qi a1) (h2 : qi a2) : qOk (fL_faultAt g a1 a2) (fun g => fX8_faultAt g a1 a2) := by
  have hR := h.2.1.2.1.1
  have hS := h.1.1.1
  have h2' := h2
  unfold qi at h2'
  have ck : fX7_faultAt g a1 a2 = if 0 ≤ a1 ∧ a1 < qr g 134 then (if a2 < 0 then some (0, 2, g) else (if a2 < 5 then zbd (fX7_faultProperty g a1 a2) (fun v2 => some (v2, 0, g)) else some (0, 2, g))) else some (0, 1, g) := by
    unfold fX7_faultAt
    rw [zbq (k_isFau hS hR h1), ilt (by omega) (by omega), ilt (by omega) (by omega)]
  have mk : ∀ g', qRow 8 (qr g') → fX8_faultAt g' a1 a2 = if 0 ≤ a1 ∧ a1 < qr g' 134 then (if 0 ≤ a2 ∧ a2 ≤ 4 then fX8_faultAt_p27 g' 0 a1 a2 else fX8_faultAt_p27 g' 2 a1 a2) else fX8_faultAt_p27 g' 1 a1 a2 := by
    intro g' hR'
    unfold fX8_faultAt
    rw [zbq (m_isFau hR' h1), zbq (m_within (by omega))]
  have pk : ∀ (g : zSt) (E : Int), 1 ≤ E ∧ E ≤ 3 → fX8_faultAt_p27 g E a1 a2 = some (0, zwr g 400 0 E) := by
    intro g E hE
    unfold fX8_faultAt_p27
    rw [zlet_e, zwr_e, ilt (by omega) (by omega), if_pos (by omega)]
  have mk0 := mk g hR
  by_cases q1 : 0 ≤ a1 ∧ a1 < qr g 134
  · rw [if_pos q1] at ck mk0
    by_cases q2 : 0 ≤ a2 ∧ a2 ≤ 4
    · rw [if_neg (by omega), if_pos (by omega), k_fauP hS h.1.1.2 hR q1 q2, zbd_s] at ck
      refine h.qry (v := qfq (qr g) a1 a2) (by unfold fL_faultAt; rw [zbx_some ck]; rfl) (fun g3 hm => ?_)
      have e1 : qr (zwr g3 400 0 0) = qr g := (qr_oth (by decide)).trans hm.1
      show fX8_faultAt g3 a1 a2 = _
      rw [mk g3 (by rw [hm.1]; exact hR), hm.1, if_pos q1, if_pos q2]
      unfold fX8_faultAt_p27
      rw [zlet_e, zwr_e, ilt (by omega) (by omega), if_neg (by omega), m_fauNow (M := 8) (by rw [e1]; exact hR) (by rw [e1]; exact q1) q2, zbd_s, e1]
    · rw [if_neg q2] at mk0
      have ck2 : fX7_faultAt g a1 a2 = some (0, 2, g) := by
        rw [ck]
        by_cases q : a2 < 0
        · rw [if_pos q]
        · rw [if_neg q, if_neg (by omega)]
      exact h.ref (E := 2) (by omega) (by unfold fL_faultAt; rw [zbx_some ck2]; rfl) (by rw [mk0]; exact pk g 2 (by omega))
  · rw [if_neg q1] at ck mk0
    exact h.ref (E := 1) (by omega) (by unfold fL_faultAt; rw [zbx_some ck]; rfl) (by rw [mk0]; exact pk g 1 (by omega))
theorem op_count (h : qRel g n R) (h1 : qi a1) : qOk (fL_count g a1) (fun g => fX8_count g a1) := by
  have hR := h.2.1.2.1.1
  have hS := h.1.1.1
  have h1' := h1
  unfold qi at h1'
  have ck : fX7_count g a1 = if a1 < 0 then some (0, 2, g) else (if a1 < 12 then zbd (fX7_countOf g a1) (fun v1 => some (v1, 0, g)) else some (0, 2, g)) := by
    unfold fX7_count
    rw [ilt (by omega) (by omega), ilt (by omega) (by omega)]
  have mk : ∀ g', qr g' = qr g' → fX8_count g' a1 = if 0 ≤ a1 ∧ a1 ≤ 11 then fX8_count_p16 g' 0 a1 else fX8_count_p16 g' 1 a1 := by
    intro g' _
    unfold fX8_count
    rw [zbq (m_within (by omega))]
  by_cases q1 : 0 ≤ a1 ∧ a1 ≤ 11
  · rw [if_neg (by omega), if_pos (by omega), k_count hS h.1.1.2 hR h.1.2.2.1.2 q1, zbd_s] at ck
    refine h.qry (v := qco (qr g) n a1) (by unfold fL_count; rw [zbx_some ck]; rfl) (fun g3 hm => ?_)
    have e1 : qr (zwr g3 400 0 0) = qr g := (qr_oth (by decide)).trans hm.1
    show fX8_count g3 a1 = _
    rw [mk g3 rfl, if_pos q1]
    unfold fX8_count_p16
    rw [zlet_e, zwr_e, ilt (by omega) (by omega), if_neg (by omega), m_counted (M := 8) (n := n) (by rw [e1]; exact hR) q1 ((zwr_n (Or.inr (by decide))).trans hm.2.2.1.2), zbd_s, e1]
  · have ck2 : fX7_count g a1 = some (0, 2, g) := by
      rw [ck]
      by_cases q : a1 < 0
      · rw [if_pos q]
      · rw [if_neg q, if_neg (by omega)]
    refine h.ref (E := 1) (by omega) (by unfold fL_count; rw [zbx_some ck2]; rfl) ?_
    rw [mk g rfl, if_neg q1]
    unfold fX8_count_p16
    rw [zlet_e, zwr_e, ilt (by omega) (by omega), if_pos (by omega)]
theorem k_lamp (hV : qSv g s r) (hR : qRow M r) (hp : p = 0 ∨ p = 1) : fX6_lampOf g s p = some (qlamp r p) := by
  have h1 := hR.1
  have z := hV.2.2.2.2.2 0 p (by omega) (by omega) hp
  rw [qlamp_e hR, show 2 * 0 + p = p by omega] at z
  unfold fX6_lampOf
  rw [zck_t (by omega), z]
theorem op_lamp (h : qRel g n R) (h1 : qi a1) : qOk (fL_lamp g a1) (fun g => fX8_lamp g a1) := by
  have hR := h.2.1.2.1.1
  have ck : fX7_lamp g a1 = if 0 ≤ a1 ∧ a1 ≤ 1 then zbd (fX6_lampOf g 200 a1) (fun v2 => some (v2, 0, g)) else some (0, 1, g) := by
    unfold fX7_lamp
    rw [zbq (k_isPol h1)]
  by_cases q1 : 0 ≤ a1 ∧ a1 ≤ 1
  · rw [if_pos q1, k_lamp h.1.1.2 hR (by omega), zbd_s] at ck
    refine h.qry (v := qlamp (qr g) a1) (by unfold fL_lamp; rw [zbx_some ck]; rfl) (fun g3 hm => ?_)
    have e1 : qr (zwr g3 400 0 0) = qr g := (qr_oth (by decide)).trans hm.1
    show fX8_lamp g3 a1 = _
    unfold fX8_lamp fX8_lamp_p13
    rw [zbq (m_isTerminal h1), if_pos q1, zlet_e, zwr_e, ilt (by omega) (by omega), if_neg (by omega), m_lampOf (m := 8) (by rw [e1]; exact hR) (by omega), zbd_s, e1]
  · rw [if_neg q1] at ck
    refine h.ref (E := 1) (by omega) (by unfold fL_lamp; rw [zbx_some ck]; rfl) ?_
    show fX8_lamp g a1 = _
    unfold fX8_lamp fX8_lamp_p13
    rw [zbq (m_isTerminal h1), if_neg q1, zlet_e, zwr_e, ilt (by omega) (by omega), if_pos (by omega)]
end QOPS7
