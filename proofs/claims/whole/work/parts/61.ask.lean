section QASK
variable {g g' g1 g2 g3 g4 : zSt} {m b t x w k p u j a lo hi v M p1 p2 p3 p4 y a1 a2 a3 a4 : Int} {r r' re : Int → Int} {R : Nat → Int → Int} {c s d e N n L : Nat} {xs : Nat → Int32} {K : zSt → Int → Option Unit}
def qi (a : Int) : Prop := -2147483648 ≤ a ∧ a < 2147483648
theorem zsc_r (xs : Nat → Int32) (i : Int) : qi (zsc xs i) := ⟨Int32.le_toInt _, Int32.toInt_lt _⟩
theorem zb0_r (a : Int) : zb0 a = 0 ∨ zb0 a = 1 := by
  unfold zb0
  split
  · exact Or.inl rfl
  · exact Or.inr rfl
/-- a question, and what is done at its answer -/
theorem zbq {β : Type} {o : Option Int} {P : Prop} [Decidable P] {x y : Option β} (h : o = some (qbi (decide P))) : zbd o (fun v => if i32 v = i32 0 then x else y) = if P then y else x := by
  rw [h, zbd_s, ib0]
  by_cases q : P
  · rw [if_pos (decide_eq_true q), if_pos q]
  · rw [if_neg (by simp [q]), if_neg q]
theorem k_isBox (hS : qShip g 10 r) (hR : qRow M r) (ha : qi a) : fX7_isBox g a = some (qbi (decide (0 ≤ a ∧ a < r 0))) := by
  have h1 := hR.1
  have e0 : g.1 11 0 = r 0 := hS.1.1
  unfold qi at ha
  unfold fX7_isBox
  rw [e0, ilt (by omega) (by omega), ilt (by omega) (by omega), qck_0, qck_1]
  by_cases q1 : a < 0
  · rw [if_pos q1, decide_eq_false (by omega)]; rfl
  · rw [if_neg q1]
    by_cases q2 : a < r 0
    · rw [if_pos q2, decide_eq_true (by omega)]; rfl
    · rw [if_neg q2, decide_eq_false (by omega)]; rfl
theorem k_isFed (hS : qShip g 10 r) (hR : qRow M r) (ha : qi a) : fX7_isFedBox g a = some (qbi (decide (0 < a ∧ a < r 0))) := by
  have h1 := hR.1
  have e0 : g.1 11 0 = r 0 := hS.1.1
  unfold qi at ha
  unfold fX7_isFedBox
  rw [e0, ilt (by omega) (by omega), ilt (by omega) (by omega), qck_0, qck_1]
  by_cases q1 : 0 < a
  · rw [if_pos q1]
    by_cases q2 : a < r 0
    · rw [if_pos q2, decide_eq_true (by omega)]; rfl
    · rw [if_neg q2, decide_eq_false (by omega)]; rfl
  · rw [if_neg q1, decide_eq_false (by omega)]; rfl
theorem k_isLan (hS : qShip g 10 r) (hR : qRow M r) (ha : qi a) : fX7_isLantern g a = some (qbi (decide (0 ≤ a ∧ a < r 85))) := by
  have h1 := hR.2.1
  have e0 : g.1 17 0 = r 85 := hS.2.2.2.1.1
  unfold qi at ha
  unfold fX7_isLantern
  rw [e0, ilt (by omega) (by omega), ilt (by omega) (by omega), qck_0, qck_1]
  by_cases q1 : a < 0
  · rw [if_pos q1, decide_eq_false (by omega)]; rfl
  · rw [if_neg q1]
    by_cases q2 : a < r 85
    · rw [if_pos q2, decide_eq_true (by omega)]; rfl
    · rw [if_neg q2, decide_eq_false (by omega)]; rfl
theorem k_isFau (hS : qShip g 10 r) (hR : qRow M r) (ha : qi a) : fX7_isFault g a = some (qbi (decide (0 ≤ a ∧ a < r 134))) := by
  have h1 := hR.2.2.1
  have e0 : g.1 21 0 = r 134 := hS.2.2.2.2.1.1
  unfold qi at ha
  unfold fX7_isFault
  rw [e0, ilt (by omega) (by omega), ilt (by omega) (by omega), qck_0, qck_1]
  by_cases q1 : a < 0
  · rw [if_pos q1, decide_eq_false (by omega)]; rfl
  · rw [if_neg q1]
    by_cases q2 : a < r 134
    · rw [if_pos q2, decide_eq_true (by omega)]; rfl
    · rw [if_neg q2, decide_eq_false (by omega)]; rfl
theorem k_isRat (ha : qi a) : fX7_isRating g a = some (qbi (decide (1 ≤ a ∧ a ≤ 60))) := by
  unfold qi at ha
  unfold fX7_isRating
  rw [ilt (by omega) (by omega), ilt (by omega) (by omega), qck_0, qck_1]
  by_cases q1 : a < 1
  · rw [if_pos q1, decide_eq_false (by omega)]; rfl
  · rw [if_neg q1]
    by_cases q2 : 60 < a
    · rw [if_pos q2, decide_eq_false (by omega)]; rfl
    · rw [if_neg q2, decide_eq_true (by omega)]; rfl
theorem k_isStr (ha : qi a) : fX7_isStrength g a = some (qbi (decide (1 ≤ a ∧ a ≤ 30))) := by
  unfold qi at ha
  unfold fX7_isStrength
  rw [ilt (by omega) (by omega), ilt (by omega) (by omega), qck_0, qck_1]
  by_cases q1 : a < 1
  · rw [if_pos q1, decide_eq_false (by omega)]; rfl
  · rw [if_neg q1]
    by_cases q2 : 30 < a
    · rw [if_pos q2, decide_eq_false (by omega)]; rfl
    · rw [if_neg q2, decide_eq_true (by omega)]; rfl
theorem k_isTer (ha : qi a) : fX7_isTerminal g a = some (qbi (decide (0 ≤ a ∧ a ≤ 1))) := by
  unfold qi at ha
  unfold fX7_isTerminal
  rw [ieq (by omega) (by omega), ieq (by omega) (by omega), qck_0, qck_1]
  by_cases q1 : a = 0
  · rw [if_pos q1, decide_eq_true (by omega)]; rfl
  · rw [if_neg q1]
    by_cases q2 : a = 1
    · rw [if_pos q2, decide_eq_true (by omega)]; rfl
    · rw [if_neg q2, decide_eq_false (by omega)]; rfl
theorem k_isPol (ha : qi a) : fX7_isPole g a = some (qbi (decide (0 ≤ a ∧ a ≤ 1))) := by
  unfold qi at ha
  unfold fX7_isPole
  rw [ieq (by omega) (by omega), ieq (by omega) (by omega), qck_0, qck_1]
  by_cases q1 : a = 0
  · rw [if_pos q1, decide_eq_true (by omega)]; rfl
  · rw [if_neg q1]
    by_cases q2 : a = 1
    · rw [if_pos q2, decide_eq_true (by omega)]; rfl
    · rw [if_neg q2, decide_eq_false (by omega)]; rfl
theorem k_one {z : Bool} : fX7_oneIf g (qbi z) = some (qbi z) := by
  unfold fX7_oneIf
  rw [ib0]
  cases z <;> rfl
theorem m_isRat (ha : qi a) : fX8_isRating g a = some (qbi (decide (1 ≤ a ∧ a ≤ 60))) := by
  unfold qi at ha
  unfold fX8_isRating
  rw [m_within (by omega), zbd_s, qck_b]
theorem m_isLan (hR : qRow M (qr g)) (ha : qi a) : fX8_isLantern g a = some (qbi (decide (0 ≤ a ∧ a < qr g 85))) := by
  have h1 := hR.2.1
  unfold qi at ha
  unfold fX8_isLantern
  rw [zck_t (by omega), qr_f, m_within (by omega), zbd_s, qck_b]
  rw [show decide (0 ≤ a ∧ a ≤ qr g 85 - 1) = decide (0 ≤ a ∧ a < qr g 85) from decide_eq_decide.mpr (by omega)]
theorem m_isFau (hR : qRow M (qr g)) (ha : qi a) : fX8_isFault g a = some (qbi (decide (0 ≤ a ∧ a < qr g 134))) := by
  have h1 := hR.2.2.1
  unfold qi at ha
  unfold fX8_isFault
  rw [zck_t (by omega), qr_f, m_within (by omega), zbd_s, qck_b]
  rw [show decide (0 ≤ a ∧ a ≤ qr g 134 - 1) = decide (0 ≤ a ∧ a < qr g 134) from decide_eq_decide.mpr (by omega)]
def qwyB (r : Int → Int) (a1 a2 a3 : Int) : Int := if 0 ≤ a1 ∧ a1 < r 0 then (if 1 ≤ a2 ∧ a2 ≤ 60 then (if 1 ≤ a3 ∧ a3 ≤ 60 then (if r 0 = 12 then 3 else 0) else 2) else 2) else 1
def qwyL (r : Int → Int) (a1 a2 : Int) : Int := if 0 ≤ a1 ∧ a1 < r 0 then (if 1 ≤ a2 ∧ a2 ≤ 9 then (if r 85 = 16 then 3 else 0) else 2) else 1
def qwyF (r : Int → Int) (a1 a2 a3 : Int) : Int := if 0 ≤ a1 ∧ a1 < r 0 then (if 0 ≤ a2 ∧ a2 ≤ 1 then (if 1 ≤ a3 ∧ a3 ≤ 30 then (if r 134 = 8 then 3 else 0) else 2) else 1) else 1
theorem som_if {α : Type} {P : Prop} [Decidable P] {x y : α} : (if P then some x else some y) = some (if P then x else y) := by split <;> rfl
theorem m_whyB (hR : qRow M (qr g)) (h1 : qi a1) (h2 : qi a2) (h3 : qi a3) : fX8_whyNoBox g a1 a2 a3 = some (qwyB (qr g) a1 a2 a3) := by
  have hr := hR.1
  unfold fX8_whyNoBox qwyB
  rw [zbq (m_isBox hR h1), zbq (m_isRat h2), zbq (m_isRat h3), zck_t (by omega), qr_f, ieq (by omega) (by omega)]
  simp only [som_if]
theorem m_whyL (hR : qRow M (qr g)) (h1 : qi a1) (h2 : qi a2) : fX8_whyNoLantern g a1 a2 = some (qwyL (qr g) a1 a2) := by
  have hr := hR.2.1
  have h2' := h2
  unfold qi at h2'
  unfold fX8_whyNoLantern qwyL
  rw [zbq (m_isBox hR h1), zbq (m_within (by omega)), zck_t (by omega), qr_f, ieq (by omega) (by omega)]
  simp only [som_if]
theorem m_whyF (hR : qRow M (qr g)) (h1 : qi a1) (h2 : qi a2) (h3 : qi a3) : fX8_whyNoFault g a1 a2 a3 = some (qwyF (qr g) a1 a2 a3) := by
  have hr := hR.2.2.1
  have h3' := h3
  unfold qi at h3'
  unfold fX8_whyNoFault qwyF
  rw [zbq (m_isBox hR h1), zbq (m_isTerminal h2), zbq (m_within (by omega)), zck_t (by omega), qr_f, ieq (by omega) (by omega)]
  simp only [som_if]
end QASK
