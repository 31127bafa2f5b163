section QASK
variable {g g' g1 g2 g3 g4 : zSt} {m b t x w k p u j a lo hi v M p1 p2 p3 p4 y a1 a2 a3 a4 : Int} {r r' re : Int → Int} {R : Nat → Int → Int} {c s d e N n L : Nat} {xs : Nat → Int32} {K : zSt → Int → Option Unit}
def qi (a : Int) : Prop := -2147483648 ≤ a ∧ a < 2147483648
/-- a question, and what is done at its answer -/
theorem zbq {β : Type} {o : Option Int} {P : Prop} [Decidable P] {x y : Option β} (h : o = some (qbi (decide P))) : zbd o (fun v => if i32 v = i32 0 then x else y) = if P then y else x := by
  rw [h, zbd_s, ib0]
  by_cases q : P
  · rw [if_pos (decide_eq_true q), if_pos q]
  · rw [if_neg (by simp [q]), if_neg q]
theorem k_isBox (hS : qShip g 10 r) (hR : qRow M r) (ha : qi a) : fX7_isBox g a = some (qbi (decide (0 ≤ a ∧ a < r 0))) := by
  have h1 := hR.1
  have e0 : g.1 11 0 = r 0 := hS.1.1
  unfold qi at ha
  unfold fX7_isBox
  rw [e0, ilt (by omega) (by omega), ilt (by omega) (by omega), qck_0, qck_1]
  by_cases q1 : a < 0
  · rw [if_pos q1, decide_eq_false (by omega)]; rfl
  · rw [if_neg q1]
    by_cases q2 : a < r 0
    · rw [if_pos q2, decide_eq_true (by omega)]; rfl
    · rw [if_neg q2, decide_eq_false (by omega)]; rfl
theorem k_isFed (hS : qShip g 10 r) (hR : qRow M r) (ha : qi a) : fX7_isFedBox g a = some (qbi (decide (0 < a ∧ a < r 0))) := by
  have h1 := hR.1
  have e0 : g.1 11 0 = r 0 := hS.1.1
  unfold qi at ha
  unfold fX7_isFedBox
  rw [e0, ilt (by omega) (by omega), ilt (by omega) (by omega), qck_0, qck_1]
  by_cases q1 : 0 < a
  · rw [if_pos q1]
    by_cases q2 : a < r 0
    · rw [if_pos q2, decide_eq_true (by omega)]; rfl
    · rw [if_neg q2, decide_eq_false (by omega)]; rfl
  · rw [if_neg q1, decide_eq_false (by omega)]; rfl
theorem k_isLan (hS : qShip g 10 r) (hR : qRow M r) (ha : qi a) : fX7_isLantern g a = some (qbi (decide (0 ≤ a ∧ a < r 85))) := by
  have h1 := hR.2.1
  have e0 : g.1 17 0 = r 85 := hS.2.2.2.1.1
  unfold qi at ha
  unfold fX7_isLantern
  rw [e0, ilt (by omega) (by omega), ilt (by omega) (by omega), qck_0, qck_1]
  by_cases q1 : a < 0
  · rw [if_pos q1, decide_eq_false (by omega)]; rfl
  · rw [if_neg q1]
    by_cases q2 : a < r 85
    · rw [if_pos q2, decide_eq_true (by omega)]; rfl
    · rw [if_neg q2, decide_eq_false (by omega)]; rfl
theorem k_isFau (hS : qShip g 10 r) (hR : qRow M r) (ha : qi a) : fX7_isFault g a = some (qbi (decide (0 ≤ a ∧ a < r 134))) := by
  have h1 := hR.2.2.1
  have e0 : g.1 21 0 = r 134 := hS.2.2.2.2.1.1
  unfold qi at ha
  unfold fX7_isFault
  rw [e0, ilt (by omega) (by omega), ilt (by omega) (by omega), qck_0, qck_1]
  by_cases q1 : a < 0
  · rw [if_pos q1, decide_eq_false (by omega)]; rfl
  · rw [if_neg q1]
    by_cases q2 : a < r 134
    · rw [if_pos q2, decide_eq_true (by omega)]; rfl
    · rw [if_neg q2, decide_eq_false (by omega)]; rfl
theorem k_isRat (ha : qi a) : fX7_isRating g a = some (qbi (decide (1 ≤ a ∧ a ≤ 60))) := by
  unfold qi at ha
  unfold fX7_isRating
  rw [ilt (by omega) (by omega), ilt (by omega) (by omega), qck_0, qck_1]
  by_cases q1 : a < 1
  · rw [if_pos q1, decide_eq_false (by omega)]; rfl
  · rw [if_neg q1]
    by_cases q2 : 60 < a
    · rw [if_pos q2, decide_eq_false (by omega)]; rfl
    · rw [if_neg q2, decide_eq_true (by omega)]; rfl
theorem k_isStr (ha : qi a) : fX7_isStrength g a = some (qbi (decide (1 ≤ a ∧ a ≤ 30))) := by
  unfold qi at ha
  unfold fX7_isStrength
  rw [ilt (by omega) (by omega), ilt (by omega) (by omega), qck_0, qck_1]
  by_cases q1 : a < 1
  · rw [if_pos q1, decide_eq_false (by omega)]; rfl
  · rw [if_neg q1]
    by_cases q2 : 30 < a
    · rw [if_pos q2, decide_eq_false (by omega)]; rfl
    · rw [if_neg q2, decide_eq_true (by omega)]; rfl
theorem k_isTer (ha : qi a) : fX7_isTerminal g a = some (qbi (decide (0 ≤ a ∧ a ≤ 1))) := by
  unfold qi at ha
  unfold fX7_isTerminal
  rw [ieq (by omega) (by omega), ieq (by omega) (by omega), qck_0, qck_1]
  by_cases q1 : a = 0
  · rw [if_pos q1, decide_eq_true (by omega)]; rfl
  · rw [if_neg q1]
    by_cases q2 : a = 1
    · rw [if_pos q2, decide_eq_true (by omega)]; rfl
    · rw [if_neg q2, decide_eq_false (by omega)]; rfl
theorem k_isPol (ha : qi a) : fX7_isPole g a = some (qbi (decide (0 ≤ a ∧ a ≤ 1))) := by
  unfold qi at ha
  unfold fX7_isPole
  rw [ieq (by omega) (by omega), ieq (by omega) (by omega), qck_0, qck_1]
  by_cases q1 : a = 0
  · rw [if_pos q1, decide_eq_true (by omega)]; rfl
  · rw [if_neg q1]
    by_cases q2 : a = 1
    · rw [if_pos q2, decide_eq_true (by omega)]; rfl
    · rw [if_neg q2, decide_eq_false (by omega)]; rfl
theorem k_one {z : Bool} : fX7_oneIf g (qbi z) = some (qbi z) := by
  unfold fX7_oneIf
  rw [ib0]
  cases z <;> rfl
theorem som_if {α : Type} {P : Prop} [Decidable P] {x y : α} : (if P then some x else some y) = some (if P then x else y) := by split <;> rfl
end QASK

