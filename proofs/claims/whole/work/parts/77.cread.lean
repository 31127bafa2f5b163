section QREAD
variable {g g' g1 g2 g3 g4 : zSt} {b t x w k p u j a lo hi v M y a1 a2 a3 a4 i q : Int} {r r' re ρ ρ' T : Int → Int} {R : Nat → Int → Int} {c : Int} {s d e N L n m : Nat}
/-- a reader's state: the kind, the place, the three numbers -/
def qCr (g : zSt) (ρ : Int → Int) : Prop := g.1 310 1 = ρ 0 ∧ g.1 310 2 = ρ 1 ∧ g.1 311 0 = ρ 2 ∧ g.1 311 1 = ρ 3 ∧ g.1 311 2 = ρ 4
def qlp2 (k : Int) : Int := if k = 42 ∨ k = 33 then 1 else 2
def qles (k p : Int) : Int := if p = 0 then 0 else if p = 1 then (if k = 35 then 0 else 1) else 1
def qmos (k p : Int) : Int := if p = 0 then 11 else if k = 35 then (if p = 1 then 1 else 30) else if k = 42 ∨ k = 33 then 9 else 60
def qz0 : Int → Int := fun j => if j = 0 ∨ j = 1 then 0 else -1
def qval (ρ : Int → Int) (c : Int) : Int := if ρ (2 + ρ 1) = -1 then c - 48 else 10 * ρ (2 + ρ 1) + (c - 48)
def qK (k : Int) : Prop := k = 62 ∨ k = 37 ∨ k = 42 ∨ k = 33 ∨ k = 35
def qdl (ρ : Int → Int) (c : Int) : Option (Int → Int) :=
  if 48 ≤ c ∧ c ≤ 57 then (if ρ (2 + ρ 1) = 0 ∨ qval ρ c < qles (ρ 0) (ρ 1) ∨ qmos (ρ 0) (ρ 1) < qval ρ c then none else some (qput ρ (2 + ρ 1) (qval ρ c)))
  else if ρ (2 + ρ 1) = -1 then none
  else if ρ 0 = 0 then (if c = 62 ∨ c = 37 ∨ c = 42 ∨ c = 33 ∨ c = 35 then some (qput (qput ρ 0 c) 1 1) else none)
  else if ρ 1 = qlp2 (ρ 0) then (if c = 59 then some qz0 else none)
  else (if c = 44 then some (qput ρ 1 (ρ 1 + 1)) else none)
/-- a state as it may be -/
def qVS (ρ : Int → Int) : Prop := (ρ 0 = 0 ∧ ρ 1 = 0 ∧ ρ 3 = -1 ∧ ρ 4 = -1 ∧ -1 ≤ ρ 2 ∧ ρ 2 ≤ 11) ∨ (qK (ρ 0) ∧ (0 ≤ ρ 2 ∧ ρ 2 ≤ 11) ∧ ((ρ 1 = 1 ∧ ρ 4 = -1 ∧ (ρ 3 = -1 ∨ (qles (ρ 0) 1 ≤ ρ 3 ∧ ρ 3 ≤ qmos (ρ 0) 1))) ∨ (ρ 1 = 2 ∧ ρ 0 ≠ 42 ∧ ρ 0 ≠ 33 ∧ (qles (ρ 0) 1 ≤ ρ 3 ∧ ρ 3 ≤ qmos (ρ 0) 1) ∧ (ρ 4 = -1 ∨ (1 ≤ ρ 4 ∧ ρ 4 ≤ qmos (ρ 0) 2)))))
theorem qz0_VS : qVS qz0 := Or.inl ⟨rfl, rfl, rfl, rfl, by decide, by decide⟩
theorem qmos_r (k p : Int) : 1 ≤ qmos k p ∧ qmos k p ≤ 60 := by
  unfold qmos
  repeat' split
  all_goals omega
theorem qles_r (k p : Int) : 0 ≤ qles k p ∧ qles k p ≤ 1 := by
  unfold qles
  repeat' split
  all_goals omega
/-- in a state as it may be: place and number there -/
theorem qVS_p (h : qVS ρ) : (ρ 1 = 0 ∨ ρ 1 = 1 ∨ ρ 1 = 2) ∧ (ρ (2 + ρ 1) = -1 ∨ (0 ≤ ρ (2 + ρ 1) ∧ ρ (2 + ρ 1) ≤ 60)) ∧ (ρ 0 = 0 ∨ qK (ρ 0)) ∧ (ρ 0 = 0 ↔ ρ 1 = 0) := by
  have m1 := qmos_r (ρ 0) 1
  have m2 := qmos_r (ρ 0) 2
  have l1 := qles_r (ρ 0) 1
  unfold qVS qK at *
  rcases h with h | ⟨h0, h2, h | h⟩
  · rw [h.2.1, show (2 : Int) + 0 = 2 from rfl]; omega
  · rw [h.1, show (2 : Int) + 1 = 3 from rfl]; omega
  · rw [h.1, show (2 : Int) + 2 = 4 from rfl]; omega
theorem qdl_VS (h : qVS ρ) (hc : 33 ≤ c ∧ c ≤ 126) (e : qdl ρ c = some ρ') : qVS ρ' := by
  have hp := qVS_p h
  unfold qdl at e
  by_cases q1 : 48 ≤ c ∧ c ≤ 57
  · rw [if_pos q1] at e
    by_cases q2 : ρ (2 + ρ 1) = 0 ∨ qval ρ c < qles (ρ 0) (ρ 1) ∨ qmos (ρ 0) (ρ 1) < qval ρ c
    · rw [if_pos q2] at e; cases e
    · rw [if_neg q2] at e
      have e := (Option.some.inj e).symm
      subst e
      have hv : 0 ≤ qval ρ c := by
        unfold qval
        split <;> omega
      generalize qval ρ c = y at q2 hv
      unfold qVS qK at h ⊢
      rcases h with h | ⟨h0, h2, h | h⟩
      · rw [h.2.1] at q2 ⊢
        rw [qput_n (by decide), qput_n (by decide), qput_n (by decide), qput_n (by decide), qput_e (by decide), h.1] at *
        unfold qmos at q2
        rw [if_pos rfl] at q2
        exact Or.inl ⟨rfl, h.2.1, h.2.2.1, h.2.2.2.1, by omega, by omega⟩
      · rw [h.1] at q2 ⊢
        rw [qput_n (show Int.toNat 0 ≠ Int.toNat (2 + 1) by decide), qput_n (show Int.toNat 1 ≠ Int.toNat (2 + 1) by decide), qput_n (show Int.toNat 2 ≠ Int.toNat (2 + 1) by decide), qput_n (show Int.toNat 4 ≠ Int.toNat (2 + 1) by decide), qput_e (show Int.toNat 3 = Int.toNat (2 + 1) by decide)]
        exact Or.inr ⟨h0, h2, Or.inl ⟨h.1, h.2.1, Or.inr (by omega)⟩⟩
      · rw [h.1] at q2 ⊢
        rw [qput_n (show Int.toNat 0 ≠ Int.toNat (2 + 2) by decide), qput_n (show Int.toNat 1 ≠ Int.toNat (2 + 2) by decide), qput_n (show Int.toNat 2 ≠ Int.toNat (2 + 2) by decide), qput_n (show Int.toNat 3 ≠ Int.toNat (2 + 2) by decide), qput_e (show Int.toNat 4 = Int.toNat (2 + 2) by decide)]
        have l2 : qles (ρ 0) 2 = 1 := rfl
        exact Or.inr ⟨h0, h2, Or.inr ⟨h.1, h.2.1, h.2.2.1, h.2.2.2.1, Or.inr (by omega)⟩⟩
  · rw [if_neg q1] at e
    by_cases q2 : ρ (2 + ρ 1) = -1
    · rw [if_pos q2] at e; cases e
    · rw [if_neg q2] at e
      by_cases q3 : ρ 0 = 0
      · rw [if_pos q3] at e
        by_cases q4 : c = 62 ∨ c = 37 ∨ c = 42 ∨ c = 33 ∨ c = 35
        · rw [if_pos q4] at e
          have e := (Option.some.inj e).symm
          subst e
          have z1 : ρ 1 = 0 := hp.2.2.2.mp q3
          rw [z1] at q2
          have q2' : ¬ ρ 2 = -1 := q2
          unfold qVS qK at h ⊢
          rw [qput_e (show Int.toNat 1 = Int.toNat 1 from rfl), qput_n (show Int.toNat 0 ≠ Int.toNat 1 by decide), qput_e (show Int.toNat 0 = Int.toNat 0 from rfl), qput_n (show Int.toNat 2 ≠ Int.toNat 1 by decide), qput_n (show Int.toNat 2 ≠ Int.toNat 0 by decide), qput_n (show Int.toNat 3 ≠ Int.toNat 1 by decide), qput_n (show Int.toNat 3 ≠ Int.toNat 0 by decide), qput_n (show Int.toNat 4 ≠ Int.toNat 1 by decide), qput_n (show Int.toNat 4 ≠ Int.toNat 0 by decide)]
          rcases h with h | ⟨h0, h2, h⟩
          · exact Or.inr ⟨q4, by omega, Or.inl ⟨rfl, h.2.2.2.1, Or.inl h.2.2.1⟩⟩
          · omega
        · rw [if_neg q4] at e; cases e
      · rw [if_neg q3] at e
        by_cases q4 : ρ 1 = qlp2 (ρ 0)
        · rw [if_pos q4] at e
          by_cases q5 : c = 59
          · rw [if_pos q5] at e
            have e := (Option.some.inj e).symm
            subst e
            exact qz0_VS
          · rw [if_neg q5] at e; cases e
        · rw [if_neg q4] at e
          by_cases q5 : c = 44
          · rw [if_pos q5] at e
            have e := (Option.some.inj e).symm
            subst e
            unfold qVS at h ⊢
            rw [qput_e (show Int.toNat 1 = Int.toNat 1 from rfl), qput_n (show Int.toNat 0 ≠ Int.toNat 1 by decide), qput_n (show Int.toNat 2 ≠ Int.toNat 1 by decide), qput_n (show Int.toNat 3 ≠ Int.toNat 1 by decide), qput_n (show Int.toNat 4 ≠ Int.toNat 1 by decide)]
            rcases h with h | ⟨h0, h2, h | h⟩
            · exact absurd h.1 q3
            · rw [h.1] at q2 q4
              have q2' : ¬ ρ 3 = -1 := q2
              have n1 : ¬ (ρ 0 = 42 ∨ ρ 0 = 33) := fun z => q4 (by unfold qlp2; rw [if_pos z])
              exact Or.inr ⟨h0, h2, Or.inr ⟨by omega, by omega, by omega, by omega, Or.inl h.2.1⟩⟩
            · exfalso
              apply q4
              unfold qlp2
              rw [if_neg (by omega)]
              exact h.1
          · rw [if_neg q5] at e; cases e
end QREAD
