section QREL
variable {g g' g1 g2 g3 g4 : zSt} {m b t x w k p u j a lo hi v M p1 p2 p3 p4 y : Int} {r r' re : Int → Int} {R : Nat → Int → Int} {c s d e N n : Nat}
/-- the class's side, the reference's side, the texts -/
def qCs (g : zSt) (n : Nat) (R : Nat → Int → Int) (r : Int → Int) : Prop := (qShip g 10 r ∧ qSv g 200 r) ∧ (qMade g 220 ∧ qMade g 240) ∧ qHc g n R
/-- what the class leaves, and what the reference leaves -/
def qfc (g g' : zSt) : Prop := (∀ c k : Nat, (400 ≤ c ∨ c = 0 ∨ c = 320) → g'.1 c k = g.1 c k) ∧ g'.2.2 = g.2.2
theorem qfc.rf : qfc g g := ⟨fun _ _ _ => rfl, rfl⟩
theorem qfc.tr (h : qfc g1 g2) (h' : qfc g2 g3) : qfc g1 g3 := ⟨fun c k a => (h'.1 c k a).trans (h.1 c k a), h'.2.trans h.2⟩
theorem qfc.of {P : Nat → Prop} (f : qfr P g g') (hP : ∀ q, P q → 0 < q ∧ q < 320) : qfc g g' := ⟨fun c k a => f.1 c k (fun z => by have := hP _ z; omega), by rw [f.2]⟩
theorem qSh.cg (h : qShip g c r) (hc : ∀ q k : Nat, c ≤ q → q < c + 15 → g'.1 q k = g.1 q k) : qShip g' c r := by
  have e : ∀ d k : Nat, d < 15 → g'.1 (c + d) k = g.1 (c + d) k := fun d k hd => hc _ _ (by omega) (by omega)
  have e0 : ∀ k : Nat, g'.1 c k = g.1 c k := fun k => e 0 k (by omega)
  unfold qShip at h ⊢
  simp only [e 1 _ (by omega), e 2 _ (by omega), e 3 _ (by omega), e 4 _ (by omega), e 5 _ (by omega), e 6 _ (by omega), e 7 _ (by omega), e 8 _ (by omega), e 9 _ (by omega), e 10 _ (by omega), e 11 _ (by omega), e 12 _ (by omega), e 13 _ (by omega), e 14 _ (by omega), e0]
  exact h
theorem qSv.cg (h : qSv g s r) (hc : ∀ q k : Nat, s ≤ q → q < s + 11 → g'.1 q k = g.1 q k) : qSv g' s r := by
  have e : ∀ d k : Nat, d < 11 → g'.1 (s + d) k = g.1 (s + d) k := fun d k hd => hc _ _ (by omega) (by omega)
  have e0 : ∀ k : Nat, g'.1 s k = g.1 s k := fun k => e 0 k (by omega)
  unfold qSv qFo at h ⊢
  simp only [e 1 _ (by omega), e 2 _ (by omega), e 3 _ (by omega), e 4 _ (by omega), e 5 _ (by omega), e 6 _ (by omega), e 7 _ (by omega), e 8 _ (by omega), e 9 _ (by omega), e 10 _ (by omega), e0]
  exact h
theorem qMade.cg (h : qMade g s) (hc : ∀ q k : Nat, s ≤ q → q < s + 11 → g'.1 q k = g.1 q k) : qMade g' s := by
  unfold qMade at h ⊢
  rw [hc (s + 1) _ (by omega) (by omega), hc (s + 3) _ (by omega) (by omega), hc (s + 4) _ (by omega) (by omega), hc (s + 4) _ (by omega) (by omega), hc (s + 5) _ (by omega) (by omega), hc (s + 5) _ (by omega) (by omega)]
  exact h
theorem qHc.cg (h : qHc g n R) (hc : ∀ q k : Nat, (50 ≤ q ∧ q < 170) ∨ q = 300 → g'.1 q k = g.1 q k) (h2 : g'.2.1 = g.2.1) : qHc g' n R := by
  unfold qHc
  rw [h2, hc 300 _ (by omega)]
  refine ⟨h.1, h.2.1, h.2.2.1, fun i hi => ?_⟩
  obtain ⟨j, hj, ej⟩ := h.2.1 i (by have := h.1.1; omega)
  have := h.2.2.2 i hi
  exact ⟨qSh.cg this.1 (fun q k a b => hc q k (by omega)), this.2⟩
theorem qCs.mf (h : qCs g n R r) (hc : ∀ c k : Nat, c < 400 → g'.1 c k = g.1 c k) (h2 : g'.2.1 = g.2.1) : qCs g' n R r := ⟨⟨qSh.cg h.1.1 (fun q k a b => hc _ _ (by omega)), h.1.2.cg (fun q k a b => hc _ _ (by omega))⟩, ⟨h.2.1.1.cg (fun q k a b => hc _ _ (by omega)), h.2.1.2.cg (fun q k a b => hc _ _ (by omega))⟩, h.2.2.cg (fun q k a => hc _ _ (by omega)) h2⟩
end QREL

