section QOPS2
variable {g g' g1 g2 g3 g4 : zSt} {m b t x w k p u j a lo hi v M p1 p2 p3 p4 y a1 a2 a3 a4 : Int} {r r' re : Int → Int} {R : Nat → Int → Int} {c s d e N n L : Nat}
theorem c_cnt (h : qCs g n R r) (hR : qRow 8 r) (hs : qsame r r') (f : qfr (fun q => q = 10) g g') (hi : g'.1 10 3 = r' 162 ∧ g'.1 10 4 = r' 163 ∧ g'.1 10 5 = r' 164 ∧ g'.1 10 6 = r' 165 ∧ g'.1 10 7 = r' 166) : qCs g' n R r' := ⟨⟨h.1.1.cnt hR hs f hi, (h.1.2.kept f (fun q a b => by omega)).same hR hs⟩, ⟨h.2.1.1.cg (fun q k a b => f.1 _ _ (by omega)), h.2.1.2.cg (fun q k a b => f.1 _ _ (by omega))⟩, h.2.2.kept f (fun q z => by omega)⟩
theorem qsame_put (hi : 162 ≤ lo) : qsame r (qput r lo v) := fun j j0 j1 => qput_n (by omega)
theorem qdrawn_e (hR : qRow M r) : qsum (qun r 0) 0 (r 85).toNat = qdrawn r := by
  unfold qdrawn
  refine qsum_congr _ _ (fun k a b => ?_)
  have hx := (hR.2.2.2.2.1 k a (by omega)).1
  unfold qun
  rw [qrs0 hR hx]
  by_cases q : qdk r k = 0
  · rw [if_pos ⟨q, rfl⟩, if_pos q]
  · rw [if_neg (fun z => q z.1), if_neg q]
theorem qdrawn_r (hR : qRow M r) : 0 ≤ qdrawn r ∧ qdrawn r ≤ 144 := by
  have h2 := hR.2.1
  have := qsum_le (f := fun k => if qdk r k = 0 then qL r k 1 else 0) (b := 9) (r 85).toNat 0 (fun k a b => by
    have hx := (hR.2.2.2.2.1 k a (by omega)).2.1
    show 0 ≤ (if qdk r k = 0 then qL r k 1 else 0) ∧ (if qdk r k = 0 then qL r k 1 else 0) ≤ 9
    split <;> omega)
  unfold qdrawn
  omega
end QOPS2

