section QOPS7
variable {g g' g1 g2 g3 g4 : zSt} {m b t x w k p u j a lo hi v M p1 p2 p3 p4 y a1 a2 a3 a4 i : Int} {r r' re : Int → Int} {R : Nat → Int → Int} {c s d e N L n : Nat}
theorem k_lamp (hV : qSv g s r) (hR : qRow M r) (hp : p = 0 ∨ p = 1) : fX6_lampOf g s p = some (qlamp r p) := by
  have h1 := hR.1
  have z := hV.2.2.2.2.2 0 p (by omega) (by omega) hp
  rw [qlamp_e hR, show 2 * 0 + p = p by omega] at z
  unfold fX6_lampOf
  rw [zck_t (by omega), z]
end QOPS7

