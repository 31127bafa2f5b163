section QHASH
variable {g g' g1 g2 g3 g4 : zSt} {b t x w k p u j a lo hi v M y a1 a2 a3 a4 i : Int} {r r' re : Int → Int} {R : Nat → Int → Int} {c s d e N L m n : Nat} {h h0 : Int64}
/-- the share of what was lost -/
def qshv (r : Int → Int) : UInt64 := if r 165 + r 166 = 0 then FP.dconst0 else FP.ddiv (FP.i2d (i32 (r 166))) (FP.i2d (i32 (r 165 + r 166)))
theorem qsh_all (hR : qRow M r) (hne : r 165 + r 166 ≠ 0) : FP.dmul FP.dconst1 (FP.i2d (i32 (r 166))) = FP.i2d (i32 (r 166)) ∧ znb (FP.i2d (i32 (r 166))) = true ∧ znb (FP.ddiv (FP.i2d (i32 (r 166))) (FP.i2d (i32 (r 165 + r 166)))) = true ∧ zdc (FP.ddiv (FP.i2d (i32 (r 166))) (FP.i2d (i32 (r 165 + r 166)))) (FP.ddiv (FP.i2d (i32 (r 166))) (FP.i2d (i32 (r 165 + r 166)))) .l = 0 ∧ fX7_bitsOfShare g (FP.ddiv (FP.i2d (i32 (r 166))) (FP.i2d (i32 (r 165 + r 166)))) = some (FP.ddiv (FP.i2d (i32 (r 166))) (FP.i2d (i32 (r 165 + r 166)))).toInt64 := by
  have h4 := hR.2.2.2.2.2.2.2.1
  have h5 := hR.2.2.2.2.2.2.2.2.1
  have h6 := hR.2.2.2.2.2.2.2.2.2
  exact fp_share (by omega) (by omega)
theorem k_share2 (hS : qShip g 10 r) (hR : qRow M r) : fX7_lossShare g = some (qshv r) := by
  have z := hS.2.2.2.2.2
  have h4 := hR.2.2.2.2.2.2.2.1
  have h5 := hR.2.2.2.2.2.2.2.2.1
  have h6 := hR.2.2.2.2.2.2.2.2.2
  unfold fX7_lossShare qshv
  rw [z.2.2.2.1, z.2.2.2.2, zlet_e, ieq (by omega) (by omega)]
  by_cases q : r 165 + r 166 = 0
  · rw [if_pos q, if_pos q]
  · rw [if_neg q, if_neg q, zck_t (qsh_all (g := g) hR q).2.2.1]
theorem m_share2 (hR : qRow M (qr g)) : fX8_shareNow g = some (qshv (qr g)) := by
  have h4 := hR.2.2.2.2.2.2.2.1
  have h5 := hR.2.2.2.2.2.2.2.2.1
  have h6 := hR.2.2.2.2.2.2.2.2.2
  have e5 : g.1 401 (Int.toNat 165) = qr g 165 := rfl
  have e6 : g.1 401 (Int.toNat 166) = qr g 166 := rfl
  unfold fX8_shareNow qshv
  rw [zck_t (c := (0 : Int) ≤ 165 ∧ 165 < 168) (by omega), zck_t (c := (0 : Int) ≤ 166 ∧ 166 < 168) (by omega), e5, e6, zlet_e, ieq (by omega) (by omega)]
  by_cases q : qr g 165 + qr g 166 = 0
  · rw [if_pos q, if_pos q]
  · have z := qsh_all (g := g) hR q
    rw [if_neg q, if_neg q, zck_t (c := (0 : Int) ≤ 166 ∧ 166 < 168) (by omega), z.1, zck_t z.2.1, zck_t z.2.2.1]
theorem qshv_c (hR : qRow M r) : zdc (qshv r) (qshv r) .l = 0 := by
  unfold qshv
  by_cases q : r 165 + r 166 = 0
  · rw [if_pos q]
    decide
  · rw [if_neg q]
    exact (qsh_all (g := ((fun _ _ => 0), (fun _ => 0), (fun _ => 0))) hR q).2.2.2.1
theorem k_bits (hR : qRow M r) : fX7_bitsOfShare g (qshv r) = some (qshv r).toInt64 := by
  unfold qshv
  by_cases q : r 165 + r 166 = 0
  · rw [if_pos q]
    unfold fX7_bitsOfShare
    rw [show zdc FP.dconst0 FP.dconst0 .g = 0 by decide, ilt (by omega) (by omega), if_neg (by omega)]
    rfl
  · rw [if_neg q]
    exact (qsh_all hR q).2.2.2.2
theorem m_bits (hR : qRow M r) : fJxe99ae_doubleToLongBits_ccdee g (qshv r) = some (qshv r).toInt64 := by
  unfold fJxe99ae_doubleToLongBits_ccdee fJxe99ae_isNaN_b9ae7
  rw [qshv_c hR, if_pos rfl, qck_0, zbd_s, if_pos rfl]
theorem qRel.w0 (h : qRel g n R) : qRel (zwr g 400 0 v) n R := by
  have f : qfm g (zwr g 400 0 v) := qfm.wz (by decide)
  have e : qr (zwr g 400 0 v) = qr g := qr_oth (by decide)
  refine ⟨?_, ?_, ?_⟩
  · rw [e]; exact h.1.mf (fun c k q => f.1 c k q) rfl
  · rw [e]; exact ⟨e, h.2.1.2.1, h.2.1.2.2.cg (zwr_n (Or.inr (by decide))) (fun k => zwr_n (Or.inl (by decide)))⟩
  · exact h.2.2.cg (f.1 _ _ (by omega)) f.2.2.1 (fun k => f.1 _ _ (by omega)) f.2.1
theorem op_share (h : qRel g n R) : ∃ (u : UInt64) (g3 : zSt), fX7_lossShare g = some u ∧ fX8_lossShare g = some (u, g3) ∧ zdc u u .l = 0 ∧ qRel g3 n R := by
  have hR := h.2.1.2.1.1
  refine ⟨qshv (qr g), zwr g 400 0 0, k_share2 h.1.1.1 hR, ?_, qshv_c hR, h.w0⟩
  have e : qr (zwr g 400 0 0) = qr g := qr_oth (by decide)
  unfold fX8_lossShare
  rw [zlet_e, m_share2 (M := 8) (by rw [e]; exact hR), zbd_s, e]
/-- numbers hashed one after the other -/
def qh (h : Int64) (v : Int) : Int64 := ((31 : Int64) * h) + ((i32 v).toInt64)
def qhs (f : Int → Int) : Nat → Int → Int64 → Int64
  | 0, _, h => h
  | m + 1, lo, h => qhs f m (lo + 1) (qh h (f lo))
def qhN (F : Int → Int → Int) (w : Nat) : Nat → Int → Int64 → Int64
  | 0, _, h => h
  | m + 1, k, h => qhN F w m (k + 1) (qhs (F k) w 0 h)
theorem qhs_cg {f f' : Int → Int} : ∀ (m : Nat) (lo lo' : Int) (h : Int64), (∀ i : Int, 0 ≤ i → i < m → f (lo + i) = f' (lo' + i)) → qhs f m lo h = qhs f' m lo' h := by
  intro m
  induction m with
  | zero => intro lo lo' h _; rfl
  | succ m ih =>
    intro lo lo' h e
    have e0 := e 0 (by omega) (by omega)
    rw [Int.add_zero, Int.add_zero] at e0
    rw [qhs, qhs, e0]
    refine ih _ _ _ (fun i i0 i1 => ?_)
    have := e (i + 1) (by omega) (by omega)
    rw [show lo + 1 + i = lo + (i + 1) by omega, show lo' + 1 + i = lo' + (i + 1) by omega]
    exact this
theorem qhs_app {f : Int → Int} : ∀ (m m2 : Nat) (lo : Int) (h : Int64), qhs f (m + m2) lo h = qhs f m2 (lo + m) (qhs f m lo h) := by
  intro m
  induction m with
  | zero => intro m2 lo h; rw [Nat.zero_add, qhs, show lo + ((0 : Nat) : Int) = lo by omega]
  | succ m ih =>
    intro m2 lo h
    rw [show m + 1 + m2 = (m + m2) + 1 by omega, qhs, qhs, ih, show lo + 1 + (m : Int) = lo + ((m + 1 : Nat) : Int) by omega]
theorem qhN_flat {f : Int → Int} {F : Int → Int → Int} {w : Nat} (hf : ∀ k i : Int, 0 ≤ k → 0 ≤ i → i < w → f (w * k + i) = F k i) : ∀ (m : Nat) (k : Int) (h : Int64), 0 ≤ k → qhs f (w * m) (w * k) h = qhN F w m k h := by
  intro m
  induction m with
  | zero => intro k h _; rfl
  | succ m ih =>
    intro k h k0
    rw [Nat.mul_add, Nat.mul_one, Nat.add_comm, qhs_app, qhN, show (w : Int) * k + (w : Int) = w * (k + 1) by rw [Int.mul_add, Int.mul_one], ih (k + 1) _ (by omega)]
    congr 1
    exact qhs_cg w _ _ h (fun i i0 i1 => by rw [hf k i k0 i0 i1, Int.zero_add])
def qhb (r : Int → Int) (b : Int) (h : Int64) : Int64 := qhs (qtp r b 1) 6 0 (qhs (qtp r b 0) 6 0 (qhs (qbp r b) 7 0 h))
def qhB (r : Int → Int) : Nat → Int → Int64 → Int64
  | 0, _, h => h
  | m + 1, b, h => qhB r m (b + 1) (qhb r b h)
def qhP (r : Int → Int) (h : Int64) : Int64 := qh (qh (qh (qh h (qlamp r 0)) (qloc r 0)) (qlamp r 1)) (qloc r 1)
def qht (r : Int → Int) (b : Int) (h : Int64) : Int64 := qh (qh (qh h (qburn (qset 24 (qtn r b 2) 0).1)) (qcur (qwr r) b 0)) (qcur (qwr r) b 1)
def qhT (r : Int → Int) : Nat → Int → Int64 → Int64
  | 0, _, h => h
  | m + 1, b, h => qhT r m (b + 1) (qht r b h)
/-- the digest of a row, n saved states and a text T of l signs -/
def qdig (r : Int → Int) (n : Int) (T : Int → Int) (l : Int) : Int64 :=
  qhs T l.toNat 0 (qh ((31 : Int64) * (qhT r (r 0 - 1).toNat 1 (qhP r (qhN (qfq r) 5 (r 134).toNat 0 (qhN (qlp r) 4 (r 85).toNat 0 (qhB r (r 0).toNat 0 (qhs (qco r n) 12 0 2141)))))) + (qshv r).toInt64) l)
/-- a loop that hashes, in the class -/
theorem q_hash {β : Type} {L : Nat → Int64 → Int → Option β} {F : Int64 → Option β} {f : Int → Int} (hs : ∀ fu h k, lo ≤ k → k < hi → L (fu + 1) h k = L fu (qh h (f k)) (k + 1)) (he : ∀ fu h, L (fu + 1) h hi = F h) : ∀ (fu : Nat) (k : Int) (h : Int64), lo ≤ k → k ≤ hi → (hi - k).toNat < fu → L fu h k = F (qhs f (hi - k).toNat k h) := by
  intro fu
  induction fu with
  | zero => intro k h _ _ z; omega
  | succ fu ih =>
    intro k h h0 h1 hf
    by_cases q : k = hi
    · subst q
      rw [he, show (k - k).toNat = 0 by omega]
      rfl
    · rw [hs fu h k h0 (by omega), ih (k + 1) _ (by omega) (by omega) (by omega), show (hi - k).toNat = (hi - (k + 1)).toNat + 1 by omega, qhs]
theorem k_hBx (hS : qShip g 10 r) (hV : qSv g 200 r) (hR : qRow M r) : fX7_hashBoxes g h = some (qhB r (r 0).toNat 0 h) := by
  have h1 := hR.1
  have e0 : g.1 11 0 = r 0 := hS.1.1
  have k6 : ∀ (K5 : Int64 → Int → Option Int64) (K55 : Int64 → Int → Int → Option Int64) (b t : Int) (h : Int64), 0 ≤ b → b < r 0 → (t = 0 ∨ t = 1) → fX7_hashBoxes_p64 g K5 K55 zfu h b t 0 = K55 (qhs (qtp r b t) 6 0 h) b (t + 1) := by
    intro K5 K55 b t h b0 b1 ht
    refine q_hash (L := fun fu h k => fX7_hashBoxes_p64 g K5 K55 fu h b t k) (lo := 0) (hi := 6) (F := fun h => K55 h b (t + 1)) (fun fu h k k0 k1 => ?_) (fun fu h => ?_) zfu 0 h (by omega) (by omega) (by unfold zfu; omega)
    · show fX7_hashBoxes_p64 g K5 K55 (fu + 1) h b t k = _
      rw [fX7_hashBoxes_p64, ilt (by omega) (by omega), if_pos k1, k_terP hS hV hR ⟨b0, b1⟩ ht ⟨k0, by omega⟩, zbd_s, zlet_e]
      rfl
    · show fX7_hashBoxes_p64 g K5 K55 (fu + 1) h b t 6 = _
      rw [fX7_hashBoxes_p64, ilt (by omega) (by omega), if_neg (by omega)]
  have k55 : ∀ (K5 : Int64 → Int → Option Int64) (b : Int) (h : Int64), 0 ≤ b → b < r 0 → fX7_hashBoxes_p55 g K5 zfu h b 0 = K5 (qhs (qtp r b 1) 6 0 (qhs (qtp r b 0) 6 0 h)) (b + 1) := by
    intro K5 b h b0 b1
    rw [show zfu = 1997 + 1 + 1 + 1 from rfl, fX7_hashBoxes_p55, ilt (by omega) (by omega), if_pos (by omega), k6 _ _ b 0 h b0 b1 (Or.inl rfl), fX7_hashBoxes_p55, ilt (by omega) (by omega), if_pos (by omega), show (0 : Int) + 1 = 1 from rfl, k6 _ _ b 1 _ b0 b1 (Or.inr rfl), fX7_hashBoxes_p55, ilt (by omega) (by omega), if_neg (by omega)]
  have k23 : ∀ (K5 : Int64 → Int → Option Int64) (b : Int) (h : Int64), 0 ≤ b → b < r 0 → fX7_hashBoxes_p23 g K5 zfu h b 0 = K5 (qhb r b h) (b + 1) := by
    intro K5 b h b0 b1
    have z := q_hash (L := fun fu h k => fX7_hashBoxes_p23 g K5 fu h b k) (lo := 0) (hi := 7) (f := qbp r b) (F := fun h => fX7_hashBoxes_p55 g K5 zfu h b 0) (fun fu h k k0 k1 => by
      show fX7_hashBoxes_p23 g K5 (fu + 1) h b k = _
      rw [fX7_hashBoxes_p23, ilt (by omega) (by omega), if_pos k1, k_boxP hS hV hR ⟨b0, b1⟩ ⟨k0, by omega⟩, zbd_s, zlet_e]
      rfl) (fun fu h => by
      show fX7_hashBoxes_p23 g K5 (fu + 1) h b 7 = _
      rw [fX7_hashBoxes_p23, ilt (by omega) (by omega), if_neg (by omega)]) zfu 0 h (by omega) (by omega) (by unfold zfu; omega)
    refine z.trans ?_
    rw [k55 K5 b _ b0 b1]
    rfl
  have key : ∀ (fu : Nat) (b : Int) (h : Int64), 0 ≤ b → b ≤ r 0 → (r 0 - b).toNat < fu → fX7_hashBoxes_p5 g fu h b = some (qhB r (r 0 - b).toNat b h) := by
    intro fu
    induction fu with
    | zero => intro b h _ _ z; omega
    | succ fu ih =>
      intro b h b0 b1 hf
      rw [fX7_hashBoxes_p5, e0, ilt (by omega) (by omega)]
      by_cases q : b < r 0
      · rw [if_pos q, k23 _ b h b0 q, ih (b + 1) _ (by omega) (by omega) (by omega), show (r 0 - b).toNat = (r 0 - (b + 1)).toNat + 1 by omega, qhB]
      · rw [if_neg q, show (r 0 - b).toNat = 0 by omega]
        rfl
  unfold fX7_hashBoxes
  rw [key zfu 0 h (by omega) (by omega) (by unfold zfu; omega), show (r 0 - 0).toNat = (r 0).toNat by omega]
theorem k_hLF (hS : qShip g 10 r) (hV : qSv g 200 r) (hR : qRow M r) : fX7_hashLanternsAndFaults g h = some (qhN (qfq r) 5 (r 134).toNat 0 (qhN (qlp r) 4 (r 85).toNat 0 h)) := by
  have h2 := hR.2.1
  have h3 := hR.2.2.1
  have e0 : g.1 17 0 = r 85 := hS.2.2.2.1.1
  have e1 : g.1 21 0 = r 134 := hS.2.2.2.2.1.1
  have k23 : ∀ (K5 : Int64 → Int → Option Int64) (b : Int) (h : Int64), 0 ≤ b → b < r 85 → fX7_hashLanternsAndFaults_p23 g K5 zfu h b 0 = K5 (qhs (qlp r b) 4 0 h) (b + 1) := by
    intro K5 b h b0 b1
    exact q_hash (L := fun fu h k => fX7_hashLanternsAndFaults_p23 g K5 fu h b k) (lo := 0) (hi := 4) (f := qlp r b) (F := fun h => K5 h (b + 1)) (fun fu h k k0 k1 => by
      show fX7_hashLanternsAndFaults_p23 g K5 (fu + 1) h b k = _
      rw [fX7_hashLanternsAndFaults_p23, ilt (by omega) (by omega), if_pos k1, k_lanP hS hV hR ⟨b0, b1⟩ ⟨k0, by omega⟩, zbd_s, zlet_e]
      rfl) (fun fu h => by
      show fX7_hashLanternsAndFaults_p23 g K5 (fu + 1) h b 4 = _
      rw [fX7_hashLanternsAndFaults_p23, ilt (by omega) (by omega), if_neg (by omega)]) zfu 0 h (by omega) (by omega) (by unfold zfu; omega)
  have k78 : ∀ (K5 : Int64 → Int → Option Int64) (b : Int) (h : Int64), 0 ≤ b → b < r 134 → fX7_hashLanternsAndFaults_p78 g K5 zfu h b 0 = K5 (qhs (qfq r b) 5 0 h) (b + 1) := by
    intro K5 b h b0 b1
    exact q_hash (L := fun fu h k => fX7_hashLanternsAndFaults_p78 g K5 fu h b k) (lo := 0) (hi := 5) (f := qfq r b) (F := fun h => K5 h (b + 1)) (fun fu h k k0 k1 => by
      show fX7_hashLanternsAndFaults_p78 g K5 (fu + 1) h b k = _
      rw [fX7_hashLanternsAndFaults_p78, ilt (by omega) (by omega), if_pos k1, k_fauP hS hV hR ⟨b0, b1⟩ ⟨k0, by omega⟩, zbd_s, zlet_e]
      rfl) (fun fu h => by
      show fX7_hashLanternsAndFaults_p78 g K5 (fu + 1) h b 5 = _
      rw [fX7_hashLanternsAndFaults_p78, ilt (by omega) (by omega), if_neg (by omega)]) zfu 0 h (by omega) (by omega) (by unfold zfu; omega)
  have key2 : ∀ (fu : Nat) (b : Int) (h : Int64), 0 ≤ b → b ≤ r 134 → (r 134 - b).toNat < fu → fX7_hashLanternsAndFaults_p60 g fu h b = some (qhN (qfq r) 5 (r 134 - b).toNat b h) := by
    intro fu
    induction fu with
    | zero => intro b h _ _ z; omega
    | succ fu ih =>
      intro b h b0 b1 hf
      rw [fX7_hashLanternsAndFaults_p60, e1, ilt (by omega) (by omega)]
      by_cases q : b < r 134
      · rw [if_pos q, k78 _ b h b0 q, ih (b + 1) _ (by omega) (by omega) (by omega), show (r 134 - b).toNat = (r 134 - (b + 1)).toNat + 1 by omega, qhN]
      · rw [if_neg q, show (r 134 - b).toNat = 0 by omega]
        rfl
  have key1 : ∀ (fu : Nat) (b : Int) (h : Int64), 0 ≤ b → b ≤ r 85 → (r 85 - b).toNat < fu → fX7_hashLanternsAndFaults_p5 g fu h b = some (qhN (qfq r) 5 (r 134).toNat 0 (qhN (qlp r) 4 (r 85 - b).toNat b h)) := by
    intro fu
    induction fu with
    | zero => intro b h _ _ z; omega
    | succ fu ih =>
      intro b h b0 b1 hf
      rw [fX7_hashLanternsAndFaults_p5, e0, ilt (by omega) (by omega)]
      by_cases q : b < r 85
      · rw [if_pos q, k23 _ b h b0 q, ih (b + 1) _ (by omega) (by omega) (by omega), show (r 85 - b).toNat = (r 85 - (b + 1)).toNat + 1 by omega, qhN]
      · rw [if_neg q, show (r 85 - b).toNat = 0 by omega, key2 zfu 0 _ (by omega) (by omega) (by unfold zfu; omega), show (r 134 - 0).toNat = (r 134).toNat by omega]
        rfl
  unfold fX7_hashLanternsAndFaults
  rw [key1 zfu 0 h (by omega) (by omega) (by unfold zfu; omega), show (r 85 - 0).toNat = (r 85).toNat by omega]
end QHASH
