section QTOOLS
/-! Pure from here on: the reference's row as a function of whole numbers, the answers of both sides by it. -/
theorem i32in {a : Int} (h : -2147483648 ≤ a ∧ a < 2147483648) : (i32 a).toInt = a := by
  unfold i32
  exact Int32.toInt_ofInt_of_le (by omega) (by omega)
theorem i32lt {a b : Int} (ha : -2147483648 ≤ a ∧ a < 2147483648) (hb : -2147483648 ≤ b ∧ b < 2147483648) : (i32 a < i32 b) = (a < b) := by
  rw [Int32.lt_iff_toInt_lt, i32in ha, i32in hb]
theorem i32eq {a b : Int} (ha : -2147483648 ≤ a ∧ a < 2147483648) (hb : -2147483648 ≤ b ∧ b < 2147483648) : (i32 a = i32 b) = (a = b) := by
  rw [← Int32.toInt_inj, i32in ha, i32in hb]
theorem zck_t {β : Type} {c : Prop} [Decidable c] {k : Option β} (h : c) : zck c k = k := if_pos h
theorem zbd_s {α β : Type} {v : α} {k : α → Option β} : zbd (some v) k = k v := rfl
theorem zbe_s {α β : Type} {v : α} {s : zSt} {k : α → zSt → Option β} : zbe (some (v, s)) k = k v s := rfl
theorem zlet_e {α β : Type} {v : α} {f : α → β} : zlet v f = f v := rfl
def qbi (x : Bool) : Int := if x then 1 else 0
theorem qbi_t : qbi true = 1 := rfl
theorem qbi_f : qbi false = 0 := rfl
theorem qbi_r (x : Bool) : qbi x = 0 ∨ qbi x = 1 := by cases x <;> simp [qbi]
theorem qbi0 {x : Bool} : (i32 (qbi x) = i32 0) = (x = false) := by
  cases x
  · simp [qbi]
  · simp only [qbi, if_true, eq_iff_iff]; exact ⟨fun h => absurd h (by decide), fun h => by cases h⟩
theorem qbi1 {x : Bool} : (i32 (qbi x) = i32 1) = (x = true) := by
  cases x
  · simp only [qbi, eq_iff_iff]; exact ⟨fun h => absurd h (by decide), fun h => by cases h⟩
  · simp [qbi]
theorem ilt {α : Type} {a b : Int} {x y : α} (ha : -2147483648 ≤ a ∧ a < 2147483648) (hb : -2147483648 ≤ b ∧ b < 2147483648) : (if i32 a < i32 b then x else y) = if a < b then x else y := by simp only [i32lt ha hb]
theorem ieq {α : Type} {a b : Int} {x y : α} (ha : -2147483648 ≤ a ∧ a < 2147483648) (hb : -2147483648 ≤ b ∧ b < 2147483648) : (if i32 a = i32 b then x else y) = if a = b then x else y := by simp only [i32eq ha hb]
theorem ib0 {α : Type} {s : Bool} {x y : α} : (if i32 (qbi s) = i32 0 then x else y) = if s = true then y else x := by
  simp only [qbi0]
  cases s <;> rfl
theorem ib1 {α : Type} {s : Bool} {x y : α} : (if i32 (qbi s) = i32 1 then x else y) = if s = true then x else y := by
  simp only [qbi1]
theorem qck_b {x : Bool} {β : Type} {k : Option β} : zck (qbi x = 0 ∨ qbi x = 1) k = k := if_pos (qbi_r x)
theorem qck_0 {β : Type} {k : Option β} : zck ((0 : Int) = 0 ∨ (0 : Int) = 1) k = k := if_pos (Or.inl rfl)
theorem qck_1 {β : Type} {k : Option β} : zck ((1 : Int) = 0 ∨ (1 : Int) = 1) k = k := if_pos (Or.inr rfl)
/-- a row of numbers, read by whole numbers -/
def qr (g : zSt) : Int → Int := fun i => g.1 401 i.toNat
theorem qr_f {g : zSt} {i : Int} : g.1 401 (Int.toNat i) = qr g i := rfl
/-- a sum over the m numbers from lo on -/
def qsum (f : Int → Int) (lo : Int) : Nat → Int
  | 0 => 0
  | m + 1 => f lo + qsum f (lo + 1) m
theorem qsum_snoc (f : Int → Int) (m : Nat) : ∀ lo : Int, qsum f lo (m + 1) = qsum f lo m + f (lo + m) := by
  induction m with
  | zero => intro lo; simp [qsum]
  | succ m ih =>
    intro lo
    rw [qsum, ih, qsum]
    have : lo + 1 + (m : Int) = lo + ((m + 1 : Nat) : Int) := by omega
    rw [this]
    omega
theorem qsum_congr {f h : Int → Int} (m : Nat) : ∀ lo : Int, (∀ k, lo ≤ k → k < lo + m → f k = h k) → qsum f lo m = qsum h lo m := by
  induction m with
  | zero => intro lo _; rfl
  | succ m ih =>
    intro lo e
    rw [qsum, qsum, e lo (by omega) (by omega), ih (lo + 1) (fun k h1 h2 => e k (by omega) (by omega))]
theorem qsum_add (f h : Int → Int) (m : Nat) : ∀ lo : Int, qsum (fun k => f k + h k) lo m = qsum f lo m + qsum h lo m := by
  induction m with
  | zero => intro lo; rfl
  | succ m ih => intro lo; simp only [qsum, ih]; omega
theorem qsum_le {f : Int → Int} {b : Int} (m : Nat) : ∀ lo : Int, (∀ k, lo ≤ k → k < lo + m → 0 ≤ f k ∧ f k ≤ b) → 0 ≤ qsum f lo m ∧ qsum f lo m ≤ b * m := by
  induction m with
  | zero => intro lo _; simp [qsum]
  | succ m ih =>
    intro lo e
    have h1 := e lo (by omega) (by omega)
    have h2 := ih (lo + 1) (fun k h1 h2 => e k (by omega) (by omega))
    rw [qsum]
    have : b * ((m + 1 : Nat) : Int) = b * m + b := by
      rw [Int.natCast_add, Int.mul_add]
      simp
    omega
theorem qsum_zero {f : Int → Int} (m : Nat) (lo : Int) (h : ∀ k, lo ≤ k → k < lo + m → f k = 0) : qsum f lo m = 0 := by
  rw [qsum_congr (h := fun _ => 0) m lo h]
  have := qsum_le (f := fun _ => 0) (b := 0) m lo (fun k _ _ => by simp)
  omega
/-- what a box, a lantern, a fault has in a row -/
def qB (r : Int → Int) (b w : Int) : Int := r (1 + 7 * b + w)
def qL (r : Int → Int) (k w : Int) : Int := r (86 + 3 * k + w)
def qF (r : Int → Int) (k w : Int) : Int := r (135 + 3 * k + w)
def qBx (r : Int → Int) (b : Int) : Prop := (0 ≤ qB r b 0 ∧ qB r b 0 < b) ∧ (qB r b 1 = 0 ∨ qB r b 1 = 1) ∧ (qB r b 2 = 0 ∨ qB r b 2 = 1) ∧ (1 ≤ qB r b 3 ∧ qB r b 3 ≤ 60) ∧ (1 ≤ qB r b 4 ∧ qB r b 4 ≤ 60) ∧ (qB r b 5 = 0 ∨ qB r b 5 = 1) ∧ (qB r b 6 = 0 ∨ qB r b 6 = 1)
def qLn (r : Int → Int) (k : Int) : Prop := (0 ≤ qL r k 0 ∧ qL r k 0 < r 0) ∧ (1 ≤ qL r k 1 ∧ qL r k 1 ≤ 9) ∧ (qL r k 2 = 0 ∨ qL r k 2 = 1)
def qFt (r : Int → Int) (k : Int) : Prop := (0 ≤ qF r k 0 ∧ qF r k 0 < r 0) ∧ (qF r k 1 = 0 ∨ qF r k 1 = 1) ∧ (1 ≤ qF r k 2 ∧ qF r k 2 ≤ 30)
/-- a row as it may be, with at most m faults -/
def qRow (m : Int) (r : Int → Int) : Prop := (1 ≤ r 0 ∧ r 0 ≤ 12) ∧ (0 ≤ r 85 ∧ r 85 ≤ 16) ∧ (0 ≤ r 134 ∧ r 134 ≤ m ∧ m ≤ 9) ∧ (∀ b, 0 < b → b < r 0 → qBx r b) ∧ (∀ k, 0 ≤ k → k < r 85 → qLn r k) ∧ (∀ k, 0 ≤ k → k < r 134 → qFt r k) ∧ (0 ≤ r 162 ∧ r 162 ≤ 50) ∧ (0 ≤ r 164 ∧ r 164 ≤ 100000) ∧ (0 ≤ r 165 ∧ r 165 ≤ 144 * r 164) ∧ (0 ≤ r 166 ∧ r 166 ≤ 270 * r 164)
/-- the way up -/
def qdep (r : Int → Int) (b : Int) : Int := if h : 0 < b ∧ qB r b 0 < b then qdep r (qB r b 0) + 1 else 0
termination_by b.toNat
decreasing_by omega
def qab (r : Int → Int) (b t : Int) : Int := if qB r b 1 = 1 then 1 - t else t
def qpol (r : Int → Int) (b t : Int) : Int := if h : 0 < b ∧ qB r b 0 < b then qpol r (qB r b 0) (qab r b t) else t
termination_by b.toNat
decreasing_by omega
def qsw (r : Int → Int) (b : Int) : Bool := if h : 0 < b ∧ qB r b 0 < b then decide (qB r b 2 = 1) && qsw r (qB r b 0) else true
termination_by b.toNat
decreasing_by omega
def qwh (r : Int → Int) (b t : Int) : Bool := if h : 0 < b ∧ qB r b 0 < b then decide (qB r b (5 + t) = 0) && qwh r (qB r b 0) (qab r b t) else true
termination_by b.toNat
decreasing_by omega
/-- the first box of the way up that is not beyond x, and the terminal there -/
def qrs (r : Int → Int) (x : Int) (b : Int) : Int := if h : x < b ∧ 0 < b ∧ qB r b 0 < b then qrs r x (qB r b 0) else b
termination_by b.toNat
decreasing_by omega
def qrt (r : Int → Int) (x : Int) (b t : Int) : Int := if h : x < b ∧ 0 < b ∧ qB r b 0 < b then qrt r x (qB r b 0) (qab r b t) else t
termination_by b.toNat
decreasing_by omega
variable {r : Int → Int} {b t x : Int}
theorem qdep_0 (h : b ≤ 0) : qdep r b = 0 := by rw [qdep, dif_neg (by omega)]
theorem qdep_s (h : 0 < b ∧ qB r b 0 < b) : qdep r b = qdep r (qB r b 0) + 1 := by rw [qdep, dif_pos h]
theorem qpol_0 (h : b ≤ 0) : qpol r b t = t := by rw [qpol, dif_neg (by omega)]
theorem qpol_s (h : 0 < b ∧ qB r b 0 < b) : qpol r b t = qpol r (qB r b 0) (qab r b t) := by rw [qpol, dif_pos h]
theorem qsw_0 (h : b ≤ 0) : qsw r b = true := by rw [qsw, dif_neg (by omega)]
theorem qsw_s (h : 0 < b ∧ qB r b 0 < b) : qsw r b = (decide (qB r b 2 = 1) && qsw r (qB r b 0)) := by rw [qsw, dif_pos h]
theorem qwh_0 (h : b ≤ 0) : qwh r b t = true := by rw [qwh, dif_neg (by omega)]
theorem qwh_s (h : 0 < b ∧ qB r b 0 < b) : qwh r b t = (decide (qB r b (5 + t) = 0) && qwh r (qB r b 0) (qab r b t)) := by rw [qwh, dif_pos h]
theorem qrs_0 (h : b ≤ x) : qrs r x b = b := by rw [qrs, dif_neg (by omega)]
theorem qrs_s (h : x < b ∧ 0 < b ∧ qB r b 0 < b) : qrs r x b = qrs r x (qB r b 0) := by rw [qrs, dif_pos h]
theorem qrt_0 (h : b ≤ x) : qrt r x b t = t := by rw [qrt, dif_neg (by omega)]
theorem qrt_s (h : x < b ∧ 0 < b ∧ qB r b 0 < b) : qrt r x b t = qrt r x (qB r b 0) (qab r b t) := by rw [qrt, dif_pos h]
theorem qab_r (h : t = 0 ∨ t = 1) : qab r b t = 0 ∨ qab r b t = 1 := by
  unfold qab
  split <;> omega
end QTOOLS

