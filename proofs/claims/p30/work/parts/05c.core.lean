/-! The run's one world: every cell of class and reference that lives through the run, by a number of its own; what may change is a triple: numbers, the places of the saved ships, longs. -/
def i32 (x : Int) : Int32 := Int32.ofInt x
abbrev zSt : Type := (Nat → Nat → Int) × (Nat → Nat) × (Nat → Int64)
abbrev zLy : Type := (Nat → Nat) × va_G × (Nat → ClassId) × Nat × Nat × Nat × Nat × (Nat → Int32)
def zad (Y : zLy) (c : Nat) : Nat := Y.1 c
def zcA (Y : zLy) (k : Nat) : ClassId := Y.2.2.1 k
def zbs (Y : zLy) : Nat := Y.2.2.2.1
def zlv (Y : zLy) : Nat := Y.2.2.2.2.1
def zsb (Y : zLy) : Nat := Y.2.2.2.2.2.1
def zsL (Y : zLy) : Nat := Y.2.2.2.2.2.2.1
def zsx (Y : zLy) : Nat → Int32 := Y.2.2.2.2.2.2.2
def zA (Y : zLy) : Nat → Prop := fun q => zbs Y ≤ q
def ztys (Y : zLy) : List (ClassId × FieldType) := [(zcA Y 0, .int), (zcA Y 1, .boolean), (zcA Y 2, .object RX5)]
abbrev zcl : List vw_C := [(RX0, TX0, 6), (RX1, TX1, 4), (RX2, TX2, 2), (RX3, TX3, 4), (RX4, TX4, 3), (RX5, TX5, 8), (RX6, TX6, 12), (RX7, TX7, 9)]
/-- the kind of a cell: 0 none; 1 to 9 an object of class 0 to 8; 10 to 19 rows of ints; 20 to 29 of booleans; 30 of ships; 31 of longs -/
def zK (c : Nat) : Nat :=
  if 10 ≤ c ∧ c < 170 then [6, 1, 10, 20, 20, 11, 21, 4, 12, 12, 22, 2, 13, 13, 13].getD ((c - 10) % 20) 0
  else if 200 ≤ c ∧ c < 260 then [7, 10, 10, 20, 21, 11, 22, 13, 10, 11, 11].getD ((c - 200) % 20) 0
  else if c = 0 then 8 else if c = 300 then 3 else if c = 301 then 30 else if c = 310 then 5 else if c = 311 then 14 else if c = 320 then 15
  else if 400 ≤ c ∧ c < 407 then [16, 11, 17, 13, 18, 18, 19].getD (c - 400) 0 else if 410 ≤ c ∧ c < 413 then [18, 18, 19].getD (c - 410) 0 else if 420 ≤ c ∧ c < 426 then [16, 17, 13, 18, 18, 19].getD (c - 420) 0 else 0
/-- the kind of a cell, where it stands in the world -/
def zV (Y : zLy) (c : Nat) : Nat := if c < 410 ∨ (zlv Y = 1 ∧ c < 420) ∨ (zlv Y = 2 ∧ 420 ≤ c) then zK c else 0
def zlen (k : Nat) : Nat := match k with
  | 10 => 12 | 11 => 24 | 12 => 16 | 13 => 9 | 14 => 3 | 15 => 60 | 16 => 56 | 17 => 18 | 18 => 14 | 19 => 6 | 20 => 12 | 21 => 24 | 22 => 16 | _ => 0
def zsd (Y : zLy) (c : Nat) : Nat := if c < 410 then zad Y c else 0
theorem zsd_eq {Y : zLy} {c : Nat} (h : c < 410) : zsd Y c = zad Y c := if_pos h
/-- an object's fields -/
def zfs (Y : zLy) (σ : zSt) (c : Nat) (k : Nat) : List Value := match k with
  | 1 => [.int (i32 (σ.1 c 0)), .ref (zad Y (c + 1)), .ref (zad Y (c + 2)), .ref (zad Y (c + 3)), .ref (zad Y (c + 4)), .ref (zad Y (c + 5))]
  | 2 => [.int (i32 (σ.1 c 0)), .ref (zad Y (c + 1)), .ref (zad Y (c + 2)), .ref (zad Y (c + 3))]
  | 3 => [.int (i32 (σ.1 c 0)), .ref (zad Y (c + 1))]
  | 4 => [.int (i32 (σ.1 c 0)), .ref (zad Y (c + 1)), .ref (zad Y (c + 2)), .ref (zad Y (c + 3))]
  | 5 => [.ref (zad Y (c + 1)), .int (i32 (σ.1 c 1)), .int (i32 (σ.1 c 2))]
  | 6 => [.ref (zad Y (c + 1)), .ref (zad Y (c + 7)), .ref (zad Y (c + 11)), .int (i32 (σ.1 c 3)), .int (i32 (σ.1 c 4)), .int (i32 (σ.1 c 5)), .int (i32 (σ.1 c 6)), .int (i32 (σ.1 c 7))]
  | 7 => [.ref (zad Y (c + 1)), .ref (zad Y (c + 2)), .ref (zad Y (c + 3)), .ref (zad Y (c + 4)), .ref (zad Y (c + 5)), .ref (zad Y (c + 6)), .int (i32 (σ.1 c 6)), .int (i32 (σ.1 c 7)), .ref (zad Y (c + 7)), .ref (zad Y (c + 8)), .ref (zad Y (c + 9)), .ref (zad Y (c + 10))]
  | 8 => [.ref (zad Y 10), .ref (zad Y 200), .ref (zad Y 30), .ref (zad Y 220), .ref (zad Y 240), .ref (zad Y 300), .ref (zad Y 310), .ref (zad Y 320), .int (i32 (σ.1 c 8))]
  | _ => []
/-- a cell by its kind -/
def zce (Y : zLy) (σ : zSt) (c : Nat) (k : Nat) : va_E :=
  if k < 10 then .inr (k - 1, zfs Y σ c k) else if k < 20 then .inl (zcA Y 0, zlen k, .inl (fun j => i32 (σ.1 c j))) else if k < 30 then .inl (zcA Y 1, zlen k, .inl (fun j => i32 (σ.1 c j)))
  else if k = 30 then .inl (zcA Y 2, 6, .inr (.inr (.inr (.inr (fun j => some (zsd Y (σ.2.1 j))))))) else .inr (0, [])
/-- the heap holds the world -/
def zH (Y : zLy) (σ : zSt) (H : Heap) : Prop := ∀ c, zV Y c ≠ 0 → va_at Y.2.1 zcl (zad Y c, zce Y σ c (zV Y c)) H
def zOK (Y : zLy) (s : State) : Prop := va_K Y.2.1 zcl (ztys Y) s ∧ (∀ c c', zV Y c ≠ 0 → zV Y c' ≠ 0 → zad Y c = zad Y c' → c = c') ∧ ∀ c, zV Y c ≠ 0 → zA Y (zad Y c)
/-- the script stands beside -/
def zZ (Y : zLy) (U : State) (H : Heap) : Prop := (zsb Y < zbs Y ∧ zsL Y ≤ 260) ∧ va_X (zsb Y) (zsL Y) (zsx Y) U H
def zW (Y : zLy) (σ : zSt) (U : State) : Prop := zOK Y U ∧ zZ Y U U.heap ∧ zH Y σ U.heap
theorem zOK.moved {Y : zLy} {u U : State} (hvm : u.vm.Alike U.vm) (h : zOK Y u) : zOK Y U := ⟨va_K.moved hvm h.1, h.2⟩
theorem zX_lt {Y : zLy} {U : State} {H : Heap} (h : zZ Y U H) : zsb Y < H.size := by
  obtain ⟨-, scr, h1, -⟩ := h
  exact (Array.getElem?_eq_some_iff.mp h1).1
theorem zZ.kept {Y : zLy} {U : State} {H H1 : Heap} (h : zZ Y U H) (hq : ∀ a : Nat, a < H.size → ¬ zA Y a → H1[a]? = H[a]?) : zZ Y U H1 := ⟨h.1, va_X.kept h.2 (hq _ (zX_lt h) (Nat.not_le.mpr h.1.1))⟩
theorem zZ.same {Y : zLy} {u U : State} {H : Heap} (hv : U.vm = u.vm) (ha : u.vm.Alike U.vm) (h : zZ Y u H) : zZ Y U H := ⟨h.1, va_X.moved ha h.2⟩
theorem zZ.warm {Y : zLy} {s U : State} {H : Heap} (hW : s.WarmedH U.vm) (h : zZ Y s H) : zZ Y U H := ⟨h.1, va_X.moved hW.alike h.2⟩
theorem zW.blind {Y : zLy} {σ : zSt} {Pa : List Value} : FrameBlind (va_Pc Pa (zW Y σ)) := fun a U g mk q =>
  ⟨q.1, (zOK.moved (u := U) (U := U.calling g mk a) (Vm.Alike.refl U.vm) q.2.1), (zZ.same (u := U) (U := U.calling g mk a) rfl (Vm.Alike.refl U.vm) q.2.2.1), q.2.2.2⟩
/-- the state is changed -/
def zwr (σ : zSt) (c k : Nat) (v : Int) : zSt := (fun c' k' => if c' = c ∧ k' = k then v else σ.1 c' k', σ.2)
def zws (σ : zSt) (k r : Nat) : zSt := (σ.1, fun j => if j = k then r else σ.2.1 j, σ.2.2)
def zwl (σ : zSt) (k : Nat) (v : Int64) : zSt := (σ.1, σ.2.1, fun j => if j = k then v else σ.2.2 j)
/-- go on, where something holds -/
def zck {β : Type} (c : Prop) [Decidable c] (k : Option β) : Option β := if c then k else none
def zbd {α β : Type} (o : Option α) (k : α → Option β) : Option β := match o with
  | none => none
  | some a => k a
def zlet {α β : Type} (v : α) (f : α → β) : β := f v
def zbe {α β : Type} (o : Option (α × zSt)) (k : α → zSt → Option β) : Option β := match o with
  | none => none
  | some q => k q.1 q.2
theorem zck_pos {β : Type} {c : Prop} [Decidable c] {k : Option β} (h : c) : zck c k = k := if_pos h
theorem zbd_some {α β : Type} {o : Option α} {a : α} {k : α → Option β} (h : o = some a) : zbd o k = k a := by rw [h]; rfl
theorem zck_some {β : Type} {c : Prop} [Decidable c] {k : Option β} {r : β} (h : zck c k = some r) : c ∧ k = some r := by
  unfold zck at h
  split at h
  · exact ⟨by assumption, h⟩
  · cases h
theorem zbd_of {α β : Type} {o : Option α} {k : α → Option β} {r : β} (h : zbd o k = some r) : ∃ a, o = some a ∧ k a = some r := by
  cases o with
  | none => cases h
  | some a => exact ⟨a, rfl, h⟩
theorem zbe_some {α β : Type} {o : Option (α × zSt)} {a : α} {s : zSt} {k : α → zSt → Option β} (h : o = some (a, s)) : zbe o k = k a s := by rw [h]; rfl
theorem zbe_of {α β : Type} {o : Option (α × zSt)} {k : α → zSt → Option β} {r : β} (h : zbe o k = some r) : ∃ a s, o = some (a, s) ∧ k a s = some r := by
  cases o with
  | none => cases h
  | some a => exact ⟨a.1, a.2, rfl, h⟩
def zrm (d : Nat) : Room := { frames := d, cells := 0, slots := 0, locals := 40 * d }
def zrx (d : Nat) : Room := { frames := d, cells := 1, slots := 6, locals := 40 * d }
/-- what a walk holds of its method and its start -/
def zCx (Y : zLy) (p : Program) (s : State) (m : MethodId) (args : Array Value) (meth : Method) (c : Code) (own : String) (cc : ByteArray) (nl : Nat) (ret : Option FieldType) : Prop :=
  p.tables.exec = Jvm.exec ∧ c.code = cc ∧ c.maxLocals = nl ∧ meth.sig.returnType = ret ∧ meth.locks = false ∧ s.vm.findClass own = some m.cls ∧ (∀ w ∈ zG, w.before args s = true) ∧ zOK Y s ∧ zZ Y s s.heap
/-- from the program counter pc, wherever the function o has an answer, the machine comes to an end with it -/
def zWo {ρ : Type} (Y : zLy) (p : Program) (l : Launch) (e : Env) (R : Room) (s : State) (m : MethodId) (args : Array Value) (below : List Frame) (meth : Method) (c : Code) (nl k n : Nat) (kq : ρ → State → Prop) (σ : zSt) (lv : List (Nat × Value)) (st : List Value) (pc : Nat) (o : Option ρ) : Prop :=
  ∀ r, o = some r → ∀ (H : Heap) (locs : List Loc) (ls : Array Slot), zH Y σ H → va_S (zA Y) s.heap H locs → lv_has ls nl lv → W p l e R s m args below meth c H locs k n (kq r) (F0 m pc ls st)
