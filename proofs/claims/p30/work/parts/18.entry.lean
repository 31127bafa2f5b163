section ZSTART
set_option maxRecDepth 100000
variable {s : State} {args : Array Value}
theorem zst_K (hts : ∀ w ∈ lw_tbl, w.before args s = true) : ∃ (D : va_G) (cA : Nat → ClassId), va_K D zcl [(cA 0, .int), (cA 1, .boolean), (cA 2, .object RX5)] s := by
  have hG : ∀ w ∈ zG, w.before args s = true := fun w h => hts w ((List.mem_filter.mp h).1)
  obtain ⟨c0, i0, h0⟩ := u_known (C := RX0) (T := TX0) (N := 6) (n := 6) hG zin_X0 (hG _ zw_56)
  obtain ⟨c1, i1, h1⟩ := u_known (C := RX1) (T := TX1) (N := 4) (n := 4) hG zin_X1 (hG _ zw_121)
  obtain ⟨c2, i2, h2⟩ := u_known (C := RX2) (T := TX2) (N := 2) (n := 2) hG zin_X2 (hG _ zw_238)
  obtain ⟨c3, i3, h3⟩ := u_known (C := RX3) (T := TX3) (N := 4) (n := 4) hG zin_X3 (hG _ zw_94)
  obtain ⟨c4, i4, h4⟩ := u_known (C := RX4) (T := TX4) (N := 3) (n := 3) hG zin_X4 (hG _ zw_255)
  obtain ⟨c5, i5, h5⟩ := u_known (C := RX5) (T := TX5) (N := 8) (n := 8) hG zin_X5 (hG _ zw_50)
  obtain ⟨c6, i6, h6⟩ := u_known (C := RX6) (T := TX6) (N := 12) (n := 12) hG zin_X6 (hG _ zw_184)
  obtain ⟨c7, i7, h7⟩ := u_known (C := RX7) (T := TX7) (N := 9) (n := 9) hG zin_X7 (hG _ zw_42)
  obtain ⟨a0, ka0, co0, f0, g0, e0⟩ := Cond.arrayClass_spec (hG _ zw_91)
  obtain ⟨a1, ka1, co1, f1, g1, e1⟩ := Cond.arrayClass_spec (hG _ zw_92)
  have hao : va_AO RX5 s := va_AO.of (A := args) (hts _ (List.mem_of_getElem? (i := 244) rfl))
  obtain ⟨comp, a3, k3, q1, q2, q3, q4, q5⟩ := Cond.arrayOver_spec hao
  refine ⟨(fun k => match k with | 0 => c0 | 1 => c1 | 2 => c2 | 3 => c3 | 4 => c4 | 5 => c5 | 6 => c6 | _ => c7, fun k => match k with | 0 => i0 | 1 => i1 | 2 => i2 | 3 => i3 | 4 => i4 | 5 => i5 | 6 => i6 | _ => i7), fun k => match k with | 0 => a0 | 1 => a1 | _ => a3, ?_, ?_⟩
  · intro k q hq
    match k, hq with
    | 0, hq => cases hq; exact h0
    | 1, hq => cases hq; exact h1
    | 2, hq => cases hq; exact h2
    | 3, hq => cases hq; exact h3
    | 4, hq => cases hq; exact h4
    | 5, hq => cases hq; exact h5
    | 6, hq => cases hq; exact h6
    | 7, hq => cases hq; exact h7
    | k + 8, hq => simp [zcl] at hq
  · intro k q hq
    match k, hq with
    | 0, hq => cases hq; exact ⟨fun n z => ⟨fun k h => (by cases h), ka0, g0, co0, e0⟩, f0⟩
    | 1, hq => cases hq; exact ⟨fun n z => ⟨fun k h => (by cases h), ka1, g1, co1, e1⟩, f1⟩
    | 2, hq => cases hq; exact ⟨fun n z => ⟨fun k h => (by cases h), k3, q3, comp, q4⟩, ⟨k3, comp, q3, q4, q1, q5⟩⟩
    | k + 3, hq => simp at hq
theorem zst_C {Y : zLy} (hts : ∀ w ∈ lw_tbl, w.before args s = true) (hK : va_K Y.2.1 zcl (ztys Y) s) : zCk Y s := ⟨hK, List.forall_mem_cons.mpr ⟨va_Nw.of rfl (hts _ (List.mem_of_getElem? (i := 51) rfl)), List.forall_mem_cons.mpr ⟨va_Nw.of rfl (hts _ (List.mem_of_getElem? (i := 256) rfl)), List.forall_mem_cons.mpr ⟨va_Nw.of rfl (hts _ (List.mem_of_getElem? (i := 245) rfl)), List.forall_mem_cons.mpr ⟨va_Nw.of rfl (hts _ (List.mem_of_getElem? (i := 95) rfl)), List.forall_mem_cons.mpr ⟨va_Nw.of rfl (hts _ (List.mem_of_getElem? (i := 122) rfl)), fun _ h => nomatch h⟩⟩⟩⟩⟩, va_AO.of (A := args) (hts _ (List.mem_of_getElem? (i := 244) rfl))⟩
def zcells : List Nat := [0, 10, 11, 12, 13, 14, 15, 16, 17, 18, 19, 20, 21, 22, 23, 24, 200, 201, 202, 203, 204, 205, 206, 207, 208, 209, 210, 30, 31, 32, 33, 34, 35, 36, 37, 38, 39, 40, 41, 42, 43, 44, 220, 221, 222, 223, 224, 225, 226, 227, 228, 229, 230, 240, 241, 242, 243, 244, 245, 246, 247, 248, 249, 250, 300, 301, 50, 51, 52, 53, 54, 55, 56, 57, 58, 59, 60, 61, 62, 63, 64, 70, 71, 72, 73, 74, 75, 76, 77, 78, 79, 80, 81, 82, 83, 84, 90, 91, 92, 93, 94, 95, 96, 97, 98, 99, 100, 101, 102, 103, 104, 110, 111, 112, 113, 114, 115, 116, 117, 118, 119, 120, 121, 122, 123, 124, 130, 131, 132, 133, 134, 135, 136, 137, 138, 139, 140, 141, 142, 143, 144, 150, 151, 152, 153, 154, 155, 156, 157, 158, 159, 160, 161, 162, 163, 164, 310, 311, 320, 400, 401, 402, 403, 404, 405, 406]
def zoff (c : Nat) : Nat := if 10 ≤ c ∧ c < 170 then (if c < 30 then 1 + (c - 10) else if c < 50 then 27 + (c - 30) else 66 + 15 * ((c - 50) / 20) + (c - 50) % 20) else if 200 ≤ c ∧ c < 260 then (if c < 220 then 16 + (c - 200) else if c < 240 then 42 + (c - 220) else 53 + (c - 240)) else if c = 0 then 0 else if c = 300 then 64 else if c = 301 then 65 else if c < 320 then 156 + (c - 310) else if c = 320 then 158 else 159 + (c - 400)
def zYo (A : Nat) (D : va_G) (cA : Nat → ClassId) (b L : Nat) (xs : Nat → Int32) : zLy := (fun c => A + zoff c, D, cA, A, 0, b, L, xs)
theorem zoff_ok : ∀ c, c < 410 → zK c ≠ 0 → zoff c < 166 ∧ zcells.getD (zoff c) 0 = c := by decide +kernel
theorem zst_OK {A : Nat} {D : va_G} {cA : Nat → ClassId} {b L : Nat} {xs : Nat → Int32} (hK : va_K D zcl [(cA 0, .int), (cA 1, .boolean), (cA 2, .object RX5)] s) : zOK (zYo A D cA b L xs) s := by
  refine ⟨hK, fun c c' h h' e => ?_, fun c h => ?_⟩
  · have e : A + zoff c = A + zoff c' := e
    have e2 : zoff c = zoff c' := by omega
    rw [← (zoff_ok c (zV_0 rfl h) (zV_n h)).2, ← (zoff_ok c' (zV_0 rfl h') (zV_n h')).2, e2]
  · exact Nat.le_add_right A _
end ZSTART
