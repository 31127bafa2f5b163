section ZSTART
set_option maxRecDepth 100000
variable {s : State} {args : Array Value}
theorem zst_K (hts : ∀ w ∈ lw_tbl, w.before args s = true) : ∃ (D : va_G) (cA : Nat → ClassId), va_K D zcl [(cA 0, .int), (cA 1, .boolean), (cA 2, .long), (cA 3, .object RX5)] s := by
  have hG : ∀ w ∈ zG, w.before args s = true := fun w h => hts w ((List.mem_filter.mp h).1)
  obtain ⟨c0, i0, h0⟩ := u_known (C := RX0) (T := TX0) (N := 6) (n := 6) hG zin_X0 (hG _ zw_133)
  obtain ⟨c1, i1, h1⟩ := u_known (C := RX1) (T := TX1) (N := 4) (n := 4) hG zin_X1 (hG _ zw_198)
  obtain ⟨c2, i2, h2⟩ := u_known (C := RX2) (T := TX2) (N := 2) (n := 2) hG zin_X2 (hG _ zw_315)
  obtain ⟨c3, i3, h3⟩ := u_known (C := RX3) (T := TX3) (N := 4) (n := 4) hG zin_X3 (hG _ zw_171)
  obtain ⟨c4, i4, h4⟩ := u_known (C := RX4) (T := TX4) (N := 3) (n := 3) hG zin_X4 (hG _ zw_332)
  obtain ⟨c5, i5, h5⟩ := u_known (C := RX5) (T := TX5) (N := 8) (n := 8) hG zin_X5 (hG _ zw_127)
  obtain ⟨c6, i6, h6⟩ := u_known (C := RX6) (T := TX6) (N := 12) (n := 12) hG zin_X6 (hG _ zw_261)
  obtain ⟨c7, i7, h7⟩ := u_known (C := RX7) (T := TX7) (N := 9) (n := 9) hG zin_X7 (hG _ zw_119)
  obtain ⟨c8, i8, h8⟩ := u_known (C := RX8) (T := TX8) (N := 15) (n := 15) hG zin_X8 (hG _ zw_961)
  obtain ⟨a0, ka0, co0, f0, g0, e0⟩ := Cond.arrayClass_spec (hG _ zw_168)
  obtain ⟨a1, ka1, co1, f1, g1, e1⟩ := Cond.arrayClass_spec (hG _ zw_169)
  obtain ⟨a2, ka2, co2, f2, g2, e2⟩ := Cond.arrayClass_spec (hG _ zw_1394)
  have hao : va_AO RX5 s := va_AO.of (A := args) (hts _ (List.mem_of_getElem? (i := 321) rfl))
  obtain ⟨comp, a3, k3, q1, q2, q3, q4, q5⟩ := Cond.arrayOver_spec hao
  refine ⟨(fun k => match k with | 0 => c0 | 1 => c1 | 2 => c2 | 3 => c3 | 4 => c4 | 5 => c5 | 6 => c6 | 7 => c7 | _ => c8, fun k => match k with | 0 => i0 | 1 => i1 | 2 => i2 | 3 => i3 | 4 => i4 | 5 => i5 | 6 => i6 | 7 => i7 | _ => i8), fun k => match k with | 0 => a0 | 1 => a1 | 2 => a2 | _ => a3, ?_, ?_⟩
  · intro k q hq
    match k, hq with
    | 0, hq => cases hq; exact h0
    | 1, hq => cases hq; exact h1
    | 2, hq => cases hq; exact h2
    | 3, hq => cases hq; exact h3
    | 4, hq => cases hq; exact h4
    | 5, hq => cases hq; exact h5
    | 6, hq => cases hq; exact h6
    | 7, hq => cases hq; exact h7
    | 8, hq => cases hq; exact h8
    | k + 9, hq => simp [zcl] at hq
  · intro k q hq
    match k, hq with
    | 0, hq => cases hq; exact ⟨fun n z => ⟨fun k h => (by cases h), ka0, g0, co0, e0⟩, f0⟩
    | 1, hq => cases hq; exact ⟨fun n z => ⟨fun k h => (by cases h), ka1, g1, co1, e1⟩, f1⟩
    | 2, hq => cases hq; exact ⟨fun n z => ⟨fun k h => (by cases h), ka2, g2, co2, e2⟩, f2⟩
    | 3, hq => cases hq; exact ⟨fun n z => ⟨fun k h => (by cases h), k3, q3, comp, q4⟩, ⟨k3, comp, q3, q4, q1, q5⟩⟩
    | k + 4, hq => simp at hq
theorem zst_s {own tx : String} {k cC : Nat} (hk : s.vm.findClass own = some cC) (h : (Cond.stringRef own k tx).before args s = true) : ∃ a, vk_R own k tx a s := by
  obtain ⟨x1, x2, x3, a, -, -, -, -, -, hev⟩ := Cond.stringRef_spec hk h
  exact ⟨a, vk_R.of (A := args) h hev⟩
theorem zst_Z {Y : zLy} (hts : ∀ w ∈ lw_tbl, w.before args s = true) (hgv : (Jvm.Cond.and given_1 narrow_1).before args s = true) (hA : ∀ a : Nat, a < s.heap.size → ¬ zA Y a) {cC : Nat} (hk : s.vm.findClass "ShipLanterns" = some cC) : zZ Y s s.heap := by
  have hs := flat_of_before _ hgv
  refine ⟨vx_Zqof (hts _ (List.mem_of_getElem? (i := 632) rfl)) (hts _ (List.mem_of_getElem? (i := 110) rfl)) (hs _ (by decide +kernel)) hA, vx_Zqof (hts _ (List.mem_of_getElem? (i := 634) rfl)) (hts _ (List.mem_of_getElem? (i := 110) rfl)) (hs _ (by decide +kernel)) hA, List.forall_mem_cons.mpr ⟨zst_s hk (hts _ (List.mem_of_getElem? (i := 646) rfl)), List.forall_mem_cons.mpr ⟨zst_s hk (hts _ (List.mem_of_getElem? (i := 685) rfl)), List.forall_mem_cons.mpr ⟨zst_s hk (hts _ (List.mem_of_getElem? (i := 701) rfl)), List.forall_mem_cons.mpr ⟨zst_s hk (hts _ (List.mem_of_getElem? (i := 732) rfl)), List.forall_mem_cons.mpr ⟨zst_s hk (hts _ (List.mem_of_getElem? (i := 750) rfl)), List.forall_mem_cons.mpr ⟨zst_s hk (hts _ (List.mem_of_getElem? (i := 751) rfl)), List.forall_mem_cons.mpr ⟨zst_s hk (hts _ (List.mem_of_getElem? (i := 759) rfl)), List.forall_mem_cons.mpr ⟨zst_s hk (hts _ (List.mem_of_getElem? (i := 760) rfl)), List.forall_mem_cons.mpr ⟨zst_s hk (hts _ (List.mem_of_getElem? (i := 768) rfl)), List.forall_mem_cons.mpr ⟨zst_s hk (hts _ (List.mem_of_getElem? (i := 769) rfl)), List.forall_mem_cons.mpr ⟨zst_s hk (hts _ (List.mem_of_getElem? (i := 770) rfl)), List.forall_mem_cons.mpr ⟨zst_s hk (hts _ (List.mem_of_getElem? (i := 786) rfl)), List.forall_mem_cons.mpr ⟨zst_s hk (hts _ (List.mem_of_getElem? (i := 798) rfl)), List.forall_mem_cons.mpr ⟨zst_s hk (hts _ (List.mem_of_getElem? (i := 802) rfl)), List.forall_mem_cons.mpr ⟨zst_s hk (hts _ (List.mem_of_getElem? (i := 803) rfl)), List.forall_mem_cons.mpr ⟨zst_s hk (hts _ (List.mem_of_getElem? (i := 819) rfl)), List.forall_mem_cons.mpr ⟨zst_s hk (hts _ (List.mem_of_getElem? (i := 831) rfl)), List.forall_mem_cons.mpr ⟨zst_s hk (hts _ (List.mem_of_getElem? (i := 833) rfl)), List.forall_mem_cons.mpr ⟨zst_s hk (hts _ (List.mem_of_getElem? (i := 841) rfl)), List.forall_mem_cons.mpr ⟨zst_s hk (hts _ (List.mem_of_getElem? (i := 842) rfl)), List.forall_mem_cons.mpr ⟨zst_s hk (hts _ (List.mem_of_getElem? (i := 854) rfl)), List.forall_mem_cons.mpr ⟨zst_s hk (hts _ (List.mem_of_getElem? (i := 875) rfl)), List.forall_mem_cons.mpr ⟨zst_s hk (hts _ (List.mem_of_getElem? (i := 887) rfl)), List.forall_mem_cons.mpr ⟨zst_s hk (hts _ (List.mem_of_getElem? (i := 895) rfl)), List.forall_mem_cons.mpr ⟨zst_s hk (hts _ (List.mem_of_getElem? (i := 903) rfl)), List.forall_mem_cons.mpr ⟨zst_s hk (hts _ (List.mem_of_getElem? (i := 911) rfl)), List.forall_mem_cons.mpr ⟨zst_s hk (hts _ (List.mem_of_getElem? (i := 919) rfl)), List.forall_mem_cons.mpr ⟨zst_s hk (hts _ (List.mem_of_getElem? (i := 930) rfl)), List.forall_mem_cons.mpr ⟨zst_s hk (hts _ (List.mem_of_getElem? (i := 945) rfl)), fun _ h => nomatch h⟩⟩⟩⟩⟩⟩⟩⟩⟩⟩⟩⟩⟩⟩⟩⟩⟩⟩⟩⟩⟩⟩⟩⟩⟩⟩⟩⟩⟩, List.forall_mem_cons.mpr ⟨va_Nw.of rfl (hts _ (List.mem_of_getElem? (i := 607) rfl)), List.forall_mem_cons.mpr ⟨va_Nw.of rfl (hts _ (List.mem_of_getElem? (i := 678) rfl)), List.forall_mem_cons.mpr ⟨va_Nw.of rfl (hts _ (List.mem_of_getElem? (i := 694) rfl)), List.forall_mem_cons.mpr ⟨va_Nw.of rfl (hts _ (List.mem_of_getElem? (i := 609) rfl)), List.forall_mem_cons.mpr ⟨va_Nw.of rfl (hts _ (List.mem_of_getElem? (i := 611) rfl)), List.forall_mem_cons.mpr ⟨va_Nw.of rfl (hts _ (List.mem_of_getElem? (i := 613) rfl)), fun _ h => nomatch h⟩⟩⟩⟩⟩⟩, ?_⟩
  intro i j i1 i3 j1 j3 hij
  rcases (show i = 1 ∨ i = 2 ∨ i = 3 by omega) with rfl | rfl | rfl <;> rcases (show j = 1 ∨ j = 2 ∨ j = 3 by omega) with rfl | rfl | rfl
  · exact absurd rfl hij
  · exact va_Nc.of (hs _ (by decide +kernel))
  · exact va_Nc.of (hs _ (by decide +kernel))
  · exact va_Nc.of (hs _ (by decide +kernel))
  · exact absurd rfl hij
  · exact va_Nc.of (hs _ (by decide +kernel))
  · exact va_Nc.of (hs _ (by decide +kernel))
  · exact va_Nc.of (hs _ (by decide +kernel))
  · exact absurd rfl hij
theorem zst_C {Y : zLy} (hts : ∀ w ∈ lw_tbl, w.before args s = true) (hK : va_K Y.2.1 zcl (ztys Y) s) : zCk Y s := ⟨hK, List.forall_mem_cons.mpr ⟨va_Nw.of rfl (hts _ (List.mem_of_getElem? (i := 128) rfl)), List.forall_mem_cons.mpr ⟨va_Nw.of rfl (hts _ (List.mem_of_getElem? (i := 333) rfl)), List.forall_mem_cons.mpr ⟨va_Nw.of rfl (hts _ (List.mem_of_getElem? (i := 322) rfl)), List.forall_mem_cons.mpr ⟨va_Nw.of rfl (hts _ (List.mem_of_getElem? (i := 172) rfl)), List.forall_mem_cons.mpr ⟨va_Nw.of rfl (hts _ (List.mem_of_getElem? (i := 199) rfl)), fun _ h => nomatch h⟩⟩⟩⟩⟩, va_AO.of (A := args) (hts _ (List.mem_of_getElem? (i := 321) rfl))⟩
def zcells : List Nat := [0, 10, 11, 12, 13, 14, 15, 16, 17, 18, 19, 20, 21, 22, 23, 24, 200, 201, 202, 203, 204, 205, 206, 207, 208, 209, 210, 30, 31, 32, 33, 34, 35, 36, 37, 38, 39, 40, 41, 42, 43, 44, 220, 221, 222, 223, 224, 225, 226, 227, 228, 229, 230, 240, 241, 242, 243, 244, 245, 246, 247, 248, 249, 250, 300, 301, 50, 51, 52, 53, 54, 55, 56, 57, 58, 59, 60, 61, 62, 63, 64, 70, 71, 72, 73, 74, 75, 76, 77, 78, 79, 80, 81, 82, 83, 84, 90, 91, 92, 93, 94, 95, 96, 97, 98, 99, 100, 101, 102, 103, 104, 110, 111, 112, 113, 114, 115, 116, 117, 118, 119, 120, 121, 122, 123, 124, 130, 131, 132, 133, 134, 135, 136, 137, 138, 139, 140, 141, 142, 143, 144, 150, 151, 152, 153, 154, 155, 156, 157, 158, 159, 160, 161, 162, 163, 164, 310, 311, 320, 400, 401, 402, 403, 404, 405, 500]
def zoff (c : Nat) : Nat := if 10 ≤ c ∧ c < 170 then (if c < 30 then 1 + (c - 10) else if c < 50 then 27 + (c - 30) else 66 + 15 * ((c - 50) / 20) + (c - 50) % 20) else if 200 ≤ c ∧ c < 260 then (if c < 220 then 16 + (c - 200) else if c < 240 then 42 + (c - 220) else 53 + (c - 240)) else if c = 0 then 0 else if c = 300 then 64 else if c = 301 then 65 else if c < 320 then 156 + (c - 310) else if c = 320 then 158 else if c < 406 then 159 + (c - 400) else 165
def zYo (A : Nat) (D : va_G) (cA : Nat → ClassId) : zLy := (fun c => A + zoff c, D, cA, A)
theorem zoff_ok : ∀ c, c < 520 → zK c ≠ 0 → zoff c < 166 ∧ zcells.getD (zoff c) 0 = c := by decide +kernel
theorem zst_OK {A : Nat} {D : va_G} {cA : Nat → ClassId} (hK : va_K D zcl [(cA 0, .int), (cA 1, .boolean), (cA 2, .long), (cA 3, .object RX5)] s) : zOK (zYo A D cA) s := by
  refine ⟨hK, fun c c' h h' e => ?_, fun c h => ?_⟩
  · have e : A + zoff c = A + zoff c' := e
    have e2 : zoff c = zoff c' := by omega
    rw [← (zoff_ok c (zK_lt h) h).2, ← (zoff_ok c' (zK_lt h') h').2, e2]
  · exact Nat.le_add_right A _
end ZSTART
