section ZENTRY
set_option maxRecDepth 100000
/-- where the law's function says true, the law's run comes to its end with true -/
theorem zstart {p : Program} {e : Env} {s : State} {m : MethodId} {below : List Frame} {meth : Method} {c : Code} (l : Launch) (hl0 : l.stackTraces = false) {b L : Nat} {xs : Nat → Int32} (hL : L ≤ 2560) (C0 : lw_At p s m meth c b L xs) (hf : fL_p23 xs L 600 zs0 0 = some ()) : W p l e room_1 s m #[Value.ref b] below meth c s.heap [] 0 0 (lw_Z below #[Value.ref b] s) (entryFrame m ([Value.ref b] : List Value).toArray 9) := by
  obtain ⟨hx, hb, hr, hml, hown, hts, hX, hbl, hlocks, hgv⟩ := id C0
  obtain ⟨D, cA, hK⟩ := zst_K hts
  have hG : ∀ w ∈ zG, w.before #[Value.ref b] s = true := fun w h => hts w ((List.mem_filter.mp h).1)
  have hk7 := (hK.1 7 _ rfl).2.1
  have hbA : ¬ zA (zYo s.heap.size D cA) b := Nat.not_le.mpr hbl
  have hz : zZ (zYo s.heap.size D cA) s s.heap := zst_Z hts hgv (fun a h => Nat.not_le.mpr h) hk7
  have cv : zCv (zYo s.heap.size D cA) p s m #[Value.ref b] meth c RL cL_law 9 ret := ⟨hx, hb, hml, hr, hlocks, hown, hG, zst_C hts hK, Nat.le_refl _⟩
  have cx : zCx (zYo s.heap.size D cA) p s m #[Value.ref b] meth c RL cL_law 9 ret := ⟨hx, hb, hml, hr, hlocks, hown, hG, zst_OK hK, hz⟩
  rw [lg_entry_eq]
  refine (zst_walk (l := l) (e := e) (below := below) (Q := lw_Z below #[Value.ref b] s) cv ?_) s.heap [] _ ⟨rfl, fun j hj => absurd hj (Nat.not_lt_zero j)⟩ va_S.rf (lv_entry [.ref b] (Nat.le_of_ble_eq_true rfl))
  intro H locs ls hR hS hl
  exact wL_p23 cx hl0 hX hbl hbA hL hlocks (fun q h => h) 600 166 3574 (by decide) (by decide) zs0 0 () hf H locs ls (zst_H hR) hS (lv_sub hl [4, 3, 2, 1, 0] rfl)
end ZENTRY
