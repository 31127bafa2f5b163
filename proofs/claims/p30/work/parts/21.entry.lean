section ZENTRY
set_option maxRecDepth 100000
/-- where the law's function says true, the law's run comes to its end with true -/
theorem zstart {p : Program} {e : Env} {s : State} {m : MethodId} {below : List Frame} {meth : Method} {c : Code} (l : Launch) {b L : Nat} {xs : Nat → Int32} (hL : L ≤ 260) (C0 : lw_At p s m meth c b L xs) (hf : fL_law L xs zs0 = some ()) : W p l e room_1 s m #[Value.ref b] below meth c s.heap [] 0 0 (lw_Z below #[Value.ref b] s) (entryFrame m ([Value.ref b] : List Value).toArray 12) := by
  obtain ⟨hx, hb, hr, hml, hown, hts, hX, hbl, hlocks, hgv⟩ := id C0
  obtain ⟨D, cA, hK⟩ := zst_K hts
  have hG : ∀ w ∈ zG, w.before #[Value.ref b] s = true := fun w h => hts w ((List.mem_filter.mp h).1)
  have hz : zZ (zYo s.heap.size D cA b L xs) s s.heap := ⟨⟨hbl, hL⟩, hX⟩
  have cv : zCv (zYo s.heap.size D cA b L xs) p s m #[Value.ref b] meth c RL cL_law 12 ret := ⟨hx, hb, hml, hr, hlocks, hown, hG, zst_C hts hK, Nat.le_refl _⟩
  have cx : zCx (zYo s.heap.size D cA b L xs) p s m #[Value.ref b] meth c RL cL_law 12 ret := ⟨hx, hb, hml, hr, hlocks, hown, hG, zst_OK hK, hz⟩
  rw [lg_entry_eq]
  refine (zst_walk (l := l) (e := e) (below := below) (Q := lw_Z below #[Value.ref b] s) cv ?_) s.heap [] _ ⟨rfl, fun j hj => absurd hj (Nat.not_lt_zero j)⟩ va_S.rf (lv_entry [.ref b] (Nat.le_of_ble_eq_true rfl))
  intro H locs ls hR hS hl
  exact wL_law cx rfl hlocks (fun q h => h) (k := 166) (n := 2215) (by decide) (by decide) zs0 () hf H locs ls (zst_H hR) hS (lv_sub hl [8, 7, 6, 5, 4, 3, 2, 1, 0] rfl)
end ZENTRY
